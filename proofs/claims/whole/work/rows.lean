section
-- ===== PART A: goes FIRST, ahead of the names: the tables' words, and 'selects' of the private methods out of them =====
/-- a private method of a class that the tables say can be made, by its rows of tables_1 -/
def lw_okq (q : MethodName × Nat) : Prop := (q.1.cls ≠ "java/lang/invoke/MethodHandle" ∧ q.1.cls ≠ "java/lang/invoke/VarHandle") ∧ Cond.instantiable q.1.cls q.2 ∈ tables_1 ∧ Cond.privateMethod q.1 ∈ tables_1 ∧ Cond.instanceMethod q.1 ∈ tables_1
theorem lw_p0 : lw_okq (⟨"RackMoves$Room", "firstWrongWith", "(IIII)I"⟩, 10) := ⟨⟨by decide +kernel, by decide +kernel⟩, List.mem_of_getElem? (i := 23) (by decide +kernel), List.mem_of_getElem? (i := 161) (by decide +kernel), List.mem_of_getElem? (i := 162) (by decide +kernel)⟩
theorem lw_p1 : lw_okq (⟨"RackMoves$Room", "rackOfEnd", "(II)I"⟩, 10) := ⟨⟨by decide +kernel, by decide +kernel⟩, List.mem_of_getElem? (i := 23) (by decide +kernel), List.mem_of_getElem? (i := 185) (by decide +kernel), List.mem_of_getElem? (i := 186) (by decide +kernel)⟩
theorem lw_p2 : lw_okq (⟨"RackMoves", "save", "()V"⟩, 5) := ⟨⟨by decide +kernel, by decide +kernel⟩, List.mem_of_getElem? (i := 15) (by decide +kernel), List.mem_of_getElem? (i := 210) (by decide +kernel), List.mem_of_getElem? (i := 211) (by decide +kernel)⟩
theorem lw_p3 : lw_okq (⟨"RackMoves$PlanText", "readPart", "(I)I"⟩, 5) := ⟨⟨by decide +kernel, by decide +kernel⟩, List.mem_of_getElem? (i := 95) (by decide +kernel), List.mem_of_getElem? (i := 276) (by decide +kernel), List.mem_of_getElem? (i := 277) (by decide +kernel)⟩
theorem lw_p4 : lw_okq (⟨"RackMoves$PlanText", "byteAt", "(I)I"⟩, 5) := ⟨⟨by decide +kernel, by decide +kernel⟩, List.mem_of_getElem? (i := 95) (by decide +kernel), List.mem_of_getElem? (i := 280) (by decide +kernel), List.mem_of_getElem? (i := 281) (by decide +kernel)⟩
theorem lw_p5 : lw_okq (⟨"RackMoves$PlanText", "readStep", "(IZI)I"⟩, 5) := ⟨⟨by decide +kernel, by decide +kernel⟩, List.mem_of_getElem? (i := 95) (by decide +kernel), List.mem_of_getElem? (i := 293) (by decide +kernel), List.mem_of_getElem? (i := 294) (by decide +kernel)⟩
theorem lw_p6 : lw_okq (⟨"RackMoves$PlanText", "readMachine", "(I)I"⟩, 5) := ⟨⟨by decide +kernel, by decide +kernel⟩, List.mem_of_getElem? (i := 95) (by decide +kernel), List.mem_of_getElem? (i := 297) (by decide +kernel), List.mem_of_getElem? (i := 298) (by decide +kernel)⟩
theorem lw_p7 : lw_okq (⟨"RackMoves$PlanText", "readByte", "(I)I"⟩, 5) := ⟨⟨by decide +kernel, by decide +kernel⟩, List.mem_of_getElem? (i := 95) (by decide +kernel), List.mem_of_getElem? (i := 304) (by decide +kernel), List.mem_of_getElem? (i := 305) (by decide +kernel)⟩
theorem lw_p8 : lw_okq (⟨"RackMoves$PlanText", "readRack", "()I"⟩, 5) := ⟨⟨by decide +kernel, by decide +kernel⟩, List.mem_of_getElem? (i := 95) (by decide +kernel), List.mem_of_getElem? (i := 308) (by decide +kernel), List.mem_of_getElem? (i := 309) (by decide +kernel)⟩
theorem lw_p9 : lw_okq (⟨"RackMoves$PlanText", "readDigit", "(I)I"⟩, 5) := ⟨⟨by decide +kernel, by decide +kernel⟩, List.mem_of_getElem? (i := 95) (by decide +kernel), List.mem_of_getElem? (i := 312) (by decide +kernel), List.mem_of_getElem? (i := 313) (by decide +kernel)⟩
theorem lw_p10 : lw_okq (⟨"RackMoves$Room", "slotBehindMove", "(II)I"⟩, 10) := ⟨⟨by decide +kernel, by decide +kernel⟩, List.mem_of_getElem? (i := 23) (by decide +kernel), List.mem_of_getElem? (i := 325) (by decide +kernel), List.mem_of_getElem? (i := 326) (by decide +kernel)⟩
theorem lw_p11 : lw_okq (⟨"RackMoves$Room", "pushStep", "(I)V"⟩, 10) := ⟨⟨by decide +kernel, by decide +kernel⟩, List.mem_of_getElem? (i := 23) (by decide +kernel), List.mem_of_getElem? (i := 338) (by decide +kernel), List.mem_of_getElem? (i := 339) (by decide +kernel)⟩
theorem lw_p12 : lw_okq (⟨"java/lang/Throwable", "fillInStackTrace", "(I)Ljava/lang/Throwable;"⟩, 6) := ⟨⟨by decide +kernel, by decide +kernel⟩, List.mem_of_getElem? (i := 402) (by decide +kernel), List.mem_of_getElem? (i := 400) (by decide +kernel), List.mem_of_getElem? (i := 401) (by decide +kernel)⟩
theorem lw_p13 : lw_okq (⟨"RackMoves", "mixRack", "(JI)J"⟩, 5) := ⟨⟨by decide +kernel, by decide +kernel⟩, List.mem_of_getElem? (i := 15) (by decide +kernel), List.mem_of_getElem? (i := 438) (by decide +kernel), List.mem_of_getElem? (i := 439) (by decide +kernel)⟩
theorem lw_p14 : lw_okq (⟨"RackMoves", "checkMachine", "(I)V"⟩, 5) := ⟨⟨by decide +kernel, by decide +kernel⟩, List.mem_of_getElem? (i := 15) (by decide +kernel), List.mem_of_getElem? (i := 500) (by decide +kernel), List.mem_of_getElem? (i := 501) (by decide +kernel)⟩
theorem lw_p15 : lw_okq (⟨"RackMoves", "checkCable", "(I)V"⟩, 5) := ⟨⟨by decide +kernel, by decide +kernel⟩, List.mem_of_getElem? (i := 15) (by decide +kernel), List.mem_of_getElem? (i := 516) (by decide +kernel), List.mem_of_getElem? (i := 517) (by decide +kernel)⟩
def lw_privs_1 : List (MethodName × Nat) := [(⟨"RackMoves$Room", "firstWrongWith", "(IIII)I"⟩, 10), (⟨"RackMoves$Room", "rackOfEnd", "(II)I"⟩, 10), (⟨"RackMoves", "save", "()V"⟩, 5), (⟨"RackMoves$PlanText", "readPart", "(I)I"⟩, 5), (⟨"RackMoves$PlanText", "byteAt", "(I)I"⟩, 5), (⟨"RackMoves$PlanText", "readStep", "(IZI)I"⟩, 5), (⟨"RackMoves$PlanText", "readMachine", "(I)I"⟩, 5), (⟨"RackMoves$PlanText", "readByte", "(I)I"⟩, 5), (⟨"RackMoves$PlanText", "readRack", "()I"⟩, 5), (⟨"RackMoves$PlanText", "readDigit", "(I)I"⟩, 5), (⟨"RackMoves$Room", "slotBehindMove", "(II)I"⟩, 10), (⟨"RackMoves$Room", "pushStep", "(I)V"⟩, 10), (⟨"java/lang/Throwable", "fillInStackTrace", "(I)Ljava/lang/Throwable;"⟩, 6), (⟨"RackMoves", "mixRack", "(JI)J"⟩, 5), (⟨"RackMoves", "checkMachine", "(I)V"⟩, 5), (⟨"RackMoves", "checkCable", "(I)V"⟩, 5)]
theorem lw_r1 : ∀ q ∈ lw_privs_1, lw_okq q := List.forall_mem_cons.mpr ⟨lw_p0, List.forall_mem_cons.mpr ⟨lw_p1, List.forall_mem_cons.mpr ⟨lw_p2, List.forall_mem_cons.mpr ⟨lw_p3, List.forall_mem_cons.mpr ⟨lw_p4, List.forall_mem_cons.mpr ⟨lw_p5, List.forall_mem_cons.mpr ⟨lw_p6, List.forall_mem_cons.mpr ⟨lw_p7, List.forall_mem_cons.mpr ⟨lw_p8, List.forall_mem_cons.mpr ⟨lw_p9, List.forall_mem_cons.mpr ⟨lw_p10, List.forall_mem_cons.mpr ⟨lw_p11, List.forall_mem_cons.mpr ⟨lw_p12, List.forall_mem_cons.mpr ⟨lw_p13, List.forall_mem_cons.mpr ⟨lw_p14, List.forall_mem_cons.mpr ⟨lw_p15, fun _ h => absurd h List.not_mem_nil⟩⟩⟩⟩⟩⟩⟩⟩⟩⟩⟩⟩⟩⟩⟩⟩
theorem lw_p16 : lw_okq (⟨"RackMovesModel", "refused", "(I)Z"⟩, 13) := ⟨⟨by decide +kernel, by decide +kernel⟩, List.mem_of_getElem? (i := 699) (by decide +kernel), List.mem_of_getElem? (i := 753) (by decide +kernel), List.mem_of_getElem? (i := 754) (by decide +kernel)⟩
theorem lw_p17 : lw_okq (⟨"RackMovesModel", "puts", "(II)I"⟩, 13) := ⟨⟨by decide +kernel, by decide +kernel⟩, List.mem_of_getElem? (i := 699) (by decide +kernel), List.mem_of_getElem? (i := 767) (by decide +kernel), List.mem_of_getElem? (i := 768) (by decide +kernel)⟩
theorem lw_p18 : lw_okq (⟨"RackMovesModel", "saves", "()V"⟩, 13) := ⟨⟨by decide +kernel, by decide +kernel⟩, List.mem_of_getElem? (i := 699) (by decide +kernel), List.mem_of_getElem? (i := 771) (by decide +kernel), List.mem_of_getElem? (i := 772) (by decide +kernel)⟩
theorem lw_p19 : lw_okq (⟨"RackMovesModel", "savesFrom", "([I)V"⟩, 13) := ⟨⟨by decide +kernel, by decide +kernel⟩, List.mem_of_getElem? (i := 699) (by decide +kernel), List.mem_of_getElem? (i := 775) (by decide +kernel), List.mem_of_getElem? (i := 776) (by decide +kernel)⟩
theorem lw_p20 : lw_okq (⟨"RackMovesModel", "isMachine", "(I)Z"⟩, 13) := ⟨⟨by decide +kernel, by decide +kernel⟩, List.mem_of_getElem? (i := 699) (by decide +kernel), List.mem_of_getElem? (i := 798) (by decide +kernel), List.mem_of_getElem? (i := 799) (by decide +kernel)⟩
theorem lw_p21 : lw_okq (⟨"RackMovesModel", "adds", "(IIIII)I"⟩, 13) := ⟨⟨by decide +kernel, by decide +kernel⟩, List.mem_of_getElem? (i := 699) (by decide +kernel), List.mem_of_getElem? (i := 802) (by decide +kernel), List.mem_of_getElem? (i := 803) (by decide +kernel)⟩
theorem lw_p22 : lw_okq (⟨"RackMovesModel", "isCable", "(I)Z"⟩, 13) := ⟨⟨by decide +kernel, by decide +kernel⟩, List.mem_of_getElem? (i := 699) (by decide +kernel), List.mem_of_getElem? (i := 810) (by decide +kernel), List.mem_of_getElem? (i := 811) (by decide +kernel)⟩
theorem lw_p23 : lw_okq (⟨"RackMovesModel", "drops", "(III)I"⟩, 13) := ⟨⟨by decide +kernel, by decide +kernel⟩, List.mem_of_getElem? (i := 699) (by decide +kernel), List.mem_of_getElem? (i := 814) (by decide +kernel), List.mem_of_getElem? (i := 815) (by decide +kernel)⟩
theorem lw_p24 : lw_okq (⟨"RackMovesModel", "tellMachine", "(II)I"⟩, 13) := ⟨⟨by decide +kernel, by decide +kernel⟩, List.mem_of_getElem? (i := 699) (by decide +kernel), List.mem_of_getElem? (i := 834) (by decide +kernel), List.mem_of_getElem? (i := 835) (by decide +kernel)⟩
theorem lw_p25 : lw_okq (⟨"RackMovesModel", "of", "(II)I"⟩, 13) := ⟨⟨by decide +kernel, by decide +kernel⟩, List.mem_of_getElem? (i := 699) (by decide +kernel), List.mem_of_getElem? (i := 838) (by decide +kernel), List.mem_of_getElem? (i := 839) (by decide +kernel)⟩
theorem lw_p26 : lw_okq (⟨"RackMovesModel", "isFrozen", "(I)Z"⟩, 13) := ⟨⟨by decide +kernel, by decide +kernel⟩, List.mem_of_getElem? (i := 699) (by decide +kernel), List.mem_of_getElem? (i := 842) (by decide +kernel), List.mem_of_getElem? (i := 843) (by decide +kernel)⟩
theorem lw_p27 : lw_okq (⟨"RackMovesModel", "cablesOf", "(I)I"⟩, 13) := ⟨⟨by decide +kernel, by decide +kernel⟩, List.mem_of_getElem? (i := 699) (by decide +kernel), List.mem_of_getElem? (i := 846) (by decide +kernel), List.mem_of_getElem? (i := 847) (by decide +kernel)⟩
theorem lw_p28 : lw_okq (⟨"RackMovesModel", "tellRack", "(II)I"⟩, 13) := ⟨⟨by decide +kernel, by decide +kernel⟩, List.mem_of_getElem? (i := 699) (by decide +kernel), List.mem_of_getElem? (i := 854) (by decide +kernel), List.mem_of_getElem? (i := 855) (by decide +kernel)⟩
theorem lw_p29 : lw_okq (⟨"RackMovesModel", "load", "(II)I"⟩, 13) := ⟨⟨by decide +kernel, by decide +kernel⟩, List.mem_of_getElem? (i := 699) (by decide +kernel), List.mem_of_getElem? (i := 858) (by decide +kernel), List.mem_of_getElem? (i := 859) (by decide +kernel)⟩
theorem lw_p30 : lw_okq (⟨"RackMovesModel", "machinesIn", "(I)I"⟩, 13) := ⟨⟨by decide +kernel, by decide +kernel⟩, List.mem_of_getElem? (i := 699) (by decide +kernel), List.mem_of_getElem? (i := 862) (by decide +kernel), List.mem_of_getElem? (i := 863) (by decide +kernel)⟩
theorem lw_p31 : lw_okq (⟨"RackMovesModel", "freeSlots", "(I)I"⟩, 13) := ⟨⟨by decide +kernel, by decide +kernel⟩, List.mem_of_getElem? (i := 699) (by decide +kernel), List.mem_of_getElem? (i := 866) (by decide +kernel), List.mem_of_getElem? (i := 867) (by decide +kernel)⟩
def lw_privs_2 : List (MethodName × Nat) := [(⟨"RackMovesModel", "refused", "(I)Z"⟩, 13), (⟨"RackMovesModel", "puts", "(II)I"⟩, 13), (⟨"RackMovesModel", "saves", "()V"⟩, 13), (⟨"RackMovesModel", "savesFrom", "([I)V"⟩, 13), (⟨"RackMovesModel", "isMachine", "(I)Z"⟩, 13), (⟨"RackMovesModel", "adds", "(IIIII)I"⟩, 13), (⟨"RackMovesModel", "isCable", "(I)Z"⟩, 13), (⟨"RackMovesModel", "drops", "(III)I"⟩, 13), (⟨"RackMovesModel", "tellMachine", "(II)I"⟩, 13), (⟨"RackMovesModel", "of", "(II)I"⟩, 13), (⟨"RackMovesModel", "isFrozen", "(I)Z"⟩, 13), (⟨"RackMovesModel", "cablesOf", "(I)I"⟩, 13), (⟨"RackMovesModel", "tellRack", "(II)I"⟩, 13), (⟨"RackMovesModel", "load", "(II)I"⟩, 13), (⟨"RackMovesModel", "machinesIn", "(I)I"⟩, 13), (⟨"RackMovesModel", "freeSlots", "(I)I"⟩, 13)]
theorem lw_r2 : ∀ q ∈ lw_privs_2, lw_okq q := List.forall_mem_cons.mpr ⟨lw_p16, List.forall_mem_cons.mpr ⟨lw_p17, List.forall_mem_cons.mpr ⟨lw_p18, List.forall_mem_cons.mpr ⟨lw_p19, List.forall_mem_cons.mpr ⟨lw_p20, List.forall_mem_cons.mpr ⟨lw_p21, List.forall_mem_cons.mpr ⟨lw_p22, List.forall_mem_cons.mpr ⟨lw_p23, List.forall_mem_cons.mpr ⟨lw_p24, List.forall_mem_cons.mpr ⟨lw_p25, List.forall_mem_cons.mpr ⟨lw_p26, List.forall_mem_cons.mpr ⟨lw_p27, List.forall_mem_cons.mpr ⟨lw_p28, List.forall_mem_cons.mpr ⟨lw_p29, List.forall_mem_cons.mpr ⟨lw_p30, List.forall_mem_cons.mpr ⟨lw_p31, fun _ h => absurd h List.not_mem_nil⟩⟩⟩⟩⟩⟩⟩⟩⟩⟩⟩⟩⟩⟩⟩⟩
theorem lw_p32 : lw_okq (⟨"RackMovesModel", "machineAt", "(II)I"⟩, 13) := ⟨⟨by decide +kernel, by decide +kernel⟩, List.mem_of_getElem? (i := 699) (by decide +kernel), List.mem_of_getElem? (i := 870) (by decide +kernel), List.mem_of_getElem? (i := 871) (by decide +kernel)⟩
theorem lw_p33 : lw_okq (⟨"RackMovesModel", "lowest", "(II)I"⟩, 13) := ⟨⟨by decide +kernel, by decide +kernel⟩, List.mem_of_getElem? (i := 699) (by decide +kernel), List.mem_of_getElem? (i := 874) (by decide +kernel), List.mem_of_getElem? (i := 875) (by decide +kernel)⟩
theorem lw_p34 : lw_okq (⟨"RackMovesModel", "areFree", "(IIII)Z"⟩, 13) := ⟨⟨by decide +kernel, by decide +kernel⟩, List.mem_of_getElem? (i := 699) (by decide +kernel), List.mem_of_getElem? (i := 878) (by decide +kernel), List.mem_of_getElem? (i := 879) (by decide +kernel)⟩
theorem lw_p35 : lw_okq (⟨"RackMovesModel", "tellCable", "(II)I"⟩, 13) := ⟨⟨by decide +kernel, by decide +kernel⟩, List.mem_of_getElem? (i := 699) (by decide +kernel), List.mem_of_getElem? (i := 890) (by decide +kernel), List.mem_of_getElem? (i := 891) (by decide +kernel)⟩
theorem lw_p36 : lw_okq (⟨"RackMovesModel", "needs", "(I)I"⟩, 13) := ⟨⟨by decide +kernel, by decide +kernel⟩, List.mem_of_getElem? (i := 699) (by decide +kernel), List.mem_of_getElem? (i := 894) (by decide +kernel), List.mem_of_getElem? (i := 895) (by decide +kernel)⟩
theorem lw_p37 : lw_okq (⟨"RackMovesModel", "inTray", "(I)I"⟩, 13) := ⟨⟨by decide +kernel, by decide +kernel⟩, List.mem_of_getElem? (i := 699) (by decide +kernel), List.mem_of_getElem? (i := 902) (by decide +kernel), List.mem_of_getElem? (i := 903) (by decide +kernel)⟩
theorem lw_p38 : lw_okq (⟨"RackMovesModel", "tellValue", "(I)I"⟩, 13) := ⟨⟨by decide +kernel, by decide +kernel⟩, List.mem_of_getElem? (i := 699) (by decide +kernel), List.mem_of_getElem? (i := 910) (by decide +kernel), List.mem_of_getElem? (i := 911) (by decide +kernel)⟩
theorem lw_p39 : lw_okq (⟨"RackMovesModel", "standing", "()I"⟩, 13) := ⟨⟨by decide +kernel, by decide +kernel⟩, List.mem_of_getElem? (i := 699) (by decide +kernel), List.mem_of_getElem? (i := 914) (by decide +kernel), List.mem_of_getElem? (i := 915) (by decide +kernel)⟩
theorem lw_p40 : lw_okq (⟨"RackMovesModel", "difference", "()I"⟩, 13) := ⟨⟨by decide +kernel, by decide +kernel⟩, List.mem_of_getElem? (i := 699) (by decide +kernel), List.mem_of_getElem? (i := 918) (by decide +kernel), List.mem_of_getElem? (i := 919) (by decide +kernel)⟩
theorem lw_p41 : lw_okq (⟨"RackMovesModel", "wrong", "()I"⟩, 13) := ⟨⟨by decide +kernel, by decide +kernel⟩, List.mem_of_getElem? (i := 699) (by decide +kernel), List.mem_of_getElem? (i := 922) (by decide +kernel), List.mem_of_getElem? (i := 923) (by decide +kernel)⟩
theorem lw_p42 : lw_okq (⟨"RackMovesModel", "moves", "(II)I"⟩, 13) := ⟨⟨by decide +kernel, by decide +kernel⟩, List.mem_of_getElem? (i := 699) (by decide +kernel), List.mem_of_getElem? (i := 936) (by decide +kernel), List.mem_of_getElem? (i := 937) (by decide +kernel)⟩
theorem lw_p43 : lw_okq (⟨"RackMovesModel", "steps", "(IIII)I"⟩, 13) := ⟨⟨by decide +kernel, by decide +kernel⟩, List.mem_of_getElem? (i := 699) (by decide +kernel), List.mem_of_getElem? (i := 940) (by decide +kernel), List.mem_of_getElem? (i := 941) (by decide +kernel)⟩
theorem lw_p44 : lw_okq (⟨"RackMovesModel", "places", "(IIII)V"⟩, 13) := ⟨⟨by decide +kernel, by decide +kernel⟩, List.mem_of_getElem? (i := 699) (by decide +kernel), List.mem_of_getElem? (i := 944) (by decide +kernel), List.mem_of_getElem? (i := 945) (by decide +kernel)⟩
theorem lw_p45 : lw_okq (⟨"RackMovesModel", "ends", "(I)I"⟩, 13) := ⟨⟨by decide +kernel, by decide +kernel⟩, List.mem_of_getElem? (i := 699) (by decide +kernel), List.mem_of_getElem? (i := 948) (by decide +kernel), List.mem_of_getElem? (i := 949) (by decide +kernel)⟩
theorem lw_p46 : lw_okq (⟨"RackMovesModel", "changes", "(II)I"⟩, 13) := ⟨⟨by decide +kernel, by decide +kernel⟩, List.mem_of_getElem? (i := 699) (by decide +kernel), List.mem_of_getElem? (i := 956) (by decide +kernel), List.mem_of_getElem? (i := 957) (by decide +kernel)⟩
theorem lw_p47 : lw_okq (⟨"RackMovesModel", "backs", "()I"⟩, 13) := ⟨⟨by decide +kernel, by decide +kernel⟩, List.mem_of_getElem? (i := 699) (by decide +kernel), List.mem_of_getElem? (i := 964) (by decide +kernel), List.mem_of_getElem? (i := 965) (by decide +kernel)⟩
def lw_privs_3 : List (MethodName × Nat) := [(⟨"RackMovesModel", "machineAt", "(II)I"⟩, 13), (⟨"RackMovesModel", "lowest", "(II)I"⟩, 13), (⟨"RackMovesModel", "areFree", "(IIII)Z"⟩, 13), (⟨"RackMovesModel", "tellCable", "(II)I"⟩, 13), (⟨"RackMovesModel", "needs", "(I)I"⟩, 13), (⟨"RackMovesModel", "inTray", "(I)I"⟩, 13), (⟨"RackMovesModel", "tellValue", "(I)I"⟩, 13), (⟨"RackMovesModel", "standing", "()I"⟩, 13), (⟨"RackMovesModel", "difference", "()I"⟩, 13), (⟨"RackMovesModel", "wrong", "()I"⟩, 13), (⟨"RackMovesModel", "moves", "(II)I"⟩, 13), (⟨"RackMovesModel", "steps", "(IIII)I"⟩, 13), (⟨"RackMovesModel", "places", "(IIII)V"⟩, 13), (⟨"RackMovesModel", "ends", "(I)I"⟩, 13), (⟨"RackMovesModel", "changes", "(II)I"⟩, 13), (⟨"RackMovesModel", "backs", "()I"⟩, 13)]
theorem lw_r3 : ∀ q ∈ lw_privs_3, lw_okq q := List.forall_mem_cons.mpr ⟨lw_p32, List.forall_mem_cons.mpr ⟨lw_p33, List.forall_mem_cons.mpr ⟨lw_p34, List.forall_mem_cons.mpr ⟨lw_p35, List.forall_mem_cons.mpr ⟨lw_p36, List.forall_mem_cons.mpr ⟨lw_p37, List.forall_mem_cons.mpr ⟨lw_p38, List.forall_mem_cons.mpr ⟨lw_p39, List.forall_mem_cons.mpr ⟨lw_p40, List.forall_mem_cons.mpr ⟨lw_p41, List.forall_mem_cons.mpr ⟨lw_p42, List.forall_mem_cons.mpr ⟨lw_p43, List.forall_mem_cons.mpr ⟨lw_p44, List.forall_mem_cons.mpr ⟨lw_p45, List.forall_mem_cons.mpr ⟨lw_p46, List.forall_mem_cons.mpr ⟨lw_p47, fun _ h => absurd h List.not_mem_nil⟩⟩⟩⟩⟩⟩⟩⟩⟩⟩⟩⟩⟩⟩⟩⟩
theorem lw_p48 : lw_okq (⟨"RackMovesModel", "tellPile", "(II)I"⟩, 13) := ⟨⟨by decide +kernel, by decide +kernel⟩, List.mem_of_getElem? (i := 699) (by decide +kernel), List.mem_of_getElem? (i := 972) (by decide +kernel), List.mem_of_getElem? (i := 973) (by decide +kernel)⟩
theorem lw_p49 : lw_okq (⟨"RackMovesModel", "fullest", "()I"⟩, 13) := ⟨⟨by decide +kernel, by decide +kernel⟩, List.mem_of_getElem? (i := 699) (by decide +kernel), List.mem_of_getElem? (i := 984) (by decide +kernel), List.mem_of_getElem? (i := 985) (by decide +kernel)⟩
theorem lw_p50 : lw_okq (⟨"RackMovesModel", "reads", "()Z"⟩, 13) := ⟨⟨by decide +kernel, by decide +kernel⟩, List.mem_of_getElem? (i := 699) (by decide +kernel), List.mem_of_getElem? (i := 1013) (by decide +kernel), List.mem_of_getElem? (i := 1014) (by decide +kernel)⟩
theorem lw_p51 : lw_okq (⟨"RackMovesModel", "takes", "(I)Z"⟩, 13) := ⟨⟨by decide +kernel, by decide +kernel⟩, List.mem_of_getElem? (i := 699) (by decide +kernel), List.mem_of_getElem? (i := 1017) (by decide +kernel), List.mem_of_getElem? (i := 1018) (by decide +kernel)⟩
theorem lw_p52 : lw_okq (⟨"RackMovesModel", "isAt", "(II)Z"⟩, 13) := ⟨⟨by decide +kernel, by decide +kernel⟩, List.mem_of_getElem? (i := 699) (by decide +kernel), List.mem_of_getElem? (i := 1021) (by decide +kernel), List.mem_of_getElem? (i := 1022) (by decide +kernel)⟩
theorem lw_p53 : lw_okq (⟨"RackMovesModel", "takesMachine", "()Z"⟩, 13) := ⟨⟨by decide +kernel, by decide +kernel⟩, List.mem_of_getElem? (i := 699) (by decide +kernel), List.mem_of_getElem? (i := 1025) (by decide +kernel), List.mem_of_getElem? (i := 1026) (by decide +kernel)⟩
theorem lw_p54 : lw_okq (⟨"RackMovesModel", "mix", "(I)V"⟩, 13) := ⟨⟨by decide +kernel, by decide +kernel⟩, List.mem_of_getElem? (i := 699) (by decide +kernel), List.mem_of_getElem? (i := 1034) (by decide +kernel), List.mem_of_getElem? (i := 1035) (by decide +kernel)⟩
theorem lw_p55 : lw_okq (⟨"RackMovesModel", "mixRoom", "()V"⟩, 13) := ⟨⟨by decide +kernel, by decide +kernel⟩, List.mem_of_getElem? (i := 699) (by decide +kernel), List.mem_of_getElem? (i := 1039) (by decide +kernel), List.mem_of_getElem? (i := 1040) (by decide +kernel)⟩
def lw_privs_4 : List (MethodName × Nat) := [(⟨"RackMovesModel", "tellPile", "(II)I"⟩, 13), (⟨"RackMovesModel", "fullest", "()I"⟩, 13), (⟨"RackMovesModel", "reads", "()Z"⟩, 13), (⟨"RackMovesModel", "takes", "(I)Z"⟩, 13), (⟨"RackMovesModel", "isAt", "(II)Z"⟩, 13), (⟨"RackMovesModel", "takesMachine", "()Z"⟩, 13), (⟨"RackMovesModel", "mix", "(I)V"⟩, 13), (⟨"RackMovesModel", "mixRoom", "()V"⟩, 13)]
theorem lw_r4 : ∀ q ∈ lw_privs_4, lw_okq q := List.forall_mem_cons.mpr ⟨lw_p48, List.forall_mem_cons.mpr ⟨lw_p49, List.forall_mem_cons.mpr ⟨lw_p50, List.forall_mem_cons.mpr ⟨lw_p51, List.forall_mem_cons.mpr ⟨lw_p52, List.forall_mem_cons.mpr ⟨lw_p53, List.forall_mem_cons.mpr ⟨lw_p54, List.forall_mem_cons.mpr ⟨lw_p55, fun _ h => absurd h List.not_mem_nil⟩⟩⟩⟩⟩⟩⟩⟩
def lw_privs : List (MethodName × Nat) := lw_privs_1 ++ (lw_privs_2 ++ (lw_privs_3 ++ (lw_privs_4)))
def lw_tbl : List Cond := k2_sels lw_privs ++ tables_1
theorem lw_privs_ok : ∀ q ∈ lw_privs, lw_okq q := by
  show ∀ q ∈ lw_privs_1 ++ (lw_privs_2 ++ (lw_privs_3 ++ (lw_privs_4))), lw_okq q
  exact List.forall_mem_append.mpr ⟨lw_r1, List.forall_mem_append.mpr ⟨lw_r2, List.forall_mem_append.mpr ⟨lw_r3, lw_r4⟩⟩⟩
/-- the streams that the claim lets the run draw from -/
abbrev lw_cs : List Choice := [Jvm.Choice.named "NaN.bits"]
theorem lw_bits : nanBits ∈ lw_cs := by first | decide | exact List.mem_cons_self | simp [lw_cs, nanBits]
-- ===== end of PART A; then your names; then what follows =====
end
section
/-! ===== BEGIN words of one list among another's, by their places ===== -/
theorem goodIn_r {big : List Cond} (ws : List Cond) (ps : List Nat) (hp : ws = ps.filterMap (fun i => big[i]?)) (h : ws.all goodWord = true) : GoodIn big ws := by
  intro w hw
  have h1 := List.all_eq_true.mp h w hw
  rw [hp] at hw
  obtain ⟨i, -, hi⟩ := List.mem_filterMap.mp hw
  have hm : w ∈ big := by first | exact List.mem_of_getElem? hi | exact List.getElem?_mem hi
  exact ⟨hm, good_of_word h1⟩
theorem goodIn_app {big a b : List Cond} (ha : GoodIn big a) (hb : GoodIn big b) : GoodIn big (a ++ b) := fun w h => (List.mem_append.mp h).elim (ha w) (hb w)
theorem goodIn_ca {big a b : List Cond} {c : Cond} (ha : GoodIn big (c :: a)) (hb : GoodIn big b) : GoodIn big (c :: (a ++ b)) := fun w h => (List.mem_cons.mp h).elim (fun e => ha w (List.mem_cons.mpr (Or.inl e))) (fun h => (List.mem_append.mp h).elim (fun h => ha w (List.mem_cons.mpr (Or.inr h))) (hb w))
theorem goodIn_sub {big ws : List Cond} (hm : ∀ w ∈ ws, w ∈ big) (h : ws.all goodWord = true) : GoodIn big ws := fun w hw => ⟨hm w hw, good_of_word (List.all_eq_true.mp h w hw)⟩
/-! ===== END ===== -/

/-! ===== BEGIN exceptions that leave a method, and their catching by the caller (launches without stack traces) ===== -/
section VXA
/-! The laws vx_back, vx_callV, vx_callS, vx_callSW, vx_throw0, vx_throwS follow proofs of the library, with one case more: JvmDerived/Free/Laws.lean (Back.of_free), Shelf42/LK1.lean (callV, callS), Shelf/KitTraced.lean (throwNew0V, throwNewS). -/
/-- where a method has thrown q: the class by its name, the cell, what was written, the world -/
def vx_T (XC : String → State → State → Prop) (st : State) (q : Addr) (t : State) (mc ms : Nat) (free : Addr → Prop) : Prop :=
  ∃ (E : String) (ce : Cell) (L : List Loc), XC E st t ∧ t.heap[q]? = some ce ∧ ce.vm = .none ∧ st.vm.findClass E = some ce.cls ∧ st.WarmedH t.vm ∧ st.sameButNew ({ t with vm := st.vm } : State) L mc ms ∧ ∀ z ∈ L, free z.base
def vx_Q (Qc : Array Value → State → Outcome → State → Prop) (XC : String → State → State → Prop) (mc ms : Nat) (free : Addr → Prop) : Array Value → State → Outcome → State → Prop := fun a st o t =>
  (Qc a st o t ∧ ∃ L, FrameEnd st o t L mc ms ∧ ∀ q ∈ L, free q.base) ∨ ∃ q, o = .threw q ∧ vx_T XC st q t mc ms free
/-- a callee that returns or throws -/
def vx_Met (l : Launch) (y : MethodName) (ws : List Cond) (rm : Room) (Pc : Array Value → State → Prop) (Qc : Array Value → State → Outcome → State → Prop) (XC : String → State → State → Prop) (mc ms : Nat) (free : Addr → Prop) : Prop :=
  MetFree l y (headSpec ws rm) Pc (fun _ _ _ _ _ => True) (vx_Q Qc XC mc ms free)
def vx_Post (XC : String → State → State → Prop) (mc ms : Nat) (free : Addr → Prop) : Pt → Array Value → Addr → Pt → Prop := fun A a q B =>
  ∃ (g : JFrame) (mk : MethodId) (t : State) (L : List Loc) (E : String) (ce : Cell), B.U.heap = t.heap ∧ B.U.vm = t.vm ∧ XC E (A.U.calling g mk a) t ∧ t.heap[q]? = some ce ∧ ce.vm = .none ∧ A.U.vm.findClass E = some ce.cls ∧ B.locs = A.locs ++ L ∧ (∀ z ∈ L, free z.base) ∧ B.cells = A.cells + mc ∧ B.slots = A.slots + ms
def vx_Back (l : Launch) (R : Room) (p : Program) (e : Env) (below : List Frame) (s : State) (sargs : Array Value) (y : MethodName) (len W9 : Nat)
    (Pre : Pt → Array Value → Prop) (Post : Pt → Array Value → Option Value → Pt → Prop) (PostX : Pt → Array Value → Addr → Pt → Prop) : Prop :=
  ∀ (m : MethodId) (meth : Method) (c : Code) (A : Pt) (g : JFrame) (ig : Instr) (mk : MethodId) (a : Array Value),
    Stand p l e R s m sargs below meth c A.U A.locs A.cells A.slots → g.method = m → g.locals.size = c.maxLocals → decode c.code g.pc = .ok (ig, len) →
    2 * g.monitorRoom + (g.stack.map fun v => v.category).sum ≤ W9 → A.U.methodNamed? y = some mk → Pre A a →
    (∃ (v : Option Value) (B : Pt), Stand p l e R s m sargs below meth c B.U B.locs B.cells B.slots ∧ Post A a v B ∧
      Steps p.tables e below (doInvoke e (A.U.setTop g) [] mk a).1 (B.U.setTop { g with pc := g.pc + len, stack := v.toList ++ g.stack })) ∨
    (∃ (q : Addr) (B : Pt), Stand p l e R s m sargs below meth c B.U B.locs B.cells B.slots ∧ PostX A a q B ∧
      Steps p.tables e below (doInvoke e (A.U.setTop g) [] mk a).1 ((B.U.setTop g).pushFrame (.throwing q)))
section Payer
variable {l : Launch} {R : Room} {p : Program} {e : Env} {below : List Frame} {s : State} {sargs : Array Value} {y : MethodName} {len W9 : Nat}
theorem vx_back {ws : List Cond} {rm : Room} {Pc : Array Value → State → Prop} {Qc : Array Value → State → Outcome → State → Prop} {XC : String → State → State → Prop} {mc ms : Nat} {free : Addr → Prop} {bytes : ByteArray} {maxL : Nat} {ret : Option FieldType}
    (hM : vx_Met l y ws rm Pc Qc XC mc ms free) (hblind : FrameBlind Pc) (hrc : rm.cells = mc) (hrs : rm.slots = ms)
    (hframes : rm.frames + 1 ≤ R.frames) (hlocals : W9 + (maxL + 11) + rm.locals ≤ R.locals)
    (hws : ∀ w ∈ ws, ∀ a' U, s.WarmedH U.vm → w.before a' U = true) (hcode : Cond.code y bytes maxL ret ∈ ws) (hinit : ∀ a' U, s.WarmedH U.vm → (Cond.initialized y.cls).before a' U = true) :
    vx_Back l R p e below s sargs y len W9 (PreOf R mc ms Pc) (PostOf Qc mc ms free) (vx_Post XC mc ms free) := by
  intro m meth c A g ig mk a X hg hsize hdg hW hn hp
  have h1 : (headSpec ws rm).pre.before a A.U = true := atoms_intro fun w hw => hws w hw _ _ X.warmed
  have h2 : (Cond.code y bytes maxL ret).before a A.U = true := hws _ hcode _ _ X.warmed
  have h3 : (Cond.initialized y.cls).before a A.U = true := hinit _ _ X.warmed
  have h4 : A.cells + (headSpec ws rm).room.cells ≤ R.cells := by rw [show (headSpec ws rm).room.cells = mc from hrc]; exact hp.1
  have h5 : A.slots + (headSpec ws rm).room.slots ≤ R.slots := by rw [show (headSpec ws rm).room.slots = ms from hrs]; exact hp.2.1
  have hPc : Pc a (A.U.calling g mk a) := hblind _ _ _ _ hp.2.2
  obtain ⟨U, Ls, c0, s0⟩ := A
  dsimp only [Pt.U, Pt.locs, Pt.cells, Pt.slots] at h1 h2 h3 h4 h5 X hn hPc ⊢
  obtain ⟨methY, cY, hmY, hcY, -, hlY, -, -, -, -⟩ := Cond.code_spec hn h2
  obtain ⟨kY, hkY, -⟩ := className_of_methodNamed hn
  have hinitY : kY.init = .initialized := Cond.initialized_spec (findClass_of_methodNamed hn) hkY h3
  have h : At U g.method c below := by rw [hg]; exact X.here
  have hlocals9 : W9 + (maxL + 11) + (headSpec ws rm).room.locals ≤ R.locals := hlocals
  have happ : (headSpec ws rm).appliesLoose y e.platform (U.calling g mk a) = true :=
    Spec.appliesLoose_calling (g := g) h hdg hn hkY hinitY
      (X.room_calling (g := g) (R' := (headSpec ws rm).room) hsize hmY hcY hframes (by rw [hlY]; omega) h4 h5) h1
  obtain ⟨mid, hmid⟩ := h.above
  have hfr : (U.setTop g).frames = (.java g :: mid) ++ below := by rw [State.frames_setTop' g h.top, hmid]; rfl
  obtain ⟨o, s₂, hsteps, -, hend, hq⟩ := Steps.callFree hM p X.admits X.cas X.clock (acts := []) hfr happ hPc trivial
  have hq' : vx_Q Qc XC mc ms free a (U.calling g mk a) o s₂ := hq
  rw [State.frames_setTop' g h.top] at hend
  obtain ⟨g₀, hg0⟩ := Option.isSome_iff_exists.mp h.top
  obtain ⟨r, hr⟩ := State.topJava?_eq_some.mp hg0
  have hr' : (({ U with heap := s₂.heap, slotsUsed := s₂.slotsUsed } : State).setVm s₂.vm).frames = .java g₀ :: r := hr
  rcases hq' with ⟨hqc, L, hfe, hL⟩ | ⟨q, rfl, E, ce, L, hx, hce, hcv, hcl, hW₂, hsm, hL⟩
  · obtain ⟨⟨v, rfl⟩, hW₂, e2, q2, q3, q4, q5, q6⟩ := id hfe
    have e3 : s₂ = ({ (U.calling g mk a).setFrames s₂.frames with heap := s₂.heap, slotsUsed := s₂.slotsUsed } : State).setVm s₂.vm := by
      have : s₂ = ({ s₂ with vm := (U.calling g mk a).vm } : State).setVm s₂.vm := rfl
      rw [e2] at this
      exact this
    obtain ⟨c₂, i₂, len₂, hc₂, hd₂, hf₂⟩ := hend
    have hW' : U.WarmedH s₂.vm := hW₂
    have hcc : c₂ = c := by
      have h1 : s₂.code? g.method = U.code? g.method := by
        rw [State.code?_eq, State.code?_eq, hW'.alike.method?]
      exact Option.some.inj (hc₂.symm.trans (h1.trans h.code))
    subst hcc
    have hlen : len₂ = len := by rw [hdg] at hd₂; cases hd₂; rfl
    subst hlen
    have hs₂ : s₂ = (({ U with heap := s₂.heap, slotsUsed := s₂.slotsUsed } : State).setVm s₂.vm).setTop { g with pc := g.pc + len₂, stack := v.toList ++ g.stack } := by
      refine e3.trans ?_
      rw [hf₂, State.calling_eq h.top, State.setFrames_setFrames, State.setTop_of_frames _ hr', hr]
      rfl
    have hsame : U.sameButNew ({ U with heap := s₂.heap, slotsUsed := s₂.slotsUsed } : State) L mc ms := by
      refine ⟨?_, q2, q3, q4, q5, q6⟩
      obtain ⟨t, ht, -⟩ := State.frames_cons hr
      show ({ U with heap := s₂.heap, slotsUsed := s₂.slotsUsed } : State) = { U.setFrames U.frames with heap := s₂.heap, slotsUsed := s₂.slotsUsed }
      rw [State.setFrames_self ht]
    subst hg
    refine Or.inl ⟨v, ⟨(({ U with heap := s₂.heap, slotsUsed := s₂.slotsUsed } : State).setVm s₂.vm), Ls ++ L, c0 + mc, s0 + ms⟩,
      ⟨X.admits, X.cas, X.clock, X.frames, X.room, X.hears, X.method, X.code, (X.here.setHeapUsed s₂.heap s₂.slotsUsed).setVm hW'.alike, X.tail, State.WarmedH.trans X.warmed hW', X.limits, X.bytes, X.same.trans (hsame.setVm s.vm)⟩,
      ⟨g, mk, s₂, L, rfl, rfl, hqc, rfl, hL, rfl, rfl⟩, ?_⟩
    show Steps p.tables e below _ ((({ U with heap := s₂.heap, slotsUsed := s₂.slotsUsed } : State).setVm s₂.vm).setTop { g with pc := g.pc + len₂, stack := v.toList ++ g.stack })
    rw [← hs₂]
    exact hsteps
  · obtain ⟨e2, q2, q3, q4, q5, q6⟩ := id hsm
    have e3 : s₂ = ({ (U.calling g mk a).setFrames s₂.frames with heap := s₂.heap, slotsUsed := s₂.slotsUsed } : State).setVm s₂.vm := by
      have : s₂ = ({ s₂ with vm := (U.calling g mk a).vm } : State).setVm s₂.vm := rfl
      rw [e2] at this
      exact this
    have hf₂ : s₂.frames = .throwing q :: .java g :: U.frames.tail := hend
    have hW' : U.WarmedH s₂.vm := hW₂
    have hs₂ : s₂ = ((({ U with heap := s₂.heap, slotsUsed := s₂.slotsUsed } : State).setVm s₂.vm).setTop g).pushFrame (.throwing q) := by
      refine e3.trans ?_
      rw [hf₂, State.calling_eq h.top, State.setFrames_setFrames, State.pushFrame, State.frames_setTop _ hr', State.setTop_of_frames _ hr', State.setFrames_setFrames, hr]
      rfl
    have hsame : U.sameButNew ({ U with heap := s₂.heap, slotsUsed := s₂.slotsUsed } : State) L mc ms := by
      refine ⟨?_, q2, q3, q4, q5, q6⟩
      obtain ⟨t, ht, -⟩ := State.frames_cons hr
      show ({ U with heap := s₂.heap, slotsUsed := s₂.slotsUsed } : State) = { U.setFrames U.frames with heap := s₂.heap, slotsUsed := s₂.slotsUsed }
      rw [State.setFrames_self ht]
    subst hg
    refine Or.inr ⟨q, ⟨(({ U with heap := s₂.heap, slotsUsed := s₂.slotsUsed } : State).setVm s₂.vm), Ls ++ L, c0 + mc, s0 + ms⟩,
      ⟨X.admits, X.cas, X.clock, X.frames, X.room, X.hears, X.method, X.code, (X.here.setHeapUsed s₂.heap s₂.slotsUsed).setVm hW'.alike, X.tail, State.WarmedH.trans X.warmed hW', X.limits, X.bytes, X.same.trans (hsame.setVm s.vm)⟩,
      ⟨g, mk, s₂, L, E, ce, rfl, rfl, hx, hce, hcv, hcl, rfl, hL, rfl, rfl⟩, ?_⟩
    show Steps p.tables e below _ (((({ U with heap := s₂.heap, slotsUsed := s₂.slotsUsed } : State).setVm s₂.vm).setTop g).pushFrame (.throwing q))
    rw [← hs₂]
    exact hsteps
end Payer
section Calls
variable {p : Program} {l : Launch} {e : Env} {R : Room} {s : State} {m : MethodId} {args : Array Value} {below : List Frame} {meth : Method} {c : Code} {T : State} {locs : List Loc} {cells slots : Nat}
theorem vx_callV (X : Stand p l e R s m args below meth c T locs cells slots) (hexec : p.tables.exec = Jvm.exec) {own C : String} {index : Nat} {y : MethodName} {bytes : ByteArray} {maxL : Nat} {ret : Option FieldType}
    (hown : s.vm.findClass own = some m.cls) (hlink : (Cond.methodLink own index y).before args s = true) (hinst : (Cond.instanceMethod y).before args s = true) (hsel : (Cond.selects C y y).before args s = true)
    (hcode : (Cond.code y bytes maxL ret).before args s = true) (hy : y.cls ≠ "java/lang/invoke/MethodHandle" ∧ y.cls ≠ "java/lang/invoke/VarHandle")
    {W9 : Nat} {Pre : Pt → Array Value → Prop} {Post : Pt → Array Value → Option Value → Pt → Prop} {PostX : Pt → Array Value → Addr → Pt → Prop} (hK : vx_Back l R p e below s args y 3 W9 Pre Post PostX)
    {b : Addr} {cellB : Cell} (hcell : T.heap[b]? = some cellB) (hobj : cellB.vm.isStatics = false) (hcls : s.vm.findClass C = some cellB.cls)
    {g : JFrame} (hg : g.method = m) (hsize : g.locals.size = c.maxLocals) {argsL rest : List Value} (hlen : ∀ sig, parseMethodDescriptor y.desc = some sig → argsL.length = sig.parameters.length)
    (hstack : g.stack = argsL.reverse ++ .ref b :: rest) (hW : 2 * g.monitorRoom + (rest.map fun v => v.category).sum ≤ W9) (hdg : decode c.code g.pc = .ok (.invokevirtual index, 3))
    (hpre : ∀ vm₁, s.WarmedH vm₁ → Pre ⟨T.setVm vm₁, locs, cells, slots⟩ (Value.ref b :: argsL).toArray) :
    (∃ (v : Option Value) (vm₁ : Vm) (B : Pt), s.WarmedH vm₁ ∧ Stand p l e R s m args below meth c B.U B.locs B.cells B.slots ∧ Post ⟨T.setVm vm₁, locs, cells, slots⟩ (Value.ref b :: argsL).toArray v B ∧
      ∀ target, Steps p.tables e below (B.U.setTop { g with pc := g.pc + 3, stack := v.toList ++ rest }) target → Steps p.tables e below (T.setTop g) target) ∨
    (∃ (q : Addr) (vm₁ : Vm) (B : Pt), s.WarmedH vm₁ ∧ Stand p l e R s m args below meth c B.U B.locs B.cells B.slots ∧ PostX ⟨T.setVm vm₁, locs, cells, slots⟩ (Value.ref b :: argsL).toArray q B ∧
      Steps p.tables e below (T.setTop g) ((B.U.setTop { g with stack := rest }).pushFrame (.throwing q))) := by
  obtain ⟨mk, methM, hnamed, hmethM, hstM, habM⟩ := Cond.instanceMethod_spec hinst
  obtain ⟨methM', cM, hmethM', -, -, -, -, -, -, hsigM⟩ := Cond.code_spec hnamed hcode
  cases hmethM.symm.trans hmethM'
  obtain ⟨c2, r2, m2, q1, q2, q3, q4, kP, hkP, hkPi⟩ := Cond.selects_spec hsel
  cases hcls.symm.trans q1
  cases (State.methodFound?_of_named hnamed hy).symm.trans q2
  cases hnamed.symm.trans q3
  have hselP : selectMethod e.platform s.vm cellB.cls mk = .method mk := by rw [Launch.admits_selectMethod X.admits]; exact q4
  obtain ⟨vm₁, X₁, hstep₁⟩ := X.invokevirtual hexec hown hlink hnamed hmethM hstM hkP hkPi hy (a := b) (cell := cellB) hcell
    (fun z h => by rw [h] at hobj; cases hobj) hselP hmethM habM hkP hkPi (g := g) hg (argsL := argsL) (rest := rest) (hlen _ hsigM) hstack hdg
  rcases hK m meth c ⟨T.setVm vm₁, locs, cells, slots⟩ { g with stack := rest } (.invokevirtual index) mk (Value.ref b :: argsL).toArray X₁ hg hsize hdg hW (X₁.named hnamed) (hpre vm₁ X₁.warmed) with ⟨v, B, X', hpost, hsteps⟩ | ⟨q, B, X', hpost, hsteps⟩
  · exact Or.inl ⟨v, vm₁, B, X₁.warmed, X', hpost, fun target h => hstep₁ _ fun acts => by rw [doInvoke_state]; exact hsteps.trans h⟩
  · exact Or.inr ⟨q, vm₁, B, X₁.warmed, X', hpost, hstep₁ _ fun acts => by rw [doInvoke_state]; exact hsteps⟩
theorem vx_callS (X : Stand p l e R s m args below meth c T locs cells slots) (hexec : p.tables.exec = Jvm.exec) {own : String} {index : Nat} {y : MethodName} {bytes : ByteArray} {maxL : Nat} {ret : Option FieldType}
    (hown : s.vm.findClass own = some m.cls) (hlink : (Cond.methodLink own index y).before args s = true) (hstat : (Cond.static y).before args s = true) (hinit : (Cond.initialized y.cls).before args s = true)
    (hcode : (Cond.code y bytes maxL ret).before args s = true) (hy : y.cls ≠ "java/lang/invoke/MethodHandle" ∧ y.cls ≠ "java/lang/invoke/VarHandle")
    {W9 : Nat} {Pre : Pt → Array Value → Prop} {Post : Pt → Array Value → Option Value → Pt → Prop} {PostX : Pt → Array Value → Addr → Pt → Prop} (hK : vx_Back l R p e below s args y 3 W9 Pre Post PostX)
    {g : JFrame} (hg : g.method = m) (hsize : g.locals.size = c.maxLocals) {argsL rest : List Value} (hlen : ∀ sig, parseMethodDescriptor y.desc = some sig → argsL.length = sig.parameters.length)
    (hstack : g.stack = argsL.reverse ++ rest) (hW : 2 * g.monitorRoom + (rest.map fun v => v.category).sum ≤ W9) (hdg : decode c.code g.pc = .ok (.invokestatic index, 3))
    (hpre : ∀ vm₁, s.WarmedH vm₁ → Pre ⟨T.setVm vm₁, locs, cells, slots⟩ argsL.toArray) :
    (∃ (v : Option Value) (vm₁ : Vm) (B : Pt), s.WarmedH vm₁ ∧ Stand p l e R s m args below meth c B.U B.locs B.cells B.slots ∧ Post ⟨T.setVm vm₁, locs, cells, slots⟩ argsL.toArray v B ∧
      ∀ target, Steps p.tables e below (B.U.setTop { g with pc := g.pc + 3, stack := v.toList ++ rest }) target → Steps p.tables e below (T.setTop g) target) ∨
    (∃ (q : Addr) (vm₁ : Vm) (B : Pt), s.WarmedH vm₁ ∧ Stand p l e R s m args below meth c B.U B.locs B.cells B.slots ∧ PostX ⟨T.setVm vm₁, locs, cells, slots⟩ argsL.toArray q B ∧
      Steps p.tables e below (T.setTop g) ((B.U.setTop { g with stack := rest }).pushFrame (.throwing q))) := by
  obtain ⟨mk, hnamed⟩ := Cond.code_named hcode
  obtain ⟨methM, cM, hmethM, -, -, -, -, -, -, hsigM⟩ := Cond.code_spec hnamed hcode
  have hstatic : methM.isStatic = true := Cond.static_spec hnamed hmethM hstat
  obtain ⟨kP, hkP, -⟩ := className_of_methodNamed hnamed
  have hinitP : kP.init = .initialized := Cond.initialized_spec (findClass_of_methodNamed hnamed) hkP hinit
  obtain ⟨vm₁, X₁, hstep₁⟩ := X.invokestatic hexec hown hlink hnamed hmethM hstatic hkP hinitP hy (g := g) hg (argsL := argsL) (rest := rest) (hlen _ hsigM) hstack hdg
  rcases hK m meth c ⟨T.setVm vm₁, locs, cells, slots⟩ { g with stack := rest } (.invokestatic index) mk argsL.toArray X₁ hg hsize hdg hW (X₁.named hnamed) (hpre vm₁ X₁.warmed) with ⟨v, B, X', hpost, hsteps⟩ | ⟨q, B, X', hpost, hsteps⟩
  · exact Or.inl ⟨v, vm₁, B, X₁.warmed, X', hpost, fun target h => hstep₁ _ fun acts => by rw [doInvoke_state]; exact hsteps.trans h⟩
  · exact Or.inr ⟨q, vm₁, B, X₁.warmed, X', hpost, hstep₁ _ fun acts => by rw [doInvoke_state]; exact hsteps⟩
end Calls
theorem vx_cls {s : State} {T : State} {vm₁ : Vm} {E : String} {k : ClassId} (hW : s.WarmedH vm₁) (h : (T.setVm vm₁).vm.findClass E = some k) : s.vm.findClass E = some k := by
  have h1 : vm₁.findClass E = some k := h
  rw [hW.alike.findClass] at h1
  exact h1
/-- the method's frame g, with q thrown over it -/
def vx_W (p : Program) (l : Launch) (e : Env) (R : Room) (s : State) (m : MethodId) (args : Array Value) (below : List Frame) (meth : Method) (c : Code) (H : Heap) (locs : List Loc) (cells slots : Nat) (Q : State → Prop) (g : JFrame) (q : Addr) : Prop :=
  ∀ T : State, T.heap = H → Stand p l e R s m args below meth c T locs cells slots → ∃ t, Steps p.tables e below ((T.setTop g).pushFrame (.throwing q)) t ∧ Q t
def vx_Run (p : Program) (l : Launch) (e : Env) (R : Room) (s : State) (m : MethodId) (args : Array Value) (below : List Frame) (meth : Method) (c : Code) (H : Heap) (locs : List Loc) (cells slots mc ms : Nat) (g : JFrame) (rest : List Value) (Qa : State → Outcome → State → Prop) (XC : String → State → State → Prop) (free : Addr → Prop) : Prop :=
  ∀ T : State, T.heap = H → Stand p l e R s m args below meth c T locs cells slots →
    (∃ (v : Option Value) (st₀ t T' : State) (L : List Loc), st₀.heap = H ∧ Stand p l e R s m args below meth c T' (locs ++ L) (cells + mc) (slots + ms) ∧ (∀ q ∈ L, free q.base) ∧ T'.heap = t.heap ∧ T'.vm = t.vm ∧ Qa st₀ (.returned v) t ∧
      Goes p e below T g T' { g with pc := g.pc + 3, stack := v.toList ++ rest }) ∨
    (∃ (q : Addr) (st₀ t T' : State) (L : List Loc) (E : String) (ce : Cell), st₀.heap = H ∧ Stand p l e R s m args below meth c T' (locs ++ L) (cells + mc) (slots + ms) ∧ (∀ z ∈ L, free z.base) ∧ T'.heap = t.heap ∧ T'.vm = t.vm ∧ XC E st₀ t ∧ t.heap[q]? = some ce ∧ ce.vm = .none ∧ s.vm.findClass E = some ce.cls ∧
      Steps p.tables e below (T.setTop g) ((T'.setTop { g with stack := rest }).pushFrame (.throwing q)))
def vx_X {S : Type} (px : S → Prop) (B : String → S → State → Prop) (A : Nat → Prop) : String → State → State → Prop := fun E st t => ∃ u : S, px u ∧ B E u t ∧ va_F A st t
section Runs
variable {p : Program} {l : Launch} {e : Env} {R : Room} {s : State} {m : MethodId} {args : Array Value} {below : List Frame} {meth : Method} {c : Code} {H : Heap} {locs : List Loc} {cells slots : Nat}
variable {y : MethodName} {bytes cc : ByteArray} {maxL nL mc ms n index : Nat} {ret : Option FieldType} {ws : List Cond} {rm : Room} {Pc : Array Value → State → Prop} {Qc : Array Value → State → Outcome → State → Prop} {XC : String → State → State → Prop} {free : Addr → Prop} {Ts : List Cond} {own C : String} {b : Addr} {As rest : List Value} {g : JFrame}
theorem vx_callBack (cb : CallB R s args own index y bytes maxL ret ws rm mc ms n) (hM : vx_Met l y ws rm Pc Qc XC mc ms free) (hbl : FrameBlind Pc) : vx_Back l R p e below s args y 3 8 (PreOf R mc ms Pc) (PostOf Qc mc ms free) (vx_Post XC mc ms free) := by
  obtain ⟨hrc, hrs, hfr, hlo, hws, hcw, -, hini, -⟩ := cb
  exact vx_back (bytes := bytes) (maxL := maxL) (ret := ret) hM hbl hrc hrs hfr hlo hws hcw (fun a' U hW => word_at hW (Or.inl (by first | rfl | simp [Cond.onTables, Cond.keeps, Cond.steady])) hini)
theorem vx_runV (S : CallFix p m c cc nL s args Ts own) (hM : vx_Met l y ws rm Pc Qc XC mc ms free) (cw : CallW R s args own C index y bytes maxL ret ws rm mc ms n) (hp : PreV s H C b Pc As)
    (hg : g.method = m) (hn : As.length = n) (hsize : g.locals.size = nL) (hstack : g.stack = As.reverse ++ .ref b :: rest) (hW : 2 * g.monitorRoom + (rest.map fun v => v.category).sum ≤ 8) (hdg : decode cc g.pc = .ok (.invokevirtual index, 3)) (hf : cells + mc ≤ R.cells ∧ slots + ms ≤ R.slots) :
    vx_Run p l e R s m args below meth c H locs cells slots mc ms g rest (Qc (Value.ref b :: As).toArray) XC free := by
  have hK : vx_Back l R p e below s args y 3 8 (PreOf R mc ms Pc) (PostOf Qc mc ms free) (vx_Post XC mc ms free) := vx_callBack cw.1 hM hp.1
  obtain ⟨⟨-, -, -, -, -, -, hcode, -, hy, hlen, hl⟩, hin, hse⟩ := cw
  obtain ⟨hx, hb, hml, ho, -⟩ := S
  obtain ⟨-, ⟨cellB, hcB, hoB, hclB⟩, hPc⟩ := hp
  intro T hT X
  rcases vx_callV X hx (C := C) (bytes := bytes) (maxL := maxL) (ret := ret) ho hl hin hse hcode hy hK (by rw [hT]; exact hcB) hoB hclB hg (hsize.trans hml.symm) (argsL := As) (rest := rest) (fun sig h => hn.trans (hlen sig h)) hstack hW (by rw [hb]; exact hdg)
    (fun vm₁ hW₁ => ⟨hf.1, hf.2, hPc (T.setVm vm₁) hT hW₁⟩) with ⟨v, vm₁, ⟨U', l2, c2, s2⟩, hW₁, X', ⟨g', mk, t, L, e1, e2, hq, h1, hL, h2, h3⟩, st⟩ | ⟨q, vm₁, ⟨U', l2, c2, s2⟩, hW₁, X', ⟨g', mk, t, L, E, ce, e1, e2, hq, hce, hcv, hcl, h1, hL, h2, h3⟩, st⟩
  · dsimp only [Pt.U, Pt.locs, Pt.cells, Pt.slots] at X' e1 e2 h1 h2 h3 st
    subst h1; subst h2; subst h3
    exact Or.inl ⟨v, (T.setVm vm₁).calling g' mk (Value.ref b :: As).toArray, t, U', L, hT, X', hL, e1, e2, hq, st⟩
  · dsimp only [Pt.U, Pt.locs, Pt.cells, Pt.slots] at X' e1 e2 h1 h2 h3 st hcl
    subst h1; subst h2; subst h3
    exact Or.inr ⟨q, (T.setVm vm₁).calling g' mk (Value.ref b :: As).toArray, t, U', L, E, ce, hT, X', hL, e1, e2, hq, hce, hcv, vx_cls hW₁ hcl, st⟩
theorem vx_runS (S : CallFix p m c cc nL s args Ts own) (hM : vx_Met l y ws rm Pc Qc XC mc ms free) (cw : CallB R s args own index y bytes maxL ret ws rm mc ms n ∧ (Cond.static y).before args s = true) (hp : PreS s H Pc As)
    (hg : g.method = m) (hn : As.length = n) (hsize : g.locals.size = nL) (hstack : g.stack = As.reverse ++ rest) (hW : 2 * g.monitorRoom + (rest.map fun v => v.category).sum ≤ 8) (hdg : decode cc g.pc = .ok (.invokestatic index, 3)) (hf : cells + mc ≤ R.cells ∧ slots + ms ≤ R.slots) :
    vx_Run p l e R s m args below meth c H locs cells slots mc ms g rest (Qc As.toArray) XC free := by
  have hK : vx_Back l R p e below s args y 3 8 (PreOf R mc ms Pc) (PostOf Qc mc ms free) (vx_Post XC mc ms free) := vx_callBack cw.1 hM hp.1
  obtain ⟨⟨-, -, -, -, -, -, hcode, hini, hy, hlen, hl⟩, hstt⟩ := cw
  obtain ⟨hx, hb, hml, ho, -⟩ := S
  intro T hT X
  rcases vx_callS X hx (bytes := bytes) (maxL := maxL) (ret := ret) ho hl hstt hini hcode hy hK hg (hsize.trans hml.symm) (argsL := As) (rest := rest) (fun sig h => hn.trans (hlen sig h)) hstack hW (by rw [hb]; exact hdg)
    (fun vm₁ hW₁ => ⟨hf.1, hf.2, hp.2 (T.setVm vm₁) hT hW₁⟩) with ⟨v, vm₁, ⟨U', l2, c2, s2⟩, hW₁, X', ⟨g', mk, t, L, e1, e2, hq, h1, hL, h2, h3⟩, st⟩ | ⟨q, vm₁, ⟨U', l2, c2, s2⟩, hW₁, X', ⟨g', mk, t, L, E, ce, e1, e2, hq, hce, hcv, hcl, h1, hL, h2, h3⟩, st⟩
  · dsimp only [Pt.U, Pt.locs, Pt.cells, Pt.slots] at X' e1 e2 h1 h2 h3 st
    subst h1; subst h2; subst h3
    exact Or.inl ⟨v, (T.setVm vm₁).calling g' mk As.toArray, t, U', L, hT, X', hL, e1, e2, hq, st⟩
  · dsimp only [Pt.U, Pt.locs, Pt.cells, Pt.slots] at X' e1 e2 h1 h2 h3 st hcl
    subst h1; subst h2; subst h3
    exact Or.inr ⟨q, (T.setVm vm₁).calling g' mk As.toArray, t, U', L, E, ce, hT, X', hL, e1, e2, hq, hce, hcv, vx_cls hW₁ hcl, st⟩
end Runs
section Rows
variable {p : Program} {l : Launch} {e : Env} {R : Room} {s : State} {m : MethodId} {args : Array Value} {below : List Frame} {meth : Method} {c : Code} {H : Heap} {locs : List Loc} {cells slots : Nat} {Q : State → Prop}
variable {mc ms : Nat} {free : Addr → Prop} {A0 A1 : Nat → Prop} {H0 : Heap} {a : Array Value} {pc : Nat} {ls : Array Slot} {st0 rest : List Value}
theorem vx_keep {st₀ t T' : State} {L : List Loc} (h0 : st₀.heap = H) (e1 : T'.heap = t.heap) (hS : va_S A0 H0 H locs) (hA : ∀ q, q < H.size → A1 q → A0 q) (hf : ∀ q, free q → A0 q) (hL : ∀ q ∈ L, free q.base) (hF : va_F A1 st₀ t) :
    H.size ≤ T'.heap.size ∧ (∀ q : Nat, q < H.size → ¬ A1 q → T'.heap[q]? = H[q]?) ∧ va_S A0 H0 T'.heap (locs ++ L) := by
  obtain ⟨hz, hk⟩ := hF
  rw [h0] at hz hk
  exact ⟨by rw [e1]; exact hz, fun q h1 h2 => by rw [e1]; exact hk q h1 h2,
    ⟨Nat.le_trans hS.1 (by rw [e1]; exact hz), fun q h1 h2 => by rw [e1, hk q (Nat.lt_of_lt_of_le h1 hS.1) (fun z => h2 (hA q (Nat.lt_of_lt_of_le h1 hS.1) z))]; exact hS.2.1 q h1 h2, fun q hq => by
      rcases List.mem_append.mp hq with h | h
      · exact hS.2.2 q h
      · exact hf _ (hL q h)⟩⟩
theorem vx_calli {S SX : Type} {post : Int32 → S → Prop} {px : SX → Prop} {B : S → State → Prop} {BX : String → SX → State → Prop} {AX : Nat → Prop} (hr : vx_Run p l e R s m args below meth c H locs cells slots mc ms (F0 m pc ls st0) rest (va_Qi post B A1 a) (vx_X px BX AX) free) (hS : va_S A0 H0 H locs) (hA : ∀ q, q < H.size → A1 q → A0 q) (hf : ∀ q, free q → A0 q) (hAX : ∀ q, q < H.size → AX q → A0 q)
    (kx : ∀ (E : String) (ce : Cell) (q9 : Addr) (u : SX) (t : State) (H1 : Heap) (locs1 : List Loc), t.heap = H1 → s.vm.Alike t.vm → px u → BX E u t → H.size ≤ H1.size → (∀ q : Nat, q < H.size → ¬ AX q → H1[q]? = H[q]?) → va_S A0 H0 H1 locs1 → H1[q9]? = some ce → ce.vm = .none → s.vm.findClass E = some ce.cls → vx_W p l e R s m args below meth c H1 locs1 (cells + mc) (slots + ms) Q (F0 m pc ls rest) q9)
    (kk : ∀ (r : Int32) (u : S) (t : State) (H1 : Heap) (locs1 : List Loc), t.heap = H1 → s.vm.Alike t.vm → post r u → B u t → H.size ≤ H1.size → (∀ q : Nat, q < H.size → ¬ A1 q → H1[q]? = H[q]?) → va_S A0 H0 H1 locs1 → W p l e R s m args below meth c H1 locs1 (cells + mc) (slots + ms) Q (F0 m (pc + 3) ls (.int r :: rest))) : W p l e R s m args below meth c H locs cells slots Q (F0 m pc ls st0) := by
  intro T hT X
  rcases hr T hT X with ⟨v, st₀, t, T', L, h0, X', hL, e1, e2, ⟨⟨r, u, hv, hp, hb⟩, hF⟩, st⟩ | ⟨q, st₀, t, T', L, E, ce, h0, X', hL, e1, e2, ⟨u, hp, hb, hF⟩, hce, hcv, hcl, st⟩
  · cases hv
    obtain ⟨k1, k2, k3⟩ := vx_keep h0 e1 hS hA hf hL hF
    obtain ⟨t2, a1, b1⟩ := kk r u t T'.heap (locs ++ L) e1.symm (by rw [← e2]; exact X'.warmed.alike) hp hb k1 k2 k3 T' rfl X'
    exact ⟨t2, st t2 a1, b1⟩
  · obtain ⟨k1, k2, k3⟩ := vx_keep h0 e1 hS hAX hf hL hF
    obtain ⟨t2, a1, b1⟩ := kx E ce q u t T'.heap (locs ++ L) e1.symm (by rw [← e2]; exact X'.warmed.alike) hp hb k1 k2 k3 (by rw [e1]; exact hce) hcv hcl T' rfl X'
    exact ⟨t2, st.trans a1, b1⟩
theorem vx_calll {S SX : Type} {post : Int64 → S → Prop} {px : SX → Prop} {B : S → State → Prop} {BX : String → SX → State → Prop} {AX : Nat → Prop} (hr : vx_Run p l e R s m args below meth c H locs cells slots mc ms (F0 m pc ls st0) rest (va_Ql post B A1 a) (vx_X px BX AX) free) (hS : va_S A0 H0 H locs) (hA : ∀ q, q < H.size → A1 q → A0 q) (hf : ∀ q, free q → A0 q) (hAX : ∀ q, q < H.size → AX q → A0 q)
    (kx : ∀ (E : String) (ce : Cell) (q9 : Addr) (u : SX) (t : State) (H1 : Heap) (locs1 : List Loc), t.heap = H1 → s.vm.Alike t.vm → px u → BX E u t → H.size ≤ H1.size → (∀ q : Nat, q < H.size → ¬ AX q → H1[q]? = H[q]?) → va_S A0 H0 H1 locs1 → H1[q9]? = some ce → ce.vm = .none → s.vm.findClass E = some ce.cls → vx_W p l e R s m args below meth c H1 locs1 (cells + mc) (slots + ms) Q (F0 m pc ls rest) q9)
    (kk : ∀ (r : Int64) (u : S) (t : State) (H1 : Heap) (locs1 : List Loc), t.heap = H1 → s.vm.Alike t.vm → post r u → B u t → H.size ≤ H1.size → (∀ q : Nat, q < H.size → ¬ A1 q → H1[q]? = H[q]?) → va_S A0 H0 H1 locs1 → W p l e R s m args below meth c H1 locs1 (cells + mc) (slots + ms) Q (F0 m (pc + 3) ls (.long r :: rest))) : W p l e R s m args below meth c H locs cells slots Q (F0 m pc ls st0) := by
  intro T hT X
  rcases hr T hT X with ⟨v, st₀, t, T', L, h0, X', hL, e1, e2, ⟨⟨r, u, hv, hp, hb⟩, hF⟩, st⟩ | ⟨q, st₀, t, T', L, E, ce, h0, X', hL, e1, e2, ⟨u, hp, hb, hF⟩, hce, hcv, hcl, st⟩
  · cases hv
    obtain ⟨k1, k2, k3⟩ := vx_keep h0 e1 hS hA hf hL hF
    obtain ⟨t2, a1, b1⟩ := kk r u t T'.heap (locs ++ L) e1.symm (by rw [← e2]; exact X'.warmed.alike) hp hb k1 k2 k3 T' rfl X'
    exact ⟨t2, st t2 a1, b1⟩
  · obtain ⟨k1, k2, k3⟩ := vx_keep h0 e1 hS hAX hf hL hF
    obtain ⟨t2, a1, b1⟩ := kx E ce q u t T'.heap (locs ++ L) e1.symm (by rw [← e2]; exact X'.warmed.alike) hp hb k1 k2 k3 (by rw [e1]; exact hce) hcv hcl T' rfl X'
    exact ⟨t2, st.trans a1, b1⟩
theorem vx_callf {S SX : Type} {post : UInt32 → S → Prop} {px : SX → Prop} {B : S → State → Prop} {BX : String → SX → State → Prop} {AX : Nat → Prop} (hr : vx_Run p l e R s m args below meth c H locs cells slots mc ms (F0 m pc ls st0) rest (va_Qf post B A1 a) (vx_X px BX AX) free) (hS : va_S A0 H0 H locs) (hA : ∀ q, q < H.size → A1 q → A0 q) (hf : ∀ q, free q → A0 q) (hAX : ∀ q, q < H.size → AX q → A0 q)
    (kx : ∀ (E : String) (ce : Cell) (q9 : Addr) (u : SX) (t : State) (H1 : Heap) (locs1 : List Loc), t.heap = H1 → s.vm.Alike t.vm → px u → BX E u t → H.size ≤ H1.size → (∀ q : Nat, q < H.size → ¬ AX q → H1[q]? = H[q]?) → va_S A0 H0 H1 locs1 → H1[q9]? = some ce → ce.vm = .none → s.vm.findClass E = some ce.cls → vx_W p l e R s m args below meth c H1 locs1 (cells + mc) (slots + ms) Q (F0 m pc ls rest) q9)
    (kk : ∀ (r : UInt32) (u : S) (t : State) (H1 : Heap) (locs1 : List Loc), t.heap = H1 → s.vm.Alike t.vm → post r u → B u t → H.size ≤ H1.size → (∀ q : Nat, q < H.size → ¬ A1 q → H1[q]? = H[q]?) → va_S A0 H0 H1 locs1 → W p l e R s m args below meth c H1 locs1 (cells + mc) (slots + ms) Q (F0 m (pc + 3) ls (.float r :: rest))) : W p l e R s m args below meth c H locs cells slots Q (F0 m pc ls st0) := by
  intro T hT X
  rcases hr T hT X with ⟨v, st₀, t, T', L, h0, X', hL, e1, e2, ⟨⟨r, u, hv, hp, hb⟩, hF⟩, st⟩ | ⟨q, st₀, t, T', L, E, ce, h0, X', hL, e1, e2, ⟨u, hp, hb, hF⟩, hce, hcv, hcl, st⟩
  · cases hv
    obtain ⟨k1, k2, k3⟩ := vx_keep h0 e1 hS hA hf hL hF
    obtain ⟨t2, a1, b1⟩ := kk r u t T'.heap (locs ++ L) e1.symm (by rw [← e2]; exact X'.warmed.alike) hp hb k1 k2 k3 T' rfl X'
    exact ⟨t2, st t2 a1, b1⟩
  · obtain ⟨k1, k2, k3⟩ := vx_keep h0 e1 hS hAX hf hL hF
    obtain ⟨t2, a1, b1⟩ := kx E ce q u t T'.heap (locs ++ L) e1.symm (by rw [← e2]; exact X'.warmed.alike) hp hb k1 k2 k3 (by rw [e1]; exact hce) hcv hcl T' rfl X'
    exact ⟨t2, st.trans a1, b1⟩
theorem vx_calld {S SX : Type} {post : UInt64 → S → Prop} {px : SX → Prop} {B : S → State → Prop} {BX : String → SX → State → Prop} {AX : Nat → Prop} (hr : vx_Run p l e R s m args below meth c H locs cells slots mc ms (F0 m pc ls st0) rest (va_Qd post B A1 a) (vx_X px BX AX) free) (hS : va_S A0 H0 H locs) (hA : ∀ q, q < H.size → A1 q → A0 q) (hf : ∀ q, free q → A0 q) (hAX : ∀ q, q < H.size → AX q → A0 q)
    (kx : ∀ (E : String) (ce : Cell) (q9 : Addr) (u : SX) (t : State) (H1 : Heap) (locs1 : List Loc), t.heap = H1 → s.vm.Alike t.vm → px u → BX E u t → H.size ≤ H1.size → (∀ q : Nat, q < H.size → ¬ AX q → H1[q]? = H[q]?) → va_S A0 H0 H1 locs1 → H1[q9]? = some ce → ce.vm = .none → s.vm.findClass E = some ce.cls → vx_W p l e R s m args below meth c H1 locs1 (cells + mc) (slots + ms) Q (F0 m pc ls rest) q9)
    (kk : ∀ (r : UInt64) (u : S) (t : State) (H1 : Heap) (locs1 : List Loc), t.heap = H1 → s.vm.Alike t.vm → post r u → B u t → H.size ≤ H1.size → (∀ q : Nat, q < H.size → ¬ A1 q → H1[q]? = H[q]?) → va_S A0 H0 H1 locs1 → W p l e R s m args below meth c H1 locs1 (cells + mc) (slots + ms) Q (F0 m (pc + 3) ls (.double r :: rest))) : W p l e R s m args below meth c H locs cells slots Q (F0 m pc ls st0) := by
  intro T hT X
  rcases hr T hT X with ⟨v, st₀, t, T', L, h0, X', hL, e1, e2, ⟨⟨r, u, hv, hp, hb⟩, hF⟩, st⟩ | ⟨q, st₀, t, T', L, E, ce, h0, X', hL, e1, e2, ⟨u, hp, hb, hF⟩, hce, hcv, hcl, st⟩
  · cases hv
    obtain ⟨k1, k2, k3⟩ := vx_keep h0 e1 hS hA hf hL hF
    obtain ⟨t2, a1, b1⟩ := kk r u t T'.heap (locs ++ L) e1.symm (by rw [← e2]; exact X'.warmed.alike) hp hb k1 k2 k3 T' rfl X'
    exact ⟨t2, st t2 a1, b1⟩
  · obtain ⟨k1, k2, k3⟩ := vx_keep h0 e1 hS hAX hf hL hF
    obtain ⟨t2, a1, b1⟩ := kx E ce q u t T'.heap (locs ++ L) e1.symm (by rw [← e2]; exact X'.warmed.alike) hp hb k1 k2 k3 (by rw [e1]; exact hce) hcv hcl T' rfl X'
    exact ⟨t2, st.trans a1, b1⟩
theorem vx_callv {S SX : Type} {post : S → Prop} {px : SX → Prop} {B : S → State → Prop} {BX : String → SX → State → Prop} {AX : Nat → Prop} (hr : vx_Run p l e R s m args below meth c H locs cells slots mc ms (F0 m pc ls st0) rest (va_Qv post B A1 a) (vx_X px BX AX) free) (hS : va_S A0 H0 H locs) (hA : ∀ q, q < H.size → A1 q → A0 q) (hf : ∀ q, free q → A0 q) (hAX : ∀ q, q < H.size → AX q → A0 q)
    (kx : ∀ (E : String) (ce : Cell) (q9 : Addr) (u : SX) (t : State) (H1 : Heap) (locs1 : List Loc), t.heap = H1 → s.vm.Alike t.vm → px u → BX E u t → H.size ≤ H1.size → (∀ q : Nat, q < H.size → ¬ AX q → H1[q]? = H[q]?) → va_S A0 H0 H1 locs1 → H1[q9]? = some ce → ce.vm = .none → s.vm.findClass E = some ce.cls → vx_W p l e R s m args below meth c H1 locs1 (cells + mc) (slots + ms) Q (F0 m pc ls rest) q9)
    (kk : ∀ (u : S) (t : State) (H1 : Heap) (locs1 : List Loc), t.heap = H1 → s.vm.Alike t.vm → post u → B u t → H.size ≤ H1.size → (∀ q : Nat, q < H.size → ¬ A1 q → H1[q]? = H[q]?) → va_S A0 H0 H1 locs1 → W p l e R s m args below meth c H1 locs1 (cells + mc) (slots + ms) Q (F0 m (pc + 3) ls (rest))) : W p l e R s m args below meth c H locs cells slots Q (F0 m pc ls st0) := by
  intro T hT X
  rcases hr T hT X with ⟨v, st₀, t, T', L, h0, X', hL, e1, e2, ⟨⟨u, hv, hp, hb⟩, hF⟩, st⟩ | ⟨q, st₀, t, T', L, E, ce, h0, X', hL, e1, e2, ⟨u, hp, hb, hF⟩, hce, hcv, hcl, st⟩
  · cases hv
    obtain ⟨k1, k2, k3⟩ := vx_keep h0 e1 hS hA hf hL hF
    obtain ⟨t2, a1, b1⟩ := kk u t T'.heap (locs ++ L) e1.symm (by rw [← e2]; exact X'.warmed.alike) hp hb k1 k2 k3 T' rfl X'
    exact ⟨t2, st t2 a1, b1⟩
  · obtain ⟨k1, k2, k3⟩ := vx_keep h0 e1 hS hAX hf hL hF
    obtain ⟨t2, a1, b1⟩ := kx E ce q u t T'.heap (locs ++ L) e1.symm (by rw [← e2]; exact X'.warmed.alike) hp hb k1 k2 k3 (by rw [e1]; exact hce) hcv hcl T' rfl X'
    exact ⟨t2, st.trans a1, b1⟩
/-- caught by the row x of this method's table; the rows ahead don't take it -/
theorem vx_catch {own name : String} {E : String} {ce : Cell} {q : Addr} (hown : s.vm.findClass own = some m.cls) (pre : List ExceptionTableEntry) (x : ExceptionTableEntry) (suf : List ExceptionTableEntry) (hsplit : c.exceptionTable.toList = pre ++ x :: suf)
    (hpass : ∀ z ∈ pre, covers z pc = false ∨ (z.catchType ≠ 0 ∧ ∃ nm : String, (Cond.classLink own z.catchType nm).before args s = true ∧ va_Nc E nm s)) (hx : covers x pc = true) (h0 : x.catchType ≠ 0)
    (hlink : (Cond.classLink own x.catchType name).before args s = true) (hcast : (Cond.castable E name).before args s = true) (hcell : H[q]? = some ce) (hv : ce.vm = .none) (hcl : s.vm.findClass E = some ce.cls)
    (kk : W p l e R s m args below meth c H locs cells slots Q (F0 m x.handlerPc ls [.ref q])) : vx_W p l e R s m args below meth c H locs cells slots Q (F0 m pc ls rest) q := by
  intro T hT X
  have hpl : e.platform.magicAccessors = ({} : Platform).magicAccessors := by rw [X.admits.platform]
  obtain ⟨c3, c4, hc3, hc4, hasg⟩ := Cond.castable_spec hcast
  cases Option.some.inj (hc3.symm.trans hcl)
  obtain ⟨c5, hc5, hcl5⟩ := Cond.classLink_spec hown hlink e.platform hpl
  cases Option.some.inj (hc4.symm.trans hc5)
  obtain ⟨vm', X', st⟩ := X.thenCaughtThrough q (g := F0 m pc ls rest) rfl (Steps.refl _) (by rw [hT]; exact hcell) (by rw [hv]; rfl) (by obtain ⟨k9, h9, -⟩ := Vm.findClass_spec hcl; exact ⟨k9, h9⟩) pre x suf hsplit
    (fun z hz => by
      rcases hpass z hz with h | ⟨hz0, nm, hl1, hn1⟩
      · exact Or.inl h
      · obtain ⟨c6, hc6, hcl6⟩ := Cond.classLink_spec hown hl1 e.platform hpl
        obtain ⟨a8, b8, h1, h2, h3⟩ := hn1
        cases Option.some.inj (h1.symm.trans hcl)
        cases Option.some.inj (h2.symm.trans hc6)
        exact Or.inr ⟨hz0, _, hcl6, h3⟩) hx (Or.inr ⟨h0, c4, hcl5, hasg⟩)
  obtain ⟨t, a1, b1⟩ := kk (T.setVm vm') hT X'
  exact ⟨t, st.trans a1, b1⟩
end Rows
section Ends
variable {p : Program} {l : Launch} {e : Env} {R : Room} {s : State} {m : MethodId} {args : Array Value} {below : List Frame} {meth : Method} {c : Code} {H : Heap} {locs : List Loc} {cells slots : Nat} {Q : State → Prop}
variable {mc ms : Nat} {free : Addr → Prop} {A0 A1 : Nat → Prop} {H0 : Heap} {a : Array Value} {ls : Array Slot} {st0 rest : List Value}
variable {Qc : Array Value → State → Outcome → State → Prop} {XC : String → State → State → Prop}
/-- what a body that may throw owes at its end -/
def vx_MQ (below : List Frame) (Qc : Array Value → State → Outcome → State → Prop) (XC : String → State → State → Prop) (a : Array Value) (s : State) (mc ms : Nat) (free : Addr → Prop) : State → Prop := fun t =>
  ∃ o, t.status = .running ∧ Ended t below o ∧ vx_Q Qc XC mc ms free a s o t
theorem vx_ret {g : JFrame} {mc ms : Nat} (k : W p l e R s m args below meth c H locs cells slots (MQ below Qc args s mc ms free) g) : W p l e R s m args below meth c H locs cells slots (vx_MQ below Qc XC args s mc ms free) g := by
  intro T hT X
  obtain ⟨t, a1, o, b1, b2, b3, b4⟩ := k T hT X
  exact ⟨t, a1, o, b1, b2, Or.inl ⟨b3, b4⟩⟩
/-- not caught here: it goes on to the caller -/
theorem vx_widen {g : JFrame} {q : Addr} {k n : Nat} (h1 : cells ≤ k) (h2 : slots ≤ n) (kk : vx_W p l e R s m args below meth c H locs k n Q g q) : vx_W p l e R s m args below meth c H locs cells slots Q g q := fun T hT X => kk T hT (stand_widen X h1 h2)
theorem vx_out {pc : Nat} {E : String} {ce : Cell} {q : Addr} {mc ms : Nat} (hout : ∀ x ∈ c.exceptionTable.toList, covers x pc = false) (hlocks : meth.locks = false) (hcell : H[q]? = some ce) (hv : ce.vm = .none) (hcl : s.vm.findClass E = some ce.cls)
    (hx : ∀ t : State, t.heap = H → s.vm.Alike t.vm → XC E s t) (hf : ∀ z ∈ locs, free z.base) (hc : cells ≤ mc) (hs : slots ≤ ms) :
    vx_W p l e R s m args below meth c H locs cells slots (vx_MQ below Qc XC args s mc ms free) (F0 m pc ls rest) q := by
  intro T hT X
  obtain ⟨st1, hrun, hend, hW, hsm⟩ := X.leaveThrown q (g := F0 m pc ls rest) rfl rfl rfl hout hlocks
  have hcell9 : (T.setFrames (.throwing q :: below)).heap[q]? = some ce := by
    show T.heap[q]? = some ce
    rw [hT]; exact hcell
  exact ⟨_, st1, .threw q, hrun, hend, Or.inr ⟨q, rfl, E, ce, locs, hx _ hT hW.alike, hcell9, hv, hcl, hW, hsm.mono hc hs, hf⟩⟩
theorem vx_frame {U : State} {k n : Nat} (h : s.sameButNew ({ U with vm := s.vm } : State) locs k n) : s.heap.size ≤ U.heap.size ∧ ∀ q : Nat, q < s.heap.size → (∀ z ∈ locs, z.base ≠ q) → U.heap[q]? = s.heap[q]? := by
  obtain ⟨-, h2, -, -, -, h6⟩ := h
  refine ⟨h2, fun q hq hz => ?_⟩
  obtain ⟨c9, e1, e2, e3, e4⟩ := h6 q _ (Array.getElem?_eq_getElem hq)
  have hs : c9.slots = (s.heap[q]).slots := Array.ext_getElem? fun i => e4 i fun hm => hz _ hm rfl
  have h9 : c9 = s.heap[q] := by
    rw [hs] at e2
    exact e2
  have e5 : U.heap[q]? = some c9 := e1
  rw [e5, h9, Array.getElem?_eq_getElem hq]
/-- the words of a throw but the four that speak of the heap -/
def vx_no (w : Cond) : Bool := decide (w ≠ .isRef (.static Bundle.tN "UNASSIGNED_STACK" Bundle.steD)) && decide (w ≠ .isRef (.static Bundle.tN "SUPPRESSED_SENTINEL" Bundle.listD)) && decide (w ≠ .laysStatic Bundle.tN "UNASSIGNED_STACK" Bundle.steD) && decide (w ≠ .laysStatic Bundle.tN "SUPPRESSED_SENTINEL" Bundle.listD)
def vx_at0 (own : String) (ic : Nat) (X : String) (names : List String) : List Cond := (Bundle.ownAtoms0 own ic X names).filter vx_no
def vx_atS (own : String) (ic : Nat) (X : String) (names : List String) : List Cond := (Bundle.ownAtoms own ic X names).filter vx_no
/-- a word that the tables alone decide, or a good one -/
def vx_ot (w : Cond) : Bool := w.onTables || goodWord w
theorem vx_ot_at {args a' : Array Value} {s U : State} {w : Cond} (hW : s.WarmedH U.vm) (hvm : s.vm = U.vm) (hg : vx_ot w = true) (h : w.before args s = true) : w.before a' U = true := by
  simp only [vx_ot, Bool.or_eq_true] at hg
  rcases hg with hg | hg
  · exact va_tabs hg hvm h
  · exact word_at hW (good_of_word hg) h
/-- a list's words: the good ones out of the method's own list, the others by premises of their own -/
theorem vx_hat {args : Array Value} {s : State} {L B : List Cond} (h1 : ∀ w ∈ L.filter goodWord, w.before args s = true) (h2 : ∀ w ∈ L.filter (fun w => !goodWord w), w ∈ B) (h3 : ∀ w ∈ B, w.before args s = true) : ∀ w ∈ L, w.before args s = true := by
  intro w hw
  by_cases g : goodWord w = true
  · exact h1 w (List.mem_filter.mpr ⟨hw, g⟩)
  · refine h3 w (h2 w (List.mem_filter.mpr ⟨hw, ?_⟩))
    show (!goodWord w) = true
    cases hgw : goodWord w
    · rfl
    · exact absurd hgw g
theorem vx_c {args : Array Value} {s : State} {w : Cond} {B : List Cond} (h : w.before args s = true) (t : ∀ w ∈ B, w.before args s = true) : ∀ w' ∈ w :: B, w'.before args s = true := fun w' h' => (List.mem_cons.mp h').elim (fun e => by rw [e]; exact h) (t w')
theorem vx_n {args : Array Value} {s : State} : ∀ w ∈ ([] : List Cond), w.before args s = true := fun _ h => nomatch h
theorem vx_own {args : Array Value} {s : State} {L : List Cond} (h1 : ∀ w ∈ L.filter vx_no, w.before args s = true)
    (hU : (Cond.isRef (.static Bundle.tN "UNASSIGNED_STACK" Bundle.steD)).before args s = true) (hN : (Cond.isRef (.static Bundle.tN "SUPPRESSED_SENTINEL" Bundle.listD)).before args s = true)
    (lU : (Cond.laysStatic Bundle.tN "UNASSIGNED_STACK" Bundle.steD).before args s = true) (lN : (Cond.laysStatic Bundle.tN "SUPPRESSED_SENTINEL" Bundle.listD).before args s = true) : ∀ w ∈ L, w.before args s = true := by
  intro w hw
  by_cases e1 : w = .isRef (.static Bundle.tN "UNASSIGNED_STACK" Bundle.steD)
  · rw [e1]; exact hU
  · by_cases e2 : w = .isRef (.static Bundle.tN "SUPPRESSED_SENTINEL" Bundle.listD)
    · rw [e2]; exact hN
    · by_cases e3 : w = .laysStatic Bundle.tN "UNASSIGNED_STACK" Bundle.steD
      · rw [e3]; exact lU
      · by_cases e4 : w = .laysStatic Bundle.tN "SUPPRESSED_SENTINEL" Bundle.listD
        · rw [e4]; exact lN
        · exact h1 w (List.mem_filter.mpr ⟨hw, by unfold vx_no; rw [decide_eq_true e1, decide_eq_true e2, decide_eq_true e3, decide_eq_true e4]; rfl⟩)
/-- where a static field lies, its class's statics cell in H -/
def vx_L (C n d : String) (A : Nat → Prop) (U : State) (H : Heap) : Prop := ∃ (c : ClassId) (k : Class) (i : Nat) (f : Field) (a : Nat) (cell : Cell), U.vm.findClass C = some c ∧ U.fieldFound? C n d = some (c, k, i, f) ∧ f.isStatic = true ∧ k.statics = some a ∧ H[a]? = some cell ∧ cell.vm.isStatics = true ∧ cell.cls = c ∧ f.slot < cell.slots.size ∧ k.staticTypes[f.slot]? = some f.type ∧ ¬ A a
theorem vx_L.moved {C n d : String} {A : Nat → Prop} {u U : State} {H : Heap} (hvm : u.vm.Alike U.vm) (h : vx_L C n d A u H) : vx_L C n d A U H := by
  obtain ⟨c, k, i, f, a, cell, h1, h2, h3, h4, h5, h6, h7, h8, h9, h10⟩ := h
  obtain ⟨k', hi', he⟩ := State.fieldFound?_setVm hvm h2
  exact ⟨c, k', i, f, a, cell, by rw [hvm.findClass]; exact h1, hi', h3, by rw [he]; exact h4, h5, h6, h7, h8, by rw [he]; exact h9, h10⟩
theorem vx_L.kept {C n d : String} {A : Nat → Prop} {U : State} {H H1 : Heap} (h : vx_L C n d A U H) (hq : ∀ a : Nat, a < H.size → ¬ A a → H1[a]? = H[a]?) : vx_L C n d A U H1 := by
  obtain ⟨c, k, i, f, a, cell, h1, h2, h3, h4, h5, h6, h7, h8, h9, h10⟩ := h
  exact ⟨c, k, i, f, a, cell, h1, h2, h3, h4, by rw [hq a (Array.getElem?_eq_some_iff.mp h5).1 h10]; exact h5, h6, h7, h8, h9, h10⟩
theorem vx_L.narrow {C n d : String} {A B : Nat → Prop} {U : State} {H : Heap} (h : vx_L C n d A U H) (hAB : ∀ q, B q → A q) : vx_L C n d B U H := by
  obtain ⟨c, k, i, f, a, cell, h1, h2, h3, h4, h5, h6, h7, h8, h9, h10⟩ := h
  exact ⟨c, k, i, f, a, cell, h1, h2, h3, h4, h5, h6, h7, h8, h9, fun z => h10 (hAB _ z)⟩
theorem vx_L.word {C n d : String} {A : Nat → Prop} {s : State} {args : Array Value} (h : vx_L C n d A s s.heap) : (Cond.laysStatic C n d).before args s = true := by
  obtain ⟨c, k, i, f, a, cell, h1, h2, h3, h4, h5, h6, h7, h8, h9, -⟩ := h
  show (Cond.laysStatic C n d).holds args s none s [] = true
  exact Cond.laysStatic_of h1 h2 h3 h4 h5 h6 h7 h8 h9
/-- .. and what it holds: null or some reference -/
def vx_Zq (C n d : String) (A : Nat → Prop) (U : State) (H : Heap) : Prop := va_Zq C n d A U H ∧ vx_L C n d A U H
theorem vx_Zq.moved {C n d : String} {A : Nat → Prop} {u U : State} {H : Heap} (hvm : u.vm.Alike U.vm) (h : vx_Zq C n d A u H) : vx_Zq C n d A U H := ⟨va_Zq.moved hvm h.1, vx_L.moved hvm h.2⟩
theorem vx_Zq.kept {C n d : String} {A : Nat → Prop} {U : State} {H H1 : Heap} (h : vx_Zq C n d A U H) (hq : ∀ a : Nat, a < H.size → ¬ A a → H1[a]? = H[a]?) : vx_Zq C n d A U H1 := ⟨va_Zq.kept h.1 hq, vx_L.kept h.2 hq⟩
theorem vx_Zq.narrow {C n d : String} {A B : Nat → Prop} {U : State} {H : Heap} (h : vx_Zq C n d A U H) (hAB : ∀ q, B q → A q) : vx_Zq C n d B U H := ⟨va_Zq.narrow h.1 hAB, vx_L.narrow h.2 hAB⟩
theorem vx_Zqof {args : Array Value} {s : State} {C n d : String} {A : Nat → Prop} (hl : (Cond.laysStatic C n d).before args s = true) (hini : (Cond.initialized C).before args s = true) (h : (Cond.isRef (.static C n d)).before args s = true) (hA : ∀ a : Nat, a < s.heap.size → ¬ A a) : vx_Zq C n d A s s.heap := by
  refine ⟨va_Zqof hl hini h hA, ?_⟩
  obtain ⟨c, k, i, f, a, cell, h1, h2, h3, h4, h5, h6, h7, h8, h9⟩ := Cond.laysStatic_spec hl
  exact ⟨c, k, i, f, a, cell, h1, h2, h3, h4, h5, h6, h7, h8, h9, hA a (Array.getElem?_eq_some_iff.mp h5).1⟩
theorem vx_isRef {C n d : String} {v : Value} {A : Nat → Prop} {s : State} {args : Array Value} (h : va_Z C n d v A s s.heap) (hv : v.isRef = true) : (Cond.isRef (.static C n d)).before args s = true := by
  obtain ⟨cf, kf, fi, f, a, cell, h1, h2, h3, h4, h5, h6, h7, -⟩ := h
  have he : (Term.static C n d).eval args s none [] s = some v := by
    simp [Term.eval, State.fieldNamed?, h1, h2, h4, h5, h6, h7]
  simp only [Cond.before, Cond.holds, Cond.value, he]
  cases v <;> simp_all [Value.isRef]
theorem vx_isRefq {C n d : String} {A : Nat → Prop} {s : State} {args : Array Value} (h : va_Zq C n d A s s.heap) : (Cond.isRef (.static C n d)).before args s = true := by
  rcases h with h | ⟨t, h⟩
  · exact vx_isRef h rfl
  · exact vx_isRef h rfl
/-- the same frame, seen from here: as if the method were called anew in this heap -/
theorem vx_rebase {T : State} (X : Stand p l e R s m args below meth c T locs cells slots) {R' : Room} (hf : R'.frames ≤ R.frames) (hl : R'.locals ≤ R.locals) (hc : cells + R'.cells ≤ R.cells) (hs : slots + R'.slots ≤ R.slots) :
    Stand p l e R' ((T.setVm s.vm).setFrames (.invoking m args :: below)) m args below meth c T [] 0 0 := by
  have htop : (T.setVm s.vm).topJava?.isSome := X.here.top
  have hF : ((T.setVm s.vm).setFrames (.invoking m args :: below)).frames = .invoking m args :: below := State.frames_setFrames _ (State.cur_lt_of_top htop)
  obtain ⟨g₀, hg0⟩ := Option.isSome_iff_exists.mp htop
  obtain ⟨r, hr⟩ := State.topJava?_eq_some.mp hg0
  have hl9 : e.platform.stackLimits (T.setVm s.vm).me = e.platform.stackLimits s.me := X.limits
  have hb9 : (T.setVm s.vm).me.stackBytes = s.me.stackBytes := X.bytes
  refine ⟨X.admits, X.cas, X.clock, hF, ?_, X.hears, X.method, X.code, X.here, X.tail, X.warmed, ?_, ?_, ?_⟩
  · have h := X.room
    have hU : ((T.setVm s.vm).setFrames (.invoking m args :: below)).localsInUse = s.localsInUse := by
      rw [State.localsInUse_invoking hF (meth := meth) (c := c) X.method X.code, State.localsInUse_invoking X.frames X.method X.code]
    simp only [State.hasRoom, Bool.and_eq_true, decide_eq_true_eq] at h ⊢
    obtain ⟨⟨⟨⟨h1, h2, h3, h4, h5, h6⟩, h7⟩, h8⟩, h9⟩ := h
    rw [X.frames, List.length_cons] at h2 h3
    have q1 := X.heapSize
    have q2 := X.used
    simp only [hF, hU, List.length_cons, State.stackLimits_setFrames, State.stackBytes_setFrames, hl9, hb9]
    refine ⟨⟨⟨⟨by omega, by omega, by omega, by omega, by omega, h6⟩, ?_⟩, ?_⟩, X.book⟩
    · show T.heap.size + R'.cells ≤ e.platform.maxCells
      omega
    · show T.slotsUsed + R'.slots ≤ e.platform.maxSlots
      omega
  · rw [State.stackLimits_setFrames]; rfl
  · rw [State.stackBytes_setFrames]; rfl
  · refine ⟨?_, Nat.le_refl _, Nat.le_refl _, ?_, ?_, fun a c9 h9 => ⟨c9, h9, rfl, rfl, fun _ _ => rfl⟩⟩
    · obtain ⟨t, ht, -⟩ := State.frames_cons hr
      show T.setVm s.vm = { ((T.setVm s.vm).setFrames (.invoking m args :: below)).setFrames (T.setVm s.vm).frames with heap := T.heap, slotsUsed := T.slotsUsed }
      rw [State.setFrames_setFrames, State.setFrames_self ht]
      rfl
    · show T.slotsUsed = T.slotsUsed + ((T.heap.toList.drop T.heap.size).map (·.slots.size)).sum
      rw [List.drop_eq_nil_of_le (Nat.le_of_eq Array.length_toList)]
      rfl
    · show ((T.heap.toList.drop T.heap.size).map (·.slots.size)).sum ≤ 0
      rw [List.drop_eq_nil_of_le (Nat.le_of_eq Array.length_toList)]
      exact Nat.le_refl _
/-- 'throw new E()': new; dup; invokespecial; athrow -/
theorem vx_throw0 {cc : ByteArray} {pc : Nat} (hexec : p.tables.exec = Jvm.exec) (hb : c.code = cc) (hl : l.stackTraces = false) {own cls : String} {names : List String} {ik ic mc ms : Nat} {A : Nat → Prop}
    (hown : s.vm.findClass own = some m.cls) (hcls : Bundle.fit cls = true) (hnames : ∀ n ∈ names, Bundle.fit n = true)
    (hk : (Cond.classLink own ik cls).before args s = true) (hini : (Cond.initialized cls).before args s = true) (hat : ∀ w ∈ vx_at0 own ic cls names, w.before args s = true)
    (hgood : ∀ w ∈ Cond.classLink own ik cls :: Cond.initialized cls :: vx_at0 own ic cls names, vx_ot w = true)
    (hU : vx_Zq Bundle.tN "UNASSIGNED_STACK" Bundle.steD A s s.heap) (hN : vx_Zq Bundle.tN "SUPPRESSED_SENTINEL" Bundle.listD A s s.heap) (hS : va_S A s.heap H locs) (hsize : ls.size = c.maxLocals)
    (d0 : decode cc pc = .ok (.new ik, 3)) (d3 : decode cc (pc + 3) = .ok (.dup, 1)) (d4 : decode cc (pc + 4) = .ok (.invokespecial ic, 3)) (d7 : decode cc (pc + 7) = .ok (.athrow, 1))
    (hout : ∀ x ∈ c.exceptionTable.toList, covers x (pc + 7) = false)
    (hRframes : names.length + 3 < R.frames) (hRlocals : (rest.map fun v => v.category).sum + (13 * (names.length + 1) + 42) ≤ R.locals) (hRcells : cells + 1 ≤ R.cells) (hRslots : slots + 6 ≤ R.slots) (hlocks : meth.locks = false)
    (hx : ∀ t : State, s.vm.Alike t.vm → H.size ≤ t.heap.size → (∀ q : Nat, q < H.size → t.heap[q]? = H[q]?) → XC cls s t)
    (hf : ∀ z ∈ locs, free z.base) (hc : cells + 1 ≤ mc) (hs : slots + 6 ≤ ms) :
    W p l e R s m args below meth c H locs cells slots (vx_MQ below Qc XC args s mc ms free) (F0 m pc ls rest) := by
  intro T hT X
  have htr : e.platform.stackTraces = false := (show e.platform.stackTraces = l.stackTraces by rw [X.admits.platform]).trans hl
  have Y := vx_rebase X (R' := { frames := R.frames, locals := R.locals, cells := 1, slots := 6 }) (Nat.le_refl _) (Nat.le_refl _) hRcells hRslots
  obtain ⟨s', hA⟩ : ∃ z, z = (T.setVm s.vm).setFrames (.invoking m args :: below) := ⟨_, rfl⟩
  rw [← hA] at Y
  have hvm : s'.vm = s.vm := by rw [hA]; rfl
  have hhp : s'.heap = H := by rw [hA]; exact hT
  have hW0 : s.WarmedH s'.vm := by rw [hvm]; exact State.WarmedH.refl s
  have hat' : ∀ w ∈ vx_at0 own ic cls names, w.before args s' = true := fun w hw => vx_ot_at hW0 hvm.symm (hgood w (List.mem_cons_of_mem _ (List.mem_cons_of_mem _ hw))) (hat w hw)
  have hk' : (Cond.classLink own ik cls).before args s' = true := vx_ot_at hW0 hvm.symm (hgood _ List.mem_cons_self) hk
  have hini' : (Cond.initialized cls).before args s' = true := vx_ot_at hW0 hvm.symm (hgood _ (List.mem_cons_of_mem _ List.mem_cons_self)) hini
  have hU' : vx_Zq Bundle.tN "UNASSIGNED_STACK" Bundle.steD A s' s'.heap := by rw [hhp]; exact vx_Zq.moved hW0.alike (hU.kept hS.2.1)
  have hN' : vx_Zq Bundle.tN "SUPPRESSED_SENTINEL" Bundle.listD A s' s'.heap := by rw [hhp]; exact vx_Zq.moved hW0.alike (hN.kept hS.2.1)
  have h : ∀ w ∈ Bundle.ownAtoms0 own ic cls names, w.before args s' = true := vx_own hat' (vx_isRefq hU'.1) (vx_isRefq hN'.1) hU'.2.word hN'.2.word
  have hown' : s'.vm.findClass own = some m.cls := by rw [hvm]; exact hown
  have hins : (Cond.instantiable cls 6).before args s' = true := h _ (by simp [Bundle.ownAtoms0])
  obtain ⟨vm₁, cX, kX, hfX, hkX, -, -, X₁, st1⟩ := Y.newCold hexec (own := own) (C := cls) (index := ik) (n := 6) hown' hk' hins hini'
    (g := F0 m pc ls rest) rfl (by rw [hb]; exact d0) (Nat.le_refl _) (Nat.le_refl _)
  generalize hT1 : (T.setVm vm₁).pushCell { cls := cX, slots := kX.instanceTypes.map defaultValue, vm := .none } = T1 at X₁ st1
  have hcat : (Value.ref T.heap.size).category = 1 := rfl
  have hcellA : T1.heap[T.heap.size]? = some (freshCell cX kX) := by rw [← hT1]; exact State.heap_pushCell_size _ _
  have d3' : decode c.code (pc + 3) = .ok (.dup, 1) := by rw [hb]; exact d3
  obtain ⟨U, hsteps, hrun, hend, hW, hsame, ce, hce, hO⟩ := X₁.ctorThrow0 hexec htr (own := own) (cls := cls) (names := names) (ic := ic) hown' hcls hnames h (fun x hx => nomatch hx) hfX hkX hcellA (by rw [hhp, hT]; exact Nat.le_refl _)
    (g := { method := m, pc := pc + 4, locals := ls, stack := .ref T.heap.size :: .ref T.heap.size :: rest, locked := none }) rfl hsize rfl rfl (rest := rest) rfl
    (by rw [hb]; exact d4) (by rw [hb]; exact d7) hout hRframes (by simp only [List.map_cons, List.sum_cons, hcat]; omega) hlocks
  obtain ⟨f1, f2⟩ := vx_frame hsame
  rw [hhp] at f1 f2
  have hWs : s.WarmedH U.vm := State.WarmedH.trans hW0 hW
  have hcl : s.vm.findClass cls = some ce.cls := by
    have h9 := hO.cls
    rw [hvm] at h9
    exact h9
  have hall : s.sameButNew ({ U with vm := s.vm } : State) locs mc ms := by
    subst hA
    obtain ⟨e1, e2⟩ := hsame
    rw [State.setFrames_setFrames] at e1
    have h2 : (T.setVm s.vm).sameButNew ({ U with vm := s.vm } : State) [] (0 + 1) (0 + 6) := ⟨e1, e2⟩
    have h3 := X.same.trans h2
    rw [List.append_nil] at h3
    exact h3.mono hc hs
  refine ⟨U, ?_, .threw T.heap.size, hrun, hend, Or.inr ⟨T.heap.size, rfl, cls, ce, locs, hx U hWs.alike f1 (fun q hq => f2 q hq (fun z hz => nomatch hz)), hce, hO.vm, hcl, hWs, hall, hf⟩⟩
  refine st1 _ ?_
  show Steps p.tables e below (T1.setTop { method := m, pc := pc + 3, locals := ls, stack := .ref T.heap.size :: rest, locked := none }) _
  jvm_step X₁.here [X₁.here.top, hexec, d3', Value.category]
  exact hsteps
/-- 'throw new E("text")': new; dup; ldc; invokespecial; athrow -/
theorem vx_throwS {cc : ByteArray} {pc : Nat} (hexec : p.tables.exec = Jvm.exec) (hb : c.code = cc) (hl : l.stackTraces = false) {own cls text : String} {names : List String} {ik is ic mc ms sa : Nat} {A : Nat → Prop}
    (hown : s.vm.findClass own = some m.cls) (hcls : Bundle.fit cls = true) (hnames : ∀ n ∈ names, Bundle.fit n = true)
    (hk : (Cond.classLink own ik cls).before args s = true) (hini : (Cond.initialized cls).before args s = true) (hstr : vk_R own is text sa s) (hat : ∀ w ∈ vx_atS own ic cls names, w.before args s = true)
    (hgood : ∀ w ∈ Cond.classLink own ik cls :: Cond.initialized cls :: vx_atS own ic cls names, vx_ot w = true)
    (hU : vx_Zq Bundle.tN "UNASSIGNED_STACK" Bundle.steD A s s.heap) (hN : vx_Zq Bundle.tN "SUPPRESSED_SENTINEL" Bundle.listD A s s.heap) (hS : va_S A s.heap H locs) (hsize : ls.size = c.maxLocals)
    (d0 : decode cc pc = .ok (.new ik, 3)) (d3 : decode cc (pc + 3) = .ok (.dup, 1)) (d4 : decode cc (pc + 4) = .ok (.ldc is, 2)) (d6 : decode cc (pc + 6) = .ok (.invokespecial ic, 3)) (d9 : decode cc (pc + 9) = .ok (.athrow, 1))
    (hout : ∀ x ∈ c.exceptionTable.toList, covers x (pc + 9) = false)
    (hRframes : names.length + 3 < R.frames) (hRlocals : (rest.map fun v => v.category).sum + (13 * (names.length + 1) + 43) ≤ R.locals) (hRcells : cells + 1 ≤ R.cells) (hRslots : slots + 6 ≤ R.slots) (hlocks : meth.locks = false)
    (hx : ∀ t : State, s.vm.Alike t.vm → H.size ≤ t.heap.size → (∀ q : Nat, q < H.size → t.heap[q]? = H[q]?) → XC cls s t)
    (hf : ∀ z ∈ locs, free z.base) (hc : cells + 1 ≤ mc) (hs : slots + 6 ≤ ms) :
    W p l e R s m args below meth c H locs cells slots (vx_MQ below Qc XC args s mc ms free) (F0 m pc ls rest) := by
  intro T hT X
  have htr : e.platform.stackTraces = false := (show e.platform.stackTraces = l.stackTraces by rw [X.admits.platform]).trans hl
  have Y := vx_rebase X (R' := { frames := R.frames, locals := R.locals, cells := 1, slots := 6 }) (Nat.le_refl _) (Nat.le_refl _) hRcells hRslots
  obtain ⟨s', hA⟩ : ∃ z, z = (T.setVm s.vm).setFrames (.invoking m args :: below) := ⟨_, rfl⟩
  rw [← hA] at Y
  have hvm : s'.vm = s.vm := by rw [hA]; rfl
  have hhp : s'.heap = H := by rw [hA]; exact hT
  have hW0 : s.WarmedH s'.vm := by rw [hvm]; exact State.WarmedH.refl s
  have hat' : ∀ w ∈ vx_atS own ic cls names, w.before args s' = true := fun w hw => vx_ot_at hW0 hvm.symm (hgood w (List.mem_cons_of_mem _ (List.mem_cons_of_mem _ hw))) (hat w hw)
  have hk' : (Cond.classLink own ik cls).before args s' = true := vx_ot_at hW0 hvm.symm (hgood _ List.mem_cons_self) hk
  have hini' : (Cond.initialized cls).before args s' = true := vx_ot_at hW0 hvm.symm (hgood _ (List.mem_cons_of_mem _ List.mem_cons_self)) hini
  have hU' : vx_Zq Bundle.tN "UNASSIGNED_STACK" Bundle.steD A s' s'.heap := by rw [hhp]; exact vx_Zq.moved hW0.alike (hU.kept hS.2.1)
  have hN' : vx_Zq Bundle.tN "SUPPRESSED_SENTINEL" Bundle.listD A s' s'.heap := by rw [hhp]; exact vx_Zq.moved hW0.alike (hN.kept hS.2.1)
  have h : ∀ w ∈ Bundle.ownAtoms own ic cls names, w.before args s' = true := vx_own hat' (vx_isRefq hU'.1) (vx_isRefq hN'.1) hU'.2.word hN'.2.word
  have hown' : s'.vm.findClass own = some m.cls := by rw [hvm]; exact hown
  have hins : (Cond.instantiable cls 6).before args s' = true := h _ (by simp [Bundle.ownAtoms])
  obtain ⟨vm₁, cX, kX, hfX, hkX, -, -, X₁, st1⟩ := Y.newCold hexec (own := own) (C := cls) (index := ik) (n := 6) hown' hk' hins hini'
    (g := F0 m pc ls rest) rfl (by rw [hb]; exact d0) (Nat.le_refl _) (Nat.le_refl _)
  generalize hT1 : (T.setVm vm₁).pushCell { cls := cX, slots := kX.instanceTypes.map defaultValue, vm := .none } = T1 at X₁ st1
  have hcat : (Value.ref T.heap.size).category = 1 := rfl
  have hcellA : T1.heap[T.heap.size]? = some (freshCell cX kX) := by rw [← hT1]; exact State.heap_pushCell_size _ _
  have d3' : decode c.code (pc + 3) = .ok (.dup, 1) := by rw [hb]; exact d3
  have d4' : decode c.code (pc + 4) = .ok (.ldc is, 2) := by rw [hb]; exact d4
  have hstr' : vk_R own is text sa s' := vk_R.warm hW0 hstr
  obtain ⟨U, hsteps, hrun, hend, hW, hsame, ce, hce, hO⟩ := X₁.ctorThrowS hexec htr (own := own) (cls := cls) (names := names) (ic := ic) hown' hcls hnames h (fun x hx => nomatch hx) hfX hkX hcellA (by rw [hhp, hT]; exact Nat.le_refl _) (msg := .ref sa) rfl
    (g := { method := m, pc := pc + 6, locals := ls, stack := .ref sa :: .ref T.heap.size :: .ref T.heap.size :: rest, locked := none }) rfl hsize rfl rfl (rest := rest) rfl
    (by rw [hb]; exact d6) (by rw [hb]; exact d9) hout hRframes (by simp only [List.map_cons, List.sum_cons, hcat]; omega) hlocks
  obtain ⟨f1, f2⟩ := vx_frame hsame
  rw [hhp] at f1 f2
  have hWs : s.WarmedH U.vm := State.WarmedH.trans hW0 hW
  have hcl : s.vm.findClass cls = some ce.cls := by
    have h9 := hO.cls
    rw [hvm] at h9
    exact h9
  have hall : s.sameButNew ({ U with vm := s.vm } : State) locs mc ms := by
    subst hA
    obtain ⟨e1, e2⟩ := hsame
    rw [State.setFrames_setFrames] at e1
    have h2 : (T.setVm s.vm).sameButNew ({ U with vm := s.vm } : State) [] (0 + 1) (0 + 6) := ⟨e1, e2⟩
    have h3 := X.same.trans h2
    rw [List.append_nil] at h3
    exact h3.mono hc hs
  refine ⟨U, ?_, .threw T.heap.size, hrun, hend, Or.inr ⟨T.heap.size, rfl, cls, ce, locs, hx U hWs.alike f1 (fun q hq => f2 q hq (fun z hz => nomatch hz)), hce, hO.vm, hcl, hWs, hall, hf⟩⟩
  refine st1 _ ?_
  show Steps p.tables e below (T1.setTop { method := m, pc := pc + 3, locals := ls, stack := .ref T.heap.size :: rest, locked := none }) _
  jvm_step X₁.here [X₁.here.top, hexec, d3', Value.category]
  exact X₁.ldcString hexec (own := own) (text := text) (index := is) (a := sa) hown' hstr'.1 hstr'.2
    (g := { method := m, pc := pc + 4, locals := ls, stack := .ref T.heap.size :: .ref T.heap.size :: rest, locked := none }) rfl d4' _ hsteps
/-- 'throw new E("text")', the text by a wide index -/
theorem vx_throwSW {cc : ByteArray} {pc : Nat} (hexec : p.tables.exec = Jvm.exec) (hb : c.code = cc) (hl : l.stackTraces = false) {own cls text : String} {names : List String} {ik is ic mc ms sa : Nat} {A : Nat → Prop}
    (hown : s.vm.findClass own = some m.cls) (hcls : Bundle.fit cls = true) (hnames : ∀ n ∈ names, Bundle.fit n = true)
    (hk : (Cond.classLink own ik cls).before args s = true) (hini : (Cond.initialized cls).before args s = true) (hstr : vk_R own is text sa s) (hat : ∀ w ∈ vx_atS own ic cls names, w.before args s = true)
    (hgood : ∀ w ∈ Cond.classLink own ik cls :: Cond.initialized cls :: vx_atS own ic cls names, vx_ot w = true)
    (hU : vx_Zq Bundle.tN "UNASSIGNED_STACK" Bundle.steD A s s.heap) (hN : vx_Zq Bundle.tN "SUPPRESSED_SENTINEL" Bundle.listD A s s.heap) (hS : va_S A s.heap H locs) (hsize : ls.size = c.maxLocals)
    (d0 : decode cc pc = .ok (.new ik, 3)) (d3 : decode cc (pc + 3) = .ok (.dup, 1)) (d4 : decode cc (pc + 4) = .ok (.ldc_w is, 3)) (d7 : decode cc (pc + 7) = .ok (.invokespecial ic, 3)) (d10 : decode cc (pc + 10) = .ok (.athrow, 1))
    (hout : ∀ x ∈ c.exceptionTable.toList, covers x (pc + 10) = false)
    (hRframes : names.length + 3 < R.frames) (hRlocals : (rest.map fun v => v.category).sum + (13 * (names.length + 1) + 43) ≤ R.locals) (hRcells : cells + 1 ≤ R.cells) (hRslots : slots + 6 ≤ R.slots) (hlocks : meth.locks = false)
    (hx : ∀ t : State, s.vm.Alike t.vm → H.size ≤ t.heap.size → (∀ q : Nat, q < H.size → t.heap[q]? = H[q]?) → XC cls s t)
    (hf : ∀ z ∈ locs, free z.base) (hc : cells + 1 ≤ mc) (hs : slots + 6 ≤ ms) :
    W p l e R s m args below meth c H locs cells slots (vx_MQ below Qc XC args s mc ms free) (F0 m pc ls rest) := by
  intro T hT X
  have htr : e.platform.stackTraces = false := (show e.platform.stackTraces = l.stackTraces by rw [X.admits.platform]).trans hl
  have Y := vx_rebase X (R' := { frames := R.frames, locals := R.locals, cells := 1, slots := 6 }) (Nat.le_refl _) (Nat.le_refl _) hRcells hRslots
  obtain ⟨s', hA⟩ : ∃ z, z = (T.setVm s.vm).setFrames (.invoking m args :: below) := ⟨_, rfl⟩
  rw [← hA] at Y
  have hvm : s'.vm = s.vm := by rw [hA]; rfl
  have hhp : s'.heap = H := by rw [hA]; exact hT
  have hW0 : s.WarmedH s'.vm := by rw [hvm]; exact State.WarmedH.refl s
  have hat' : ∀ w ∈ vx_atS own ic cls names, w.before args s' = true := fun w hw => vx_ot_at hW0 hvm.symm (hgood w (List.mem_cons_of_mem _ (List.mem_cons_of_mem _ hw))) (hat w hw)
  have hk' : (Cond.classLink own ik cls).before args s' = true := vx_ot_at hW0 hvm.symm (hgood _ List.mem_cons_self) hk
  have hini' : (Cond.initialized cls).before args s' = true := vx_ot_at hW0 hvm.symm (hgood _ (List.mem_cons_of_mem _ List.mem_cons_self)) hini
  have hU' : vx_Zq Bundle.tN "UNASSIGNED_STACK" Bundle.steD A s' s'.heap := by rw [hhp]; exact vx_Zq.moved hW0.alike (hU.kept hS.2.1)
  have hN' : vx_Zq Bundle.tN "SUPPRESSED_SENTINEL" Bundle.listD A s' s'.heap := by rw [hhp]; exact vx_Zq.moved hW0.alike (hN.kept hS.2.1)
  have h : ∀ w ∈ Bundle.ownAtoms own ic cls names, w.before args s' = true := vx_own hat' (vx_isRefq hU'.1) (vx_isRefq hN'.1) hU'.2.word hN'.2.word
  have hown' : s'.vm.findClass own = some m.cls := by rw [hvm]; exact hown
  have hins : (Cond.instantiable cls 6).before args s' = true := h _ (by simp [Bundle.ownAtoms])
  obtain ⟨vm₁, cX, kX, hfX, hkX, -, -, X₁, st1⟩ := Y.newCold hexec (own := own) (C := cls) (index := ik) (n := 6) hown' hk' hins hini'
    (g := F0 m pc ls rest) rfl (by rw [hb]; exact d0) (Nat.le_refl _) (Nat.le_refl _)
  generalize hT1 : (T.setVm vm₁).pushCell { cls := cX, slots := kX.instanceTypes.map defaultValue, vm := .none } = T1 at X₁ st1
  have hcat : (Value.ref T.heap.size).category = 1 := rfl
  have hcellA : T1.heap[T.heap.size]? = some (freshCell cX kX) := by rw [← hT1]; exact State.heap_pushCell_size _ _
  have d3' : decode c.code (pc + 3) = .ok (.dup, 1) := by rw [hb]; exact d3
  have d4' : decode c.code (pc + 4) = .ok (.ldc_w is, 3) := by rw [hb]; exact d4
  have hstr' : vk_R own is text sa s' := vk_R.warm hW0 hstr
  obtain ⟨U, hsteps, hrun, hend, hW, hsame, ce, hce, hO⟩ := X₁.ctorThrowS hexec htr (own := own) (cls := cls) (names := names) (ic := ic) hown' hcls hnames h (fun x hx => nomatch hx) hfX hkX hcellA (by rw [hhp, hT]; exact Nat.le_refl _) (msg := .ref sa) rfl
    (g := { method := m, pc := pc + 7, locals := ls, stack := .ref sa :: .ref T.heap.size :: .ref T.heap.size :: rest, locked := none }) rfl hsize rfl rfl (rest := rest) rfl
    (by rw [hb]; exact d7) (by rw [hb]; exact d10) hout hRframes (by simp only [List.map_cons, List.sum_cons, hcat]; omega) hlocks
  obtain ⟨f1, f2⟩ := vx_frame hsame
  rw [hhp] at f1 f2
  have hWs : s.WarmedH U.vm := State.WarmedH.trans hW0 hW
  have hcl : s.vm.findClass cls = some ce.cls := by
    have h9 := hO.cls
    rw [hvm] at h9
    exact h9
  have hall : s.sameButNew ({ U with vm := s.vm } : State) locs mc ms := by
    subst hA
    obtain ⟨e1, e2⟩ := hsame
    rw [State.setFrames_setFrames] at e1
    have h2 : (T.setVm s.vm).sameButNew ({ U with vm := s.vm } : State) [] (0 + 1) (0 + 6) := ⟨e1, e2⟩
    have h3 := X.same.trans h2
    rw [List.append_nil] at h3
    exact h3.mono hc hs
  refine ⟨U, ?_, .threw T.heap.size, hrun, hend, Or.inr ⟨T.heap.size, rfl, cls, ce, locs, hx U hWs.alike f1 (fun q hq => f2 q hq (fun z hz => nomatch hz)), hce, hO.vm, hcl, hWs, hall, hf⟩⟩
  refine st1 _ ?_
  show Steps p.tables e below (T1.setTop { method := m, pc := pc + 3, locals := ls, stack := .ref T.heap.size :: rest, locked := none }) _
  jvm_step X₁.here [X₁.here.top, hexec, d3', Value.category]
  exact X₁.ldcStringW hexec (own := own) (text := text) (index := is) (a := sa) hown' hstr'.1 hstr'.2
    (g := { method := m, pc := pc + 4, locals := ls, stack := .ref T.heap.size :: .ref T.heap.size :: rest, locked := none }) rfl d4' _ hsteps
end Ends
section Bodies
variable {l : Launch}
theorem vx_ofW {y : MethodName} {ws ws' : List Cond} {rm : Room} {Pc : Array Value → State → Prop} {Qc : Array Value → State → Outcome → State → Prop} {XC : String → State → State → Prop} {mc ms : Nat} {free : Addr → Prop} {cc : ByteArray} {maxL : Nat} {ret : Option FieldType}
    (hy : plainName y.cls = true) (hw : ws = Cond.code y cc maxL ret :: ws')
    (body : ∀ p e s m args below meth c s₁, BodyLoose p l y (headSpec ws rm) cc maxL ret e s m args below meth c s₁ → c.maxLocals = maxL → (∀ x ∈ c.exceptionTable.toList, False) → Pc args s →
      W p l e (headSpec ws rm).room s m args below meth c s.heap [] 0 0 (vx_MQ below Qc XC args s mc ms free) (entryFrame m args maxL)) : vx_Met l y ws rm Pc Qc XC mc ms free := by
  refine MetFree.of_bodyS (code := cc) (maxLocals := maxL) (ret := ret) hy ?_ ?_
  · intro args s m h hn
    obtain ⟨meth, c, h1, h2, h3, h4, h5, h6, -, -⟩ := Cond.code_spec hn (atoms_spec (ws := ws) h _ (by rw [hw]; exact List.mem_cons_self))
    exact ⟨meth, c, h1, h2, h3, h4, h5, h6⟩
  · intro p e s m args below meth c s₁ B hml hP _
    have hh0 : s₁.heap = s.heap := by rw [B.state]; rfl
    have ht : ∀ x ∈ c.exceptionTable.toList, False := by
      obtain ⟨meth9, c9, h1, h2, -, -, -, -, h7, -⟩ := Cond.code_spec B.named (atoms_spec (ws := ws) B.pre _ (by rw [hw]; exact List.mem_cons_self))
      cases Option.some.inj (h1.symm.trans B.method)
      cases Option.some.inj (h2.symm.trans (Stand.of_body B).code)
      intro x hx
      rw [Array.isEmpty_iff.mp h7] at hx
      cases hx
    obtain ⟨t, a1, o, b1, b2, b3⟩ := body p e s m args below meth c s₁ B hml ht hP s₁ hh0 (Stand.of_body B)
    exact ⟨t, o, a1, b1, b2, b3⟩
/-- the table of a body with handlers -/
theorem vx_table {p : Program} {x y : MethodName} {S : Spec} {cc bytes : ByteArray} {maxL maxL' : Nat} {ret ret' : Option FieldType} {e : Env} {s s₁ : State} {m : MethodId} {args : Array Value} {below : List Frame} {meth : Method} {c : Code} {hh : List (Nat × Nat × Nat × Nat)}
    (B : BodyLoose p l y S cc maxL ret e s m args below meth c s₁) (h : (Cond.codeWith y bytes maxL' ret' hh).before args s = true) : c.exceptionTable.toList = tableOf hh := by
  obtain ⟨m9, meth9, c9, hn9, h1, h2, -, -, h6, -⟩ := Cond.codeWith_spec h
  cases Option.some.inj (hn9.symm.trans B.named)
  cases Option.some.inj (h1.symm.trans B.method)
  cases Option.some.inj (h2.symm.trans (Stand.of_body B).code)
  rw [← h6, table_eq]
end Bodies
end VXA
/-! ===== END ===== -/
/-! ===== BEGIN a static call of a method with an exception table ===== -/
section VXS
variable {p : Program} {l : Launch} {e : Env} {R : Room} {s : State} {m : MethodId} {args : Array Value} {below : List Frame} {meth : Method} {c : Code} {T : State} {H : Heap} {locs : List Loc} {cells slots : Nat}
abbrev vx_CSW (R : Room) (s : State) (args : Array Value) (own : String) (index : Nat) (y : MethodName) (bytes : ByteArray) (maxL : Nat) (ret : Option FieldType) (hh : List (Nat × Nat × Nat × Nat)) (ws : List Cond) (rm : Room) (mc ms n : Nat) : Prop :=
  (rm.cells = mc ∧ rm.slots = ms ∧ rm.frames + 1 ≤ R.frames ∧ 8 + (maxL + 11) + rm.locals ≤ R.locals ∧ (∀ w ∈ ws, ∀ (a' : Array Value) (U : State), s.WarmedH U.vm → w.before a' U = true) ∧ Cond.codeWith y bytes maxL ret hh ∈ ws) ∧
  (Cond.codeWith y bytes maxL ret hh).before args s = true ∧ (Cond.initialized y.cls).before args s = true ∧ (y.cls ≠ "java/lang/invoke/MethodHandle" ∧ y.cls ≠ "java/lang/invoke/VarHandle") ∧
  (∀ sig, parseMethodDescriptor y.desc = some sig → n = sig.parameters.length) ∧ (Cond.methodLink own index y).before args s = true ∧ (Cond.static y).before args s = true
theorem vx_cwSW {own : String} {index maxL mc ms : Nat} {y : MethodName} {bytes : ByteArray} {ret : Option FieldType} {hh : List (Nat × Nat × Nat × Nat)} {Ts ws ws' : List Cond} {rm : Room} (n : Nat) (ht : ∀ w ∈ Ts, w.before args s = true) (hT : GoodIn Ts (va_wsS own index y ws)) (hw : ws = Cond.codeWith y bytes maxL ret hh :: ws') (hrc : rm.cells = mc) (hrs : rm.slots = ms)
    (hd : y.cls ≠ "java/lang/invoke/MethodHandle" ∧ y.cls ≠ "java/lang/invoke/VarHandle" ∧ (parseMethodDescriptor y.desc).map (fun d => d.parameters.length) = some n) (hR : rm.frames + 1 ≤ R.frames ∧ 8 + (maxL + 11) + rm.locals ≤ R.locals) :
    vx_CSW R s args own index y bytes maxL ret hh ws rm mc ms n := by
  have ok : ∀ w ∈ va_wsS own index y ws, w.before args s = true := fun w h => ht w (hT w h).1
  have hG : GoodIn Ts ws := fun w h => hT w (by unfold va_wsS; exact List.mem_append_right _ h)
  have hc : Cond.codeWith y bytes maxL ret hh ∈ ws := by rw [hw]; exact List.mem_cons_self
  refine ⟨⟨hrc, hrs, hR.1, hR.2, pay_in ht hG, hc⟩, ht _ (hG _ hc).1, ok _ (by simp [va_wsS]), ⟨hd.1, hd.2.1⟩, fun sig h => ?_, ok _ (by simp [va_wsS]), ok _ (by simp [va_wsS])⟩
  have h2 := hd.2.2
  rw [h] at h2
  exact (Option.some.inj h2).symm
theorem vx_callSW (X : Stand p l e R s m args below meth c T locs cells slots) (hexec : p.tables.exec = Jvm.exec) {own : String} {index : Nat} {y : MethodName} {bytes : ByteArray} {maxL : Nat} {ret : Option FieldType} {hh : List (Nat × Nat × Nat × Nat)}
    (hown : s.vm.findClass own = some m.cls) (hlink : (Cond.methodLink own index y).before args s = true) (hstat : (Cond.static y).before args s = true) (hinit : (Cond.initialized y.cls).before args s = true)
    (hcode : (Cond.codeWith y bytes maxL ret hh).before args s = true) (hy : y.cls ≠ "java/lang/invoke/MethodHandle" ∧ y.cls ≠ "java/lang/invoke/VarHandle")
    {W9 : Nat} {Pre : Pt → Array Value → Prop} {Post : Pt → Array Value → Option Value → Pt → Prop} (hK : Back l R p e below s args y 3 W9 Pre Post)
    {g : JFrame} (hg : g.method = m) (hsize : g.locals.size = c.maxLocals) {argsL rest : List Value} (hlen : ∀ sig, parseMethodDescriptor y.desc = some sig → argsL.length = sig.parameters.length)
    (hstack : g.stack = argsL.reverse ++ rest) (hW : 2 * g.monitorRoom + (rest.map fun v => v.category).sum ≤ W9) (hdg : decode c.code g.pc = .ok (.invokestatic index, 3))
    (hpre : ∀ vm₁, s.WarmedH vm₁ → Pre ⟨T.setVm vm₁, locs, cells, slots⟩ argsL.toArray) :
    ∃ (v : Option Value) (vm₁ : Vm) (B : Pt), s.WarmedH vm₁ ∧ Stand p l e R s m args below meth c B.U B.locs B.cells B.slots ∧ Post ⟨T.setVm vm₁, locs, cells, slots⟩ argsL.toArray v B ∧
      ∀ target, Steps p.tables e below (B.U.setTop { g with pc := g.pc + 3, stack := v.toList ++ rest }) target → Steps p.tables e below (T.setTop g) target := by
  obtain ⟨mk, methM, cM, hnamed, hmethM, -, -, -, -, -, -, hsigM⟩ := Cond.codeWith_spec hcode
  have hstatic : methM.isStatic = true := Cond.static_spec hnamed hmethM hstat
  obtain ⟨kP, hkP, -⟩ := className_of_methodNamed hnamed
  have hinitP : kP.init = .initialized := Cond.initialized_spec (findClass_of_methodNamed hnamed) hkP hinit
  obtain ⟨vm₁, X₁, hstep₁⟩ := X.invokestatic hexec hown hlink hnamed hmethM hstatic hkP hinitP hy (g := g) hg (argsL := argsL) (rest := rest) (hlen _ hsigM) hstack hdg
  obtain ⟨v, B, X', hpost, hsteps⟩ := hK m meth c ⟨T.setVm vm₁, locs, cells, slots⟩ { g with stack := rest } (.invokestatic index) mk argsL.toArray X₁ hg hsize hdg hW (X₁.named hnamed) (hpre vm₁ X₁.warmed)
  exact ⟨v, vm₁, B, X₁.warmed, X', hpost, fun target h => hstep₁ _ fun acts => by rw [doInvoke_state]; exact hsteps.trans h⟩
theorem vx_runSW {y : MethodName} {bytes cc : ByteArray} {maxL nL mc ms n index : Nat} {ret : Option FieldType} {hh : List (Nat × Nat × Nat × Nat)} {ws : List Cond} {rm : Room} {Pc : Array Value → State → Prop} {Qc : Array Value → State → Outcome → State → Prop} {free : Addr → Prop} {Ts : List Cond} {own : String} {As rest : List Value} {g : JFrame}
    (S : CallFix p m c cc nL s args Ts own) (hM : Met l y ws rm Pc Qc mc ms free) (cw : vx_CSW R s args own index y bytes maxL ret hh ws rm mc ms n) (hp : PreS s H Pc As)
    (hg : g.method = m) (hn : As.length = n) (hsize : g.locals.size = nL) (hstack : g.stack = As.reverse ++ rest) (hW : 2 * g.monitorRoom + (rest.map fun v => v.category).sum ≤ 8) (hdg : decode cc g.pc = .ok (.invokestatic index, 3)) (hf : cells + mc ≤ R.cells ∧ slots + ms ≤ R.slots) :
    va_Run p l e R s m args below meth c H locs cells slots mc ms g rest (Qc As.toArray) (free) := by
  obtain ⟨⟨hrc, hrs, hfr, hlo, hws, hcw⟩, hcode, hini, hy, hlen, hl, hstt⟩ := cw
  have hK : Back l R p e below s args y 3 8 (PreOf R mc ms Pc) (PostOf Qc mc ms free) := va_backW (hh := hh) (bytes := bytes) (maxL := maxL) (ret := ret) hM hp.1 hrc hrs hfr hlo hws hcw (fun a' U hW => word_at hW (Or.inl (by first | rfl | simp [Cond.onTables, Cond.keeps, Cond.steady])) hini)
  obtain ⟨hx, hb, hml, ho, -⟩ := S
  intro T hT X
  obtain ⟨v, vm₁, ⟨U', l2, c2, s2⟩, hW₁, X', ⟨g', mk, t, L, e1, e2, hq, h1, hL, h2, h3⟩, st⟩ := vx_callSW X hx (hh := hh) (bytes := bytes) (maxL := maxL) (ret := ret) ho hl hstt hini hcode hy hK hg (hsize.trans hml.symm) (argsL := As) (rest := rest) (fun sig h => hn.trans (hlen sig h)) hstack hW (by rw [hb]; exact hdg)
    (fun vm₁ hW₁ => ⟨hf.1, hf.2, hp.2 (T.setVm vm₁) hT hW₁⟩)
  dsimp only [Pt.U, Pt.locs, Pt.cells, Pt.slots] at X' e1 e2 h1 h2 h3 st
  subst h1; subst h2; subst h3
  exact ⟨v, (T.setVm vm₁).calling g' mk As.toArray, t, U', L, hT, X', hL, e1, e2, hq, st⟩
/-- not caught here, past rows that name other classes: it goes on to the caller -/
theorem vx_outP {p : Program} {l : Launch} {e : Env} {R : Room} {s : State} {m : MethodId} {args : Array Value} {below : List Frame} {meth : Method} {c : Code} {H : Heap} {locs : List Loc} {cells slots : Nat} {free : Addr → Prop} {ls : Array Slot} {rest : List Value} {Qc : Array Value → State → Outcome → State → Prop} {XC : String → State → State → Prop}
    {pc : Nat} {own E : String} {ce : Cell} {q : Addr} {mc ms : Nat} (hown : s.vm.findClass own = some m.cls) (hlocks : meth.locks = false)
    (hpass : ∀ z ∈ c.exceptionTable.toList, covers z pc = false ∨ (z.catchType ≠ 0 ∧ ∃ nm : String, (Cond.classLink own z.catchType nm).before args s = true ∧ va_Nc E nm s)) (hcell : H[q]? = some ce) (hv : ce.vm = .none) (hcl : s.vm.findClass E = some ce.cls)
    (hx : ∀ t : State, t.heap = H → s.vm.Alike t.vm → XC E s t) (hf : ∀ z ∈ locs, free z.base) (hc : cells ≤ mc) (hs : slots ≤ ms) :
    vx_W p l e R s m args below meth c H locs cells slots (vx_MQ below Qc XC args s mc ms free) (F0 m pc ls rest) q := by
  intro T hT X
  have hpl : e.platform.magicAccessors = ({} : Platform).magicAccessors := by rw [X.admits.platform]
  obtain ⟨vm', hW', X', st⟩ := X.outThrough hlocks q (g := F0 m pc ls rest) rfl rfl rfl (cell := ce) (by rw [hT]; exact hcell) (by rw [hv]; rfl)
    (by obtain ⟨k9, h9, -⟩ := Vm.findClass_spec hcl; exact ⟨k9, h9⟩) (fun z hz => by
      rcases hpass z hz with h | ⟨hz0, nm, hl1, hn1⟩
      · exact Or.inl h
      · obtain ⟨c6, hc6, hcl6⟩ := Cond.classLink_spec hown hl1 e.platform hpl
        obtain ⟨a8, b8, h1, h2, h3⟩ := hn1
        cases Option.some.inj (h1.symm.trans hcl)
        cases Option.some.inj (h2.symm.trans hc6)
        exact Or.inr ⟨hz0, _, hcl6, h3⟩)
  obtain ⟨g₀, hfr⟩ := X'.frames_eq
  have hcell9 : ((T.setVm vm').setFrames (.throwing q :: below)).heap[q]? = some ce := by
    show T.heap[q]? = some ce
    rw [hT]; exact hcell
  have hend : Ended ((T.setVm vm').setFrames (.throwing q :: below)) below (.threw q) := State.frames_setFrames _ (State.cur_lt_of_frames hfr)
  refine ⟨(T.setVm vm').setFrames (.throwing q :: below), ?_, .threw q, X'.here.running, hend, Or.inr ⟨q, rfl, E, ce, locs, hx _ hT (X'.ends _).1.alike, hcell9, hv, hcl, (X'.ends _).1, (X'.ends _).2.mono hc hs, hf⟩⟩
  rw [X.pushThrowing_eq]
  exact st
/-- a thing of a world lies in the heap -/
theorem vx_lt {D : va_G} {cl : List vw_C} {ws : va_W} {H1 : Heap} (h : va_P D cl ws H1) {k : Nat} {q : Nat × va_E} (hk : ws[k]? = some q) : q.1 < H1.size := (h k q hk).lt
end VXS
/-! ===== END ===== -/
/-! ===== BEGIN methods with a table of their own: called by a name, returning or throwing ===== -/
section VXH
/-! vx_backW, vx_callVX, vx_callSX, vx_callVW, vx_runVW, vx_runVX, vx_runSX, vx_ofWH follow the same proofs as their sisters above (Free/Laws.lean, Shelf42/LK1.lean); vx_outP calls Shelf42/NT130.lean (outThrough). -/
section
variable {l : Launch} {R : Room} {p : Program} {e : Env} {below : List Frame} {s : State} {sargs : Array Value} {y : MethodName} {len W9 : Nat}
theorem vx_backW {ws : List Cond} {rm : Room} {Pc : Array Value → State → Prop} {Qc : Array Value → State → Outcome → State → Prop} {XC : String → State → State → Prop} {mc ms : Nat} {free : Addr → Prop} {bytes : ByteArray} {maxL : Nat} {ret : Option FieldType} {hh : List (Nat × Nat × Nat × Nat)}
    (hM : vx_Met l y ws rm Pc Qc XC mc ms free) (hblind : FrameBlind Pc) (hrc : rm.cells = mc) (hrs : rm.slots = ms)
    (hframes : rm.frames + 1 ≤ R.frames) (hlocals : W9 + (maxL + 11) + rm.locals ≤ R.locals)
    (hws : ∀ w ∈ ws, ∀ a' U, s.WarmedH U.vm → w.before a' U = true) (hcode : Cond.codeWith y bytes maxL ret hh ∈ ws) (hinit : ∀ a' U, s.WarmedH U.vm → (Cond.initialized y.cls).before a' U = true) :
    vx_Back l R p e below s sargs y len W9 (PreOf R mc ms Pc) (PostOf Qc mc ms free) (vx_Post XC mc ms free) := by
  intro m meth c A g ig mk a X hg hsize hdg hW hn hp
  have h1 : (headSpec ws rm).pre.before a A.U = true := atoms_intro fun w hw => hws w hw _ _ X.warmed
  have h2 : (Cond.codeWith y bytes maxL ret hh).before a A.U = true := hws _ hcode _ _ X.warmed
  have h3 : (Cond.initialized y.cls).before a A.U = true := hinit _ _ X.warmed
  have h4 : A.cells + (headSpec ws rm).room.cells ≤ R.cells := by rw [show (headSpec ws rm).room.cells = mc from hrc]; exact hp.1
  have h5 : A.slots + (headSpec ws rm).room.slots ≤ R.slots := by rw [show (headSpec ws rm).room.slots = ms from hrs]; exact hp.2.1
  have hPc : Pc a (A.U.calling g mk a) := hblind _ _ _ _ hp.2.2
  obtain ⟨U, Ls, c0, s0⟩ := A
  dsimp only [Pt.U, Pt.locs, Pt.cells, Pt.slots] at h1 h2 h3 h4 h5 X hn hPc ⊢
  obtain ⟨m9, methY, cY, hn9, hmY, hcY, -, hlY, -⟩ := Cond.codeWith_spec h2
  cases Option.some.inj (hn9.symm.trans hn)
  obtain ⟨kY, hkY, -⟩ := className_of_methodNamed hn
  have hinitY : kY.init = .initialized := Cond.initialized_spec (findClass_of_methodNamed hn) hkY h3
  have h : At U g.method c below := by rw [hg]; exact X.here
  have hlocals9 : W9 + (maxL + 11) + (headSpec ws rm).room.locals ≤ R.locals := hlocals
  have happ : (headSpec ws rm).appliesLoose y e.platform (U.calling g mk a) = true :=
    Spec.appliesLoose_calling (g := g) h hdg hn hkY hinitY
      (X.room_calling (g := g) (R' := (headSpec ws rm).room) hsize hmY hcY hframes (by rw [hlY]; omega) h4 h5) h1
  obtain ⟨mid, hmid⟩ := h.above
  have hfr : (U.setTop g).frames = (.java g :: mid) ++ below := by rw [State.frames_setTop' g h.top, hmid]; rfl
  obtain ⟨o, s₂, hsteps, -, hend, hq⟩ := Steps.callFree hM p X.admits X.cas X.clock (acts := []) hfr happ hPc trivial
  have hq' : vx_Q Qc XC mc ms free a (U.calling g mk a) o s₂ := hq
  rw [State.frames_setTop' g h.top] at hend
  obtain ⟨g₀, hg0⟩ := Option.isSome_iff_exists.mp h.top
  obtain ⟨r, hr⟩ := State.topJava?_eq_some.mp hg0
  have hr' : (({ U with heap := s₂.heap, slotsUsed := s₂.slotsUsed } : State).setVm s₂.vm).frames = .java g₀ :: r := hr
  rcases hq' with ⟨hqc, L, hfe, hL⟩ | ⟨q, rfl, E, ce, L, hx, hce, hcv, hcl, hW₂, hsm, hL⟩
  · obtain ⟨⟨v, rfl⟩, hW₂, e2, q2, q3, q4, q5, q6⟩ := id hfe
    have e3 : s₂ = ({ (U.calling g mk a).setFrames s₂.frames with heap := s₂.heap, slotsUsed := s₂.slotsUsed } : State).setVm s₂.vm := by
      have : s₂ = ({ s₂ with vm := (U.calling g mk a).vm } : State).setVm s₂.vm := rfl
      rw [e2] at this
      exact this
    obtain ⟨c₂, i₂, len₂, hc₂, hd₂, hf₂⟩ := hend
    have hW' : U.WarmedH s₂.vm := hW₂
    have hcc : c₂ = c := by
      have h1 : s₂.code? g.method = U.code? g.method := by
        rw [State.code?_eq, State.code?_eq, hW'.alike.method?]
      exact Option.some.inj (hc₂.symm.trans (h1.trans h.code))
    subst hcc
    have hlen : len₂ = len := by rw [hdg] at hd₂; cases hd₂; rfl
    subst hlen
    have hs₂ : s₂ = (({ U with heap := s₂.heap, slotsUsed := s₂.slotsUsed } : State).setVm s₂.vm).setTop { g with pc := g.pc + len₂, stack := v.toList ++ g.stack } := by
      refine e3.trans ?_
      rw [hf₂, State.calling_eq h.top, State.setFrames_setFrames, State.setTop_of_frames _ hr', hr]
      rfl
    have hsame : U.sameButNew ({ U with heap := s₂.heap, slotsUsed := s₂.slotsUsed } : State) L mc ms := by
      refine ⟨?_, q2, q3, q4, q5, q6⟩
      obtain ⟨t, ht, -⟩ := State.frames_cons hr
      show ({ U with heap := s₂.heap, slotsUsed := s₂.slotsUsed } : State) = { U.setFrames U.frames with heap := s₂.heap, slotsUsed := s₂.slotsUsed }
      rw [State.setFrames_self ht]
    subst hg
    refine Or.inl ⟨v, ⟨(({ U with heap := s₂.heap, slotsUsed := s₂.slotsUsed } : State).setVm s₂.vm), Ls ++ L, c0 + mc, s0 + ms⟩,
      ⟨X.admits, X.cas, X.clock, X.frames, X.room, X.hears, X.method, X.code, (X.here.setHeapUsed s₂.heap s₂.slotsUsed).setVm hW'.alike, X.tail, State.WarmedH.trans X.warmed hW', X.limits, X.bytes, X.same.trans (hsame.setVm s.vm)⟩,
      ⟨g, mk, s₂, L, rfl, rfl, hqc, rfl, hL, rfl, rfl⟩, ?_⟩
    show Steps p.tables e below _ ((({ U with heap := s₂.heap, slotsUsed := s₂.slotsUsed } : State).setVm s₂.vm).setTop { g with pc := g.pc + len₂, stack := v.toList ++ g.stack })
    rw [← hs₂]
    exact hsteps
  · obtain ⟨e2, q2, q3, q4, q5, q6⟩ := id hsm
    have e3 : s₂ = ({ (U.calling g mk a).setFrames s₂.frames with heap := s₂.heap, slotsUsed := s₂.slotsUsed } : State).setVm s₂.vm := by
      have : s₂ = ({ s₂ with vm := (U.calling g mk a).vm } : State).setVm s₂.vm := rfl
      rw [e2] at this
      exact this
    have hf₂ : s₂.frames = .throwing q :: .java g :: U.frames.tail := hend
    have hW' : U.WarmedH s₂.vm := hW₂
    have hs₂ : s₂ = ((({ U with heap := s₂.heap, slotsUsed := s₂.slotsUsed } : State).setVm s₂.vm).setTop g).pushFrame (.throwing q) := by
      refine e3.trans ?_
      rw [hf₂, State.calling_eq h.top, State.setFrames_setFrames, State.pushFrame, State.frames_setTop _ hr', State.setTop_of_frames _ hr', State.setFrames_setFrames, hr]
      rfl
    have hsame : U.sameButNew ({ U with heap := s₂.heap, slotsUsed := s₂.slotsUsed } : State) L mc ms := by
      refine ⟨?_, q2, q3, q4, q5, q6⟩
      obtain ⟨t, ht, -⟩ := State.frames_cons hr
      show ({ U with heap := s₂.heap, slotsUsed := s₂.slotsUsed } : State) = { U.setFrames U.frames with heap := s₂.heap, slotsUsed := s₂.slotsUsed }
      rw [State.setFrames_self ht]
    subst hg
    refine Or.inr ⟨q, ⟨(({ U with heap := s₂.heap, slotsUsed := s₂.slotsUsed } : State).setVm s₂.vm), Ls ++ L, c0 + mc, s0 + ms⟩,
      ⟨X.admits, X.cas, X.clock, X.frames, X.room, X.hears, X.method, X.code, (X.here.setHeapUsed s₂.heap s₂.slotsUsed).setVm hW'.alike, X.tail, State.WarmedH.trans X.warmed hW', X.limits, X.bytes, X.same.trans (hsame.setVm s.vm)⟩,
      ⟨g, mk, s₂, L, E, ce, rfl, rfl, hx, hce, hcv, hcl, rfl, hL, rfl, rfl⟩, ?_⟩
    show Steps p.tables e below _ (((({ U with heap := s₂.heap, slotsUsed := s₂.slotsUsed } : State).setVm s₂.vm).setTop g).pushFrame (.throwing q))
    rw [← hs₂]
    exact hsteps
end
variable {p : Program} {l : Launch} {e : Env} {R : Room} {s : State} {m : MethodId} {args : Array Value} {below : List Frame} {meth : Method} {c : Code} {T : State} {H : Heap} {locs : List Loc} {cells slots : Nat}
theorem vx_callVX (X : Stand p l e R s m args below meth c T locs cells slots) (hexec : p.tables.exec = Jvm.exec) {own C : String} {index : Nat} {y : MethodName} {bytes : ByteArray} {maxL : Nat} {ret : Option FieldType} {hh : List (Nat × Nat × Nat × Nat)}
    (hown : s.vm.findClass own = some m.cls) (hlink : (Cond.methodLink own index y).before args s = true) (hinst : (Cond.instanceMethod y).before args s = true) (hsel : (Cond.selects C y y).before args s = true)
    (hcode : (Cond.codeWith y bytes maxL ret hh).before args s = true) (hy : y.cls ≠ "java/lang/invoke/MethodHandle" ∧ y.cls ≠ "java/lang/invoke/VarHandle")
    {W9 : Nat} {Pre : Pt → Array Value → Prop} {Post : Pt → Array Value → Option Value → Pt → Prop} {PostX : Pt → Array Value → Addr → Pt → Prop} (hK : vx_Back l R p e below s args y 3 W9 Pre Post PostX)
    {b : Addr} {cellB : Cell} (hcell : T.heap[b]? = some cellB) (hobj : cellB.vm.isStatics = false) (hcls : s.vm.findClass C = some cellB.cls)
    {g : JFrame} (hg : g.method = m) (hsize : g.locals.size = c.maxLocals) {argsL rest : List Value} (hlen : ∀ sig, parseMethodDescriptor y.desc = some sig → argsL.length = sig.parameters.length)
    (hstack : g.stack = argsL.reverse ++ .ref b :: rest) (hW : 2 * g.monitorRoom + (rest.map fun v => v.category).sum ≤ W9) (hdg : decode c.code g.pc = .ok (.invokevirtual index, 3))
    (hpre : ∀ vm₁, s.WarmedH vm₁ → Pre ⟨T.setVm vm₁, locs, cells, slots⟩ (Value.ref b :: argsL).toArray) :
    (∃ (v : Option Value) (vm₁ : Vm) (B : Pt), s.WarmedH vm₁ ∧ Stand p l e R s m args below meth c B.U B.locs B.cells B.slots ∧ Post ⟨T.setVm vm₁, locs, cells, slots⟩ (Value.ref b :: argsL).toArray v B ∧
      ∀ target, Steps p.tables e below (B.U.setTop { g with pc := g.pc + 3, stack := v.toList ++ rest }) target → Steps p.tables e below (T.setTop g) target) ∨
    (∃ (q : Addr) (vm₁ : Vm) (B : Pt), s.WarmedH vm₁ ∧ Stand p l e R s m args below meth c B.U B.locs B.cells B.slots ∧ PostX ⟨T.setVm vm₁, locs, cells, slots⟩ (Value.ref b :: argsL).toArray q B ∧
      Steps p.tables e below (T.setTop g) ((B.U.setTop { g with stack := rest }).pushFrame (.throwing q))) := by
  obtain ⟨mk, methM, hnamed, hmethM, hstM, habM⟩ := Cond.instanceMethod_spec hinst
  obtain ⟨m8, methM', cM, hn8, hmethM', -, -, -, -, -, -, hsigM⟩ := Cond.codeWith_spec hcode
  cases Option.some.inj (hn8.symm.trans hnamed)
  cases hmethM.symm.trans hmethM'
  obtain ⟨c2, r2, m2, q1, q2, q3, q4, kP, hkP, hkPi⟩ := Cond.selects_spec hsel
  cases hcls.symm.trans q1
  cases (State.methodFound?_of_named hnamed hy).symm.trans q2
  cases hnamed.symm.trans q3
  have hselP : selectMethod e.platform s.vm cellB.cls mk = .method mk := by rw [Launch.admits_selectMethod X.admits]; exact q4
  obtain ⟨vm₁, X₁, hstep₁⟩ := X.invokevirtual hexec hown hlink hnamed hmethM hstM hkP hkPi hy (a := b) (cell := cellB) hcell
    (fun z h => by rw [h] at hobj; cases hobj) hselP hmethM habM hkP hkPi (g := g) hg (argsL := argsL) (rest := rest) (hlen _ hsigM) hstack hdg
  rcases hK m meth c ⟨T.setVm vm₁, locs, cells, slots⟩ { g with stack := rest } (.invokevirtual index) mk (Value.ref b :: argsL).toArray X₁ hg hsize hdg hW (X₁.named hnamed) (hpre vm₁ X₁.warmed) with ⟨v, B, X', hpost, hsteps⟩ | ⟨q, B, X', hpost, hsteps⟩
  · exact Or.inl ⟨v, vm₁, B, X₁.warmed, X', hpost, fun target h => hstep₁ _ fun acts => by rw [doInvoke_state]; exact hsteps.trans h⟩
  · exact Or.inr ⟨q, vm₁, B, X₁.warmed, X', hpost, hstep₁ _ fun acts => by rw [doInvoke_state]; exact hsteps⟩
theorem vx_callSX (X : Stand p l e R s m args below meth c T locs cells slots) (hexec : p.tables.exec = Jvm.exec) {own : String} {index : Nat} {y : MethodName} {bytes : ByteArray} {maxL : Nat} {ret : Option FieldType} {hh : List (Nat × Nat × Nat × Nat)}
    (hown : s.vm.findClass own = some m.cls) (hlink : (Cond.methodLink own index y).before args s = true) (hstat : (Cond.static y).before args s = true) (hinit : (Cond.initialized y.cls).before args s = true)
    (hcode : (Cond.codeWith y bytes maxL ret hh).before args s = true) (hy : y.cls ≠ "java/lang/invoke/MethodHandle" ∧ y.cls ≠ "java/lang/invoke/VarHandle")
    {W9 : Nat} {Pre : Pt → Array Value → Prop} {Post : Pt → Array Value → Option Value → Pt → Prop} {PostX : Pt → Array Value → Addr → Pt → Prop} (hK : vx_Back l R p e below s args y 3 W9 Pre Post PostX)
    {g : JFrame} (hg : g.method = m) (hsize : g.locals.size = c.maxLocals) {argsL rest : List Value} (hlen : ∀ sig, parseMethodDescriptor y.desc = some sig → argsL.length = sig.parameters.length)
    (hstack : g.stack = argsL.reverse ++ rest) (hW : 2 * g.monitorRoom + (rest.map fun v => v.category).sum ≤ W9) (hdg : decode c.code g.pc = .ok (.invokestatic index, 3))
    (hpre : ∀ vm₁, s.WarmedH vm₁ → Pre ⟨T.setVm vm₁, locs, cells, slots⟩ argsL.toArray) :
    (∃ (v : Option Value) (vm₁ : Vm) (B : Pt), s.WarmedH vm₁ ∧ Stand p l e R s m args below meth c B.U B.locs B.cells B.slots ∧ Post ⟨T.setVm vm₁, locs, cells, slots⟩ argsL.toArray v B ∧
      ∀ target, Steps p.tables e below (B.U.setTop { g with pc := g.pc + 3, stack := v.toList ++ rest }) target → Steps p.tables e below (T.setTop g) target) ∨
    (∃ (q : Addr) (vm₁ : Vm) (B : Pt), s.WarmedH vm₁ ∧ Stand p l e R s m args below meth c B.U B.locs B.cells B.slots ∧ PostX ⟨T.setVm vm₁, locs, cells, slots⟩ argsL.toArray q B ∧
      Steps p.tables e below (T.setTop g) ((B.U.setTop { g with stack := rest }).pushFrame (.throwing q))) := by
  obtain ⟨mk, methM, cM, hnamed, hmethM, -, -, -, -, -, -, hsigM⟩ := Cond.codeWith_spec hcode
  have hstatic : methM.isStatic = true := Cond.static_spec hnamed hmethM hstat
  obtain ⟨kP, hkP, -⟩ := className_of_methodNamed hnamed
  have hinitP : kP.init = .initialized := Cond.initialized_spec (findClass_of_methodNamed hnamed) hkP hinit
  obtain ⟨vm₁, X₁, hstep₁⟩ := X.invokestatic hexec hown hlink hnamed hmethM hstatic hkP hinitP hy (g := g) hg (argsL := argsL) (rest := rest) (hlen _ hsigM) hstack hdg
  rcases hK m meth c ⟨T.setVm vm₁, locs, cells, slots⟩ { g with stack := rest } (.invokestatic index) mk argsL.toArray X₁ hg hsize hdg hW (X₁.named hnamed) (hpre vm₁ X₁.warmed) with ⟨v, B, X', hpost, hsteps⟩ | ⟨q, B, X', hpost, hsteps⟩
  · exact Or.inl ⟨v, vm₁, B, X₁.warmed, X', hpost, fun target h => hstep₁ _ fun acts => by rw [doInvoke_state]; exact hsteps.trans h⟩
  · exact Or.inr ⟨q, vm₁, B, X₁.warmed, X', hpost, hstep₁ _ fun acts => by rw [doInvoke_state]; exact hsteps⟩
theorem vx_callVW (X : Stand p l e R s m args below meth c T locs cells slots) (hexec : p.tables.exec = Jvm.exec) {own C : String} {index : Nat} {y : MethodName} {bytes : ByteArray} {maxL : Nat} {ret : Option FieldType} {hh : List (Nat × Nat × Nat × Nat)}
    (hown : s.vm.findClass own = some m.cls) (hlink : (Cond.methodLink own index y).before args s = true) (hinst : (Cond.instanceMethod y).before args s = true) (hsel : (Cond.selects C y y).before args s = true)
    (hcode : (Cond.codeWith y bytes maxL ret hh).before args s = true) (hy : y.cls ≠ "java/lang/invoke/MethodHandle" ∧ y.cls ≠ "java/lang/invoke/VarHandle")
    {W9 : Nat} {Pre : Pt → Array Value → Prop} {Post : Pt → Array Value → Option Value → Pt → Prop} (hK : Back l R p e below s args y 3 W9 Pre Post)
    {b : Addr} {cellB : Cell} (hcell : T.heap[b]? = some cellB) (hobj : cellB.vm.isStatics = false) (hcls : s.vm.findClass C = some cellB.cls)
    {g : JFrame} (hg : g.method = m) (hsize : g.locals.size = c.maxLocals) {argsL rest : List Value} (hlen : ∀ sig, parseMethodDescriptor y.desc = some sig → argsL.length = sig.parameters.length)
    (hstack : g.stack = argsL.reverse ++ .ref b :: rest) (hW : 2 * g.monitorRoom + (rest.map fun v => v.category).sum ≤ W9) (hdg : decode c.code g.pc = .ok (.invokevirtual index, 3))
    (hpre : ∀ vm₁, s.WarmedH vm₁ → Pre ⟨T.setVm vm₁, locs, cells, slots⟩ (Value.ref b :: argsL).toArray) :
    ∃ (v : Option Value) (vm₁ : Vm) (B : Pt), s.WarmedH vm₁ ∧ Stand p l e R s m args below meth c B.U B.locs B.cells B.slots ∧ Post ⟨T.setVm vm₁, locs, cells, slots⟩ (Value.ref b :: argsL).toArray v B ∧
      ∀ target, Steps p.tables e below (B.U.setTop { g with pc := g.pc + 3, stack := v.toList ++ rest }) target → Steps p.tables e below (T.setTop g) target := by
  obtain ⟨mk, methM, hnamed, hmethM, hstM, habM⟩ := Cond.instanceMethod_spec hinst
  obtain ⟨m8, methM', cM, hn8, hmethM', -, -, -, -, -, -, hsigM⟩ := Cond.codeWith_spec hcode
  cases Option.some.inj (hn8.symm.trans hnamed)
  cases hmethM.symm.trans hmethM'
  obtain ⟨c2, r2, m2, q1, q2, q3, q4, kP, hkP, hkPi⟩ := Cond.selects_spec hsel
  cases hcls.symm.trans q1
  cases (State.methodFound?_of_named hnamed hy).symm.trans q2
  cases hnamed.symm.trans q3
  have hselP : selectMethod e.platform s.vm cellB.cls mk = .method mk := by rw [Launch.admits_selectMethod X.admits]; exact q4
  obtain ⟨vm₁, X₁, hstep₁⟩ := X.invokevirtual hexec hown hlink hnamed hmethM hstM hkP hkPi hy (a := b) (cell := cellB) hcell
    (fun z h => by rw [h] at hobj; cases hobj) hselP hmethM habM hkP hkPi (g := g) hg (argsL := argsL) (rest := rest) (hlen _ hsigM) hstack hdg
  obtain ⟨v, B, X', hpost, hsteps⟩ := hK m meth c ⟨T.setVm vm₁, locs, cells, slots⟩ { g with stack := rest } (.invokevirtual index) mk (Value.ref b :: argsL).toArray X₁ hg hsize hdg hW (X₁.named hnamed) (hpre vm₁ X₁.warmed)
  exact ⟨v, vm₁, B, X₁.warmed, X', hpost, fun target h => hstep₁ _ fun acts => by rw [doInvoke_state]; exact hsteps.trans h⟩
abbrev vx_CVW (R : Room) (s : State) (args : Array Value) (own C : String) (index : Nat) (y : MethodName) (bytes : ByteArray) (maxL : Nat) (ret : Option FieldType) (hh : List (Nat × Nat × Nat × Nat)) (ws : List Cond) (rm : Room) (mc ms n : Nat) : Prop :=
  (rm.cells = mc ∧ rm.slots = ms ∧ rm.frames + 1 ≤ R.frames ∧ 8 + (maxL + 11) + rm.locals ≤ R.locals ∧ (∀ w ∈ ws, ∀ (a' : Array Value) (U : State), s.WarmedH U.vm → w.before a' U = true) ∧ Cond.codeWith y bytes maxL ret hh ∈ ws) ∧
  (Cond.codeWith y bytes maxL ret hh).before args s = true ∧ (Cond.initialized y.cls).before args s = true ∧ (y.cls ≠ "java/lang/invoke/MethodHandle" ∧ y.cls ≠ "java/lang/invoke/VarHandle") ∧
  (∀ sig, parseMethodDescriptor y.desc = some sig → n = sig.parameters.length) ∧ (Cond.methodLink own index y).before args s = true ∧ (Cond.instanceMethod y).before args s = true ∧ (Cond.selects C y y).before args s = true
theorem vx_cwVW {own C : String} {index maxL mc ms : Nat} {y : MethodName} {bytes : ByteArray} {ret : Option FieldType} {hh : List (Nat × Nat × Nat × Nat)} {Ts ws ws' : List Cond} {rm : Room} (n : Nat) (ht : ∀ w ∈ Ts, w.before args s = true) (hT : GoodIn Ts (wsV own index C y ws)) (hw : ws = Cond.codeWith y bytes maxL ret hh :: ws') (hrc : rm.cells = mc) (hrs : rm.slots = ms)
    (hd : y.cls = C ∧ y.cls ≠ "java/lang/invoke/MethodHandle" ∧ y.cls ≠ "java/lang/invoke/VarHandle" ∧ (parseMethodDescriptor y.desc).map (fun d => d.parameters.length) = some n) (hR : rm.frames + 1 ≤ R.frames ∧ 8 + (maxL + 11) + rm.locals ≤ R.locals) :
    vx_CVW R s args own C index y bytes maxL ret hh ws rm mc ms n := by
  obtain ⟨hC, hd⟩ := hd
  subst hC
  have ok : ∀ w ∈ wsV own index y.cls y ws, w.before args s = true := fun w h => ht w (hT w h).1
  have hG : GoodIn Ts ws := fun w h => hT w (by unfold wsV; exact List.mem_append_right _ h)
  have hc : Cond.codeWith y bytes maxL ret hh ∈ ws := by rw [hw]; exact List.mem_cons_self
  refine ⟨⟨hrc, hrs, hR.1, hR.2, pay_in ht hG, hc⟩, ht _ (hG _ hc).1, ok _ (by simp [wsV]), ⟨hd.1, hd.2.1⟩, fun sig h => ?_, ok _ (by simp [wsV]), ok _ (by simp [wsV]), ok _ (by simp [wsV])⟩
  have h2 := hd.2.2
  rw [h] at h2
  exact (Option.some.inj h2).symm
theorem vx_runVW {y : MethodName} {bytes cc : ByteArray} {maxL nL mc ms n index : Nat} {ret : Option FieldType} {hh : List (Nat × Nat × Nat × Nat)} {ws : List Cond} {rm : Room} {Pc : Array Value → State → Prop} {Qc : Array Value → State → Outcome → State → Prop} {free : Addr → Prop} {Ts : List Cond} {own C : String} {b : Addr} {As rest : List Value} {g : JFrame}
    (S : CallFix p m c cc nL s args Ts own) (hM : Met l y ws rm Pc Qc mc ms free) (cw : vx_CVW R s args own C index y bytes maxL ret hh ws rm mc ms n) (hp : PreV s H C b Pc As)
    (hg : g.method = m) (hn : As.length = n) (hsize : g.locals.size = nL) (hstack : g.stack = As.reverse ++ .ref b :: rest) (hW : 2 * g.monitorRoom + (rest.map fun v => v.category).sum ≤ 8) (hdg : decode cc g.pc = .ok (.invokevirtual index, 3)) (hf : cells + mc ≤ R.cells ∧ slots + ms ≤ R.slots) :
    va_Run p l e R s m args below meth c H locs cells slots mc ms g rest (Qc (Value.ref b :: As).toArray) free := by
  obtain ⟨⟨hrc, hrs, hfr, hlo, hws, hcw⟩, hcode, hini, hy, hlen, hl, hin, hse⟩ := cw
  have hK : Back l R p e below s args y 3 8 (PreOf R mc ms Pc) (PostOf Qc mc ms free) := va_backW (hh := hh) (bytes := bytes) (maxL := maxL) (ret := ret) hM hp.1 hrc hrs hfr hlo hws hcw (fun a' U hW => word_at hW (Or.inl (by first | rfl | simp [Cond.onTables, Cond.keeps, Cond.steady])) hini)
  obtain ⟨hx, hb, hml, ho, -⟩ := S
  obtain ⟨-, ⟨cellB, hcB, hoB, hclB⟩, hPc⟩ := hp
  intro T hT X
  obtain ⟨v, vm₁, ⟨U', l2, c2, s2⟩, hW₁, X', ⟨g', mk, t, L, e1, e2, hq, h1, hL, h2, h3⟩, st⟩ := vx_callVW X hx (C := C) (hh := hh) (bytes := bytes) (maxL := maxL) (ret := ret) ho hl hin hse hcode hy hK (by rw [hT]; exact hcB) hoB hclB hg (hsize.trans hml.symm) (argsL := As) (rest := rest) (fun sig h => hn.trans (hlen sig h)) hstack hW (by rw [hb]; exact hdg)
    (fun vm₁ hW₁ => ⟨hf.1, hf.2, hPc (T.setVm vm₁) hT hW₁⟩)
  dsimp only [Pt.U, Pt.locs, Pt.cells, Pt.slots] at X' e1 e2 h1 h2 h3 st
  subst h1; subst h2; subst h3
  exact ⟨v, (T.setVm vm₁).calling g' mk (Value.ref b :: As).toArray, t, U', L, hT, X', hL, e1, e2, hq, st⟩
section
variable {y : MethodName} {bytes cc : ByteArray} {maxL nL mc ms n index : Nat} {ret : Option FieldType} {ws : List Cond} {rm : Room} {Pc : Array Value → State → Prop} {Qc : Array Value → State → Outcome → State → Prop} {XC : String → State → State → Prop} {free : Addr → Prop} {Ts : List Cond} {own C : String} {b : Addr} {As rest : List Value} {g : JFrame}
theorem vx_runVX {hh : List (Nat × Nat × Nat × Nat)} (S : CallFix p m c cc nL s args Ts own) (hM : vx_Met l y ws rm Pc Qc XC mc ms free) (cw : vx_CVW R s args own C index y bytes maxL ret hh ws rm mc ms n) (hp : PreV s H C b Pc As)
    (hg : g.method = m) (hn : As.length = n) (hsize : g.locals.size = nL) (hstack : g.stack = As.reverse ++ .ref b :: rest) (hW : 2 * g.monitorRoom + (rest.map fun v => v.category).sum ≤ 8) (hdg : decode cc g.pc = .ok (.invokevirtual index, 3)) (hf : cells + mc ≤ R.cells ∧ slots + ms ≤ R.slots) :
    vx_Run p l e R s m args below meth c H locs cells slots mc ms g rest (Qc (Value.ref b :: As).toArray) XC free := by
  obtain ⟨⟨hrc, hrs, hfr, hlo, hws, hcw⟩, hcode, hini, hy, hlen, hl, hin, hse⟩ := cw
  have hK : vx_Back l R p e below s args y 3 8 (PreOf R mc ms Pc) (PostOf Qc mc ms free) (vx_Post XC mc ms free) := vx_backW (hh := hh) (bytes := bytes) (maxL := maxL) (ret := ret) hM hp.1 hrc hrs hfr hlo hws hcw (fun a' U hW => word_at hW (Or.inl (by first | rfl | simp [Cond.onTables, Cond.keeps, Cond.steady])) hini)
  obtain ⟨hx, hb, hml, ho, -⟩ := S
  obtain ⟨-, ⟨cellB, hcB, hoB, hclB⟩, hPc⟩ := hp
  intro T hT X
  rcases vx_callVX X hx (C := C) (hh := hh) (bytes := bytes) (maxL := maxL) (ret := ret) ho hl hin hse hcode hy hK (by rw [hT]; exact hcB) hoB hclB hg (hsize.trans hml.symm) (argsL := As) (rest := rest) (fun sig h => hn.trans (hlen sig h)) hstack hW (by rw [hb]; exact hdg)
    (fun vm₁ hW₁ => ⟨hf.1, hf.2, hPc (T.setVm vm₁) hT hW₁⟩) with ⟨v, vm₁, ⟨U', l2, c2, s2⟩, hW₁, X', ⟨g', mk, t, L, e1, e2, hq, h1, hL, h2, h3⟩, st⟩ | ⟨q, vm₁, ⟨U', l2, c2, s2⟩, hW₁, X', ⟨g', mk, t, L, E, ce, e1, e2, hq, hce, hcv, hcl, h1, hL, h2, h3⟩, st⟩
  · dsimp only [Pt.U, Pt.locs, Pt.cells, Pt.slots] at X' e1 e2 h1 h2 h3 st
    subst h1; subst h2; subst h3
    exact Or.inl ⟨v, (T.setVm vm₁).calling g' mk (Value.ref b :: As).toArray, t, U', L, hT, X', hL, e1, e2, hq, st⟩
  · dsimp only [Pt.U, Pt.locs, Pt.cells, Pt.slots] at X' e1 e2 h1 h2 h3 st hcl
    subst h1; subst h2; subst h3
    exact Or.inr ⟨q, (T.setVm vm₁).calling g' mk (Value.ref b :: As).toArray, t, U', L, E, ce, hT, X', hL, e1, e2, hq, hce, hcv, vx_cls hW₁ hcl, st⟩
theorem vx_runSX {hh : List (Nat × Nat × Nat × Nat)} (S : CallFix p m c cc nL s args Ts own) (hM : vx_Met l y ws rm Pc Qc XC mc ms free) (cw : vx_CSW R s args own index y bytes maxL ret hh ws rm mc ms n) (hp : PreS s H Pc As)
    (hg : g.method = m) (hn : As.length = n) (hsize : g.locals.size = nL) (hstack : g.stack = As.reverse ++ rest) (hW : 2 * g.monitorRoom + (rest.map fun v => v.category).sum ≤ 8) (hdg : decode cc g.pc = .ok (.invokestatic index, 3)) (hf : cells + mc ≤ R.cells ∧ slots + ms ≤ R.slots) :
    vx_Run p l e R s m args below meth c H locs cells slots mc ms g rest (Qc As.toArray) XC free := by
  obtain ⟨⟨hrc, hrs, hfr, hlo, hws, hcw⟩, hcode, hini, hy, hlen, hl, hstt⟩ := cw
  have hK : vx_Back l R p e below s args y 3 8 (PreOf R mc ms Pc) (PostOf Qc mc ms free) (vx_Post XC mc ms free) := vx_backW (hh := hh) (bytes := bytes) (maxL := maxL) (ret := ret) hM hp.1 hrc hrs hfr hlo hws hcw (fun a' U hW => word_at hW (Or.inl (by first | rfl | simp [Cond.onTables, Cond.keeps, Cond.steady])) hini)
  obtain ⟨hx, hb, hml, ho, -⟩ := S
  intro T hT X
  rcases vx_callSX X hx (hh := hh) (bytes := bytes) (maxL := maxL) (ret := ret) ho hl hstt hini hcode hy hK hg (hsize.trans hml.symm) (argsL := As) (rest := rest) (fun sig h => hn.trans (hlen sig h)) hstack hW (by rw [hb]; exact hdg)
    (fun vm₁ hW₁ => ⟨hf.1, hf.2, hp.2 (T.setVm vm₁) hT hW₁⟩) with ⟨v, vm₁, ⟨U', l2, c2, s2⟩, hW₁, X', ⟨g', mk, t, L, e1, e2, hq, h1, hL, h2, h3⟩, st⟩ | ⟨q, vm₁, ⟨U', l2, c2, s2⟩, hW₁, X', ⟨g', mk, t, L, E, ce, e1, e2, hq, hce, hcv, hcl, h1, hL, h2, h3⟩, st⟩
  · dsimp only [Pt.U, Pt.locs, Pt.cells, Pt.slots] at X' e1 e2 h1 h2 h3 st
    subst h1; subst h2; subst h3
    exact Or.inl ⟨v, (T.setVm vm₁).calling g' mk As.toArray, t, U', L, hT, X', hL, e1, e2, hq, st⟩
  · dsimp only [Pt.U, Pt.locs, Pt.cells, Pt.slots] at X' e1 e2 h1 h2 h3 st hcl
    subst h1; subst h2; subst h3
    exact Or.inr ⟨q, (T.setVm vm₁).calling g' mk As.toArray, t, U', L, E, ce, hT, X', hL, e1, e2, hq, hce, hcv, vx_cls hW₁ hcl, st⟩
end
end VXH
theorem vx_ofWH {l : Launch} {y : MethodName} {ws ws' : List Cond} {rm : Room} {Pc : Array Value → State → Prop} {Qc : Array Value → State → Outcome → State → Prop} {XC : String → State → State → Prop} {mc ms : Nat} {free : Addr → Prop} {cc : ByteArray} {maxL : Nat} {ret : Option FieldType} {hh : List (Nat × Nat × Nat × Nat)}
    (hy : plainName y.cls = true) (hw : ws = Cond.codeWith y cc maxL ret hh :: ws')
    (body : ∀ p e s m args below meth c s₁, BodyLoose p l y (headSpec ws rm) cc maxL ret e s m args below meth c s₁ → c.maxLocals = maxL → Pc args s →
      W p l e (headSpec ws rm).room s m args below meth c s.heap [] 0 0 (vx_MQ below Qc XC args s mc ms free) (entryFrame m args maxL)) : vx_Met l y ws rm Pc Qc XC mc ms free := by
  refine MetFree.of_bodyS (code := cc) (maxLocals := maxL) (ret := ret) hy ?_ ?_
  · intro args s m h hn
    obtain ⟨m9, meth, c, hn9, h1, h2, h3, h4, -, h5, h6, -⟩ := Cond.codeWith_spec (atoms_spec (ws := ws) h _ (by rw [hw]; exact List.mem_cons_self))
    cases hn.symm.trans hn9
    exact ⟨meth, c, h1, h2, h3, h4, h5, h6⟩
  · intro p e s m args below meth c s₁ B hml hP _
    have hh0 : s₁.heap = s.heap := by rw [B.state]; rfl
    obtain ⟨t, a1, o, b1, b2, b3⟩ := body p e s m args below meth c s₁ B hml hP s₁ hh0 (Stand.of_body B)
    exact ⟨t, o, a1, b1, b2, b3⟩
/-! ===== END ===== -/
end
section
def RX0 : String := "RackMoves$PlanText"
def TX0 : u_T := fun k => match k with
  | 0 => ("RackMoves$PlanText", "bytes", "[I", true)
  | 1 => ("RackMoves$PlanText", "length", "I", false)
  | 2 => ("RackMoves$PlanText", "parts", "LRackMoves$Table;", true)
  | 3 => ("RackMoves$PlanText", "at", "I", false)
  | _ => ("RackMoves$PlanText", "numberRead", "I", false)
def tyX0 : Nat → FieldType := fun k => match k with
  | 0 => .array .int
  | 1 => .int
  | 2 => .object "RackMoves$Table"
  | 3 => .int
  | _ => .int
theorem nmX0 : ∀ a, a < 5 → ∀ b, b < 5 → a ≠ b → (TX0 a).2.1 ≠ (TX0 b).2.1 := by decide +kernel
theorem tyX0_ok : ∀ k, k < 5 → parseFieldDescriptor (TX0 k).2.2.1 = some (tyX0 k) := by decide +kernel
abbrev cX0_init : ByteArray := prog_2_method_1_code
def yX0_init : MethodName := ⟨RX0, "<init>", "()V"⟩
abbrev cX0_read : ByteArray := prog_2_method_2_code
def yX0_read : MethodName := ⟨RX0, "read", "(I)I"⟩
abbrev cX0_readPart : ByteArray := prog_2_method_3_code
def yX0_readPart : MethodName := ⟨RX0, "readPart", "(I)I"⟩
abbrev cX0_readStep : ByteArray := prog_2_method_4_code
def yX0_readStep : MethodName := ⟨RX0, "readStep", "(IZI)I"⟩
abbrev cX0_readMachine : ByteArray := prog_2_method_5_code
def yX0_readMachine : MethodName := ⟨RX0, "readMachine", "(I)I"⟩
abbrev cX0_readRack : ByteArray := prog_2_method_6_code
def yX0_readRack : MethodName := ⟨RX0, "readRack", "()I"⟩
abbrev cX0_readDigit : ByteArray := prog_2_method_7_code
def yX0_readDigit : MethodName := ⟨RX0, "readDigit", "(I)I"⟩
abbrev cX0_readByte : ByteArray := prog_2_method_8_code
def yX0_readByte : MethodName := ⟨RX0, "readByte", "(I)I"⟩
abbrev cX0_byteAt : ByteArray := prog_2_method_9_code
def yX0_byteAt : MethodName := ⟨RX0, "byteAt", "(I)I"⟩
abbrev cX0_isDigit : ByteArray := prog_2_method_10_code
def yX0_isDigit : MethodName := ⟨RX0, "isDigit", "(I)Z"⟩
abbrev cX0_runIn : ByteArray := prog_2_method_11_code
def yX0_runIn : MethodName := ⟨RX0, "runIn", "(LRackMoves$Room;)I"⟩
def RX1 : String := "RackMoves$Room"
def TX1 : u_T := fun k => match k with
  | 0 => ("RackMoves$Room", "machines", "LRackMoves$Table;", true)
  | 1 => ("RackMoves$Room", "cables", "LRackMoves$Table;", true)
  | 2 => ("RackMoves$Room", "freezes", "LRackMoves$Table;", true)
  | 3 => ("RackMoves$Room", "steps", "LRackMoves$Table;", true)
  | 4 => ("RackMoves$Room", "limits", "[I", true)
  | 5 => ("RackMoves$Room", "trayRooms", "[I", true)
  | 6 => ("RackMoves$Room", "level", "I", false)
  | 7 => ("RackMoves$Room", "hour", "I", false)
  | 8 => ("RackMoves$Room", "stepsDone", "I", false)
  | _ => ("RackMoves$Room", "stepsBackedOut", "I", false)
def tyX1 : Nat → FieldType := fun k => match k with
  | 0 => .object "RackMoves$Table"
  | 1 => .object "RackMoves$Table"
  | 2 => .object "RackMoves$Table"
  | 3 => .object "RackMoves$Table"
  | 4 => .array .int
  | 5 => .array .int
  | 6 => .int
  | 7 => .int
  | 8 => .int
  | _ => .int
theorem nmX1 : ∀ a, a < 10 → ∀ b, b < 10 → a ≠ b → (TX1 a).2.1 ≠ (TX1 b).2.1 := by decide +kernel
theorem tyX1_ok : ∀ k, k < 10 → parseFieldDescriptor (TX1 k).2.2.1 = some (tyX1 k) := by decide +kernel
abbrev cX1_init : ByteArray := prog_3_method_1_code
def yX1_init : MethodName := ⟨RX1, "<init>", "()V"⟩
abbrev cX1_copyFrom : ByteArray := prog_3_method_2_code
def yX1_copyFrom : MethodName := ⟨RX1, "copyFrom", "(LRackMoves$Room;)V"⟩
abbrev cX1_standsIn : ByteArray := prog_3_method_3_code
def yX1_standsIn : MethodName := ⟨RX1, "standsIn", "(II)Z"⟩
abbrev cX1_machinesStanding : ByteArray := prog_3_method_4_code
def yX1_machinesStanding : MethodName := ⟨RX1, "machinesStanding", "()I"⟩
abbrev cX1_machinesIn : ByteArray := prog_3_method_5_code
def yX1_machinesIn : MethodName := ⟨RX1, "machinesIn", "(I)I"⟩
abbrev cX1_slotsTakenIn : ByteArray := prog_3_method_6_code
def yX1_slotsTakenIn : MethodName := ⟨RX1, "slotsTakenIn", "(I)I"⟩
abbrev cX1_machineAt : ByteArray := prog_3_method_7_code
def yX1_machineAt : MethodName := ⟨RX1, "machineAt", "(II)I"⟩
abbrev cX1_machineWithin : ByteArray := prog_3_method_8_code
def yX1_machineWithin : MethodName := ⟨RX1, "machineWithin", "(IIII)I"⟩
abbrev cX1_lowestSlotFor : ByteArray := prog_3_method_9_code
def yX1_lowestSlotFor : MethodName := ⟨RX1, "lowestSlotFor", "(II)I"⟩
abbrev cX1_greatestSizeFor : ByteArray := prog_3_method_10_code
def yX1_greatestSizeFor : MethodName := ⟨RX1, "greatestSizeFor", "(I)I"⟩
abbrev cX1_loadOfRack : ByteArray := prog_3_method_11_code
def yX1_loadOfRack : MethodName := ⟨RX1, "loadOfRack", "(I)I"⟩
abbrev cX1_loadOfRackOnPhase : ByteArray := prog_3_method_12_code
def yX1_loadOfRackOnPhase : MethodName := ⟨RX1, "loadOfRackOnPhase", "(II)I"⟩
abbrev cX1_loadOfPhase : ByteArray := prog_3_method_13_code
def yX1_loadOfPhase : MethodName := ⟨RX1, "loadOfPhase", "(I)I"⟩
abbrev cX1_difference : ByteArray := prog_3_method_14_code
def yX1_difference : MethodName := ⟨RX1, "difference", "()I"⟩
abbrev cX1_differenceWith : ByteArray := prog_3_method_15_code
def yX1_differenceWith : MethodName := ⟨RX1, "differenceWith", "(II)I"⟩
abbrev cX1_fullestLoadWith : ByteArray := prog_3_method_16_code
def yX1_fullestLoadWith : MethodName := ⟨RX1, "fullestLoadWith", "(II)I"⟩
abbrev cX1_cablesOf : ByteArray := prog_3_method_17_code
def yX1_cablesOf : MethodName := ⟨RX1, "cablesOf", "(I)I"⟩
abbrev cX1_rackOfEnd : ByteArray := prog_3_method_18_code
def yX1_rackOfEnd : MethodName := ⟨RX1, "rackOfEnd", "(II)I"⟩
abbrev cX1_needOfCable : ByteArray := prog_3_method_19_code
def yX1_needOfCable : MethodName := ⟨RX1, "needOfCable", "(I)I"⟩
abbrev cX1_cablesInTray : ByteArray := prog_3_method_20_code
def yX1_cablesInTray : MethodName := ⟨RX1, "cablesInTray", "(I)I"⟩
abbrev cX1_isFrozen : ByteArray := prog_3_method_21_code
def yX1_isFrozen : MethodName := ⟨RX1, "isFrozen", "(I)Z"⟩
abbrev cX1_firstWrong : ByteArray := prog_3_method_22_code
def yX1_firstWrong : MethodName := ⟨RX1, "firstWrong", "()I"⟩
abbrev cX1_whyNotMove : ByteArray := prog_3_method_23_code
def yX1_whyNotMove : MethodName := ⟨RX1, "whyNotMove", "(II)I"⟩
abbrev cX1_whyNotChange : ByteArray := prog_3_method_24_code
def yX1_whyNotChange : MethodName := ⟨RX1, "whyNotChange", "(II)I"⟩
abbrev cX1_whyNotBackOut : ByteArray := prog_3_method_25_code
def yX1_whyNotBackOut : MethodName := ⟨RX1, "whyNotBackOut", "()I"⟩
abbrev cX1_slotBehindMove : ByteArray := prog_3_method_26_code
def yX1_slotBehindMove : MethodName := ⟨RX1, "slotBehindMove", "(II)I"⟩
abbrev cX1_firstWrongWith : ByteArray := prog_3_method_27_code
def yX1_firstWrongWith : MethodName := ⟨RX1, "firstWrongWith", "(IIII)I"⟩
abbrev cX1_place : ByteArray := prog_3_method_28_code
def yX1_place : MethodName := ⟨RX1, "place", "(IIII)V"⟩
abbrev cX1_doMove : ByteArray := prog_3_method_29_code
def yX1_doMove : MethodName := ⟨RX1, "doMove", "(II)V"⟩
abbrev cX1_doChange : ByteArray := prog_3_method_30_code
def yX1_doChange : MethodName := ⟨RX1, "doChange", "(II)V"⟩
abbrev cX1_doBackOut : ByteArray := prog_3_method_31_code
def yX1_doBackOut : MethodName := ⟨RX1, "doBackOut", "()V"⟩
abbrev cX1_pushStep : ByteArray := prog_3_method_32_code
def yX1_pushStep : MethodName := ⟨RX1, "pushStep", "(I)V"⟩
def RX2 : String := "RackMoves$Table"
def TX2 : u_T := fun k => match k with
  | 0 => ("RackMoves$Table", "most", "I", true)
  | 1 => ("RackMoves$Table", "columns", "I", true)
  | 2 => ("RackMoves$Table", "cells", "[I", true)
  | _ => ("RackMoves$Table", "count", "I", false)
def tyX2 : Nat → FieldType := fun k => match k with
  | 0 => .int
  | 1 => .int
  | 2 => .array .int
  | _ => .int
theorem nmX2 : ∀ a, a < 4 → ∀ b, b < 4 → a ≠ b → (TX2 a).2.1 ≠ (TX2 b).2.1 := by decide +kernel
theorem tyX2_ok : ∀ k, k < 4 → parseFieldDescriptor (TX2 k).2.2.1 = some (tyX2 k) := by decide +kernel
abbrev cX2_init : ByteArray := prog_4_method_1_code
def yX2_init : MethodName := ⟨RX2, "<init>", "(II)V"⟩
abbrev cX2_hasRow : ByteArray := prog_4_method_2_code
def yX2_hasRow : MethodName := ⟨RX2, "hasRow", "(I)Z"⟩
abbrev cX2_isFull : ByteArray := prog_4_method_3_code
def yX2_isFull : MethodName := ⟨RX2, "isFull", "()Z"⟩
abbrev cX2_at : ByteArray := prog_4_method_4_code
def yX2_at : MethodName := ⟨RX2, "at", "(II)I"⟩
abbrev cX2_put : ByteArray := prog_4_method_5_code
def yX2_put : MethodName := ⟨RX2, "put", "(III)V"⟩
abbrev cX2_addRow : ByteArray := prog_4_method_6_code
def yX2_addRow : MethodName := ⟨RX2, "addRow", "()I"⟩
abbrev cX2_removeRow : ByteArray := prog_4_method_7_code
def yX2_removeRow : MethodName := ⟨RX2, "removeRow", "(I)V"⟩
abbrev cX2_copyFrom : ByteArray := prog_4_method_8_code
def yX2_copyFrom : MethodName := ⟨RX2, "copyFrom", "(LRackMoves$Table;)V"⟩
def RX3 : String := "RackMoves"
def TX3 : u_T := fun k => match k with
  | 0 => ("RackMoves", "room", "LRackMoves$Room;", false)
  | 1 => ("RackMoves", "spare", "LRackMoves$Room;", false)
  | 2 => ("RackMoves", "saved", "[LRackMoves$Room;", true)
  | 3 => ("RackMoves", "savedCount", "I", false)
  | _ => ("RackMoves", "text", "LRackMoves$PlanText;", true)
def tyX3 : Nat → FieldType := fun k => match k with
  | 0 => .object "RackMoves$Room"
  | 1 => .object "RackMoves$Room"
  | 2 => .array (.object "RackMoves$Room")
  | 3 => .int
  | _ => .object "RackMoves$PlanText"
theorem nmX3 : ∀ a, a < 5 → ∀ b, b < 5 → a ≠ b → (TX3 a).2.1 ≠ (TX3 b).2.1 := by decide +kernel
theorem tyX3_ok : ∀ k, k < 5 → parseFieldDescriptor (TX3 k).2.2.1 = some (tyX3 k) := by decide +kernel
abbrev cX3_init : ByteArray := prog_1_method_1_code
def yX3_init : MethodName := ⟨RX3, "<init>", "()V"⟩
abbrev cX3_setLimit : ByteArray := prog_1_method_2_code
def yX3_setLimit : MethodName := ⟨RX3, "setLimit", "(II)I"⟩
abbrev cX3_setTray : ByteArray := prog_1_method_3_code
def yX3_setTray : MethodName := ⟨RX3, "setTray", "(II)I"⟩
abbrev cX3_setLevel : ByteArray := prog_1_method_4_code
def yX3_setLevel : MethodName := ⟨RX3, "setLevel", "(I)I"⟩
abbrev cX3_addMachine : ByteArray := prog_1_method_5_code
def yX3_addMachine : MethodName := ⟨RX3, "addMachine", "(IIII)I"⟩
abbrev cX3_addCable : ByteArray := prog_1_method_6_code
def yX3_addCable : MethodName := ⟨RX3, "addCable", "(III)I"⟩
abbrev cX3_removeCable : ByteArray := prog_1_method_7_code
def yX3_removeCable : MethodName := ⟨RX3, "removeCable", "(I)I"⟩
abbrev cX3_addFreeze : ByteArray := prog_1_method_8_code
def yX3_addFreeze : MethodName := ⟨RX3, "addFreeze", "(III)I"⟩
abbrev cX3_removeFreeze : ByteArray := prog_1_method_9_code
def yX3_removeFreeze : MethodName := ⟨RX3, "removeFreeze", "(I)I"⟩
abbrev cX3_pass : ByteArray := prog_1_method_10_code
def yX3_pass : MethodName := ⟨RX3, "pass", "(I)I"⟩
abbrev cX3_machine : ByteArray := prog_1_method_11_code
def yX3_machine : MethodName := ⟨RX3, "machine", "(II)I"⟩
abbrev cX3_rack : ByteArray := prog_1_method_12_code
def yX3_rack : MethodName := ⟨RX3, "rack", "(II)I"⟩
abbrev cX3_slot : ByteArray := prog_1_method_13_code
def yX3_slot : MethodName := ⟨RX3, "slot", "(II)I"⟩
abbrev cX3_cable : ByteArray := prog_1_method_14_code
def yX3_cable : MethodName := ⟨RX3, "cable", "(II)I"⟩
abbrev cX3_tray : ByteArray := prog_1_method_15_code
def yX3_tray : MethodName := ⟨RX3, "tray", "(I)I"⟩
abbrev cX3_value : ByteArray := prog_1_method_16_code
def yX3_value : MethodName := ⟨RX3, "value", "(I)I"⟩
abbrev cX3_move : ByteArray := prog_1_method_17_code
def yX3_move : MethodName := ⟨RX3, "move", "(II)I"⟩
abbrev cX3_change : ByteArray := prog_1_method_18_code
def yX3_change : MethodName := ⟨RX3, "change", "(II)I"⟩
abbrev cX3_backOut : ByteArray := prog_1_method_19_code
def yX3_backOut : MethodName := ⟨RX3, "backOut", "()I"⟩
abbrev cX3_pile : ByteArray := prog_1_method_20_code
def yX3_pile : MethodName := ⟨RX3, "pile", "(II)I"⟩
abbrev cX3_mayMove : ByteArray := prog_1_method_21_code
def yX3_mayMove : MethodName := ⟨RX3, "mayMove", "(II)I"⟩
abbrev cX3_bestRack : ByteArray := prog_1_method_22_code
def yX3_bestRack : MethodName := ⟨RX3, "bestRack", "(I)I"⟩
abbrev cX3_bestChange : ByteArray := prog_1_method_23_code
def yX3_bestChange : MethodName := ⟨RX3, "bestChange", "()I"⟩
abbrev cX3_backable : ByteArray := prog_1_method_24_code
def yX3_backable : MethodName := ⟨RX3, "backable", "()I"⟩
abbrev cX3_taken : ByteArray := prog_1_method_25_code
def yX3_taken : MethodName := ⟨RX3, "taken", "()D"⟩
abbrev cX3_append : ByteArray := prog_1_method_26_code
def yX3_append : MethodName := ⟨RX3, "append", "(I)I"⟩
abbrev cX3_clearText : ByteArray := prog_1_method_27_code
def yX3_clearText : MethodName := ⟨RX3, "clearText", "()I"⟩
abbrev cX3_plan : ByteArray := prog_1_method_28_code
def yX3_plan : MethodName := ⟨RX3, "plan", "()I"⟩
abbrev cX3_undo : ByteArray := prog_1_method_29_code
def yX3_undo : MethodName := ⟨RX3, "undo", "()I"⟩
abbrev cX3_digest : ByteArray := prog_1_method_30_code
def yX3_digest : MethodName := ⟨RX3, "digest", "()J"⟩
abbrev cX3_mixRack : ByteArray := prog_1_method_31_code
def yX3_mixRack : MethodName := ⟨RX3, "mixRack", "(JI)J"⟩
abbrev cX3_mix : ByteArray := prog_1_method_32_code
def yX3_mix : MethodName := ⟨RX3, "mix", "(JI)J"⟩
abbrev cX3_save : ByteArray := prog_1_method_33_code
def yX3_save : MethodName := ⟨RX3, "save", "()V"⟩
abbrev cX3_checkMachine : ByteArray := prog_1_method_34_code
def yX3_checkMachine : MethodName := ⟨RX3, "checkMachine", "(I)V"⟩
abbrev cX3_checkCable : ByteArray := prog_1_method_35_code
def yX3_checkCable : MethodName := ⟨RX3, "checkCable", "(I)V"⟩
abbrev cX3_checkRack : ByteArray := prog_1_method_36_code
def yX3_checkRack : MethodName := ⟨RX3, "checkRack", "(I)V"⟩
abbrev cX3_checkTray : ByteArray := prog_1_method_37_code
def yX3_checkTray : MethodName := ⟨RX3, "checkTray", "(I)V"⟩
abbrev cX3_checkRange : ByteArray := prog_1_method_38_code
def yX3_checkRange : MethodName := ⟨RX3, "checkRange", "(III)V"⟩
abbrev cX3_checkSpace : ByteArray := prog_1_method_39_code
def yX3_checkSpace : MethodName := ⟨RX3, "checkSpace", "(LRackMoves$Table;)V"⟩
def RX4 : String := "RackMovesModel"
def TX4 : u_T := fun k => match k with
  | 0 => ("RackMovesModel", "now", "[I", true)
  | 1 => ("RackMovesModel", "past", "[I", true)
  | 2 => ("RackMovesModel", "aside", "[I", true)
  | 3 => ("RackMovesModel", "kept", "[I", true)
  | 4 => ("RackMovesModel", "saved", "I", false)
  | 5 => ("RackMovesModel", "refusal", "I", false)
  | 6 => ("RackMovesModel", "text", "[I", true)
  | 7 => ("RackMovesModel", "length", "I", false)
  | 8 => ("RackMovesModel", "spot", "I", false)
  | 9 => ("RackMovesModel", "sort", "I", false)
  | 10 => ("RackMovesModel", "who", "I", false)
  | 11 => ("RackMovesModel", "where", "I", false)
  | _ => ("RackMovesModel", "hash", "J", false)
def tyX4 : Nat → FieldType := fun k => match k with
  | 0 => .array .int
  | 1 => .array .int
  | 2 => .array .int
  | 3 => .array .int
  | 4 => .int
  | 5 => .int
  | 6 => .array .int
  | 7 => .int
  | 8 => .int
  | 9 => .int
  | 10 => .int
  | 11 => .int
  | _ => .long
theorem nmX4 : ∀ a, a < 13 → ∀ b, b < 13 → a ≠ b → (TX4 a).2.1 ≠ (TX4 b).2.1 := by decide +kernel
theorem tyX4_ok : ∀ k, k < 13 → parseFieldDescriptor (TX4 k).2.2.1 = some (tyX4 k) := by decide +kernel
abbrev cX4_init : ByteArray := prog_6_method_1_code
def yX4_init : MethodName := ⟨RX4, "<init>", "()V"⟩
abbrev cX4_thrown : ByteArray := prog_6_method_2_code
def yX4_thrown : MethodName := ⟨RX4, "thrown", "()I"⟩
abbrev cX4_refused : ByteArray := prog_6_method_3_code
def yX4_refused : MethodName := ⟨RX4, "refused", "(I)Z"⟩
abbrev cX4_in : ByteArray := prog_6_method_4_code
def yX4_in : MethodName := ⟨RX4, "in", "(III)Z"⟩
abbrev cX4_saves : ByteArray := prog_6_method_5_code
def yX4_saves : MethodName := ⟨RX4, "saves", "()V"⟩
abbrev cX4_savesFrom : ByteArray := prog_6_method_6_code
def yX4_savesFrom : MethodName := ⟨RX4, "savesFrom", "([I)V"⟩
abbrev cX4_undo : ByteArray := prog_6_method_7_code
def yX4_undo : MethodName := ⟨RX4, "undo", "()I"⟩
abbrev cX4_copies : ByteArray := prog_6_method_8_code
def yX4_copies : MethodName := ⟨RX4, "copies", "([I[I)V"⟩
abbrev cX4_puts : ByteArray := prog_6_method_9_code
def yX4_puts : MethodName := ⟨RX4, "puts", "(II)I"⟩
abbrev cX4_isRack : ByteArray := prog_6_method_10_code
def yX4_isRack : MethodName := ⟨RX4, "isRack", "(I)Z"⟩
abbrev cX4_isTray : ByteArray := prog_6_method_11_code
def yX4_isTray : MethodName := ⟨RX4, "isTray", "(I)Z"⟩
abbrev cX4_setLimit : ByteArray := prog_6_method_12_code
def yX4_setLimit : MethodName := ⟨RX4, "setLimit", "(II)I"⟩
abbrev cX4_setTray : ByteArray := prog_6_method_13_code
def yX4_setTray : MethodName := ⟨RX4, "setTray", "(II)I"⟩
abbrev cX4_setLevel : ByteArray := prog_6_method_14_code
def yX4_setLevel : MethodName := ⟨RX4, "setLevel", "(I)I"⟩
abbrev cX4_of : ByteArray := prog_6_method_15_code
def yX4_of : MethodName := ⟨RX4, "of", "(II)I"⟩
abbrev cX4_isMachine : ByteArray := prog_6_method_16_code
def yX4_isMachine : MethodName := ⟨RX4, "isMachine", "(I)Z"⟩
abbrev cX4_addMachine : ByteArray := prog_6_method_17_code
def yX4_addMachine : MethodName := ⟨RX4, "addMachine", "(IIII)I"⟩
abbrev cX4_addCable : ByteArray := prog_6_method_18_code
def yX4_addCable : MethodName := ⟨RX4, "addCable", "(III)I"⟩
abbrev cX4_adds : ByteArray := prog_6_method_19_code
def yX4_adds : MethodName := ⟨RX4, "adds", "(IIIII)I"⟩
abbrev cX4_drops : ByteArray := prog_6_method_20_code
def yX4_drops : MethodName := ⟨RX4, "drops", "(III)I"⟩
abbrev cX4_isCable : ByteArray := prog_6_method_21_code
def yX4_isCable : MethodName := ⟨RX4, "isCable", "(I)Z"⟩
abbrev cX4_removeCable : ByteArray := prog_6_method_22_code
def yX4_removeCable : MethodName := ⟨RX4, "removeCable", "(I)I"⟩
abbrev cX4_addFreeze : ByteArray := prog_6_method_23_code
def yX4_addFreeze : MethodName := ⟨RX4, "addFreeze", "(III)I"⟩
abbrev cX4_removeFreeze : ByteArray := prog_6_method_24_code
def yX4_removeFreeze : MethodName := ⟨RX4, "removeFreeze", "(I)I"⟩
abbrev cX4_pass : ByteArray := prog_6_method_25_code
def yX4_pass : MethodName := ⟨RX4, "pass", "(I)I"⟩
abbrev cX4_isFrozen : ByteArray := prog_6_method_26_code
def yX4_isFrozen : MethodName := ⟨RX4, "isFrozen", "(I)Z"⟩
abbrev cX4_cablesOf : ByteArray := prog_6_method_27_code
def yX4_cablesOf : MethodName := ⟨RX4, "cablesOf", "(I)I"⟩
abbrev cX4_tellMachine : ByteArray := prog_6_method_28_code
def yX4_tellMachine : MethodName := ⟨RX4, "tellMachine", "(II)I"⟩
abbrev cX4_machine : ByteArray := prog_6_method_29_code
def yX4_machine : MethodName := ⟨RX4, "machine", "(II)I"⟩
abbrev cX4_load : ByteArray := prog_6_method_30_code
def yX4_load : MethodName := ⟨RX4, "load", "(II)I"⟩
abbrev cX4_machineAt : ByteArray := prog_6_method_31_code
def yX4_machineAt : MethodName := ⟨RX4, "machineAt", "(II)I"⟩
abbrev cX4_areFree : ByteArray := prog_6_method_32_code
def yX4_areFree : MethodName := ⟨RX4, "areFree", "(IIII)Z"⟩
abbrev cX4_lowest : ByteArray := prog_6_method_33_code
def yX4_lowest : MethodName := ⟨RX4, "lowest", "(II)I"⟩
abbrev cX4_freeSlots : ByteArray := prog_6_method_34_code
def yX4_freeSlots : MethodName := ⟨RX4, "freeSlots", "(I)I"⟩
abbrev cX4_machinesIn : ByteArray := prog_6_method_35_code
def yX4_machinesIn : MethodName := ⟨RX4, "machinesIn", "(I)I"⟩
abbrev cX4_tellRack : ByteArray := prog_6_method_36_code
def yX4_tellRack : MethodName := ⟨RX4, "tellRack", "(II)I"⟩
abbrev cX4_rack : ByteArray := prog_6_method_37_code
def yX4_rack : MethodName := ⟨RX4, "rack", "(II)I"⟩
abbrev cX4_slot : ByteArray := prog_6_method_38_code
def yX4_slot : MethodName := ⟨RX4, "slot", "(II)I"⟩
abbrev cX4_needs : ByteArray := prog_6_method_39_code
def yX4_needs : MethodName := ⟨RX4, "needs", "(I)I"⟩
abbrev cX4_tellCable : ByteArray := prog_6_method_40_code
def yX4_tellCable : MethodName := ⟨RX4, "tellCable", "(II)I"⟩
abbrev cX4_cable : ByteArray := prog_6_method_41_code
def yX4_cable : MethodName := ⟨RX4, "cable", "(II)I"⟩
abbrev cX4_inTray : ByteArray := prog_6_method_42_code
def yX4_inTray : MethodName := ⟨RX4, "inTray", "(I)I"⟩
abbrev cX4_tray : ByteArray := prog_6_method_43_code
def yX4_tray : MethodName := ⟨RX4, "tray", "(I)I"⟩
abbrev cX4_difference : ByteArray := prog_6_method_44_code
def yX4_difference : MethodName := ⟨RX4, "difference", "()I"⟩
abbrev cX4_wrong : ByteArray := prog_6_method_45_code
def yX4_wrong : MethodName := ⟨RX4, "wrong", "()I"⟩
abbrev cX4_standing : ByteArray := prog_6_method_46_code
def yX4_standing : MethodName := ⟨RX4, "standing", "()I"⟩
abbrev cX4_tellValue : ByteArray := prog_6_method_47_code
def yX4_tellValue : MethodName := ⟨RX4, "tellValue", "(I)I"⟩
abbrev cX4_value : ByteArray := prog_6_method_48_code
def yX4_value : MethodName := ⟨RX4, "value", "(I)I"⟩
abbrev cX4_places : ByteArray := prog_6_method_49_code
def yX4_places : MethodName := ⟨RX4, "places", "(IIII)V"⟩
abbrev cX4_steps : ByteArray := prog_6_method_50_code
def yX4_steps : MethodName := ⟨RX4, "steps", "(IIII)I"⟩
abbrev cX4_moves : ByteArray := prog_6_method_51_code
def yX4_moves : MethodName := ⟨RX4, "moves", "(II)I"⟩
abbrev cX4_changes : ByteArray := prog_6_method_52_code
def yX4_changes : MethodName := ⟨RX4, "changes", "(II)I"⟩
abbrev cX4_backs : ByteArray := prog_6_method_53_code
def yX4_backs : MethodName := ⟨RX4, "backs", "()I"⟩
abbrev cX4_isPlace : ByteArray := prog_6_method_54_code
def yX4_isPlace : MethodName := ⟨RX4, "isPlace", "(I)Z"⟩
abbrev cX4_ends : ByteArray := prog_6_method_55_code
def yX4_ends : MethodName := ⟨RX4, "ends", "(I)I"⟩
abbrev cX4_move : ByteArray := prog_6_method_56_code
def yX4_move : MethodName := ⟨RX4, "move", "(II)I"⟩
abbrev cX4_change : ByteArray := prog_6_method_57_code
def yX4_change : MethodName := ⟨RX4, "change", "(II)I"⟩
abbrev cX4_backOut : ByteArray := prog_6_method_58_code
def yX4_backOut : MethodName := ⟨RX4, "backOut", "()I"⟩
abbrev cX4_tellPile : ByteArray := prog_6_method_59_code
def yX4_tellPile : MethodName := ⟨RX4, "tellPile", "(II)I"⟩
abbrev cX4_pile : ByteArray := prog_6_method_60_code
def yX4_pile : MethodName := ⟨RX4, "pile", "(II)I"⟩
abbrev cX4_mayMove : ByteArray := prog_6_method_61_code
def yX4_mayMove : MethodName := ⟨RX4, "mayMove", "(II)I"⟩
abbrev cX4_fullest : ByteArray := prog_6_method_62_code
def yX4_fullest : MethodName := ⟨RX4, "fullest", "()I"⟩
abbrev cX4_bestRack : ByteArray := prog_6_method_63_code
def yX4_bestRack : MethodName := ⟨RX4, "bestRack", "(I)I"⟩
abbrev cX4_bestChange : ByteArray := prog_6_method_64_code
def yX4_bestChange : MethodName := ⟨RX4, "bestChange", "()I"⟩
abbrev cX4_backable : ByteArray := prog_6_method_65_code
def yX4_backable : MethodName := ⟨RX4, "backable", "()I"⟩
abbrev cX4_taken : ByteArray := prog_6_method_66_code
def yX4_taken : MethodName := ⟨RX4, "taken", "()D"⟩
abbrev cX4_append : ByteArray := prog_6_method_67_code
def yX4_append : MethodName := ⟨RX4, "append", "(I)I"⟩
abbrev cX4_clearText : ByteArray := prog_6_method_68_code
def yX4_clearText : MethodName := ⟨RX4, "clearText", "()I"⟩
abbrev cX4_isAt : ByteArray := prog_6_method_69_code
def yX4_isAt : MethodName := ⟨RX4, "isAt", "(II)Z"⟩
abbrev cX4_takes : ByteArray := prog_6_method_70_code
def yX4_takes : MethodName := ⟨RX4, "takes", "(I)Z"⟩
abbrev cX4_takesMachine : ByteArray := prog_6_method_71_code
def yX4_takesMachine : MethodName := ⟨RX4, "takesMachine", "()Z"⟩
abbrev cX4_reads : ByteArray := prog_6_method_72_code
def yX4_reads : MethodName := ⟨RX4, "reads", "()Z"⟩
abbrev cX4_plan : ByteArray := prog_6_method_73_code
def yX4_plan : MethodName := ⟨RX4, "plan", "()I"⟩
abbrev cX4_mix : ByteArray := prog_6_method_74_code
def yX4_mix : MethodName := ⟨RX4, "mix", "(I)V"⟩
abbrev cX4_mixRoom : ByteArray := prog_6_method_75_code
def yX4_mixRoom : MethodName := ⟨RX4, "mixRoom", "()V"⟩
abbrev cX4_digest : ByteArray := prog_6_method_76_code
def yX4_digest : MethodName := ⟨RX4, "digest", "()J"⟩
def RJ9 : String := "java/lang/Math"
def TJ9 : u_T := fun k => match k with
  | _ => ("", "", "", false)
def tyJ9 : Nat → FieldType := fun k => match k with
  | _ => .int
theorem nmJ9 : ∀ a, a < 0 → ∀ b, b < 0 → a ≠ b → (TJ9 a).2.1 ≠ (TJ9 b).2.1 := by decide +kernel
theorem tyJ9_ok : ∀ k, k < 0 → parseFieldDescriptor (TJ9 k).2.2.1 = some (tyJ9 k) := by decide +kernel
abbrev cJ9_abs_0f7a4 : ByteArray := prog_11_method_59_code
def yJ9_abs_0f7a4 : MethodName := ⟨RJ9, "abs", "(I)I"⟩
abbrev cJ9_max_7cf53 : ByteArray := prog_11_method_65_code
def yJ9_max_7cf53 : MethodName := ⟨RJ9, "max", "(II)I"⟩
abbrev cJ9_min_7cf53 : ByteArray := prog_11_method_69_code
def yJ9_min_7cf53 : MethodName := ⟨RJ9, "min", "(II)I"⟩
def RJ0 : String := "java/lang/String"
def TJ0 : u_T := fun k => match k with
  | _ => ("", "", "", false)
def tyJ0 : Nat → FieldType := fun k => match k with
  | _ => .int
theorem nmJ0 : ∀ a, a < 0 → ∀ b, b < 0 → a ≠ b → (TJ0 a).2.1 ≠ (TJ0 b).2.1 := by decide +kernel
theorem tyJ0_ok : ∀ k, k < 0 → parseFieldDescriptor (TJ0 k).2.2.1 = some (tyJ0 k) := by decide +kernel
def RJ10 : String := "java/lang/System"
def TJ10 : u_T := fun k => match k with
  | _ => ("", "", "", false)
def tyJ10 : Nat → FieldType := fun k => match k with
  | _ => .int
theorem nmJ10 : ∀ a, a < 0 → ∀ b, b < 0 → a ≠ b → (TJ10 a).2.1 ≠ (TJ10 b).2.1 := by decide +kernel
theorem tyJ10_ok : ∀ k, k < 0 → parseFieldDescriptor (TJ10 k).2.2.1 = some (tyJ10 k) := by decide +kernel
def RL : String := "RackMovesLaw"
abbrev cL_setLimit : ByteArray := method_3_code
def yL_setLimit : MethodName := ⟨RL, "setLimit", "(LRackMoves;II[J)I"⟩
abbrev cL_setTray : ByteArray := method_4_code
def yL_setTray : MethodName := ⟨RL, "setTray", "(LRackMoves;II[J)I"⟩
abbrev cL_setLevel : ByteArray := method_5_code
def yL_setLevel : MethodName := ⟨RL, "setLevel", "(LRackMoves;I[J)I"⟩
abbrev cL_addMachine : ByteArray := method_6_code
def yL_addMachine : MethodName := ⟨RL, "addMachine", "(LRackMoves;IIII[J)I"⟩
abbrev cL_addCable : ByteArray := method_7_code
def yL_addCable : MethodName := ⟨RL, "addCable", "(LRackMoves;III[J)I"⟩
abbrev cL_removeCable : ByteArray := method_8_code
def yL_removeCable : MethodName := ⟨RL, "removeCable", "(LRackMoves;I[J)I"⟩
abbrev cL_addFreeze : ByteArray := method_9_code
def yL_addFreeze : MethodName := ⟨RL, "addFreeze", "(LRackMoves;III[J)I"⟩
abbrev cL_removeFreeze : ByteArray := method_10_code
def yL_removeFreeze : MethodName := ⟨RL, "removeFreeze", "(LRackMoves;I[J)I"⟩
abbrev cL_pass : ByteArray := method_11_code
def yL_pass : MethodName := ⟨RL, "pass", "(LRackMoves;I[J)I"⟩
abbrev cL_machine : ByteArray := method_12_code
def yL_machine : MethodName := ⟨RL, "machine", "(LRackMoves;II[J)I"⟩
abbrev cL_rack : ByteArray := method_13_code
def yL_rack : MethodName := ⟨RL, "rack", "(LRackMoves;II[J)I"⟩
abbrev cL_slot : ByteArray := method_14_code
def yL_slot : MethodName := ⟨RL, "slot", "(LRackMoves;II[J)I"⟩
abbrev cL_cable : ByteArray := method_15_code
def yL_cable : MethodName := ⟨RL, "cable", "(LRackMoves;II[J)I"⟩
abbrev cL_tray : ByteArray := method_16_code
def yL_tray : MethodName := ⟨RL, "tray", "(LRackMoves;I[J)I"⟩
abbrev cL_value : ByteArray := method_17_code
def yL_value : MethodName := ⟨RL, "value", "(LRackMoves;I[J)I"⟩
abbrev cL_move : ByteArray := method_18_code
def yL_move : MethodName := ⟨RL, "move", "(LRackMoves;II[J)I"⟩
abbrev cL_change : ByteArray := method_19_code
def yL_change : MethodName := ⟨RL, "change", "(LRackMoves;II[J)I"⟩
abbrev cL_pile : ByteArray := method_20_code
def yL_pile : MethodName := ⟨RL, "pile", "(LRackMoves;II[J)I"⟩
abbrev cL_mayMove : ByteArray := method_21_code
def yL_mayMove : MethodName := ⟨RL, "mayMove", "(LRackMoves;II[J)I"⟩
abbrev cL_bestRack : ByteArray := method_22_code
def yL_bestRack : MethodName := ⟨RL, "bestRack", "(LRackMoves;I[J)I"⟩
abbrev cL_append : ByteArray := method_23_code
def yL_append : MethodName := ⟨RL, "append", "(LRackMoves;I[J)I"⟩
abbrev cL_undo : ByteArray := method_24_code
def yL_undo : MethodName := ⟨RL, "undo", "(LRackMoves;[J)I"⟩
abbrev cL_law : ByteArray := code
def yL_law : MethodName := ⟨RL, "law", "([I)Z"⟩
set_option maxRecDepth 20000 in
abbrev vwCl : List vw_C := [(RX0, TX0, 5), (RX1, TX1, 10), (RX2, TX2, 4), (RX3, TX3, 5), (RX4, TX4, 13)]
abbrev wsX00 : List Cond := u_ws RX0 TX0 5
abbrev wsX10 : List Cond := u_ws RX1 TX1 10
abbrev wsX20 : List Cond := u_ws RX2 TX2 4
abbrev wsX30 : List Cond := u_ws RX3 TX3 5
abbrev wsX40 : List Cond := u_ws RX4 TX4 13
end
section
theorem dX2_init_0 : decode cX2_init 0 = .ok (.aload_n 0, 1) := by decide +kernel
theorem dX2_init_1 : decode cX2_init 1 = .ok (.invokespecial 3, 3) := by decide +kernel
theorem dX2_init_4 : decode cX2_init 4 = .ok (.aload_n 0, 1) := by decide +kernel
theorem dX2_init_5 : decode cX2_init 5 = .ok (.iconst 0, 1) := by decide +kernel
theorem dX2_init_6 : decode cX2_init 6 = .ok (.putfield 9, 3) := by decide +kernel
theorem dX2_init_9 : decode cX2_init 9 = .ok (.aload_n 0, 1) := by decide +kernel
theorem dX2_init_10 : decode cX2_init 10 = .ok (.iload_n 1, 1) := by decide +kernel
theorem dX2_init_11 : decode cX2_init 11 = .ok (.putfield 15, 3) := by decide +kernel
theorem dX2_init_14 : decode cX2_init 14 = .ok (.aload_n 0, 1) := by decide +kernel
theorem dX2_init_15 : decode cX2_init 15 = .ok (.iload_n 2, 1) := by decide +kernel
theorem dX2_init_16 : decode cX2_init 16 = .ok (.putfield 18, 3) := by decide +kernel
theorem dX2_init_19 : decode cX2_init 19 = .ok (.aload_n 0, 1) := by decide +kernel
theorem dX2_init_20 : decode cX2_init 20 = .ok (.iload_n 1, 1) := by decide +kernel
theorem dX2_init_21 : decode cX2_init 21 = .ok (.iload_n 2, 1) := by decide +kernel
theorem dX2_init_22 : decode cX2_init 22 = .ok (.imul, 1) := by decide +kernel
theorem dX2_init_23 : decode cX2_init 23 = .ok (.newarray .int, 2) := by decide +kernel
theorem dX2_init_25 : decode cX2_init 25 = .ok (.putfield 21, 3) := by decide +kernel
theorem dX2_init_28 : decode cX2_init 28 = .ok (.return_, 1) := by decide +kernel
theorem dX2_hasRow_0 : decode cX2_hasRow 0 = .ok (.iload_n 1, 1) := by decide +kernel
theorem dX2_hasRow_1 : decode cX2_hasRow 1 = .ok (.ifCond .lt 15, 3) := by decide +kernel
theorem dX2_hasRow_4 : decode cX2_hasRow 4 = .ok (.iload_n 1, 1) := by decide +kernel
theorem dX2_hasRow_5 : decode cX2_hasRow 5 = .ok (.aload_n 0, 1) := by decide +kernel
theorem dX2_hasRow_6 : decode cX2_hasRow 6 = .ok (.getfield 9, 3) := by decide +kernel
theorem dX2_hasRow_9 : decode cX2_hasRow 9 = .ok (.if_icmp .ge 7, 3) := by decide +kernel
theorem dX2_hasRow_12 : decode cX2_hasRow 12 = .ok (.iconst 1, 1) := by decide +kernel
theorem dX2_hasRow_13 : decode cX2_hasRow 13 = .ok (.goto 4, 3) := by decide +kernel
theorem dX2_hasRow_16 : decode cX2_hasRow 16 = .ok (.iconst 0, 1) := by decide +kernel
theorem dX2_hasRow_17 : decode cX2_hasRow 17 = .ok (.ireturn, 1) := by decide +kernel
theorem dX2_isFull_0 : decode cX2_isFull 0 = .ok (.aload_n 0, 1) := by decide +kernel
theorem dX2_isFull_1 : decode cX2_isFull 1 = .ok (.getfield 9, 3) := by decide +kernel
theorem dX2_isFull_4 : decode cX2_isFull 4 = .ok (.aload_n 0, 1) := by decide +kernel
theorem dX2_isFull_5 : decode cX2_isFull 5 = .ok (.getfield 15, 3) := by decide +kernel
theorem dX2_isFull_8 : decode cX2_isFull 8 = .ok (.if_icmp .lt 7, 3) := by decide +kernel
theorem dX2_isFull_11 : decode cX2_isFull 11 = .ok (.iconst 1, 1) := by decide +kernel
theorem dX2_isFull_12 : decode cX2_isFull 12 = .ok (.goto 4, 3) := by decide +kernel
theorem dX2_isFull_15 : decode cX2_isFull 15 = .ok (.iconst 0, 1) := by decide +kernel
theorem dX2_isFull_16 : decode cX2_isFull 16 = .ok (.ireturn, 1) := by decide +kernel
theorem dX2_at_0 : decode cX2_at 0 = .ok (.iload_n 1, 1) := by decide +kernel
theorem dX2_at_1 : decode cX2_at 1 = .ok (.ifCond .lt 23, 3) := by decide +kernel
theorem dX2_at_4 : decode cX2_at 4 = .ok (.iload_n 1, 1) := by decide +kernel
theorem dX2_at_5 : decode cX2_at 5 = .ok (.aload_n 0, 1) := by decide +kernel
theorem dX2_at_6 : decode cX2_at 6 = .ok (.getfield 9, 3) := by decide +kernel
theorem dX2_at_9 : decode cX2_at 9 = .ok (.if_icmp .ge 15, 3) := by decide +kernel
theorem dX2_at_12 : decode cX2_at 12 = .ok (.iload_n 2, 1) := by decide +kernel
theorem dX2_at_13 : decode cX2_at 13 = .ok (.ifCond .lt 11, 3) := by decide +kernel
theorem dX2_at_16 : decode cX2_at 16 = .ok (.iload_n 2, 1) := by decide +kernel
theorem dX2_at_17 : decode cX2_at 17 = .ok (.aload_n 0, 1) := by decide +kernel
theorem dX2_at_18 : decode cX2_at 18 = .ok (.getfield 18, 3) := by decide +kernel
theorem dX2_at_21 : decode cX2_at 21 = .ok (.if_icmp .lt 5, 3) := by decide +kernel
theorem dX2_at_24 : decode cX2_at 24 = .ok (.iconst (-1), 1) := by decide +kernel
theorem dX2_at_25 : decode cX2_at 25 = .ok (.ireturn, 1) := by decide +kernel
theorem dX2_at_26 : decode cX2_at 26 = .ok (.aload_n 0, 1) := by decide +kernel
theorem dX2_at_27 : decode cX2_at 27 = .ok (.getfield 21, 3) := by decide +kernel
theorem dX2_at_30 : decode cX2_at 30 = .ok (.iload_n 1, 1) := by decide +kernel
theorem dX2_at_31 : decode cX2_at 31 = .ok (.aload_n 0, 1) := by decide +kernel
theorem dX2_at_32 : decode cX2_at 32 = .ok (.getfield 18, 3) := by decide +kernel
theorem dX2_at_35 : decode cX2_at 35 = .ok (.imul, 1) := by decide +kernel
theorem dX2_at_36 : decode cX2_at 36 = .ok (.iload_n 2, 1) := by decide +kernel
theorem dX2_at_37 : decode cX2_at 37 = .ok (.iadd, 1) := by decide +kernel
theorem dX2_at_38 : decode cX2_at 38 = .ok (.iaload, 1) := by decide +kernel
theorem dX2_at_39 : decode cX2_at 39 = .ok (.ireturn, 1) := by decide +kernel
theorem dX2_put_0 : decode cX2_put 0 = .ok (.iload_n 1, 1) := by decide +kernel
theorem dX2_put_1 : decode cX2_put 1 = .ok (.ifCond .lt 37, 3) := by decide +kernel
theorem dX2_put_4 : decode cX2_put 4 = .ok (.iload_n 1, 1) := by decide +kernel
theorem dX2_put_5 : decode cX2_put 5 = .ok (.aload_n 0, 1) := by decide +kernel
theorem dX2_put_6 : decode cX2_put 6 = .ok (.getfield 9, 3) := by decide +kernel
theorem dX2_put_9 : decode cX2_put 9 = .ok (.if_icmp .ge 29, 3) := by decide +kernel
theorem dX2_put_12 : decode cX2_put 12 = .ok (.iload_n 2, 1) := by decide +kernel
theorem dX2_put_13 : decode cX2_put 13 = .ok (.ifCond .lt 25, 3) := by decide +kernel
theorem dX2_put_16 : decode cX2_put 16 = .ok (.iload_n 2, 1) := by decide +kernel
theorem dX2_put_17 : decode cX2_put 17 = .ok (.aload_n 0, 1) := by decide +kernel
theorem dX2_put_18 : decode cX2_put 18 = .ok (.getfield 18, 3) := by decide +kernel
theorem dX2_put_21 : decode cX2_put 21 = .ok (.if_icmp .ge 17, 3) := by decide +kernel
theorem dX2_put_24 : decode cX2_put 24 = .ok (.aload_n 0, 1) := by decide +kernel
theorem dX2_put_25 : decode cX2_put 25 = .ok (.getfield 21, 3) := by decide +kernel
theorem dX2_put_28 : decode cX2_put 28 = .ok (.iload_n 1, 1) := by decide +kernel
theorem dX2_put_29 : decode cX2_put 29 = .ok (.aload_n 0, 1) := by decide +kernel
theorem dX2_put_30 : decode cX2_put 30 = .ok (.getfield 18, 3) := by decide +kernel
theorem dX2_put_33 : decode cX2_put 33 = .ok (.imul, 1) := by decide +kernel
theorem dX2_put_34 : decode cX2_put 34 = .ok (.iload_n 2, 1) := by decide +kernel
theorem dX2_put_35 : decode cX2_put 35 = .ok (.iadd, 1) := by decide +kernel
theorem dX2_put_36 : decode cX2_put 36 = .ok (.iload_n 3, 1) := by decide +kernel
theorem dX2_put_37 : decode cX2_put 37 = .ok (.iastore, 1) := by decide +kernel
theorem dX2_put_38 : decode cX2_put 38 = .ok (.return_, 1) := by decide +kernel
theorem dX2_addRow_0 : decode cX2_addRow 0 = .ok (.aload_n 0, 1) := by decide +kernel
theorem dX2_addRow_1 : decode cX2_addRow 1 = .ok (.invokevirtual 25, 3) := by decide +kernel
theorem dX2_addRow_4 : decode cX2_addRow 4 = .ok (.ifCond .eq 5, 3) := by decide +kernel
theorem dX2_addRow_7 : decode cX2_addRow 7 = .ok (.iconst (-1), 1) := by decide +kernel
theorem dX2_addRow_8 : decode cX2_addRow 8 = .ok (.ireturn, 1) := by decide +kernel
theorem dX2_addRow_9 : decode cX2_addRow 9 = .ok (.aload_n 0, 1) := by decide +kernel
theorem dX2_addRow_10 : decode cX2_addRow 10 = .ok (.dup, 1) := by decide +kernel
theorem dX2_addRow_11 : decode cX2_addRow 11 = .ok (.getfield 9, 3) := by decide +kernel
theorem dX2_addRow_14 : decode cX2_addRow 14 = .ok (.iconst 1, 1) := by decide +kernel
theorem dX2_addRow_15 : decode cX2_addRow 15 = .ok (.iadd, 1) := by decide +kernel
theorem dX2_addRow_16 : decode cX2_addRow 16 = .ok (.putfield 9, 3) := by decide +kernel
theorem dX2_addRow_19 : decode cX2_addRow 19 = .ok (.aload_n 0, 1) := by decide +kernel
theorem dX2_addRow_20 : decode cX2_addRow 20 = .ok (.getfield 9, 3) := by decide +kernel
theorem dX2_addRow_23 : decode cX2_addRow 23 = .ok (.iconst 1, 1) := by decide +kernel
theorem dX2_addRow_24 : decode cX2_addRow 24 = .ok (.isub, 1) := by decide +kernel
theorem dX2_addRow_25 : decode cX2_addRow 25 = .ok (.ireturn, 1) := by decide +kernel
theorem dX2_removeRow_0 : decode cX2_removeRow 0 = .ok (.aload_n 0, 1) := by decide +kernel
theorem dX2_removeRow_1 : decode cX2_removeRow 1 = .ok (.iload_n 1, 1) := by decide +kernel
theorem dX2_removeRow_2 : decode cX2_removeRow 2 = .ok (.invokevirtual 29, 3) := by decide +kernel
theorem dX2_removeRow_5 : decode cX2_removeRow 5 = .ok (.ifCond .eq 56, 3) := by decide +kernel
theorem dX2_removeRow_8 : decode cX2_removeRow 8 = .ok (.aload_n 0, 1) := by decide +kernel
theorem dX2_removeRow_9 : decode cX2_removeRow 9 = .ok (.dup, 1) := by decide +kernel
theorem dX2_removeRow_10 : decode cX2_removeRow 10 = .ok (.getfield 9, 3) := by decide +kernel
theorem dX2_removeRow_13 : decode cX2_removeRow 13 = .ok (.iconst 1, 1) := by decide +kernel
theorem dX2_removeRow_14 : decode cX2_removeRow 14 = .ok (.isub, 1) := by decide +kernel
theorem dX2_removeRow_15 : decode cX2_removeRow 15 = .ok (.putfield 9, 3) := by decide +kernel
theorem dX2_removeRow_18 : decode cX2_removeRow 18 = .ok (.iload_n 1, 1) := by decide +kernel
theorem dX2_removeRow_19 : decode cX2_removeRow 19 = .ok (.aload_n 0, 1) := by decide +kernel
theorem dX2_removeRow_20 : decode cX2_removeRow 20 = .ok (.getfield 18, 3) := by decide +kernel
theorem dX2_removeRow_23 : decode cX2_removeRow 23 = .ok (.imul, 1) := by decide +kernel
theorem dX2_removeRow_24 : decode cX2_removeRow 24 = .ok (.istore_n 2, 1) := by decide +kernel
theorem dX2_removeRow_25 : decode cX2_removeRow 25 = .ok (.iload_n 2, 1) := by decide +kernel
theorem dX2_removeRow_26 : decode cX2_removeRow 26 = .ok (.aload_n 0, 1) := by decide +kernel
theorem dX2_removeRow_27 : decode cX2_removeRow 27 = .ok (.getfield 9, 3) := by decide +kernel
theorem dX2_removeRow_30 : decode cX2_removeRow 30 = .ok (.aload_n 0, 1) := by decide +kernel
theorem dX2_removeRow_31 : decode cX2_removeRow 31 = .ok (.getfield 18, 3) := by decide +kernel
theorem dX2_removeRow_34 : decode cX2_removeRow 34 = .ok (.imul, 1) := by decide +kernel
theorem dX2_removeRow_35 : decode cX2_removeRow 35 = .ok (.if_icmp .ge 26, 3) := by decide +kernel
theorem dX2_removeRow_38 : decode cX2_removeRow 38 = .ok (.aload_n 0, 1) := by decide +kernel
theorem dX2_removeRow_39 : decode cX2_removeRow 39 = .ok (.getfield 21, 3) := by decide +kernel
theorem dX2_removeRow_42 : decode cX2_removeRow 42 = .ok (.iload_n 2, 1) := by decide +kernel
theorem dX2_removeRow_43 : decode cX2_removeRow 43 = .ok (.aload_n 0, 1) := by decide +kernel
theorem dX2_removeRow_44 : decode cX2_removeRow 44 = .ok (.getfield 21, 3) := by decide +kernel
theorem dX2_removeRow_47 : decode cX2_removeRow 47 = .ok (.iload_n 2, 1) := by decide +kernel
theorem dX2_removeRow_48 : decode cX2_removeRow 48 = .ok (.aload_n 0, 1) := by decide +kernel
theorem dX2_removeRow_49 : decode cX2_removeRow 49 = .ok (.getfield 18, 3) := by decide +kernel
theorem dX2_removeRow_52 : decode cX2_removeRow 52 = .ok (.iadd, 1) := by decide +kernel
theorem dX2_removeRow_53 : decode cX2_removeRow 53 = .ok (.iaload, 1) := by decide +kernel
theorem dX2_removeRow_54 : decode cX2_removeRow 54 = .ok (.iastore, 1) := by decide +kernel
theorem dX2_removeRow_55 : decode cX2_removeRow 55 = .ok (.iinc 2 1, 3) := by decide +kernel
theorem dX2_removeRow_58 : decode cX2_removeRow 58 = .ok (.goto (-33), 3) := by decide +kernel
theorem dX2_removeRow_61 : decode cX2_removeRow 61 = .ok (.return_, 1) := by decide +kernel
theorem dX2_copyFrom_0 : decode cX2_copyFrom 0 = .ok (.aload_n 1, 1) := by decide +kernel
theorem dX2_copyFrom_1 : decode cX2_copyFrom 1 = .ok (.getfield 21, 3) := by decide +kernel
theorem dX2_copyFrom_4 : decode cX2_copyFrom 4 = .ok (.arraylength, 1) := by decide +kernel
theorem dX2_copyFrom_5 : decode cX2_copyFrom 5 = .ok (.aload_n 0, 1) := by decide +kernel
theorem dX2_copyFrom_6 : decode cX2_copyFrom 6 = .ok (.getfield 21, 3) := by decide +kernel
theorem dX2_copyFrom_9 : decode cX2_copyFrom 9 = .ok (.arraylength, 1) := by decide +kernel
theorem dX2_copyFrom_10 : decode cX2_copyFrom 10 = .ok (.if_icmp .ne 29, 3) := by decide +kernel
theorem dX2_copyFrom_13 : decode cX2_copyFrom 13 = .ok (.aload_n 1, 1) := by decide +kernel
theorem dX2_copyFrom_14 : decode cX2_copyFrom 14 = .ok (.getfield 21, 3) := by decide +kernel
theorem dX2_copyFrom_17 : decode cX2_copyFrom 17 = .ok (.iconst 0, 1) := by decide +kernel
theorem dX2_copyFrom_18 : decode cX2_copyFrom 18 = .ok (.aload_n 0, 1) := by decide +kernel
theorem dX2_copyFrom_19 : decode cX2_copyFrom 19 = .ok (.getfield 21, 3) := by decide +kernel
theorem dX2_copyFrom_22 : decode cX2_copyFrom 22 = .ok (.iconst 0, 1) := by decide +kernel
theorem dX2_copyFrom_23 : decode cX2_copyFrom 23 = .ok (.aload_n 0, 1) := by decide +kernel
theorem dX2_copyFrom_24 : decode cX2_copyFrom 24 = .ok (.getfield 21, 3) := by decide +kernel
theorem dX2_copyFrom_27 : decode cX2_copyFrom 27 = .ok (.arraylength, 1) := by decide +kernel
theorem dX2_copyFrom_28 : decode cX2_copyFrom 28 = .ok (.invokestatic 33, 3) := by decide +kernel
theorem dX2_copyFrom_31 : decode cX2_copyFrom 31 = .ok (.aload_n 0, 1) := by decide +kernel
theorem dX2_copyFrom_32 : decode cX2_copyFrom 32 = .ok (.aload_n 1, 1) := by decide +kernel
theorem dX2_copyFrom_33 : decode cX2_copyFrom 33 = .ok (.getfield 9, 3) := by decide +kernel
theorem dX2_copyFrom_36 : decode cX2_copyFrom 36 = .ok (.putfield 9, 3) := by decide +kernel
theorem dX2_copyFrom_39 : decode cX2_copyFrom 39 = .ok (.return_, 1) := by decide +kernel
theorem dX1_init_0 : decode cX1_init 0 = .ok (.aload_n 0, 1) := by decide +kernel
theorem dX1_init_1 : decode cX1_init 1 = .ok (.invokespecial 3, 3) := by decide +kernel
theorem dX1_init_4 : decode cX1_init 4 = .ok (.aload_n 0, 1) := by decide +kernel
theorem dX1_init_5 : decode cX1_init 5 = .ok (.new 9, 3) := by decide +kernel
theorem dX1_init_8 : decode cX1_init 8 = .ok (.dup, 1) := by decide +kernel
theorem dX1_init_9 : decode cX1_init 9 = .ok (.bipush 12, 2) := by decide +kernel
theorem dX1_init_11 : decode cX1_init 11 = .ok (.bipush 6, 2) := by decide +kernel
theorem dX1_init_13 : decode cX1_init 13 = .ok (.invokespecial 11, 3) := by decide +kernel
theorem dX1_init_16 : decode cX1_init 16 = .ok (.putfield 14, 3) := by decide +kernel
theorem dX1_init_19 : decode cX1_init 19 = .ok (.aload_n 0, 1) := by decide +kernel
theorem dX1_init_20 : decode cX1_init 20 = .ok (.new 9, 3) := by decide +kernel
theorem dX1_init_23 : decode cX1_init 23 = .ok (.dup, 1) := by decide +kernel
theorem dX1_init_24 : decode cX1_init 24 = .ok (.bipush 10, 2) := by decide +kernel
theorem dX1_init_26 : decode cX1_init 26 = .ok (.iconst 3, 1) := by decide +kernel
theorem dX1_init_27 : decode cX1_init 27 = .ok (.invokespecial 11, 3) := by decide +kernel
theorem dX1_init_30 : decode cX1_init 30 = .ok (.putfield 20, 3) := by decide +kernel
theorem dX1_init_33 : decode cX1_init 33 = .ok (.aload_n 0, 1) := by decide +kernel
theorem dX1_init_34 : decode cX1_init 34 = .ok (.new 9, 3) := by decide +kernel
theorem dX1_init_37 : decode cX1_init 37 = .ok (.dup, 1) := by decide +kernel
theorem dX1_init_38 : decode cX1_init 38 = .ok (.bipush 6, 2) := by decide +kernel
theorem dX1_init_40 : decode cX1_init 40 = .ok (.iconst 3, 1) := by decide +kernel
theorem dX1_init_41 : decode cX1_init 41 = .ok (.invokespecial 11, 3) := by decide +kernel
theorem dX1_init_44 : decode cX1_init 44 = .ok (.putfield 23, 3) := by decide +kernel
theorem dX1_init_47 : decode cX1_init 47 = .ok (.aload_n 0, 1) := by decide +kernel
theorem dX1_init_48 : decode cX1_init 48 = .ok (.new 9, 3) := by decide +kernel
theorem dX1_init_51 : decode cX1_init 51 = .ok (.dup, 1) := by decide +kernel
theorem dX1_init_52 : decode cX1_init 52 = .ok (.bipush 20, 2) := by decide +kernel
theorem dX1_init_54 : decode cX1_init 54 = .ok (.iconst 4, 1) := by decide +kernel
theorem dX1_init_55 : decode cX1_init 55 = .ok (.invokespecial 11, 3) := by decide +kernel
theorem dX1_init_58 : decode cX1_init 58 = .ok (.putfield 26, 3) := by decide +kernel
theorem dX1_init_61 : decode cX1_init 61 = .ok (.aload_n 0, 1) := by decide +kernel
theorem dX1_init_62 : decode cX1_init 62 = .ok (.bipush 6, 2) := by decide +kernel
theorem dX1_init_64 : decode cX1_init 64 = .ok (.newarray .int, 2) := by decide +kernel
theorem dX1_init_66 : decode cX1_init 66 = .ok (.putfield 29, 3) := by decide +kernel
theorem dX1_init_69 : decode cX1_init 69 = .ok (.aload_n 0, 1) := by decide +kernel
theorem dX1_init_70 : decode cX1_init 70 = .ok (.iconst 5, 1) := by decide +kernel
theorem dX1_init_71 : decode cX1_init 71 = .ok (.newarray .int, 2) := by decide +kernel
theorem dX1_init_73 : decode cX1_init 73 = .ok (.putfield 33, 3) := by decide +kernel
theorem dX1_init_76 : decode cX1_init 76 = .ok (.aload_n 0, 1) := by decide +kernel
theorem dX1_init_77 : decode cX1_init 77 = .ok (.bipush 100, 2) := by decide +kernel
theorem dX1_init_79 : decode cX1_init 79 = .ok (.putfield 36, 3) := by decide +kernel
theorem dX1_init_82 : decode cX1_init 82 = .ok (.aload_n 0, 1) := by decide +kernel
theorem dX1_init_83 : decode cX1_init 83 = .ok (.iconst 0, 1) := by decide +kernel
theorem dX1_init_84 : decode cX1_init 84 = .ok (.putfield 40, 3) := by decide +kernel
theorem dX1_init_87 : decode cX1_init 87 = .ok (.aload_n 0, 1) := by decide +kernel
theorem dX1_init_88 : decode cX1_init 88 = .ok (.iconst 0, 1) := by decide +kernel
theorem dX1_init_89 : decode cX1_init 89 = .ok (.putfield 43, 3) := by decide +kernel
theorem dX1_init_92 : decode cX1_init 92 = .ok (.aload_n 0, 1) := by decide +kernel
theorem dX1_init_93 : decode cX1_init 93 = .ok (.iconst 0, 1) := by decide +kernel
theorem dX1_init_94 : decode cX1_init 94 = .ok (.putfield 46, 3) := by decide +kernel
theorem dX1_init_97 : decode cX1_init 97 = .ok (.iconst 0, 1) := by decide +kernel
theorem dX1_init_98 : decode cX1_init 98 = .ok (.istore_n 1, 1) := by decide +kernel
theorem dX1_init_99 : decode cX1_init 99 = .ok (.iload_n 1, 1) := by decide +kernel
theorem dX1_init_100 : decode cX1_init 100 = .ok (.bipush 6, 2) := by decide +kernel
theorem dX1_init_102 : decode cX1_init 102 = .ok (.if_icmp .ge 18, 3) := by decide +kernel
theorem dX1_init_105 : decode cX1_init 105 = .ok (.aload_n 0, 1) := by decide +kernel
theorem dX1_init_106 : decode cX1_init 106 = .ok (.getfield 29, 3) := by decide +kernel
theorem dX1_init_109 : decode cX1_init 109 = .ok (.iload_n 1, 1) := by decide +kernel
theorem dX1_init_110 : decode cX1_init 110 = .ok (.sipush 200, 3) := by decide +kernel
theorem dX1_init_113 : decode cX1_init 113 = .ok (.iastore, 1) := by decide +kernel
theorem dX1_init_114 : decode cX1_init 114 = .ok (.iinc 1 1, 3) := by decide +kernel
theorem dX1_init_117 : decode cX1_init 117 = .ok (.goto (-18), 3) := by decide +kernel
theorem dX1_init_120 : decode cX1_init 120 = .ok (.iconst 0, 1) := by decide +kernel
theorem dX1_init_121 : decode cX1_init 121 = .ok (.istore_n 1, 1) := by decide +kernel
theorem dX1_init_122 : decode cX1_init 122 = .ok (.iload_n 1, 1) := by decide +kernel
theorem dX1_init_123 : decode cX1_init 123 = .ok (.iconst 5, 1) := by decide +kernel
theorem dX1_init_124 : decode cX1_init 124 = .ok (.if_icmp .ge 16, 3) := by decide +kernel
theorem dX1_init_127 : decode cX1_init 127 = .ok (.aload_n 0, 1) := by decide +kernel
theorem dX1_init_128 : decode cX1_init 128 = .ok (.getfield 33, 3) := by decide +kernel
theorem dX1_init_131 : decode cX1_init 131 = .ok (.iload_n 1, 1) := by decide +kernel
theorem dX1_init_132 : decode cX1_init 132 = .ok (.iconst 4, 1) := by decide +kernel
theorem dX1_init_133 : decode cX1_init 133 = .ok (.iastore, 1) := by decide +kernel
theorem dX1_init_134 : decode cX1_init 134 = .ok (.iinc 1 1, 3) := by decide +kernel
theorem dX1_init_137 : decode cX1_init 137 = .ok (.goto (-15), 3) := by decide +kernel
theorem dX1_init_140 : decode cX1_init 140 = .ok (.return_, 1) := by decide +kernel
theorem dX1_copyFrom_0 : decode cX1_copyFrom 0 = .ok (.aload_n 0, 1) := by decide +kernel
theorem dX1_copyFrom_1 : decode cX1_copyFrom 1 = .ok (.getfield 14, 3) := by decide +kernel
theorem dX1_copyFrom_4 : decode cX1_copyFrom 4 = .ok (.aload_n 1, 1) := by decide +kernel
theorem dX1_copyFrom_5 : decode cX1_copyFrom 5 = .ok (.getfield 14, 3) := by decide +kernel
theorem dX1_copyFrom_8 : decode cX1_copyFrom 8 = .ok (.invokevirtual 49, 3) := by decide +kernel
theorem dX1_copyFrom_11 : decode cX1_copyFrom 11 = .ok (.aload_n 0, 1) := by decide +kernel
theorem dX1_copyFrom_12 : decode cX1_copyFrom 12 = .ok (.getfield 20, 3) := by decide +kernel
theorem dX1_copyFrom_15 : decode cX1_copyFrom 15 = .ok (.aload_n 1, 1) := by decide +kernel
theorem dX1_copyFrom_16 : decode cX1_copyFrom 16 = .ok (.getfield 20, 3) := by decide +kernel
theorem dX1_copyFrom_19 : decode cX1_copyFrom 19 = .ok (.invokevirtual 49, 3) := by decide +kernel
theorem dX1_copyFrom_22 : decode cX1_copyFrom 22 = .ok (.aload_n 0, 1) := by decide +kernel
theorem dX1_copyFrom_23 : decode cX1_copyFrom 23 = .ok (.getfield 23, 3) := by decide +kernel
theorem dX1_copyFrom_26 : decode cX1_copyFrom 26 = .ok (.aload_n 1, 1) := by decide +kernel
theorem dX1_copyFrom_27 : decode cX1_copyFrom 27 = .ok (.getfield 23, 3) := by decide +kernel
theorem dX1_copyFrom_30 : decode cX1_copyFrom 30 = .ok (.invokevirtual 49, 3) := by decide +kernel
theorem dX1_copyFrom_33 : decode cX1_copyFrom 33 = .ok (.aload_n 0, 1) := by decide +kernel
theorem dX1_copyFrom_34 : decode cX1_copyFrom 34 = .ok (.getfield 26, 3) := by decide +kernel
theorem dX1_copyFrom_37 : decode cX1_copyFrom 37 = .ok (.aload_n 1, 1) := by decide +kernel
theorem dX1_copyFrom_38 : decode cX1_copyFrom 38 = .ok (.getfield 26, 3) := by decide +kernel
theorem dX1_copyFrom_41 : decode cX1_copyFrom 41 = .ok (.invokevirtual 49, 3) := by decide +kernel
theorem dX1_copyFrom_44 : decode cX1_copyFrom 44 = .ok (.aload_n 1, 1) := by decide +kernel
theorem dX1_copyFrom_45 : decode cX1_copyFrom 45 = .ok (.getfield 29, 3) := by decide +kernel
theorem dX1_copyFrom_48 : decode cX1_copyFrom 48 = .ok (.iconst 0, 1) := by decide +kernel
theorem dX1_copyFrom_49 : decode cX1_copyFrom 49 = .ok (.aload_n 0, 1) := by decide +kernel
theorem dX1_copyFrom_50 : decode cX1_copyFrom 50 = .ok (.getfield 29, 3) := by decide +kernel
theorem dX1_copyFrom_53 : decode cX1_copyFrom 53 = .ok (.iconst 0, 1) := by decide +kernel
theorem dX1_copyFrom_54 : decode cX1_copyFrom 54 = .ok (.bipush 6, 2) := by decide +kernel
theorem dX1_copyFrom_56 : decode cX1_copyFrom 56 = .ok (.invokestatic 53, 3) := by decide +kernel
theorem dX1_copyFrom_59 : decode cX1_copyFrom 59 = .ok (.aload_n 1, 1) := by decide +kernel
theorem dX1_copyFrom_60 : decode cX1_copyFrom 60 = .ok (.getfield 33, 3) := by decide +kernel
theorem dX1_copyFrom_63 : decode cX1_copyFrom 63 = .ok (.iconst 0, 1) := by decide +kernel
theorem dX1_copyFrom_64 : decode cX1_copyFrom 64 = .ok (.aload_n 0, 1) := by decide +kernel
theorem dX1_copyFrom_65 : decode cX1_copyFrom 65 = .ok (.getfield 33, 3) := by decide +kernel
theorem dX1_copyFrom_68 : decode cX1_copyFrom 68 = .ok (.iconst 0, 1) := by decide +kernel
theorem dX1_copyFrom_69 : decode cX1_copyFrom 69 = .ok (.iconst 5, 1) := by decide +kernel
theorem dX1_copyFrom_70 : decode cX1_copyFrom 70 = .ok (.invokestatic 53, 3) := by decide +kernel
theorem dX1_copyFrom_73 : decode cX1_copyFrom 73 = .ok (.aload_n 0, 1) := by decide +kernel
theorem dX1_copyFrom_74 : decode cX1_copyFrom 74 = .ok (.aload_n 1, 1) := by decide +kernel
theorem dX1_copyFrom_75 : decode cX1_copyFrom 75 = .ok (.getfield 36, 3) := by decide +kernel
theorem dX1_copyFrom_78 : decode cX1_copyFrom 78 = .ok (.putfield 36, 3) := by decide +kernel
theorem dX1_copyFrom_81 : decode cX1_copyFrom 81 = .ok (.aload_n 0, 1) := by decide +kernel
theorem dX1_copyFrom_82 : decode cX1_copyFrom 82 = .ok (.aload_n 1, 1) := by decide +kernel
theorem dX1_copyFrom_83 : decode cX1_copyFrom 83 = .ok (.getfield 40, 3) := by decide +kernel
theorem dX1_copyFrom_86 : decode cX1_copyFrom 86 = .ok (.putfield 40, 3) := by decide +kernel
theorem dX1_copyFrom_89 : decode cX1_copyFrom 89 = .ok (.aload_n 0, 1) := by decide +kernel
theorem dX1_copyFrom_90 : decode cX1_copyFrom 90 = .ok (.aload_n 1, 1) := by decide +kernel
theorem dX1_copyFrom_91 : decode cX1_copyFrom 91 = .ok (.getfield 43, 3) := by decide +kernel
theorem dX1_copyFrom_94 : decode cX1_copyFrom 94 = .ok (.putfield 43, 3) := by decide +kernel
theorem dX1_copyFrom_97 : decode cX1_copyFrom 97 = .ok (.aload_n 0, 1) := by decide +kernel
theorem dX1_copyFrom_98 : decode cX1_copyFrom 98 = .ok (.aload_n 1, 1) := by decide +kernel
theorem dX1_copyFrom_99 : decode cX1_copyFrom 99 = .ok (.getfield 46, 3) := by decide +kernel
theorem dX1_copyFrom_102 : decode cX1_copyFrom 102 = .ok (.putfield 46, 3) := by decide +kernel
theorem dX1_copyFrom_105 : decode cX1_copyFrom 105 = .ok (.return_, 1) := by decide +kernel
theorem dX1_standsIn_0 : decode cX1_standsIn 0 = .ok (.aload_n 0, 1) := by decide +kernel
theorem dX1_standsIn_1 : decode cX1_standsIn 1 = .ok (.getfield 14, 3) := by decide +kernel
theorem dX1_standsIn_4 : decode cX1_standsIn 4 = .ok (.iload_n 1, 1) := by decide +kernel
theorem dX1_standsIn_5 : decode cX1_standsIn 5 = .ok (.iconst 4, 1) := by decide +kernel
theorem dX1_standsIn_6 : decode cX1_standsIn 6 = .ok (.invokevirtual 59, 3) := by decide +kernel
theorem dX1_standsIn_9 : decode cX1_standsIn 9 = .ok (.iload_n 2, 1) := by decide +kernel
theorem dX1_standsIn_10 : decode cX1_standsIn 10 = .ok (.if_icmp .ne 7, 3) := by decide +kernel
theorem dX1_standsIn_13 : decode cX1_standsIn 13 = .ok (.iconst 1, 1) := by decide +kernel
theorem dX1_standsIn_14 : decode cX1_standsIn 14 = .ok (.goto 4, 3) := by decide +kernel
theorem dX1_standsIn_17 : decode cX1_standsIn 17 = .ok (.iconst 0, 1) := by decide +kernel
theorem dX1_standsIn_18 : decode cX1_standsIn 18 = .ok (.ireturn, 1) := by decide +kernel
theorem dX1_machinesStanding_0 : decode cX1_machinesStanding 0 = .ok (.iconst 0, 1) := by decide +kernel
theorem dX1_machinesStanding_1 : decode cX1_machinesStanding 1 = .ok (.istore_n 1, 1) := by decide +kernel
theorem dX1_machinesStanding_2 : decode cX1_machinesStanding 2 = .ok (.iconst 0, 1) := by decide +kernel
theorem dX1_machinesStanding_3 : decode cX1_machinesStanding 3 = .ok (.istore_n 2, 1) := by decide +kernel
theorem dX1_machinesStanding_4 : decode cX1_machinesStanding 4 = .ok (.iload_n 2, 1) := by decide +kernel
theorem dX1_machinesStanding_5 : decode cX1_machinesStanding 5 = .ok (.aload_n 0, 1) := by decide +kernel
theorem dX1_machinesStanding_6 : decode cX1_machinesStanding 6 = .ok (.getfield 14, 3) := by decide +kernel
theorem dX1_machinesStanding_9 : decode cX1_machinesStanding 9 = .ok (.getfield 63, 3) := by decide +kernel
theorem dX1_machinesStanding_12 : decode cX1_machinesStanding 12 = .ok (.if_icmp .ge 21, 3) := by decide +kernel
theorem dX1_machinesStanding_15 : decode cX1_machinesStanding 15 = .ok (.aload_n 0, 1) := by decide +kernel
theorem dX1_machinesStanding_16 : decode cX1_machinesStanding 16 = .ok (.iload_n 2, 1) := by decide +kernel
theorem dX1_machinesStanding_17 : decode cX1_machinesStanding 17 = .ok (.iconst (-1), 1) := by decide +kernel
theorem dX1_machinesStanding_18 : decode cX1_machinesStanding 18 = .ok (.invokevirtual 66, 3) := by decide +kernel
theorem dX1_machinesStanding_21 : decode cX1_machinesStanding 21 = .ok (.ifCond .ne 6, 3) := by decide +kernel
theorem dX1_machinesStanding_24 : decode cX1_machinesStanding 24 = .ok (.iinc 1 1, 3) := by decide +kernel
theorem dX1_machinesStanding_27 : decode cX1_machinesStanding 27 = .ok (.iinc 2 1, 3) := by decide +kernel
theorem dX1_machinesStanding_30 : decode cX1_machinesStanding 30 = .ok (.goto (-26), 3) := by decide +kernel
theorem dX1_machinesStanding_33 : decode cX1_machinesStanding 33 = .ok (.iload_n 1, 1) := by decide +kernel
theorem dX1_machinesStanding_34 : decode cX1_machinesStanding 34 = .ok (.ireturn, 1) := by decide +kernel
theorem dX1_machinesIn_0 : decode cX1_machinesIn 0 = .ok (.iconst 0, 1) := by decide +kernel
theorem dX1_machinesIn_1 : decode cX1_machinesIn 1 = .ok (.istore_n 2, 1) := by decide +kernel
theorem dX1_machinesIn_2 : decode cX1_machinesIn 2 = .ok (.iconst 0, 1) := by decide +kernel
theorem dX1_machinesIn_3 : decode cX1_machinesIn 3 = .ok (.istore_n 3, 1) := by decide +kernel
theorem dX1_machinesIn_4 : decode cX1_machinesIn 4 = .ok (.iload_n 3, 1) := by decide +kernel
theorem dX1_machinesIn_5 : decode cX1_machinesIn 5 = .ok (.aload_n 0, 1) := by decide +kernel
theorem dX1_machinesIn_6 : decode cX1_machinesIn 6 = .ok (.getfield 14, 3) := by decide +kernel
theorem dX1_machinesIn_9 : decode cX1_machinesIn 9 = .ok (.getfield 63, 3) := by decide +kernel
theorem dX1_machinesIn_12 : decode cX1_machinesIn 12 = .ok (.if_icmp .ge 21, 3) := by decide +kernel
theorem dX1_machinesIn_15 : decode cX1_machinesIn 15 = .ok (.aload_n 0, 1) := by decide +kernel
theorem dX1_machinesIn_16 : decode cX1_machinesIn 16 = .ok (.iload_n 3, 1) := by decide +kernel
theorem dX1_machinesIn_17 : decode cX1_machinesIn 17 = .ok (.iload_n 1, 1) := by decide +kernel
theorem dX1_machinesIn_18 : decode cX1_machinesIn 18 = .ok (.invokevirtual 66, 3) := by decide +kernel
theorem dX1_machinesIn_21 : decode cX1_machinesIn 21 = .ok (.ifCond .eq 6, 3) := by decide +kernel
theorem dX1_machinesIn_24 : decode cX1_machinesIn 24 = .ok (.iinc 2 1, 3) := by decide +kernel
theorem dX1_machinesIn_27 : decode cX1_machinesIn 27 = .ok (.iinc 3 1, 3) := by decide +kernel
theorem dX1_machinesIn_30 : decode cX1_machinesIn 30 = .ok (.goto (-26), 3) := by decide +kernel
theorem dX1_machinesIn_33 : decode cX1_machinesIn 33 = .ok (.iload_n 2, 1) := by decide +kernel
theorem dX1_machinesIn_34 : decode cX1_machinesIn 34 = .ok (.ireturn, 1) := by decide +kernel
theorem dX1_slotsTakenIn_0 : decode cX1_slotsTakenIn 0 = .ok (.iconst 0, 1) := by decide +kernel
theorem dX1_slotsTakenIn_1 : decode cX1_slotsTakenIn 1 = .ok (.istore_n 2, 1) := by decide +kernel
theorem dX1_slotsTakenIn_2 : decode cX1_slotsTakenIn 2 = .ok (.iconst 0, 1) := by decide +kernel
theorem dX1_slotsTakenIn_3 : decode cX1_slotsTakenIn 3 = .ok (.istore_n 3, 1) := by decide +kernel
theorem dX1_slotsTakenIn_4 : decode cX1_slotsTakenIn 4 = .ok (.iload_n 3, 1) := by decide +kernel
theorem dX1_slotsTakenIn_5 : decode cX1_slotsTakenIn 5 = .ok (.aload_n 0, 1) := by decide +kernel
theorem dX1_slotsTakenIn_6 : decode cX1_slotsTakenIn 6 = .ok (.getfield 14, 3) := by decide +kernel
theorem dX1_slotsTakenIn_9 : decode cX1_slotsTakenIn 9 = .ok (.getfield 63, 3) := by decide +kernel
theorem dX1_slotsTakenIn_12 : decode cX1_slotsTakenIn 12 = .ok (.if_icmp .ge 30, 3) := by decide +kernel
theorem dX1_slotsTakenIn_15 : decode cX1_slotsTakenIn 15 = .ok (.aload_n 0, 1) := by decide +kernel
theorem dX1_slotsTakenIn_16 : decode cX1_slotsTakenIn 16 = .ok (.iload_n 3, 1) := by decide +kernel
theorem dX1_slotsTakenIn_17 : decode cX1_slotsTakenIn 17 = .ok (.iload_n 1, 1) := by decide +kernel
theorem dX1_slotsTakenIn_18 : decode cX1_slotsTakenIn 18 = .ok (.invokevirtual 66, 3) := by decide +kernel
theorem dX1_slotsTakenIn_21 : decode cX1_slotsTakenIn 21 = .ok (.ifCond .eq 15, 3) := by decide +kernel
theorem dX1_slotsTakenIn_24 : decode cX1_slotsTakenIn 24 = .ok (.iload_n 2, 1) := by decide +kernel
theorem dX1_slotsTakenIn_25 : decode cX1_slotsTakenIn 25 = .ok (.aload_n 0, 1) := by decide +kernel
theorem dX1_slotsTakenIn_26 : decode cX1_slotsTakenIn 26 = .ok (.getfield 14, 3) := by decide +kernel
theorem dX1_slotsTakenIn_29 : decode cX1_slotsTakenIn 29 = .ok (.iload_n 3, 1) := by decide +kernel
theorem dX1_slotsTakenIn_30 : decode cX1_slotsTakenIn 30 = .ok (.iconst 0, 1) := by decide +kernel
theorem dX1_slotsTakenIn_31 : decode cX1_slotsTakenIn 31 = .ok (.invokevirtual 59, 3) := by decide +kernel
theorem dX1_slotsTakenIn_34 : decode cX1_slotsTakenIn 34 = .ok (.iadd, 1) := by decide +kernel
theorem dX1_slotsTakenIn_35 : decode cX1_slotsTakenIn 35 = .ok (.istore_n 2, 1) := by decide +kernel
theorem dX1_slotsTakenIn_36 : decode cX1_slotsTakenIn 36 = .ok (.iinc 3 1, 3) := by decide +kernel
theorem dX1_slotsTakenIn_39 : decode cX1_slotsTakenIn 39 = .ok (.goto (-35), 3) := by decide +kernel
theorem dX1_slotsTakenIn_42 : decode cX1_slotsTakenIn 42 = .ok (.iload_n 2, 1) := by decide +kernel
theorem dX1_slotsTakenIn_43 : decode cX1_slotsTakenIn 43 = .ok (.ireturn, 1) := by decide +kernel
theorem dX1_machineAt_0 : decode cX1_machineAt 0 = .ok (.aload_n 0, 1) := by decide +kernel
theorem dX1_machineAt_1 : decode cX1_machineAt 1 = .ok (.iload_n 1, 1) := by decide +kernel
theorem dX1_machineAt_2 : decode cX1_machineAt 2 = .ok (.iload_n 2, 1) := by decide +kernel
theorem dX1_machineAt_3 : decode cX1_machineAt 3 = .ok (.iconst 1, 1) := by decide +kernel
theorem dX1_machineAt_4 : decode cX1_machineAt 4 = .ok (.iconst (-1), 1) := by decide +kernel
theorem dX1_machineAt_5 : decode cX1_machineAt 5 = .ok (.invokevirtual 70, 3) := by decide +kernel
theorem dX1_machineAt_8 : decode cX1_machineAt 8 = .ok (.ireturn, 1) := by decide +kernel
theorem dX1_machineWithin_0 : decode cX1_machineWithin 0 = .ok (.iconst 0, 1) := by decide +kernel
theorem dX1_machineWithin_1 : decode cX1_machineWithin 1 = .ok (.istore 5, 2) := by decide +kernel
theorem dX1_machineWithin_3 : decode cX1_machineWithin 3 = .ok (.iload 5, 2) := by decide +kernel
theorem dX1_machineWithin_5 : decode cX1_machineWithin 5 = .ok (.aload_n 0, 1) := by decide +kernel
theorem dX1_machineWithin_6 : decode cX1_machineWithin 6 = .ok (.getfield 14, 3) := by decide +kernel
theorem dX1_machineWithin_9 : decode cX1_machineWithin 9 = .ok (.getfield 63, 3) := by decide +kernel
theorem dX1_machineWithin_12 : decode cX1_machineWithin 12 = .ok (.if_icmp .ge 70, 3) := by decide +kernel
theorem dX1_machineWithin_15 : decode cX1_machineWithin 15 = .ok (.iload 5, 2) := by decide +kernel
theorem dX1_machineWithin_17 : decode cX1_machineWithin 17 = .ok (.iload 4, 2) := by decide +kernel
theorem dX1_machineWithin_19 : decode cX1_machineWithin 19 = .ok (.if_icmp .eq 57, 3) := by decide +kernel
theorem dX1_machineWithin_22 : decode cX1_machineWithin 22 = .ok (.aload_n 0, 1) := by decide +kernel
theorem dX1_machineWithin_23 : decode cX1_machineWithin 23 = .ok (.iload 5, 2) := by decide +kernel
theorem dX1_machineWithin_25 : decode cX1_machineWithin 25 = .ok (.iload_n 1, 1) := by decide +kernel
theorem dX1_machineWithin_26 : decode cX1_machineWithin 26 = .ok (.invokevirtual 66, 3) := by decide +kernel
theorem dX1_machineWithin_29 : decode cX1_machineWithin 29 = .ok (.ifCond .eq 47, 3) := by decide +kernel
theorem dX1_machineWithin_32 : decode cX1_machineWithin 32 = .ok (.aload_n 0, 1) := by decide +kernel
theorem dX1_machineWithin_33 : decode cX1_machineWithin 33 = .ok (.getfield 14, 3) := by decide +kernel
theorem dX1_machineWithin_36 : decode cX1_machineWithin 36 = .ok (.iload 5, 2) := by decide +kernel
theorem dX1_machineWithin_38 : decode cX1_machineWithin 38 = .ok (.iconst 5, 1) := by decide +kernel
theorem dX1_machineWithin_39 : decode cX1_machineWithin 39 = .ok (.invokevirtual 59, 3) := by decide +kernel
theorem dX1_machineWithin_42 : decode cX1_machineWithin 42 = .ok (.istore 6, 2) := by decide +kernel
theorem dX1_machineWithin_44 : decode cX1_machineWithin 44 = .ok (.iload 6, 2) := by decide +kernel
theorem dX1_machineWithin_46 : decode cX1_machineWithin 46 = .ok (.aload_n 0, 1) := by decide +kernel
theorem dX1_machineWithin_47 : decode cX1_machineWithin 47 = .ok (.getfield 14, 3) := by decide +kernel
theorem dX1_machineWithin_50 : decode cX1_machineWithin 50 = .ok (.iload 5, 2) := by decide +kernel
theorem dX1_machineWithin_52 : decode cX1_machineWithin 52 = .ok (.iconst 0, 1) := by decide +kernel
theorem dX1_machineWithin_53 : decode cX1_machineWithin 53 = .ok (.invokevirtual 59, 3) := by decide +kernel
theorem dX1_machineWithin_56 : decode cX1_machineWithin 56 = .ok (.iadd, 1) := by decide +kernel
theorem dX1_machineWithin_57 : decode cX1_machineWithin 57 = .ok (.istore 7, 2) := by decide +kernel
theorem dX1_machineWithin_59 : decode cX1_machineWithin 59 = .ok (.iload 6, 2) := by decide +kernel
theorem dX1_machineWithin_61 : decode cX1_machineWithin 61 = .ok (.iload_n 2, 1) := by decide +kernel
theorem dX1_machineWithin_62 : decode cX1_machineWithin 62 = .ok (.iload_n 3, 1) := by decide +kernel
theorem dX1_machineWithin_63 : decode cX1_machineWithin 63 = .ok (.iadd, 1) := by decide +kernel
theorem dX1_machineWithin_64 : decode cX1_machineWithin 64 = .ok (.if_icmp .ge 12, 3) := by decide +kernel
theorem dX1_machineWithin_67 : decode cX1_machineWithin 67 = .ok (.iload_n 2, 1) := by decide +kernel
theorem dX1_machineWithin_68 : decode cX1_machineWithin 68 = .ok (.iload 7, 2) := by decide +kernel
theorem dX1_machineWithin_70 : decode cX1_machineWithin 70 = .ok (.if_icmp .ge 6, 3) := by decide +kernel
theorem dX1_machineWithin_73 : decode cX1_machineWithin 73 = .ok (.iload 5, 2) := by decide +kernel
theorem dX1_machineWithin_75 : decode cX1_machineWithin 75 = .ok (.ireturn, 1) := by decide +kernel
theorem dX1_machineWithin_76 : decode cX1_machineWithin 76 = .ok (.iinc 5 1, 3) := by decide +kernel
theorem dX1_machineWithin_79 : decode cX1_machineWithin 79 = .ok (.goto (-76), 3) := by decide +kernel
theorem dX1_machineWithin_82 : decode cX1_machineWithin 82 = .ok (.iconst (-1), 1) := by decide +kernel
theorem dX1_machineWithin_83 : decode cX1_machineWithin 83 = .ok (.ireturn, 1) := by decide +kernel
theorem dX1_lowestSlotFor_0 : decode cX1_lowestSlotFor 0 = .ok (.iconst 0, 1) := by decide +kernel
theorem dX1_lowestSlotFor_1 : decode cX1_lowestSlotFor 1 = .ok (.istore_n 3, 1) := by decide +kernel
theorem dX1_lowestSlotFor_2 : decode cX1_lowestSlotFor 2 = .ok (.iload_n 3, 1) := by decide +kernel
theorem dX1_lowestSlotFor_3 : decode cX1_lowestSlotFor 3 = .ok (.iload_n 2, 1) := by decide +kernel
theorem dX1_lowestSlotFor_4 : decode cX1_lowestSlotFor 4 = .ok (.iadd, 1) := by decide +kernel
theorem dX1_lowestSlotFor_5 : decode cX1_lowestSlotFor 5 = .ok (.bipush 10, 2) := by decide +kernel
theorem dX1_lowestSlotFor_7 : decode cX1_lowestSlotFor 7 = .ok (.if_icmp .gt 23, 3) := by decide +kernel
theorem dX1_lowestSlotFor_10 : decode cX1_lowestSlotFor 10 = .ok (.aload_n 0, 1) := by decide +kernel
theorem dX1_lowestSlotFor_11 : decode cX1_lowestSlotFor 11 = .ok (.iload_n 1, 1) := by decide +kernel
theorem dX1_lowestSlotFor_12 : decode cX1_lowestSlotFor 12 = .ok (.iload_n 3, 1) := by decide +kernel
theorem dX1_lowestSlotFor_13 : decode cX1_lowestSlotFor 13 = .ok (.iload_n 2, 1) := by decide +kernel
theorem dX1_lowestSlotFor_14 : decode cX1_lowestSlotFor 14 = .ok (.iconst (-1), 1) := by decide +kernel
theorem dX1_lowestSlotFor_15 : decode cX1_lowestSlotFor 15 = .ok (.invokevirtual 70, 3) := by decide +kernel
theorem dX1_lowestSlotFor_18 : decode cX1_lowestSlotFor 18 = .ok (.iconst (-1), 1) := by decide +kernel
theorem dX1_lowestSlotFor_19 : decode cX1_lowestSlotFor 19 = .ok (.if_icmp .ne 5, 3) := by decide +kernel
theorem dX1_lowestSlotFor_22 : decode cX1_lowestSlotFor 22 = .ok (.iload_n 3, 1) := by decide +kernel
theorem dX1_lowestSlotFor_23 : decode cX1_lowestSlotFor 23 = .ok (.ireturn, 1) := by decide +kernel
theorem dX1_lowestSlotFor_24 : decode cX1_lowestSlotFor 24 = .ok (.iinc 3 1, 3) := by decide +kernel
theorem dX1_lowestSlotFor_27 : decode cX1_lowestSlotFor 27 = .ok (.goto (-25), 3) := by decide +kernel
theorem dX1_lowestSlotFor_30 : decode cX1_lowestSlotFor 30 = .ok (.iconst (-1), 1) := by decide +kernel
theorem dX1_lowestSlotFor_31 : decode cX1_lowestSlotFor 31 = .ok (.ireturn, 1) := by decide +kernel
theorem dX1_greatestSizeFor_0 : decode cX1_greatestSizeFor 0 = .ok (.iconst 4, 1) := by decide +kernel
theorem dX1_greatestSizeFor_1 : decode cX1_greatestSizeFor 1 = .ok (.istore_n 2, 1) := by decide +kernel
theorem dX1_greatestSizeFor_2 : decode cX1_greatestSizeFor 2 = .ok (.iload_n 2, 1) := by decide +kernel
theorem dX1_greatestSizeFor_3 : decode cX1_greatestSizeFor 3 = .ok (.ifCond .le 21, 3) := by decide +kernel
theorem dX1_greatestSizeFor_6 : decode cX1_greatestSizeFor 6 = .ok (.aload_n 0, 1) := by decide +kernel
theorem dX1_greatestSizeFor_7 : decode cX1_greatestSizeFor 7 = .ok (.iload_n 1, 1) := by decide +kernel
theorem dX1_greatestSizeFor_8 : decode cX1_greatestSizeFor 8 = .ok (.iload_n 2, 1) := by decide +kernel
theorem dX1_greatestSizeFor_9 : decode cX1_greatestSizeFor 9 = .ok (.invokevirtual 74, 3) := by decide +kernel
theorem dX1_greatestSizeFor_12 : decode cX1_greatestSizeFor 12 = .ok (.iconst (-1), 1) := by decide +kernel
theorem dX1_greatestSizeFor_13 : decode cX1_greatestSizeFor 13 = .ok (.if_icmp .eq 5, 3) := by decide +kernel
theorem dX1_greatestSizeFor_16 : decode cX1_greatestSizeFor 16 = .ok (.iload_n 2, 1) := by decide +kernel
theorem dX1_greatestSizeFor_17 : decode cX1_greatestSizeFor 17 = .ok (.ireturn, 1) := by decide +kernel
theorem dX1_greatestSizeFor_18 : decode cX1_greatestSizeFor 18 = .ok (.iinc 2 (-1), 3) := by decide +kernel
theorem dX1_greatestSizeFor_21 : decode cX1_greatestSizeFor 21 = .ok (.goto (-19), 3) := by decide +kernel
theorem dX1_greatestSizeFor_24 : decode cX1_greatestSizeFor 24 = .ok (.iconst 0, 1) := by decide +kernel
theorem dX1_greatestSizeFor_25 : decode cX1_greatestSizeFor 25 = .ok (.ireturn, 1) := by decide +kernel
theorem dX1_loadOfRack_0 : decode cX1_loadOfRack 0 = .ok (.iconst 0, 1) := by decide +kernel
theorem dX1_loadOfRack_1 : decode cX1_loadOfRack 1 = .ok (.istore_n 2, 1) := by decide +kernel
theorem dX1_loadOfRack_2 : decode cX1_loadOfRack 2 = .ok (.iconst 0, 1) := by decide +kernel
theorem dX1_loadOfRack_3 : decode cX1_loadOfRack 3 = .ok (.istore_n 3, 1) := by decide +kernel
theorem dX1_loadOfRack_4 : decode cX1_loadOfRack 4 = .ok (.iload_n 3, 1) := by decide +kernel
theorem dX1_loadOfRack_5 : decode cX1_loadOfRack 5 = .ok (.aload_n 0, 1) := by decide +kernel
theorem dX1_loadOfRack_6 : decode cX1_loadOfRack 6 = .ok (.getfield 14, 3) := by decide +kernel
theorem dX1_loadOfRack_9 : decode cX1_loadOfRack 9 = .ok (.getfield 63, 3) := by decide +kernel
theorem dX1_loadOfRack_12 : decode cX1_loadOfRack 12 = .ok (.if_icmp .ge 30, 3) := by decide +kernel
theorem dX1_loadOfRack_15 : decode cX1_loadOfRack 15 = .ok (.aload_n 0, 1) := by decide +kernel
theorem dX1_loadOfRack_16 : decode cX1_loadOfRack 16 = .ok (.iload_n 3, 1) := by decide +kernel
theorem dX1_loadOfRack_17 : decode cX1_loadOfRack 17 = .ok (.iload_n 1, 1) := by decide +kernel
theorem dX1_loadOfRack_18 : decode cX1_loadOfRack 18 = .ok (.invokevirtual 66, 3) := by decide +kernel
theorem dX1_loadOfRack_21 : decode cX1_loadOfRack 21 = .ok (.ifCond .eq 15, 3) := by decide +kernel
theorem dX1_loadOfRack_24 : decode cX1_loadOfRack 24 = .ok (.iload_n 2, 1) := by decide +kernel
theorem dX1_loadOfRack_25 : decode cX1_loadOfRack 25 = .ok (.aload_n 0, 1) := by decide +kernel
theorem dX1_loadOfRack_26 : decode cX1_loadOfRack 26 = .ok (.getfield 14, 3) := by decide +kernel
theorem dX1_loadOfRack_29 : decode cX1_loadOfRack 29 = .ok (.iload_n 3, 1) := by decide +kernel
theorem dX1_loadOfRack_30 : decode cX1_loadOfRack 30 = .ok (.iconst 1, 1) := by decide +kernel
theorem dX1_loadOfRack_31 : decode cX1_loadOfRack 31 = .ok (.invokevirtual 59, 3) := by decide +kernel
theorem dX1_loadOfRack_34 : decode cX1_loadOfRack 34 = .ok (.iadd, 1) := by decide +kernel
theorem dX1_loadOfRack_35 : decode cX1_loadOfRack 35 = .ok (.istore_n 2, 1) := by decide +kernel
theorem dX1_loadOfRack_36 : decode cX1_loadOfRack 36 = .ok (.iinc 3 1, 3) := by decide +kernel
theorem dX1_loadOfRack_39 : decode cX1_loadOfRack 39 = .ok (.goto (-35), 3) := by decide +kernel
theorem dX1_loadOfRack_42 : decode cX1_loadOfRack 42 = .ok (.iload_n 2, 1) := by decide +kernel
theorem dX1_loadOfRack_43 : decode cX1_loadOfRack 43 = .ok (.ireturn, 1) := by decide +kernel
theorem dX1_loadOfRackOnPhase_0 : decode cX1_loadOfRackOnPhase 0 = .ok (.iconst 0, 1) := by decide +kernel
theorem dX1_loadOfRackOnPhase_1 : decode cX1_loadOfRackOnPhase 1 = .ok (.istore_n 3, 1) := by decide +kernel
theorem dX1_loadOfRackOnPhase_2 : decode cX1_loadOfRackOnPhase 2 = .ok (.iconst 0, 1) := by decide +kernel
theorem dX1_loadOfRackOnPhase_3 : decode cX1_loadOfRackOnPhase 3 = .ok (.istore 4, 2) := by decide +kernel
theorem dX1_loadOfRackOnPhase_5 : decode cX1_loadOfRackOnPhase 5 = .ok (.iload 4, 2) := by decide +kernel
theorem dX1_loadOfRackOnPhase_7 : decode cX1_loadOfRackOnPhase 7 = .ok (.aload_n 0, 1) := by decide +kernel
theorem dX1_loadOfRackOnPhase_8 : decode cX1_loadOfRackOnPhase 8 = .ok (.getfield 14, 3) := by decide +kernel
theorem dX1_loadOfRackOnPhase_11 : decode cX1_loadOfRackOnPhase 11 = .ok (.getfield 63, 3) := by decide +kernel
theorem dX1_loadOfRackOnPhase_14 : decode cX1_loadOfRackOnPhase 14 = .ok (.if_icmp .ge 46, 3) := by decide +kernel
theorem dX1_loadOfRackOnPhase_17 : decode cX1_loadOfRackOnPhase 17 = .ok (.aload_n 0, 1) := by decide +kernel
theorem dX1_loadOfRackOnPhase_18 : decode cX1_loadOfRackOnPhase 18 = .ok (.iload 4, 2) := by decide +kernel
theorem dX1_loadOfRackOnPhase_20 : decode cX1_loadOfRackOnPhase 20 = .ok (.iload_n 1, 1) := by decide +kernel
theorem dX1_loadOfRackOnPhase_21 : decode cX1_loadOfRackOnPhase 21 = .ok (.invokevirtual 66, 3) := by decide +kernel
theorem dX1_loadOfRackOnPhase_24 : decode cX1_loadOfRackOnPhase 24 = .ok (.ifCond .eq 30, 3) := by decide +kernel
theorem dX1_loadOfRackOnPhase_27 : decode cX1_loadOfRackOnPhase 27 = .ok (.aload_n 0, 1) := by decide +kernel
theorem dX1_loadOfRackOnPhase_28 : decode cX1_loadOfRackOnPhase 28 = .ok (.getfield 14, 3) := by decide +kernel
theorem dX1_loadOfRackOnPhase_31 : decode cX1_loadOfRackOnPhase 31 = .ok (.iload 4, 2) := by decide +kernel
theorem dX1_loadOfRackOnPhase_33 : decode cX1_loadOfRackOnPhase 33 = .ok (.iconst 2, 1) := by decide +kernel
theorem dX1_loadOfRackOnPhase_34 : decode cX1_loadOfRackOnPhase 34 = .ok (.invokevirtual 59, 3) := by decide +kernel
theorem dX1_loadOfRackOnPhase_37 : decode cX1_loadOfRackOnPhase 37 = .ok (.iload_n 2, 1) := by decide +kernel
theorem dX1_loadOfRackOnPhase_38 : decode cX1_loadOfRackOnPhase 38 = .ok (.if_icmp .ne 16, 3) := by decide +kernel
theorem dX1_loadOfRackOnPhase_41 : decode cX1_loadOfRackOnPhase 41 = .ok (.iload_n 3, 1) := by decide +kernel
theorem dX1_loadOfRackOnPhase_42 : decode cX1_loadOfRackOnPhase 42 = .ok (.aload_n 0, 1) := by decide +kernel
theorem dX1_loadOfRackOnPhase_43 : decode cX1_loadOfRackOnPhase 43 = .ok (.getfield 14, 3) := by decide +kernel
theorem dX1_loadOfRackOnPhase_46 : decode cX1_loadOfRackOnPhase 46 = .ok (.iload 4, 2) := by decide +kernel
theorem dX1_loadOfRackOnPhase_48 : decode cX1_loadOfRackOnPhase 48 = .ok (.iconst 1, 1) := by decide +kernel
theorem dX1_loadOfRackOnPhase_49 : decode cX1_loadOfRackOnPhase 49 = .ok (.invokevirtual 59, 3) := by decide +kernel
theorem dX1_loadOfRackOnPhase_52 : decode cX1_loadOfRackOnPhase 52 = .ok (.iadd, 1) := by decide +kernel
theorem dX1_loadOfRackOnPhase_53 : decode cX1_loadOfRackOnPhase 53 = .ok (.istore_n 3, 1) := by decide +kernel
theorem dX1_loadOfRackOnPhase_54 : decode cX1_loadOfRackOnPhase 54 = .ok (.iinc 4 1, 3) := by decide +kernel
theorem dX1_loadOfRackOnPhase_57 : decode cX1_loadOfRackOnPhase 57 = .ok (.goto (-52), 3) := by decide +kernel
theorem dX1_loadOfRackOnPhase_60 : decode cX1_loadOfRackOnPhase 60 = .ok (.iload_n 3, 1) := by decide +kernel
theorem dX1_loadOfRackOnPhase_61 : decode cX1_loadOfRackOnPhase 61 = .ok (.ireturn, 1) := by decide +kernel
theorem dX1_loadOfPhase_0 : decode cX1_loadOfPhase 0 = .ok (.iconst 0, 1) := by decide +kernel
theorem dX1_loadOfPhase_1 : decode cX1_loadOfPhase 1 = .ok (.istore_n 2, 1) := by decide +kernel
theorem dX1_loadOfPhase_2 : decode cX1_loadOfPhase 2 = .ok (.iconst 0, 1) := by decide +kernel
theorem dX1_loadOfPhase_3 : decode cX1_loadOfPhase 3 = .ok (.istore_n 3, 1) := by decide +kernel
theorem dX1_loadOfPhase_4 : decode cX1_loadOfPhase 4 = .ok (.iload_n 3, 1) := by decide +kernel
theorem dX1_loadOfPhase_5 : decode cX1_loadOfPhase 5 = .ok (.aload_n 0, 1) := by decide +kernel
theorem dX1_loadOfPhase_6 : decode cX1_loadOfPhase 6 = .ok (.getfield 14, 3) := by decide +kernel
theorem dX1_loadOfPhase_9 : decode cX1_loadOfPhase 9 = .ok (.getfield 63, 3) := by decide +kernel
theorem dX1_loadOfPhase_12 : decode cX1_loadOfPhase 12 = .ok (.if_icmp .ge 47, 3) := by decide +kernel
theorem dX1_loadOfPhase_15 : decode cX1_loadOfPhase 15 = .ok (.aload_n 0, 1) := by decide +kernel
theorem dX1_loadOfPhase_16 : decode cX1_loadOfPhase 16 = .ok (.getfield 14, 3) := by decide +kernel
theorem dX1_loadOfPhase_19 : decode cX1_loadOfPhase 19 = .ok (.iload_n 3, 1) := by decide +kernel
theorem dX1_loadOfPhase_20 : decode cX1_loadOfPhase 20 = .ok (.iconst 2, 1) := by decide +kernel
theorem dX1_loadOfPhase_21 : decode cX1_loadOfPhase 21 = .ok (.invokevirtual 59, 3) := by decide +kernel
theorem dX1_loadOfPhase_24 : decode cX1_loadOfPhase 24 = .ok (.iload_n 1, 1) := by decide +kernel
theorem dX1_loadOfPhase_25 : decode cX1_loadOfPhase 25 = .ok (.if_icmp .ne 28, 3) := by decide +kernel
theorem dX1_loadOfPhase_28 : decode cX1_loadOfPhase 28 = .ok (.aload_n 0, 1) := by decide +kernel
theorem dX1_loadOfPhase_29 : decode cX1_loadOfPhase 29 = .ok (.getfield 14, 3) := by decide +kernel
theorem dX1_loadOfPhase_32 : decode cX1_loadOfPhase 32 = .ok (.iload_n 3, 1) := by decide +kernel
theorem dX1_loadOfPhase_33 : decode cX1_loadOfPhase 33 = .ok (.iconst 4, 1) := by decide +kernel
theorem dX1_loadOfPhase_34 : decode cX1_loadOfPhase 34 = .ok (.invokevirtual 59, 3) := by decide +kernel
theorem dX1_loadOfPhase_37 : decode cX1_loadOfPhase 37 = .ok (.iconst (-1), 1) := by decide +kernel
theorem dX1_loadOfPhase_38 : decode cX1_loadOfPhase 38 = .ok (.if_icmp .eq 15, 3) := by decide +kernel
theorem dX1_loadOfPhase_41 : decode cX1_loadOfPhase 41 = .ok (.iload_n 2, 1) := by decide +kernel
theorem dX1_loadOfPhase_42 : decode cX1_loadOfPhase 42 = .ok (.aload_n 0, 1) := by decide +kernel
theorem dX1_loadOfPhase_43 : decode cX1_loadOfPhase 43 = .ok (.getfield 14, 3) := by decide +kernel
theorem dX1_loadOfPhase_46 : decode cX1_loadOfPhase 46 = .ok (.iload_n 3, 1) := by decide +kernel
theorem dX1_loadOfPhase_47 : decode cX1_loadOfPhase 47 = .ok (.iconst 1, 1) := by decide +kernel
theorem dX1_loadOfPhase_48 : decode cX1_loadOfPhase 48 = .ok (.invokevirtual 59, 3) := by decide +kernel
theorem dX1_loadOfPhase_51 : decode cX1_loadOfPhase 51 = .ok (.iadd, 1) := by decide +kernel
theorem dX1_loadOfPhase_52 : decode cX1_loadOfPhase 52 = .ok (.istore_n 2, 1) := by decide +kernel
theorem dX1_loadOfPhase_53 : decode cX1_loadOfPhase 53 = .ok (.iinc 3 1, 3) := by decide +kernel
theorem dX1_loadOfPhase_56 : decode cX1_loadOfPhase 56 = .ok (.goto (-52), 3) := by decide +kernel
theorem dX1_loadOfPhase_59 : decode cX1_loadOfPhase 59 = .ok (.iload_n 2, 1) := by decide +kernel
theorem dX1_loadOfPhase_60 : decode cX1_loadOfPhase 60 = .ok (.ireturn, 1) := by decide +kernel
theorem dX1_difference_0 : decode cX1_difference 0 = .ok (.aload_n 0, 1) := by decide +kernel
theorem dX1_difference_1 : decode cX1_difference 1 = .ok (.iconst 0, 1) := by decide +kernel
theorem dX1_difference_2 : decode cX1_difference 2 = .ok (.invokevirtual 77, 3) := by decide +kernel
theorem dX1_difference_5 : decode cX1_difference 5 = .ok (.istore_n 1, 1) := by decide +kernel
theorem dX1_difference_6 : decode cX1_difference 6 = .ok (.iload_n 1, 1) := by decide +kernel
theorem dX1_difference_7 : decode cX1_difference 7 = .ok (.istore_n 2, 1) := by decide +kernel
theorem dX1_difference_8 : decode cX1_difference 8 = .ok (.iconst 1, 1) := by decide +kernel
theorem dX1_difference_9 : decode cX1_difference 9 = .ok (.istore_n 3, 1) := by decide +kernel
theorem dX1_difference_10 : decode cX1_difference 10 = .ok (.iload_n 3, 1) := by decide +kernel
theorem dX1_difference_11 : decode cX1_difference 11 = .ok (.iconst 3, 1) := by decide +kernel
theorem dX1_difference_12 : decode cX1_difference 12 = .ok (.if_icmp .ge 30, 3) := by decide +kernel
theorem dX1_difference_15 : decode cX1_difference 15 = .ok (.aload_n 0, 1) := by decide +kernel
theorem dX1_difference_16 : decode cX1_difference 16 = .ok (.iload_n 3, 1) := by decide +kernel
theorem dX1_difference_17 : decode cX1_difference 17 = .ok (.invokevirtual 77, 3) := by decide +kernel
theorem dX1_difference_20 : decode cX1_difference 20 = .ok (.istore 4, 2) := by decide +kernel
theorem dX1_difference_22 : decode cX1_difference 22 = .ok (.iload_n 1, 1) := by decide +kernel
theorem dX1_difference_23 : decode cX1_difference 23 = .ok (.iload 4, 2) := by decide +kernel
theorem dX1_difference_25 : decode cX1_difference 25 = .ok (.invokestatic 81, 3) := by decide +kernel
theorem dX1_difference_28 : decode cX1_difference 28 = .ok (.istore_n 1, 1) := by decide +kernel
theorem dX1_difference_29 : decode cX1_difference 29 = .ok (.iload_n 2, 1) := by decide +kernel
theorem dX1_difference_30 : decode cX1_difference 30 = .ok (.iload 4, 2) := by decide +kernel
theorem dX1_difference_32 : decode cX1_difference 32 = .ok (.invokestatic 86, 3) := by decide +kernel
theorem dX1_difference_35 : decode cX1_difference 35 = .ok (.istore_n 2, 1) := by decide +kernel
theorem dX1_difference_36 : decode cX1_difference 36 = .ok (.iinc 3 1, 3) := by decide +kernel
theorem dX1_difference_39 : decode cX1_difference 39 = .ok (.goto (-29), 3) := by decide +kernel
theorem dX1_difference_42 : decode cX1_difference 42 = .ok (.iload_n 1, 1) := by decide +kernel
theorem dX1_difference_43 : decode cX1_difference 43 = .ok (.iload_n 2, 1) := by decide +kernel
theorem dX1_difference_44 : decode cX1_difference 44 = .ok (.isub, 1) := by decide +kernel
theorem dX1_difference_45 : decode cX1_difference 45 = .ok (.ireturn, 1) := by decide +kernel
theorem dX1_differenceWith_0 : decode cX1_differenceWith 0 = .ok (.aload_n 0, 1) := by decide +kernel
theorem dX1_differenceWith_1 : decode cX1_differenceWith 1 = .ok (.getfield 14, 3) := by decide +kernel
theorem dX1_differenceWith_4 : decode cX1_differenceWith 4 = .ok (.iload_n 1, 1) := by decide +kernel
theorem dX1_differenceWith_5 : decode cX1_differenceWith 5 = .ok (.iconst 2, 1) := by decide +kernel
theorem dX1_differenceWith_6 : decode cX1_differenceWith 6 = .ok (.invokevirtual 59, 3) := by decide +kernel
theorem dX1_differenceWith_9 : decode cX1_differenceWith 9 = .ok (.istore_n 3, 1) := by decide +kernel
theorem dX1_differenceWith_10 : decode cX1_differenceWith 10 = .ok (.aload_n 0, 1) := by decide +kernel
theorem dX1_differenceWith_11 : decode cX1_differenceWith 11 = .ok (.getfield 14, 3) := by decide +kernel
theorem dX1_differenceWith_14 : decode cX1_differenceWith 14 = .ok (.iload_n 1, 1) := by decide +kernel
theorem dX1_differenceWith_15 : decode cX1_differenceWith 15 = .ok (.iconst 2, 1) := by decide +kernel
theorem dX1_differenceWith_16 : decode cX1_differenceWith 16 = .ok (.iload_n 2, 1) := by decide +kernel
theorem dX1_differenceWith_17 : decode cX1_differenceWith 17 = .ok (.invokevirtual 89, 3) := by decide +kernel
theorem dX1_differenceWith_20 : decode cX1_differenceWith 20 = .ok (.aload_n 0, 1) := by decide +kernel
theorem dX1_differenceWith_21 : decode cX1_differenceWith 21 = .ok (.invokevirtual 93, 3) := by decide +kernel
theorem dX1_differenceWith_24 : decode cX1_differenceWith 24 = .ok (.istore 4, 2) := by decide +kernel
theorem dX1_differenceWith_26 : decode cX1_differenceWith 26 = .ok (.aload_n 0, 1) := by decide +kernel
theorem dX1_differenceWith_27 : decode cX1_differenceWith 27 = .ok (.getfield 14, 3) := by decide +kernel
theorem dX1_differenceWith_30 : decode cX1_differenceWith 30 = .ok (.iload_n 1, 1) := by decide +kernel
theorem dX1_differenceWith_31 : decode cX1_differenceWith 31 = .ok (.iconst 2, 1) := by decide +kernel
theorem dX1_differenceWith_32 : decode cX1_differenceWith 32 = .ok (.iload_n 3, 1) := by decide +kernel
theorem dX1_differenceWith_33 : decode cX1_differenceWith 33 = .ok (.invokevirtual 89, 3) := by decide +kernel
theorem dX1_differenceWith_36 : decode cX1_differenceWith 36 = .ok (.iload 4, 2) := by decide +kernel
theorem dX1_differenceWith_38 : decode cX1_differenceWith 38 = .ok (.ireturn, 1) := by decide +kernel
theorem dX1_fullestLoadWith_0 : decode cX1_fullestLoadWith 0 = .ok (.aload_n 0, 1) := by decide +kernel
theorem dX1_fullestLoadWith_1 : decode cX1_fullestLoadWith 1 = .ok (.getfield 14, 3) := by decide +kernel
theorem dX1_fullestLoadWith_4 : decode cX1_fullestLoadWith 4 = .ok (.iload_n 1, 1) := by decide +kernel
theorem dX1_fullestLoadWith_5 : decode cX1_fullestLoadWith 5 = .ok (.iconst 1, 1) := by decide +kernel
theorem dX1_fullestLoadWith_6 : decode cX1_fullestLoadWith 6 = .ok (.invokevirtual 59, 3) := by decide +kernel
theorem dX1_fullestLoadWith_9 : decode cX1_fullestLoadWith 9 = .ok (.istore_n 3, 1) := by decide +kernel
theorem dX1_fullestLoadWith_10 : decode cX1_fullestLoadWith 10 = .ok (.iconst 0, 1) := by decide +kernel
theorem dX1_fullestLoadWith_11 : decode cX1_fullestLoadWith 11 = .ok (.istore 4, 2) := by decide +kernel
theorem dX1_fullestLoadWith_13 : decode cX1_fullestLoadWith 13 = .ok (.iconst 0, 1) := by decide +kernel
theorem dX1_fullestLoadWith_14 : decode cX1_fullestLoadWith 14 = .ok (.istore 5, 2) := by decide +kernel
theorem dX1_fullestLoadWith_16 : decode cX1_fullestLoadWith 16 = .ok (.iload 5, 2) := by decide +kernel
theorem dX1_fullestLoadWith_18 : decode cX1_fullestLoadWith 18 = .ok (.bipush 6, 2) := by decide +kernel
theorem dX1_fullestLoadWith_20 : decode cX1_fullestLoadWith 20 = .ok (.if_icmp .ge 54, 3) := by decide +kernel
theorem dX1_fullestLoadWith_23 : decode cX1_fullestLoadWith 23 = .ok (.aload_n 0, 1) := by decide +kernel
theorem dX1_fullestLoadWith_24 : decode cX1_fullestLoadWith 24 = .ok (.iload 5, 2) := by decide +kernel
theorem dX1_fullestLoadWith_26 : decode cX1_fullestLoadWith 26 = .ok (.invokevirtual 97, 3) := by decide +kernel
theorem dX1_fullestLoadWith_29 : decode cX1_fullestLoadWith 29 = .ok (.istore 6, 2) := by decide +kernel
theorem dX1_fullestLoadWith_31 : decode cX1_fullestLoadWith 31 = .ok (.aload_n 0, 1) := by decide +kernel
theorem dX1_fullestLoadWith_32 : decode cX1_fullestLoadWith 32 = .ok (.iload_n 1, 1) := by decide +kernel
theorem dX1_fullestLoadWith_33 : decode cX1_fullestLoadWith 33 = .ok (.iload 5, 2) := by decide +kernel
theorem dX1_fullestLoadWith_35 : decode cX1_fullestLoadWith 35 = .ok (.invokevirtual 66, 3) := by decide +kernel
theorem dX1_fullestLoadWith_38 : decode cX1_fullestLoadWith 38 = .ok (.ifCond .eq 9, 3) := by decide +kernel
theorem dX1_fullestLoadWith_41 : decode cX1_fullestLoadWith 41 = .ok (.iload 6, 2) := by decide +kernel
theorem dX1_fullestLoadWith_43 : decode cX1_fullestLoadWith 43 = .ok (.iload_n 3, 1) := by decide +kernel
theorem dX1_fullestLoadWith_44 : decode cX1_fullestLoadWith 44 = .ok (.isub, 1) := by decide +kernel
theorem dX1_fullestLoadWith_45 : decode cX1_fullestLoadWith 45 = .ok (.istore 6, 2) := by decide +kernel
theorem dX1_fullestLoadWith_47 : decode cX1_fullestLoadWith 47 = .ok (.iload 5, 2) := by decide +kernel
theorem dX1_fullestLoadWith_49 : decode cX1_fullestLoadWith 49 = .ok (.iload_n 2, 1) := by decide +kernel
theorem dX1_fullestLoadWith_50 : decode cX1_fullestLoadWith 50 = .ok (.if_icmp .ne 9, 3) := by decide +kernel
theorem dX1_fullestLoadWith_53 : decode cX1_fullestLoadWith 53 = .ok (.iload 6, 2) := by decide +kernel
theorem dX1_fullestLoadWith_55 : decode cX1_fullestLoadWith 55 = .ok (.iload_n 3, 1) := by decide +kernel
theorem dX1_fullestLoadWith_56 : decode cX1_fullestLoadWith 56 = .ok (.iadd, 1) := by decide +kernel
theorem dX1_fullestLoadWith_57 : decode cX1_fullestLoadWith 57 = .ok (.istore 6, 2) := by decide +kernel
theorem dX1_fullestLoadWith_59 : decode cX1_fullestLoadWith 59 = .ok (.iload 4, 2) := by decide +kernel
theorem dX1_fullestLoadWith_61 : decode cX1_fullestLoadWith 61 = .ok (.iload 6, 2) := by decide +kernel
theorem dX1_fullestLoadWith_63 : decode cX1_fullestLoadWith 63 = .ok (.invokestatic 81, 3) := by decide +kernel
theorem dX1_fullestLoadWith_66 : decode cX1_fullestLoadWith 66 = .ok (.istore 4, 2) := by decide +kernel
theorem dX1_fullestLoadWith_68 : decode cX1_fullestLoadWith 68 = .ok (.iinc 5 1, 3) := by decide +kernel
theorem dX1_fullestLoadWith_71 : decode cX1_fullestLoadWith 71 = .ok (.goto (-55), 3) := by decide +kernel
theorem dX1_fullestLoadWith_74 : decode cX1_fullestLoadWith 74 = .ok (.iload 4, 2) := by decide +kernel
theorem dX1_fullestLoadWith_76 : decode cX1_fullestLoadWith 76 = .ok (.ireturn, 1) := by decide +kernel
theorem dX1_cablesOf_0 : decode cX1_cablesOf 0 = .ok (.iconst 0, 1) := by decide +kernel
theorem dX1_cablesOf_1 : decode cX1_cablesOf 1 = .ok (.istore_n 2, 1) := by decide +kernel
theorem dX1_cablesOf_2 : decode cX1_cablesOf 2 = .ok (.iconst 0, 1) := by decide +kernel
theorem dX1_cablesOf_3 : decode cX1_cablesOf 3 = .ok (.istore_n 3, 1) := by decide +kernel
theorem dX1_cablesOf_4 : decode cX1_cablesOf 4 = .ok (.iload_n 3, 1) := by decide +kernel
theorem dX1_cablesOf_5 : decode cX1_cablesOf 5 = .ok (.aload_n 0, 1) := by decide +kernel
theorem dX1_cablesOf_6 : decode cX1_cablesOf 6 = .ok (.getfield 20, 3) := by decide +kernel
theorem dX1_cablesOf_9 : decode cX1_cablesOf 9 = .ok (.getfield 63, 3) := by decide +kernel
theorem dX1_cablesOf_12 : decode cX1_cablesOf 12 = .ok (.if_icmp .ge 38, 3) := by decide +kernel
theorem dX1_cablesOf_15 : decode cX1_cablesOf 15 = .ok (.aload_n 0, 1) := by decide +kernel
theorem dX1_cablesOf_16 : decode cX1_cablesOf 16 = .ok (.getfield 20, 3) := by decide +kernel
theorem dX1_cablesOf_19 : decode cX1_cablesOf 19 = .ok (.iload_n 3, 1) := by decide +kernel
theorem dX1_cablesOf_20 : decode cX1_cablesOf 20 = .ok (.iconst 0, 1) := by decide +kernel
theorem dX1_cablesOf_21 : decode cX1_cablesOf 21 = .ok (.invokevirtual 59, 3) := by decide +kernel
theorem dX1_cablesOf_24 : decode cX1_cablesOf 24 = .ok (.iload_n 1, 1) := by decide +kernel
theorem dX1_cablesOf_25 : decode cX1_cablesOf 25 = .ok (.if_icmp .eq 16, 3) := by decide +kernel
theorem dX1_cablesOf_28 : decode cX1_cablesOf 28 = .ok (.aload_n 0, 1) := by decide +kernel
theorem dX1_cablesOf_29 : decode cX1_cablesOf 29 = .ok (.getfield 20, 3) := by decide +kernel
theorem dX1_cablesOf_32 : decode cX1_cablesOf 32 = .ok (.iload_n 3, 1) := by decide +kernel
theorem dX1_cablesOf_33 : decode cX1_cablesOf 33 = .ok (.iconst 1, 1) := by decide +kernel
theorem dX1_cablesOf_34 : decode cX1_cablesOf 34 = .ok (.invokevirtual 59, 3) := by decide +kernel
theorem dX1_cablesOf_37 : decode cX1_cablesOf 37 = .ok (.iload_n 1, 1) := by decide +kernel
theorem dX1_cablesOf_38 : decode cX1_cablesOf 38 = .ok (.if_icmp .ne 6, 3) := by decide +kernel
theorem dX1_cablesOf_41 : decode cX1_cablesOf 41 = .ok (.iinc 2 1, 3) := by decide +kernel
theorem dX1_cablesOf_44 : decode cX1_cablesOf 44 = .ok (.iinc 3 1, 3) := by decide +kernel
theorem dX1_cablesOf_47 : decode cX1_cablesOf 47 = .ok (.goto (-43), 3) := by decide +kernel
theorem dX1_cablesOf_50 : decode cX1_cablesOf 50 = .ok (.iload_n 2, 1) := by decide +kernel
theorem dX1_cablesOf_51 : decode cX1_cablesOf 51 = .ok (.ireturn, 1) := by decide +kernel
theorem dX1_rackOfEnd_0 : decode cX1_rackOfEnd 0 = .ok (.aload_n 0, 1) := by decide +kernel
theorem dX1_rackOfEnd_1 : decode cX1_rackOfEnd 1 = .ok (.getfield 14, 3) := by decide +kernel
theorem dX1_rackOfEnd_4 : decode cX1_rackOfEnd 4 = .ok (.aload_n 0, 1) := by decide +kernel
theorem dX1_rackOfEnd_5 : decode cX1_rackOfEnd 5 = .ok (.getfield 20, 3) := by decide +kernel
theorem dX1_rackOfEnd_8 : decode cX1_rackOfEnd 8 = .ok (.iload_n 1, 1) := by decide +kernel
theorem dX1_rackOfEnd_9 : decode cX1_rackOfEnd 9 = .ok (.iload_n 2, 1) := by decide +kernel
theorem dX1_rackOfEnd_10 : decode cX1_rackOfEnd 10 = .ok (.invokevirtual 59, 3) := by decide +kernel
theorem dX1_rackOfEnd_13 : decode cX1_rackOfEnd 13 = .ok (.iconst 4, 1) := by decide +kernel
theorem dX1_rackOfEnd_14 : decode cX1_rackOfEnd 14 = .ok (.invokevirtual 59, 3) := by decide +kernel
theorem dX1_rackOfEnd_17 : decode cX1_rackOfEnd 17 = .ok (.ireturn, 1) := by decide +kernel
theorem dX1_needOfCable_0 : decode cX1_needOfCable 0 = .ok (.aload_n 0, 1) := by decide +kernel
theorem dX1_needOfCable_1 : decode cX1_needOfCable 1 = .ok (.iload_n 1, 1) := by decide +kernel
theorem dX1_needOfCable_2 : decode cX1_needOfCable 2 = .ok (.iconst 0, 1) := by decide +kernel
theorem dX1_needOfCable_3 : decode cX1_needOfCable 3 = .ok (.invokevirtual 100, 3) := by decide +kernel
theorem dX1_needOfCable_6 : decode cX1_needOfCable 6 = .ok (.istore_n 2, 1) := by decide +kernel
theorem dX1_needOfCable_7 : decode cX1_needOfCable 7 = .ok (.aload_n 0, 1) := by decide +kernel
theorem dX1_needOfCable_8 : decode cX1_needOfCable 8 = .ok (.iload_n 1, 1) := by decide +kernel
theorem dX1_needOfCable_9 : decode cX1_needOfCable 9 = .ok (.iconst 1, 1) := by decide +kernel
theorem dX1_needOfCable_10 : decode cX1_needOfCable 10 = .ok (.invokevirtual 100, 3) := by decide +kernel
theorem dX1_needOfCable_13 : decode cX1_needOfCable 13 = .ok (.istore_n 3, 1) := by decide +kernel
theorem dX1_needOfCable_14 : decode cX1_needOfCable 14 = .ok (.iload_n 2, 1) := by decide +kernel
theorem dX1_needOfCable_15 : decode cX1_needOfCable 15 = .ok (.iconst (-1), 1) := by decide +kernel
theorem dX1_needOfCable_16 : decode cX1_needOfCable 16 = .ok (.if_icmp .eq 8, 3) := by decide +kernel
theorem dX1_needOfCable_19 : decode cX1_needOfCable 19 = .ok (.iload_n 3, 1) := by decide +kernel
theorem dX1_needOfCable_20 : decode cX1_needOfCable 20 = .ok (.iconst (-1), 1) := by decide +kernel
theorem dX1_needOfCable_21 : decode cX1_needOfCable 21 = .ok (.if_icmp .ne 5, 3) := by decide +kernel
theorem dX1_needOfCable_24 : decode cX1_needOfCable 24 = .ok (.iconst 0, 1) := by decide +kernel
theorem dX1_needOfCable_25 : decode cX1_needOfCable 25 = .ok (.ireturn, 1) := by decide +kernel
theorem dX1_needOfCable_26 : decode cX1_needOfCable 26 = .ok (.iconst 2, 1) := by decide +kernel
theorem dX1_needOfCable_27 : decode cX1_needOfCable 27 = .ok (.iconst 3, 1) := by decide +kernel
theorem dX1_needOfCable_28 : decode cX1_needOfCable 28 = .ok (.iload_n 2, 1) := by decide +kernel
theorem dX1_needOfCable_29 : decode cX1_needOfCable 29 = .ok (.iload_n 3, 1) := by decide +kernel
theorem dX1_needOfCable_30 : decode cX1_needOfCable 30 = .ok (.isub, 1) := by decide +kernel
theorem dX1_needOfCable_31 : decode cX1_needOfCable 31 = .ok (.invokestatic 103, 3) := by decide +kernel
theorem dX1_needOfCable_34 : decode cX1_needOfCable 34 = .ok (.imul, 1) := by decide +kernel
theorem dX1_needOfCable_35 : decode cX1_needOfCable 35 = .ok (.iadd, 1) := by decide +kernel
theorem dX1_needOfCable_36 : decode cX1_needOfCable 36 = .ok (.ireturn, 1) := by decide +kernel
theorem dX1_cablesInTray_0 : decode cX1_cablesInTray 0 = .ok (.iconst 0, 1) := by decide +kernel
theorem dX1_cablesInTray_1 : decode cX1_cablesInTray 1 = .ok (.istore_n 2, 1) := by decide +kernel
theorem dX1_cablesInTray_2 : decode cX1_cablesInTray 2 = .ok (.iconst 0, 1) := by decide +kernel
theorem dX1_cablesInTray_3 : decode cX1_cablesInTray 3 = .ok (.istore_n 3, 1) := by decide +kernel
theorem dX1_cablesInTray_4 : decode cX1_cablesInTray 4 = .ok (.iload_n 3, 1) := by decide +kernel
theorem dX1_cablesInTray_5 : decode cX1_cablesInTray 5 = .ok (.aload_n 0, 1) := by decide +kernel
theorem dX1_cablesInTray_6 : decode cX1_cablesInTray 6 = .ok (.getfield 20, 3) := by decide +kernel
theorem dX1_cablesInTray_9 : decode cX1_cablesInTray 9 = .ok (.getfield 63, 3) := by decide +kernel
theorem dX1_cablesInTray_12 : decode cX1_cablesInTray 12 = .ok (.if_icmp .ge 74, 3) := by decide +kernel
theorem dX1_cablesInTray_15 : decode cX1_cablesInTray 15 = .ok (.aload_n 0, 1) := by decide +kernel
theorem dX1_cablesInTray_16 : decode cX1_cablesInTray 16 = .ok (.iload_n 3, 1) := by decide +kernel
theorem dX1_cablesInTray_17 : decode cX1_cablesInTray 17 = .ok (.iconst 0, 1) := by decide +kernel
theorem dX1_cablesInTray_18 : decode cX1_cablesInTray 18 = .ok (.invokevirtual 100, 3) := by decide +kernel
theorem dX1_cablesInTray_21 : decode cX1_cablesInTray 21 = .ok (.istore 4, 2) := by decide +kernel
theorem dX1_cablesInTray_23 : decode cX1_cablesInTray 23 = .ok (.aload_n 0, 1) := by decide +kernel
theorem dX1_cablesInTray_24 : decode cX1_cablesInTray 24 = .ok (.iload_n 3, 1) := by decide +kernel
theorem dX1_cablesInTray_25 : decode cX1_cablesInTray 25 = .ok (.iconst 1, 1) := by decide +kernel
theorem dX1_cablesInTray_26 : decode cX1_cablesInTray 26 = .ok (.invokevirtual 100, 3) := by decide +kernel
theorem dX1_cablesInTray_29 : decode cX1_cablesInTray 29 = .ok (.istore 5, 2) := by decide +kernel
theorem dX1_cablesInTray_31 : decode cX1_cablesInTray 31 = .ok (.iload 4, 2) := by decide +kernel
theorem dX1_cablesInTray_33 : decode cX1_cablesInTray 33 = .ok (.iconst (-1), 1) := by decide +kernel
theorem dX1_cablesInTray_34 : decode cX1_cablesInTray 34 = .ok (.if_icmp .eq 9, 3) := by decide +kernel
theorem dX1_cablesInTray_37 : decode cX1_cablesInTray 37 = .ok (.iload 5, 2) := by decide +kernel
theorem dX1_cablesInTray_39 : decode cX1_cablesInTray 39 = .ok (.iconst (-1), 1) := by decide +kernel
theorem dX1_cablesInTray_40 : decode cX1_cablesInTray 40 = .ok (.if_icmp .ne 7, 3) := by decide +kernel
theorem dX1_cablesInTray_43 : decode cX1_cablesInTray 43 = .ok (.iconst 1, 1) := by decide +kernel
theorem dX1_cablesInTray_44 : decode cX1_cablesInTray 44 = .ok (.goto 4, 3) := by decide +kernel
theorem dX1_cablesInTray_47 : decode cX1_cablesInTray 47 = .ok (.iconst 0, 1) := by decide +kernel
theorem dX1_cablesInTray_48 : decode cX1_cablesInTray 48 = .ok (.istore 6, 2) := by decide +kernel
theorem dX1_cablesInTray_50 : decode cX1_cablesInTray 50 = .ok (.iload 6, 2) := by decide +kernel
theorem dX1_cablesInTray_52 : decode cX1_cablesInTray 52 = .ok (.ifCond .ne 28, 3) := by decide +kernel
theorem dX1_cablesInTray_55 : decode cX1_cablesInTray 55 = .ok (.iload 4, 2) := by decide +kernel
theorem dX1_cablesInTray_57 : decode cX1_cablesInTray 57 = .ok (.iload 5, 2) := by decide +kernel
theorem dX1_cablesInTray_59 : decode cX1_cablesInTray 59 = .ok (.invokestatic 86, 3) := by decide +kernel
theorem dX1_cablesInTray_62 : decode cX1_cablesInTray 62 = .ok (.iload_n 1, 1) := by decide +kernel
theorem dX1_cablesInTray_63 : decode cX1_cablesInTray 63 = .ok (.if_icmp .gt 17, 3) := by decide +kernel
theorem dX1_cablesInTray_66 : decode cX1_cablesInTray 66 = .ok (.iload_n 1, 1) := by decide +kernel
theorem dX1_cablesInTray_67 : decode cX1_cablesInTray 67 = .ok (.iload 4, 2) := by decide +kernel
theorem dX1_cablesInTray_69 : decode cX1_cablesInTray 69 = .ok (.iload 5, 2) := by decide +kernel
theorem dX1_cablesInTray_71 : decode cX1_cablesInTray 71 = .ok (.invokestatic 81, 3) := by decide +kernel
theorem dX1_cablesInTray_74 : decode cX1_cablesInTray 74 = .ok (.if_icmp .ge 6, 3) := by decide +kernel
theorem dX1_cablesInTray_77 : decode cX1_cablesInTray 77 = .ok (.iinc 2 1, 3) := by decide +kernel
theorem dX1_cablesInTray_80 : decode cX1_cablesInTray 80 = .ok (.iinc 3 1, 3) := by decide +kernel
theorem dX1_cablesInTray_83 : decode cX1_cablesInTray 83 = .ok (.goto (-79), 3) := by decide +kernel
theorem dX1_cablesInTray_86 : decode cX1_cablesInTray 86 = .ok (.iload_n 2, 1) := by decide +kernel
theorem dX1_cablesInTray_87 : decode cX1_cablesInTray 87 = .ok (.ireturn, 1) := by decide +kernel
theorem dX1_isFrozen_0 : decode cX1_isFrozen 0 = .ok (.aload_n 0, 1) := by decide +kernel
theorem dX1_isFrozen_1 : decode cX1_isFrozen 1 = .ok (.getfield 14, 3) := by decide +kernel
theorem dX1_isFrozen_4 : decode cX1_isFrozen 4 = .ok (.iload_n 1, 1) := by decide +kernel
theorem dX1_isFrozen_5 : decode cX1_isFrozen 5 = .ok (.iconst 3, 1) := by decide +kernel
theorem dX1_isFrozen_6 : decode cX1_isFrozen 6 = .ok (.invokevirtual 59, 3) := by decide +kernel
theorem dX1_isFrozen_9 : decode cX1_isFrozen 9 = .ok (.istore_n 2, 1) := by decide +kernel
theorem dX1_isFrozen_10 : decode cX1_isFrozen 10 = .ok (.iconst 0, 1) := by decide +kernel
theorem dX1_isFrozen_11 : decode cX1_isFrozen 11 = .ok (.istore_n 3, 1) := by decide +kernel
theorem dX1_isFrozen_12 : decode cX1_isFrozen 12 = .ok (.iload_n 3, 1) := by decide +kernel
theorem dX1_isFrozen_13 : decode cX1_isFrozen 13 = .ok (.aload_n 0, 1) := by decide +kernel
theorem dX1_isFrozen_14 : decode cX1_isFrozen 14 = .ok (.getfield 23, 3) := by decide +kernel
theorem dX1_isFrozen_17 : decode cX1_isFrozen 17 = .ok (.getfield 63, 3) := by decide +kernel
theorem dX1_isFrozen_20 : decode cX1_isFrozen 20 = .ok (.if_icmp .ge 67, 3) := by decide +kernel
theorem dX1_isFrozen_23 : decode cX1_isFrozen 23 = .ok (.aload_n 0, 1) := by decide +kernel
theorem dX1_isFrozen_24 : decode cX1_isFrozen 24 = .ok (.getfield 23, 3) := by decide +kernel
theorem dX1_isFrozen_27 : decode cX1_isFrozen 27 = .ok (.iload_n 3, 1) := by decide +kernel
theorem dX1_isFrozen_28 : decode cX1_isFrozen 28 = .ok (.iconst 1, 1) := by decide +kernel
theorem dX1_isFrozen_29 : decode cX1_isFrozen 29 = .ok (.invokevirtual 59, 3) := by decide +kernel
theorem dX1_isFrozen_32 : decode cX1_isFrozen 32 = .ok (.istore 4, 2) := by decide +kernel
theorem dX1_isFrozen_34 : decode cX1_isFrozen 34 = .ok (.iload 4, 2) := by decide +kernel
theorem dX1_isFrozen_36 : decode cX1_isFrozen 36 = .ok (.aload_n 0, 1) := by decide +kernel
theorem dX1_isFrozen_37 : decode cX1_isFrozen 37 = .ok (.getfield 23, 3) := by decide +kernel
theorem dX1_isFrozen_40 : decode cX1_isFrozen 40 = .ok (.iload_n 3, 1) := by decide +kernel
theorem dX1_isFrozen_41 : decode cX1_isFrozen 41 = .ok (.iconst 2, 1) := by decide +kernel
theorem dX1_isFrozen_42 : decode cX1_isFrozen 42 = .ok (.invokevirtual 59, 3) := by decide +kernel
theorem dX1_isFrozen_45 : decode cX1_isFrozen 45 = .ok (.iadd, 1) := by decide +kernel
theorem dX1_isFrozen_46 : decode cX1_isFrozen 46 = .ok (.istore 5, 2) := by decide +kernel
theorem dX1_isFrozen_48 : decode cX1_isFrozen 48 = .ok (.aload_n 0, 1) := by decide +kernel
theorem dX1_isFrozen_49 : decode cX1_isFrozen 49 = .ok (.getfield 23, 3) := by decide +kernel
theorem dX1_isFrozen_52 : decode cX1_isFrozen 52 = .ok (.iload_n 3, 1) := by decide +kernel
theorem dX1_isFrozen_53 : decode cX1_isFrozen 53 = .ok (.iconst 0, 1) := by decide +kernel
theorem dX1_isFrozen_54 : decode cX1_isFrozen 54 = .ok (.invokevirtual 59, 3) := by decide +kernel
theorem dX1_isFrozen_57 : decode cX1_isFrozen 57 = .ok (.iload_n 2, 1) := by decide +kernel
theorem dX1_isFrozen_58 : decode cX1_isFrozen 58 = .ok (.if_icmp .ne 23, 3) := by decide +kernel
theorem dX1_isFrozen_61 : decode cX1_isFrozen 61 = .ok (.iload 4, 2) := by decide +kernel
theorem dX1_isFrozen_63 : decode cX1_isFrozen 63 = .ok (.aload_n 0, 1) := by decide +kernel
theorem dX1_isFrozen_64 : decode cX1_isFrozen 64 = .ok (.getfield 40, 3) := by decide +kernel
theorem dX1_isFrozen_67 : decode cX1_isFrozen 67 = .ok (.if_icmp .gt 14, 3) := by decide +kernel
theorem dX1_isFrozen_70 : decode cX1_isFrozen 70 = .ok (.aload_n 0, 1) := by decide +kernel
theorem dX1_isFrozen_71 : decode cX1_isFrozen 71 = .ok (.getfield 40, 3) := by decide +kernel
theorem dX1_isFrozen_74 : decode cX1_isFrozen 74 = .ok (.iload 5, 2) := by decide +kernel
theorem dX1_isFrozen_76 : decode cX1_isFrozen 76 = .ok (.if_icmp .ge 5, 3) := by decide +kernel
theorem dX1_isFrozen_79 : decode cX1_isFrozen 79 = .ok (.iconst 1, 1) := by decide +kernel
theorem dX1_isFrozen_80 : decode cX1_isFrozen 80 = .ok (.ireturn, 1) := by decide +kernel
theorem dX1_isFrozen_81 : decode cX1_isFrozen 81 = .ok (.iinc 3 1, 3) := by decide +kernel
theorem dX1_isFrozen_84 : decode cX1_isFrozen 84 = .ok (.goto (-72), 3) := by decide +kernel
theorem dX1_isFrozen_87 : decode cX1_isFrozen 87 = .ok (.iconst 0, 1) := by decide +kernel
theorem dX1_isFrozen_88 : decode cX1_isFrozen 88 = .ok (.ireturn, 1) := by decide +kernel
theorem dX1_firstWrong_0 : decode cX1_firstWrong 0 = .ok (.iconst 0, 1) := by decide +kernel
theorem dX1_firstWrong_1 : decode cX1_firstWrong 1 = .ok (.istore_n 1, 1) := by decide +kernel
theorem dX1_firstWrong_2 : decode cX1_firstWrong 2 = .ok (.iload_n 1, 1) := by decide +kernel
theorem dX1_firstWrong_3 : decode cX1_firstWrong 3 = .ok (.bipush 6, 2) := by decide +kernel
theorem dX1_firstWrong_5 : decode cX1_firstWrong 5 = .ok (.if_icmp .ge 25, 3) := by decide +kernel
theorem dX1_firstWrong_8 : decode cX1_firstWrong 8 = .ok (.aload_n 0, 1) := by decide +kernel
theorem dX1_firstWrong_9 : decode cX1_firstWrong 9 = .ok (.iload_n 1, 1) := by decide +kernel
theorem dX1_firstWrong_10 : decode cX1_firstWrong 10 = .ok (.invokevirtual 97, 3) := by decide +kernel
theorem dX1_firstWrong_13 : decode cX1_firstWrong 13 = .ok (.aload_n 0, 1) := by decide +kernel
theorem dX1_firstWrong_14 : decode cX1_firstWrong 14 = .ok (.getfield 29, 3) := by decide +kernel
theorem dX1_firstWrong_17 : decode cX1_firstWrong 17 = .ok (.iload_n 1, 1) := by decide +kernel
theorem dX1_firstWrong_18 : decode cX1_firstWrong 18 = .ok (.iaload, 1) := by decide +kernel
theorem dX1_firstWrong_19 : decode cX1_firstWrong 19 = .ok (.if_icmp .le 5, 3) := by decide +kernel
theorem dX1_firstWrong_22 : decode cX1_firstWrong 22 = .ok (.iconst 4, 1) := by decide +kernel
theorem dX1_firstWrong_23 : decode cX1_firstWrong 23 = .ok (.ireturn, 1) := by decide +kernel
theorem dX1_firstWrong_24 : decode cX1_firstWrong 24 = .ok (.iinc 1 1, 3) := by decide +kernel
theorem dX1_firstWrong_27 : decode cX1_firstWrong 27 = .ok (.goto (-25), 3) := by decide +kernel
theorem dX1_firstWrong_30 : decode cX1_firstWrong 30 = .ok (.iconst 0, 1) := by decide +kernel
theorem dX1_firstWrong_31 : decode cX1_firstWrong 31 = .ok (.istore_n 1, 1) := by decide +kernel
theorem dX1_firstWrong_32 : decode cX1_firstWrong 32 = .ok (.iload_n 1, 1) := by decide +kernel
theorem dX1_firstWrong_33 : decode cX1_firstWrong 33 = .ok (.iconst 5, 1) := by decide +kernel
theorem dX1_firstWrong_34 : decode cX1_firstWrong 34 = .ok (.if_icmp .ge 25, 3) := by decide +kernel
theorem dX1_firstWrong_37 : decode cX1_firstWrong 37 = .ok (.aload_n 0, 1) := by decide +kernel
theorem dX1_firstWrong_38 : decode cX1_firstWrong 38 = .ok (.iload_n 1, 1) := by decide +kernel
theorem dX1_firstWrong_39 : decode cX1_firstWrong 39 = .ok (.invokevirtual 106, 3) := by decide +kernel
theorem dX1_firstWrong_42 : decode cX1_firstWrong 42 = .ok (.aload_n 0, 1) := by decide +kernel
theorem dX1_firstWrong_43 : decode cX1_firstWrong 43 = .ok (.getfield 33, 3) := by decide +kernel
theorem dX1_firstWrong_46 : decode cX1_firstWrong 46 = .ok (.iload_n 1, 1) := by decide +kernel
theorem dX1_firstWrong_47 : decode cX1_firstWrong 47 = .ok (.iaload, 1) := by decide +kernel
theorem dX1_firstWrong_48 : decode cX1_firstWrong 48 = .ok (.if_icmp .le 5, 3) := by decide +kernel
theorem dX1_firstWrong_51 : decode cX1_firstWrong 51 = .ok (.iconst 5, 1) := by decide +kernel
theorem dX1_firstWrong_52 : decode cX1_firstWrong 52 = .ok (.ireturn, 1) := by decide +kernel
theorem dX1_firstWrong_53 : decode cX1_firstWrong 53 = .ok (.iinc 1 1, 3) := by decide +kernel
theorem dX1_firstWrong_56 : decode cX1_firstWrong 56 = .ok (.goto (-24), 3) := by decide +kernel
theorem dX1_firstWrong_59 : decode cX1_firstWrong 59 = .ok (.iconst 0, 1) := by decide +kernel
theorem dX1_firstWrong_60 : decode cX1_firstWrong 60 = .ok (.istore_n 1, 1) := by decide +kernel
theorem dX1_firstWrong_61 : decode cX1_firstWrong 61 = .ok (.iload_n 1, 1) := by decide +kernel
theorem dX1_firstWrong_62 : decode cX1_firstWrong 62 = .ok (.aload_n 0, 1) := by decide +kernel
theorem dX1_firstWrong_63 : decode cX1_firstWrong 63 = .ok (.getfield 20, 3) := by decide +kernel
theorem dX1_firstWrong_66 : decode cX1_firstWrong 66 = .ok (.getfield 63, 3) := by decide +kernel
theorem dX1_firstWrong_69 : decode cX1_firstWrong 69 = .ok (.if_icmp .ge 29, 3) := by decide +kernel
theorem dX1_firstWrong_72 : decode cX1_firstWrong 72 = .ok (.aload_n 0, 1) := by decide +kernel
theorem dX1_firstWrong_73 : decode cX1_firstWrong 73 = .ok (.iload_n 1, 1) := by decide +kernel
theorem dX1_firstWrong_74 : decode cX1_firstWrong 74 = .ok (.invokevirtual 109, 3) := by decide +kernel
theorem dX1_firstWrong_77 : decode cX1_firstWrong 77 = .ok (.aload_n 0, 1) := by decide +kernel
theorem dX1_firstWrong_78 : decode cX1_firstWrong 78 = .ok (.getfield 20, 3) := by decide +kernel
theorem dX1_firstWrong_81 : decode cX1_firstWrong 81 = .ok (.iload_n 1, 1) := by decide +kernel
theorem dX1_firstWrong_82 : decode cX1_firstWrong 82 = .ok (.iconst 2, 1) := by decide +kernel
theorem dX1_firstWrong_83 : decode cX1_firstWrong 83 = .ok (.invokevirtual 59, 3) := by decide +kernel
theorem dX1_firstWrong_86 : decode cX1_firstWrong 86 = .ok (.if_icmp .le 6, 3) := by decide +kernel
theorem dX1_firstWrong_89 : decode cX1_firstWrong 89 = .ok (.bipush 6, 2) := by decide +kernel
theorem dX1_firstWrong_91 : decode cX1_firstWrong 91 = .ok (.ireturn, 1) := by decide +kernel
theorem dX1_firstWrong_92 : decode cX1_firstWrong 92 = .ok (.iinc 1 1, 3) := by decide +kernel
theorem dX1_firstWrong_95 : decode cX1_firstWrong 95 = .ok (.goto (-34), 3) := by decide +kernel
theorem dX1_firstWrong_98 : decode cX1_firstWrong 98 = .ok (.aload_n 0, 1) := by decide +kernel
theorem dX1_firstWrong_99 : decode cX1_firstWrong 99 = .ok (.invokevirtual 93, 3) := by decide +kernel
theorem dX1_firstWrong_102 : decode cX1_firstWrong 102 = .ok (.aload_n 0, 1) := by decide +kernel
theorem dX1_firstWrong_103 : decode cX1_firstWrong 103 = .ok (.getfield 36, 3) := by decide +kernel
theorem dX1_firstWrong_106 : decode cX1_firstWrong 106 = .ok (.if_icmp .le 8, 3) := by decide +kernel
theorem dX1_firstWrong_109 : decode cX1_firstWrong 109 = .ok (.bipush 7, 2) := by decide +kernel
theorem dX1_firstWrong_111 : decode cX1_firstWrong 111 = .ok (.goto 4, 3) := by decide +kernel
theorem dX1_firstWrong_114 : decode cX1_firstWrong 114 = .ok (.iconst 0, 1) := by decide +kernel
theorem dX1_firstWrong_115 : decode cX1_firstWrong 115 = .ok (.ireturn, 1) := by decide +kernel
theorem dX1_whyNotMove_0 : decode cX1_whyNotMove 0 = .ok (.aload_n 0, 1) := by decide +kernel
theorem dX1_whyNotMove_1 : decode cX1_whyNotMove 1 = .ok (.iload_n 1, 1) := by decide +kernel
theorem dX1_whyNotMove_2 : decode cX1_whyNotMove 2 = .ok (.invokevirtual 112, 3) := by decide +kernel
theorem dX1_whyNotMove_5 : decode cX1_whyNotMove 5 = .ok (.ifCond .eq 5, 3) := by decide +kernel
theorem dX1_whyNotMove_8 : decode cX1_whyNotMove 8 = .ok (.iconst 1, 1) := by decide +kernel
theorem dX1_whyNotMove_9 : decode cX1_whyNotMove 9 = .ok (.ireturn, 1) := by decide +kernel
theorem dX1_whyNotMove_10 : decode cX1_whyNotMove 10 = .ok (.aload_n 0, 1) := by decide +kernel
theorem dX1_whyNotMove_11 : decode cX1_whyNotMove 11 = .ok (.iload_n 1, 1) := by decide +kernel
theorem dX1_whyNotMove_12 : decode cX1_whyNotMove 12 = .ok (.iload_n 2, 1) := by decide +kernel
theorem dX1_whyNotMove_13 : decode cX1_whyNotMove 13 = .ok (.invokevirtual 66, 3) := by decide +kernel
theorem dX1_whyNotMove_16 : decode cX1_whyNotMove 16 = .ok (.ifCond .eq 5, 3) := by decide +kernel
theorem dX1_whyNotMove_19 : decode cX1_whyNotMove 19 = .ok (.iconst 2, 1) := by decide +kernel
theorem dX1_whyNotMove_20 : decode cX1_whyNotMove 20 = .ok (.ireturn, 1) := by decide +kernel
theorem dX1_whyNotMove_21 : decode cX1_whyNotMove 21 = .ok (.aload_n 0, 1) := by decide +kernel
theorem dX1_whyNotMove_22 : decode cX1_whyNotMove 22 = .ok (.iload_n 1, 1) := by decide +kernel
theorem dX1_whyNotMove_23 : decode cX1_whyNotMove 23 = .ok (.iload_n 2, 1) := by decide +kernel
theorem dX1_whyNotMove_24 : decode cX1_whyNotMove 24 = .ok (.invokevirtual 116, 3) := by decide +kernel
theorem dX1_whyNotMove_27 : decode cX1_whyNotMove 27 = .ok (.istore_n 3, 1) := by decide +kernel
theorem dX1_whyNotMove_28 : decode cX1_whyNotMove 28 = .ok (.iload_n 2, 1) := by decide +kernel
theorem dX1_whyNotMove_29 : decode cX1_whyNotMove 29 = .ok (.iconst (-1), 1) := by decide +kernel
theorem dX1_whyNotMove_30 : decode cX1_whyNotMove 30 = .ok (.if_icmp .eq 10, 3) := by decide +kernel
theorem dX1_whyNotMove_33 : decode cX1_whyNotMove 33 = .ok (.iload_n 3, 1) := by decide +kernel
theorem dX1_whyNotMove_34 : decode cX1_whyNotMove 34 = .ok (.iconst (-1), 1) := by decide +kernel
theorem dX1_whyNotMove_35 : decode cX1_whyNotMove 35 = .ok (.if_icmp .ne 5, 3) := by decide +kernel
theorem dX1_whyNotMove_38 : decode cX1_whyNotMove 38 = .ok (.iconst 3, 1) := by decide +kernel
theorem dX1_whyNotMove_39 : decode cX1_whyNotMove 39 = .ok (.ireturn, 1) := by decide +kernel
theorem dX1_whyNotMove_40 : decode cX1_whyNotMove 40 = .ok (.aload_n 0, 1) := by decide +kernel
theorem dX1_whyNotMove_41 : decode cX1_whyNotMove 41 = .ok (.iload_n 1, 1) := by decide +kernel
theorem dX1_whyNotMove_42 : decode cX1_whyNotMove 42 = .ok (.iload_n 2, 1) := by decide +kernel
theorem dX1_whyNotMove_43 : decode cX1_whyNotMove 43 = .ok (.iload_n 3, 1) := by decide +kernel
theorem dX1_whyNotMove_44 : decode cX1_whyNotMove 44 = .ok (.aload_n 0, 1) := by decide +kernel
theorem dX1_whyNotMove_45 : decode cX1_whyNotMove 45 = .ok (.getfield 14, 3) := by decide +kernel
theorem dX1_whyNotMove_48 : decode cX1_whyNotMove 48 = .ok (.iload_n 1, 1) := by decide +kernel
theorem dX1_whyNotMove_49 : decode cX1_whyNotMove 49 = .ok (.iconst 2, 1) := by decide +kernel
theorem dX1_whyNotMove_50 : decode cX1_whyNotMove 50 = .ok (.invokevirtual 59, 3) := by decide +kernel
theorem dX1_whyNotMove_53 : decode cX1_whyNotMove 53 = .ok (.invokevirtual 119, 3) := by decide +kernel
theorem dX1_whyNotMove_56 : decode cX1_whyNotMove 56 = .ok (.ireturn, 1) := by decide +kernel
theorem dX1_whyNotChange_0 : decode cX1_whyNotChange 0 = .ok (.aload_n 0, 1) := by decide +kernel
theorem dX1_whyNotChange_1 : decode cX1_whyNotChange 1 = .ok (.iload_n 1, 1) := by decide +kernel
theorem dX1_whyNotChange_2 : decode cX1_whyNotChange 2 = .ok (.invokevirtual 112, 3) := by decide +kernel
theorem dX1_whyNotChange_5 : decode cX1_whyNotChange 5 = .ok (.ifCond .eq 5, 3) := by decide +kernel
theorem dX1_whyNotChange_8 : decode cX1_whyNotChange 8 = .ok (.iconst 1, 1) := by decide +kernel
theorem dX1_whyNotChange_9 : decode cX1_whyNotChange 9 = .ok (.ireturn, 1) := by decide +kernel
theorem dX1_whyNotChange_10 : decode cX1_whyNotChange 10 = .ok (.aload_n 0, 1) := by decide +kernel
theorem dX1_whyNotChange_11 : decode cX1_whyNotChange 11 = .ok (.getfield 14, 3) := by decide +kernel
theorem dX1_whyNotChange_14 : decode cX1_whyNotChange 14 = .ok (.iload_n 1, 1) := by decide +kernel
theorem dX1_whyNotChange_15 : decode cX1_whyNotChange 15 = .ok (.iconst 2, 1) := by decide +kernel
theorem dX1_whyNotChange_16 : decode cX1_whyNotChange 16 = .ok (.invokevirtual 59, 3) := by decide +kernel
theorem dX1_whyNotChange_19 : decode cX1_whyNotChange 19 = .ok (.iload_n 2, 1) := by decide +kernel
theorem dX1_whyNotChange_20 : decode cX1_whyNotChange 20 = .ok (.if_icmp .ne 5, 3) := by decide +kernel
theorem dX1_whyNotChange_23 : decode cX1_whyNotChange 23 = .ok (.iconst 2, 1) := by decide +kernel
theorem dX1_whyNotChange_24 : decode cX1_whyNotChange 24 = .ok (.ireturn, 1) := by decide +kernel
theorem dX1_whyNotChange_25 : decode cX1_whyNotChange 25 = .ok (.aload_n 0, 1) := by decide +kernel
theorem dX1_whyNotChange_26 : decode cX1_whyNotChange 26 = .ok (.iload_n 1, 1) := by decide +kernel
theorem dX1_whyNotChange_27 : decode cX1_whyNotChange 27 = .ok (.aload_n 0, 1) := by decide +kernel
theorem dX1_whyNotChange_28 : decode cX1_whyNotChange 28 = .ok (.getfield 14, 3) := by decide +kernel
theorem dX1_whyNotChange_31 : decode cX1_whyNotChange 31 = .ok (.iload_n 1, 1) := by decide +kernel
theorem dX1_whyNotChange_32 : decode cX1_whyNotChange 32 = .ok (.iconst 4, 1) := by decide +kernel
theorem dX1_whyNotChange_33 : decode cX1_whyNotChange 33 = .ok (.invokevirtual 59, 3) := by decide +kernel
theorem dX1_whyNotChange_36 : decode cX1_whyNotChange 36 = .ok (.aload_n 0, 1) := by decide +kernel
theorem dX1_whyNotChange_37 : decode cX1_whyNotChange 37 = .ok (.getfield 14, 3) := by decide +kernel
theorem dX1_whyNotChange_40 : decode cX1_whyNotChange 40 = .ok (.iload_n 1, 1) := by decide +kernel
theorem dX1_whyNotChange_41 : decode cX1_whyNotChange 41 = .ok (.iconst 5, 1) := by decide +kernel
theorem dX1_whyNotChange_42 : decode cX1_whyNotChange 42 = .ok (.invokevirtual 59, 3) := by decide +kernel
theorem dX1_whyNotChange_45 : decode cX1_whyNotChange 45 = .ok (.iload_n 2, 1) := by decide +kernel
theorem dX1_whyNotChange_46 : decode cX1_whyNotChange 46 = .ok (.invokevirtual 119, 3) := by decide +kernel
theorem dX1_whyNotChange_49 : decode cX1_whyNotChange 49 = .ok (.ireturn, 1) := by decide +kernel
theorem dX1_whyNotBackOut_0 : decode cX1_whyNotBackOut 0 = .ok (.aload_n 0, 1) := by decide +kernel
theorem dX1_whyNotBackOut_1 : decode cX1_whyNotBackOut 1 = .ok (.getfield 26, 3) := by decide +kernel
theorem dX1_whyNotBackOut_4 : decode cX1_whyNotBackOut 4 = .ok (.getfield 63, 3) := by decide +kernel
theorem dX1_whyNotBackOut_7 : decode cX1_whyNotBackOut 7 = .ok (.ifCond .ne 5, 3) := by decide +kernel
theorem dX1_whyNotBackOut_10 : decode cX1_whyNotBackOut 10 = .ok (.iconst 2, 1) := by decide +kernel
theorem dX1_whyNotBackOut_11 : decode cX1_whyNotBackOut 11 = .ok (.ireturn, 1) := by decide +kernel
theorem dX1_whyNotBackOut_12 : decode cX1_whyNotBackOut 12 = .ok (.aload_n 0, 1) := by decide +kernel
theorem dX1_whyNotBackOut_13 : decode cX1_whyNotBackOut 13 = .ok (.getfield 26, 3) := by decide +kernel
theorem dX1_whyNotBackOut_16 : decode cX1_whyNotBackOut 16 = .ok (.getfield 63, 3) := by decide +kernel
theorem dX1_whyNotBackOut_19 : decode cX1_whyNotBackOut 19 = .ok (.iconst 1, 1) := by decide +kernel
theorem dX1_whyNotBackOut_20 : decode cX1_whyNotBackOut 20 = .ok (.isub, 1) := by decide +kernel
theorem dX1_whyNotBackOut_21 : decode cX1_whyNotBackOut 21 = .ok (.istore_n 1, 1) := by decide +kernel
theorem dX1_whyNotBackOut_22 : decode cX1_whyNotBackOut 22 = .ok (.aload_n 0, 1) := by decide +kernel
theorem dX1_whyNotBackOut_23 : decode cX1_whyNotBackOut 23 = .ok (.getfield 26, 3) := by decide +kernel
theorem dX1_whyNotBackOut_26 : decode cX1_whyNotBackOut 26 = .ok (.iload_n 1, 1) := by decide +kernel
theorem dX1_whyNotBackOut_27 : decode cX1_whyNotBackOut 27 = .ok (.iconst 0, 1) := by decide +kernel
theorem dX1_whyNotBackOut_28 : decode cX1_whyNotBackOut 28 = .ok (.invokevirtual 59, 3) := by decide +kernel
theorem dX1_whyNotBackOut_31 : decode cX1_whyNotBackOut 31 = .ok (.istore_n 2, 1) := by decide +kernel
theorem dX1_whyNotBackOut_32 : decode cX1_whyNotBackOut 32 = .ok (.aload_n 0, 1) := by decide +kernel
theorem dX1_whyNotBackOut_33 : decode cX1_whyNotBackOut 33 = .ok (.getfield 26, 3) := by decide +kernel
theorem dX1_whyNotBackOut_36 : decode cX1_whyNotBackOut 36 = .ok (.iload_n 1, 1) := by decide +kernel
theorem dX1_whyNotBackOut_37 : decode cX1_whyNotBackOut 37 = .ok (.iconst 1, 1) := by decide +kernel
theorem dX1_whyNotBackOut_38 : decode cX1_whyNotBackOut 38 = .ok (.invokevirtual 59, 3) := by decide +kernel
theorem dX1_whyNotBackOut_41 : decode cX1_whyNotBackOut 41 = .ok (.istore_n 3, 1) := by decide +kernel
theorem dX1_whyNotBackOut_42 : decode cX1_whyNotBackOut 42 = .ok (.aload_n 0, 1) := by decide +kernel
theorem dX1_whyNotBackOut_43 : decode cX1_whyNotBackOut 43 = .ok (.getfield 26, 3) := by decide +kernel
theorem dX1_whyNotBackOut_46 : decode cX1_whyNotBackOut 46 = .ok (.iload_n 1, 1) := by decide +kernel
theorem dX1_whyNotBackOut_47 : decode cX1_whyNotBackOut 47 = .ok (.iconst 2, 1) := by decide +kernel
theorem dX1_whyNotBackOut_48 : decode cX1_whyNotBackOut 48 = .ok (.invokevirtual 59, 3) := by decide +kernel
theorem dX1_whyNotBackOut_51 : decode cX1_whyNotBackOut 51 = .ok (.istore 4, 2) := by decide +kernel
theorem dX1_whyNotBackOut_53 : decode cX1_whyNotBackOut 53 = .ok (.aload_n 0, 1) := by decide +kernel
theorem dX1_whyNotBackOut_54 : decode cX1_whyNotBackOut 54 = .ok (.iload_n 2, 1) := by decide +kernel
theorem dX1_whyNotBackOut_55 : decode cX1_whyNotBackOut 55 = .ok (.invokevirtual 112, 3) := by decide +kernel
theorem dX1_whyNotBackOut_58 : decode cX1_whyNotBackOut 58 = .ok (.ifCond .eq 5, 3) := by decide +kernel
theorem dX1_whyNotBackOut_61 : decode cX1_whyNotBackOut 61 = .ok (.iconst 1, 1) := by decide +kernel
theorem dX1_whyNotBackOut_62 : decode cX1_whyNotBackOut 62 = .ok (.ireturn, 1) := by decide +kernel
theorem dX1_whyNotBackOut_63 : decode cX1_whyNotBackOut 63 = .ok (.iload_n 3, 1) := by decide +kernel
theorem dX1_whyNotBackOut_64 : decode cX1_whyNotBackOut 64 = .ok (.iconst (-1), 1) := by decide +kernel
theorem dX1_whyNotBackOut_65 : decode cX1_whyNotBackOut 65 = .ok (.if_icmp .eq 26, 3) := by decide +kernel
theorem dX1_whyNotBackOut_68 : decode cX1_whyNotBackOut 68 = .ok (.aload_n 0, 1) := by decide +kernel
theorem dX1_whyNotBackOut_69 : decode cX1_whyNotBackOut 69 = .ok (.iload_n 3, 1) := by decide +kernel
theorem dX1_whyNotBackOut_70 : decode cX1_whyNotBackOut 70 = .ok (.iload 4, 2) := by decide +kernel
theorem dX1_whyNotBackOut_72 : decode cX1_whyNotBackOut 72 = .ok (.aload_n 0, 1) := by decide +kernel
theorem dX1_whyNotBackOut_73 : decode cX1_whyNotBackOut 73 = .ok (.getfield 14, 3) := by decide +kernel
theorem dX1_whyNotBackOut_76 : decode cX1_whyNotBackOut 76 = .ok (.iload_n 2, 1) := by decide +kernel
theorem dX1_whyNotBackOut_77 : decode cX1_whyNotBackOut 77 = .ok (.iconst 0, 1) := by decide +kernel
theorem dX1_whyNotBackOut_78 : decode cX1_whyNotBackOut 78 = .ok (.invokevirtual 59, 3) := by decide +kernel
theorem dX1_whyNotBackOut_81 : decode cX1_whyNotBackOut 81 = .ok (.iload_n 2, 1) := by decide +kernel
theorem dX1_whyNotBackOut_82 : decode cX1_whyNotBackOut 82 = .ok (.invokevirtual 70, 3) := by decide +kernel
theorem dX1_whyNotBackOut_85 : decode cX1_whyNotBackOut 85 = .ok (.iconst (-1), 1) := by decide +kernel
theorem dX1_whyNotBackOut_86 : decode cX1_whyNotBackOut 86 = .ok (.if_icmp .eq 5, 3) := by decide +kernel
theorem dX1_whyNotBackOut_89 : decode cX1_whyNotBackOut 89 = .ok (.iconst 3, 1) := by decide +kernel
theorem dX1_whyNotBackOut_90 : decode cX1_whyNotBackOut 90 = .ok (.ireturn, 1) := by decide +kernel
theorem dX1_whyNotBackOut_91 : decode cX1_whyNotBackOut 91 = .ok (.aload_n 0, 1) := by decide +kernel
theorem dX1_whyNotBackOut_92 : decode cX1_whyNotBackOut 92 = .ok (.iload_n 2, 1) := by decide +kernel
theorem dX1_whyNotBackOut_93 : decode cX1_whyNotBackOut 93 = .ok (.iload_n 3, 1) := by decide +kernel
theorem dX1_whyNotBackOut_94 : decode cX1_whyNotBackOut 94 = .ok (.iload 4, 2) := by decide +kernel
theorem dX1_whyNotBackOut_96 : decode cX1_whyNotBackOut 96 = .ok (.aload_n 0, 1) := by decide +kernel
theorem dX1_whyNotBackOut_97 : decode cX1_whyNotBackOut 97 = .ok (.getfield 26, 3) := by decide +kernel
theorem dX1_whyNotBackOut_100 : decode cX1_whyNotBackOut 100 = .ok (.iload_n 1, 1) := by decide +kernel
theorem dX1_whyNotBackOut_101 : decode cX1_whyNotBackOut 101 = .ok (.iconst 3, 1) := by decide +kernel
theorem dX1_whyNotBackOut_102 : decode cX1_whyNotBackOut 102 = .ok (.invokevirtual 59, 3) := by decide +kernel
theorem dX1_whyNotBackOut_105 : decode cX1_whyNotBackOut 105 = .ok (.invokevirtual 119, 3) := by decide +kernel
theorem dX1_whyNotBackOut_108 : decode cX1_whyNotBackOut 108 = .ok (.ireturn, 1) := by decide +kernel
theorem dX1_slotBehindMove_0 : decode cX1_slotBehindMove 0 = .ok (.iload_n 2, 1) := by decide +kernel
theorem dX1_slotBehindMove_1 : decode cX1_slotBehindMove 1 = .ok (.iconst (-1), 1) := by decide +kernel
theorem dX1_slotBehindMove_2 : decode cX1_slotBehindMove 2 = .ok (.if_icmp .ne 7, 3) := by decide +kernel
theorem dX1_slotBehindMove_5 : decode cX1_slotBehindMove 5 = .ok (.iconst (-1), 1) := by decide +kernel
theorem dX1_slotBehindMove_6 : decode cX1_slotBehindMove 6 = .ok (.goto 17, 3) := by decide +kernel
theorem dX1_slotBehindMove_9 : decode cX1_slotBehindMove 9 = .ok (.aload_n 0, 1) := by decide +kernel
theorem dX1_slotBehindMove_10 : decode cX1_slotBehindMove 10 = .ok (.iload_n 2, 1) := by decide +kernel
theorem dX1_slotBehindMove_11 : decode cX1_slotBehindMove 11 = .ok (.aload_n 0, 1) := by decide +kernel
theorem dX1_slotBehindMove_12 : decode cX1_slotBehindMove 12 = .ok (.getfield 14, 3) := by decide +kernel
theorem dX1_slotBehindMove_15 : decode cX1_slotBehindMove 15 = .ok (.iload_n 1, 1) := by decide +kernel
theorem dX1_slotBehindMove_16 : decode cX1_slotBehindMove 16 = .ok (.iconst 0, 1) := by decide +kernel
theorem dX1_slotBehindMove_17 : decode cX1_slotBehindMove 17 = .ok (.invokevirtual 59, 3) := by decide +kernel
theorem dX1_slotBehindMove_20 : decode cX1_slotBehindMove 20 = .ok (.invokevirtual 74, 3) := by decide +kernel
theorem dX1_slotBehindMove_23 : decode cX1_slotBehindMove 23 = .ok (.ireturn, 1) := by decide +kernel
theorem dX1_firstWrongWith_0 : decode cX1_firstWrongWith 0 = .ok (.aload_n 0, 1) := by decide +kernel
theorem dX1_firstWrongWith_1 : decode cX1_firstWrongWith 1 = .ok (.getfield 14, 3) := by decide +kernel
theorem dX1_firstWrongWith_4 : decode cX1_firstWrongWith 4 = .ok (.iload_n 1, 1) := by decide +kernel
theorem dX1_firstWrongWith_5 : decode cX1_firstWrongWith 5 = .ok (.iconst 4, 1) := by decide +kernel
theorem dX1_firstWrongWith_6 : decode cX1_firstWrongWith 6 = .ok (.invokevirtual 59, 3) := by decide +kernel
theorem dX1_firstWrongWith_9 : decode cX1_firstWrongWith 9 = .ok (.istore 5, 2) := by decide +kernel
theorem dX1_firstWrongWith_11 : decode cX1_firstWrongWith 11 = .ok (.aload_n 0, 1) := by decide +kernel
theorem dX1_firstWrongWith_12 : decode cX1_firstWrongWith 12 = .ok (.getfield 14, 3) := by decide +kernel
theorem dX1_firstWrongWith_15 : decode cX1_firstWrongWith 15 = .ok (.iload_n 1, 1) := by decide +kernel
theorem dX1_firstWrongWith_16 : decode cX1_firstWrongWith 16 = .ok (.iconst 5, 1) := by decide +kernel
theorem dX1_firstWrongWith_17 : decode cX1_firstWrongWith 17 = .ok (.invokevirtual 59, 3) := by decide +kernel
theorem dX1_firstWrongWith_20 : decode cX1_firstWrongWith 20 = .ok (.istore 6, 2) := by decide +kernel
theorem dX1_firstWrongWith_22 : decode cX1_firstWrongWith 22 = .ok (.aload_n 0, 1) := by decide +kernel
theorem dX1_firstWrongWith_23 : decode cX1_firstWrongWith 23 = .ok (.getfield 14, 3) := by decide +kernel
theorem dX1_firstWrongWith_26 : decode cX1_firstWrongWith 26 = .ok (.iload_n 1, 1) := by decide +kernel
theorem dX1_firstWrongWith_27 : decode cX1_firstWrongWith 27 = .ok (.iconst 2, 1) := by decide +kernel
theorem dX1_firstWrongWith_28 : decode cX1_firstWrongWith 28 = .ok (.invokevirtual 59, 3) := by decide +kernel
theorem dX1_firstWrongWith_31 : decode cX1_firstWrongWith 31 = .ok (.istore 7, 2) := by decide +kernel
theorem dX1_firstWrongWith_33 : decode cX1_firstWrongWith 33 = .ok (.aload_n 0, 1) := by decide +kernel
theorem dX1_firstWrongWith_34 : decode cX1_firstWrongWith 34 = .ok (.iload_n 1, 1) := by decide +kernel
theorem dX1_firstWrongWith_35 : decode cX1_firstWrongWith 35 = .ok (.iload_n 2, 1) := by decide +kernel
theorem dX1_firstWrongWith_36 : decode cX1_firstWrongWith 36 = .ok (.iload_n 3, 1) := by decide +kernel
theorem dX1_firstWrongWith_37 : decode cX1_firstWrongWith 37 = .ok (.iload 4, 2) := by decide +kernel
theorem dX1_firstWrongWith_39 : decode cX1_firstWrongWith 39 = .ok (.invokevirtual 122, 3) := by decide +kernel
theorem dX1_firstWrongWith_42 : decode cX1_firstWrongWith 42 = .ok (.aload_n 0, 1) := by decide +kernel
theorem dX1_firstWrongWith_43 : decode cX1_firstWrongWith 43 = .ok (.invokevirtual 126, 3) := by decide +kernel
theorem dX1_firstWrongWith_46 : decode cX1_firstWrongWith 46 = .ok (.istore 8, 2) := by decide +kernel
theorem dX1_firstWrongWith_48 : decode cX1_firstWrongWith 48 = .ok (.aload_n 0, 1) := by decide +kernel
theorem dX1_firstWrongWith_49 : decode cX1_firstWrongWith 49 = .ok (.iload_n 1, 1) := by decide +kernel
theorem dX1_firstWrongWith_50 : decode cX1_firstWrongWith 50 = .ok (.iload 5, 2) := by decide +kernel
theorem dX1_firstWrongWith_52 : decode cX1_firstWrongWith 52 = .ok (.iload 6, 2) := by decide +kernel
theorem dX1_firstWrongWith_54 : decode cX1_firstWrongWith 54 = .ok (.iload 7, 2) := by decide +kernel
theorem dX1_firstWrongWith_56 : decode cX1_firstWrongWith 56 = .ok (.invokevirtual 122, 3) := by decide +kernel
theorem dX1_firstWrongWith_59 : decode cX1_firstWrongWith 59 = .ok (.iload 8, 2) := by decide +kernel
theorem dX1_firstWrongWith_61 : decode cX1_firstWrongWith 61 = .ok (.ireturn, 1) := by decide +kernel
theorem dX1_place_0 : decode cX1_place 0 = .ok (.aload_n 0, 1) := by decide +kernel
theorem dX1_place_1 : decode cX1_place 1 = .ok (.getfield 14, 3) := by decide +kernel
theorem dX1_place_4 : decode cX1_place 4 = .ok (.iload_n 1, 1) := by decide +kernel
theorem dX1_place_5 : decode cX1_place 5 = .ok (.iconst 4, 1) := by decide +kernel
theorem dX1_place_6 : decode cX1_place 6 = .ok (.iload_n 2, 1) := by decide +kernel
theorem dX1_place_7 : decode cX1_place 7 = .ok (.invokevirtual 89, 3) := by decide +kernel
theorem dX1_place_10 : decode cX1_place 10 = .ok (.aload_n 0, 1) := by decide +kernel
theorem dX1_place_11 : decode cX1_place 11 = .ok (.getfield 14, 3) := by decide +kernel
theorem dX1_place_14 : decode cX1_place 14 = .ok (.iload_n 1, 1) := by decide +kernel
theorem dX1_place_15 : decode cX1_place 15 = .ok (.iconst 5, 1) := by decide +kernel
theorem dX1_place_16 : decode cX1_place 16 = .ok (.iload_n 3, 1) := by decide +kernel
theorem dX1_place_17 : decode cX1_place 17 = .ok (.invokevirtual 89, 3) := by decide +kernel
theorem dX1_place_20 : decode cX1_place 20 = .ok (.aload_n 0, 1) := by decide +kernel
theorem dX1_place_21 : decode cX1_place 21 = .ok (.getfield 14, 3) := by decide +kernel
theorem dX1_place_24 : decode cX1_place 24 = .ok (.iload_n 1, 1) := by decide +kernel
theorem dX1_place_25 : decode cX1_place 25 = .ok (.iconst 2, 1) := by decide +kernel
theorem dX1_place_26 : decode cX1_place 26 = .ok (.iload 4, 2) := by decide +kernel
theorem dX1_place_28 : decode cX1_place 28 = .ok (.invokevirtual 89, 3) := by decide +kernel
theorem dX1_place_31 : decode cX1_place 31 = .ok (.return_, 1) := by decide +kernel
theorem dX1_doMove_0 : decode cX1_doMove 0 = .ok (.aload_n 0, 1) := by decide +kernel
theorem dX1_doMove_1 : decode cX1_doMove 1 = .ok (.iload_n 1, 1) := by decide +kernel
theorem dX1_doMove_2 : decode cX1_doMove 2 = .ok (.iload_n 2, 1) := by decide +kernel
theorem dX1_doMove_3 : decode cX1_doMove 3 = .ok (.invokevirtual 116, 3) := by decide +kernel
theorem dX1_doMove_6 : decode cX1_doMove 6 = .ok (.istore_n 3, 1) := by decide +kernel
theorem dX1_doMove_7 : decode cX1_doMove 7 = .ok (.aload_n 0, 1) := by decide +kernel
theorem dX1_doMove_8 : decode cX1_doMove 8 = .ok (.iload_n 1, 1) := by decide +kernel
theorem dX1_doMove_9 : decode cX1_doMove 9 = .ok (.invokevirtual 129, 3) := by decide +kernel
theorem dX1_doMove_12 : decode cX1_doMove 12 = .ok (.aload_n 0, 1) := by decide +kernel
theorem dX1_doMove_13 : decode cX1_doMove 13 = .ok (.iload_n 1, 1) := by decide +kernel
theorem dX1_doMove_14 : decode cX1_doMove 14 = .ok (.iload_n 2, 1) := by decide +kernel
theorem dX1_doMove_15 : decode cX1_doMove 15 = .ok (.iload_n 3, 1) := by decide +kernel
theorem dX1_doMove_16 : decode cX1_doMove 16 = .ok (.aload_n 0, 1) := by decide +kernel
theorem dX1_doMove_17 : decode cX1_doMove 17 = .ok (.getfield 14, 3) := by decide +kernel
theorem dX1_doMove_20 : decode cX1_doMove 20 = .ok (.iload_n 1, 1) := by decide +kernel
theorem dX1_doMove_21 : decode cX1_doMove 21 = .ok (.iconst 2, 1) := by decide +kernel
theorem dX1_doMove_22 : decode cX1_doMove 22 = .ok (.invokevirtual 59, 3) := by decide +kernel
theorem dX1_doMove_25 : decode cX1_doMove 25 = .ok (.invokevirtual 122, 3) := by decide +kernel
theorem dX1_doMove_28 : decode cX1_doMove 28 = .ok (.return_, 1) := by decide +kernel
theorem dX1_doChange_0 : decode cX1_doChange 0 = .ok (.aload_n 0, 1) := by decide +kernel
theorem dX1_doChange_1 : decode cX1_doChange 1 = .ok (.iload_n 1, 1) := by decide +kernel
theorem dX1_doChange_2 : decode cX1_doChange 2 = .ok (.invokevirtual 129, 3) := by decide +kernel
theorem dX1_doChange_5 : decode cX1_doChange 5 = .ok (.aload_n 0, 1) := by decide +kernel
theorem dX1_doChange_6 : decode cX1_doChange 6 = .ok (.getfield 14, 3) := by decide +kernel
theorem dX1_doChange_9 : decode cX1_doChange 9 = .ok (.iload_n 1, 1) := by decide +kernel
theorem dX1_doChange_10 : decode cX1_doChange 10 = .ok (.iconst 2, 1) := by decide +kernel
theorem dX1_doChange_11 : decode cX1_doChange 11 = .ok (.iload_n 2, 1) := by decide +kernel
theorem dX1_doChange_12 : decode cX1_doChange 12 = .ok (.invokevirtual 89, 3) := by decide +kernel
theorem dX1_doChange_15 : decode cX1_doChange 15 = .ok (.return_, 1) := by decide +kernel
theorem dX1_doBackOut_0 : decode cX1_doBackOut 0 = .ok (.aload_n 0, 1) := by decide +kernel
theorem dX1_doBackOut_1 : decode cX1_doBackOut 1 = .ok (.getfield 26, 3) := by decide +kernel
theorem dX1_doBackOut_4 : decode cX1_doBackOut 4 = .ok (.getfield 63, 3) := by decide +kernel
theorem dX1_doBackOut_7 : decode cX1_doBackOut 7 = .ok (.iconst 1, 1) := by decide +kernel
theorem dX1_doBackOut_8 : decode cX1_doBackOut 8 = .ok (.isub, 1) := by decide +kernel
theorem dX1_doBackOut_9 : decode cX1_doBackOut 9 = .ok (.istore_n 1, 1) := by decide +kernel
theorem dX1_doBackOut_10 : decode cX1_doBackOut 10 = .ok (.aload_n 0, 1) := by decide +kernel
theorem dX1_doBackOut_11 : decode cX1_doBackOut 11 = .ok (.getfield 26, 3) := by decide +kernel
theorem dX1_doBackOut_14 : decode cX1_doBackOut 14 = .ok (.iload_n 1, 1) := by decide +kernel
theorem dX1_doBackOut_15 : decode cX1_doBackOut 15 = .ok (.iconst 0, 1) := by decide +kernel
theorem dX1_doBackOut_16 : decode cX1_doBackOut 16 = .ok (.invokevirtual 59, 3) := by decide +kernel
theorem dX1_doBackOut_19 : decode cX1_doBackOut 19 = .ok (.istore_n 2, 1) := by decide +kernel
theorem dX1_doBackOut_20 : decode cX1_doBackOut 20 = .ok (.aload_n 0, 1) := by decide +kernel
theorem dX1_doBackOut_21 : decode cX1_doBackOut 21 = .ok (.iload_n 2, 1) := by decide +kernel
theorem dX1_doBackOut_22 : decode cX1_doBackOut 22 = .ok (.aload_n 0, 1) := by decide +kernel
theorem dX1_doBackOut_23 : decode cX1_doBackOut 23 = .ok (.getfield 26, 3) := by decide +kernel
theorem dX1_doBackOut_26 : decode cX1_doBackOut 26 = .ok (.iload_n 1, 1) := by decide +kernel
theorem dX1_doBackOut_27 : decode cX1_doBackOut 27 = .ok (.iconst 1, 1) := by decide +kernel
theorem dX1_doBackOut_28 : decode cX1_doBackOut 28 = .ok (.invokevirtual 59, 3) := by decide +kernel
theorem dX1_doBackOut_31 : decode cX1_doBackOut 31 = .ok (.aload_n 0, 1) := by decide +kernel
theorem dX1_doBackOut_32 : decode cX1_doBackOut 32 = .ok (.getfield 26, 3) := by decide +kernel
theorem dX1_doBackOut_35 : decode cX1_doBackOut 35 = .ok (.iload_n 1, 1) := by decide +kernel
theorem dX1_doBackOut_36 : decode cX1_doBackOut 36 = .ok (.iconst 2, 1) := by decide +kernel
theorem dX1_doBackOut_37 : decode cX1_doBackOut 37 = .ok (.invokevirtual 59, 3) := by decide +kernel
theorem dX1_doBackOut_40 : decode cX1_doBackOut 40 = .ok (.aload_n 0, 1) := by decide +kernel
theorem dX1_doBackOut_41 : decode cX1_doBackOut 41 = .ok (.getfield 26, 3) := by decide +kernel
theorem dX1_doBackOut_44 : decode cX1_doBackOut 44 = .ok (.iload_n 1, 1) := by decide +kernel
theorem dX1_doBackOut_45 : decode cX1_doBackOut 45 = .ok (.iconst 3, 1) := by decide +kernel
theorem dX1_doBackOut_46 : decode cX1_doBackOut 46 = .ok (.invokevirtual 59, 3) := by decide +kernel
theorem dX1_doBackOut_49 : decode cX1_doBackOut 49 = .ok (.invokevirtual 122, 3) := by decide +kernel
theorem dX1_doBackOut_52 : decode cX1_doBackOut 52 = .ok (.aload_n 0, 1) := by decide +kernel
theorem dX1_doBackOut_53 : decode cX1_doBackOut 53 = .ok (.getfield 26, 3) := by decide +kernel
theorem dX1_doBackOut_56 : decode cX1_doBackOut 56 = .ok (.iload_n 1, 1) := by decide +kernel
theorem dX1_doBackOut_57 : decode cX1_doBackOut 57 = .ok (.invokevirtual 133, 3) := by decide +kernel
theorem dX1_doBackOut_60 : decode cX1_doBackOut 60 = .ok (.aload_n 0, 1) := by decide +kernel
theorem dX1_doBackOut_61 : decode cX1_doBackOut 61 = .ok (.dup, 1) := by decide +kernel
theorem dX1_doBackOut_62 : decode cX1_doBackOut 62 = .ok (.getfield 46, 3) := by decide +kernel
theorem dX1_doBackOut_65 : decode cX1_doBackOut 65 = .ok (.iconst 1, 1) := by decide +kernel
theorem dX1_doBackOut_66 : decode cX1_doBackOut 66 = .ok (.iadd, 1) := by decide +kernel
theorem dX1_doBackOut_67 : decode cX1_doBackOut 67 = .ok (.putfield 46, 3) := by decide +kernel
theorem dX1_doBackOut_70 : decode cX1_doBackOut 70 = .ok (.return_, 1) := by decide +kernel
theorem dX1_pushStep_0 : decode cX1_pushStep 0 = .ok (.aload_n 0, 1) := by decide +kernel
theorem dX1_pushStep_1 : decode cX1_pushStep 1 = .ok (.getfield 26, 3) := by decide +kernel
theorem dX1_pushStep_4 : decode cX1_pushStep 4 = .ok (.invokevirtual 136, 3) := by decide +kernel
theorem dX1_pushStep_7 : decode cX1_pushStep 7 = .ok (.ifCond .eq 11, 3) := by decide +kernel
theorem dX1_pushStep_10 : decode cX1_pushStep 10 = .ok (.aload_n 0, 1) := by decide +kernel
theorem dX1_pushStep_11 : decode cX1_pushStep 11 = .ok (.getfield 26, 3) := by decide +kernel
theorem dX1_pushStep_14 : decode cX1_pushStep 14 = .ok (.iconst 0, 1) := by decide +kernel
theorem dX1_pushStep_15 : decode cX1_pushStep 15 = .ok (.invokevirtual 133, 3) := by decide +kernel
theorem dX1_pushStep_18 : decode cX1_pushStep 18 = .ok (.aload_n 0, 1) := by decide +kernel
theorem dX1_pushStep_19 : decode cX1_pushStep 19 = .ok (.getfield 26, 3) := by decide +kernel
theorem dX1_pushStep_22 : decode cX1_pushStep 22 = .ok (.invokevirtual 140, 3) := by decide +kernel
theorem dX1_pushStep_25 : decode cX1_pushStep 25 = .ok (.istore_n 2, 1) := by decide +kernel
theorem dX1_pushStep_26 : decode cX1_pushStep 26 = .ok (.aload_n 0, 1) := by decide +kernel
theorem dX1_pushStep_27 : decode cX1_pushStep 27 = .ok (.getfield 26, 3) := by decide +kernel
theorem dX1_pushStep_30 : decode cX1_pushStep 30 = .ok (.iload_n 2, 1) := by decide +kernel
theorem dX1_pushStep_31 : decode cX1_pushStep 31 = .ok (.iconst 0, 1) := by decide +kernel
theorem dX1_pushStep_32 : decode cX1_pushStep 32 = .ok (.iload_n 1, 1) := by decide +kernel
theorem dX1_pushStep_33 : decode cX1_pushStep 33 = .ok (.invokevirtual 89, 3) := by decide +kernel
theorem dX1_pushStep_36 : decode cX1_pushStep 36 = .ok (.aload_n 0, 1) := by decide +kernel
theorem dX1_pushStep_37 : decode cX1_pushStep 37 = .ok (.getfield 26, 3) := by decide +kernel
theorem dX1_pushStep_40 : decode cX1_pushStep 40 = .ok (.iload_n 2, 1) := by decide +kernel
theorem dX1_pushStep_41 : decode cX1_pushStep 41 = .ok (.iconst 1, 1) := by decide +kernel
theorem dX1_pushStep_42 : decode cX1_pushStep 42 = .ok (.aload_n 0, 1) := by decide +kernel
theorem dX1_pushStep_43 : decode cX1_pushStep 43 = .ok (.getfield 14, 3) := by decide +kernel
theorem dX1_pushStep_46 : decode cX1_pushStep 46 = .ok (.iload_n 1, 1) := by decide +kernel
theorem dX1_pushStep_47 : decode cX1_pushStep 47 = .ok (.iconst 4, 1) := by decide +kernel
theorem dX1_pushStep_48 : decode cX1_pushStep 48 = .ok (.invokevirtual 59, 3) := by decide +kernel
theorem dX1_pushStep_51 : decode cX1_pushStep 51 = .ok (.invokevirtual 89, 3) := by decide +kernel
theorem dX1_pushStep_54 : decode cX1_pushStep 54 = .ok (.aload_n 0, 1) := by decide +kernel
theorem dX1_pushStep_55 : decode cX1_pushStep 55 = .ok (.getfield 26, 3) := by decide +kernel
theorem dX1_pushStep_58 : decode cX1_pushStep 58 = .ok (.iload_n 2, 1) := by decide +kernel
theorem dX1_pushStep_59 : decode cX1_pushStep 59 = .ok (.iconst 2, 1) := by decide +kernel
theorem dX1_pushStep_60 : decode cX1_pushStep 60 = .ok (.aload_n 0, 1) := by decide +kernel
theorem dX1_pushStep_61 : decode cX1_pushStep 61 = .ok (.getfield 14, 3) := by decide +kernel
theorem dX1_pushStep_64 : decode cX1_pushStep 64 = .ok (.iload_n 1, 1) := by decide +kernel
theorem dX1_pushStep_65 : decode cX1_pushStep 65 = .ok (.iconst 5, 1) := by decide +kernel
theorem dX1_pushStep_66 : decode cX1_pushStep 66 = .ok (.invokevirtual 59, 3) := by decide +kernel
theorem dX1_pushStep_69 : decode cX1_pushStep 69 = .ok (.invokevirtual 89, 3) := by decide +kernel
theorem dX1_pushStep_72 : decode cX1_pushStep 72 = .ok (.aload_n 0, 1) := by decide +kernel
theorem dX1_pushStep_73 : decode cX1_pushStep 73 = .ok (.getfield 26, 3) := by decide +kernel
theorem dX1_pushStep_76 : decode cX1_pushStep 76 = .ok (.iload_n 2, 1) := by decide +kernel
theorem dX1_pushStep_77 : decode cX1_pushStep 77 = .ok (.iconst 3, 1) := by decide +kernel
theorem dX1_pushStep_78 : decode cX1_pushStep 78 = .ok (.aload_n 0, 1) := by decide +kernel
theorem dX1_pushStep_79 : decode cX1_pushStep 79 = .ok (.getfield 14, 3) := by decide +kernel
theorem dX1_pushStep_82 : decode cX1_pushStep 82 = .ok (.iload_n 1, 1) := by decide +kernel
theorem dX1_pushStep_83 : decode cX1_pushStep 83 = .ok (.iconst 2, 1) := by decide +kernel
theorem dX1_pushStep_84 : decode cX1_pushStep 84 = .ok (.invokevirtual 59, 3) := by decide +kernel
theorem dX1_pushStep_87 : decode cX1_pushStep 87 = .ok (.invokevirtual 89, 3) := by decide +kernel
theorem dX1_pushStep_90 : decode cX1_pushStep 90 = .ok (.aload_n 0, 1) := by decide +kernel
theorem dX1_pushStep_91 : decode cX1_pushStep 91 = .ok (.dup, 1) := by decide +kernel
theorem dX1_pushStep_92 : decode cX1_pushStep 92 = .ok (.getfield 43, 3) := by decide +kernel
theorem dX1_pushStep_95 : decode cX1_pushStep 95 = .ok (.iconst 1, 1) := by decide +kernel
theorem dX1_pushStep_96 : decode cX1_pushStep 96 = .ok (.iadd, 1) := by decide +kernel
theorem dX1_pushStep_97 : decode cX1_pushStep 97 = .ok (.putfield 43, 3) := by decide +kernel
theorem dX1_pushStep_100 : decode cX1_pushStep 100 = .ok (.return_, 1) := by decide +kernel
theorem dX0_init_0 : decode cX0_init 0 = .ok (.aload_n 0, 1) := by decide +kernel
theorem dX0_init_1 : decode cX0_init 1 = .ok (.invokespecial 3, 3) := by decide +kernel
theorem dX0_init_4 : decode cX0_init 4 = .ok (.aload_n 0, 1) := by decide +kernel
theorem dX0_init_5 : decode cX0_init 5 = .ok (.bipush 90, 2) := by decide +kernel
theorem dX0_init_7 : decode cX0_init 7 = .ok (.newarray .int, 2) := by decide +kernel
theorem dX0_init_9 : decode cX0_init 9 = .ok (.putfield 9, 3) := by decide +kernel
theorem dX0_init_12 : decode cX0_init 12 = .ok (.aload_n 0, 1) := by decide +kernel
theorem dX0_init_13 : decode cX0_init 13 = .ok (.iconst 0, 1) := by decide +kernel
theorem dX0_init_14 : decode cX0_init 14 = .ok (.putfield 15, 3) := by decide +kernel
theorem dX0_init_17 : decode cX0_init 17 = .ok (.aload_n 0, 1) := by decide +kernel
theorem dX0_init_18 : decode cX0_init 18 = .ok (.new 19, 3) := by decide +kernel
theorem dX0_init_21 : decode cX0_init 21 = .ok (.dup, 1) := by decide +kernel
theorem dX0_init_22 : decode cX0_init 22 = .ok (.bipush 45, 2) := by decide +kernel
theorem dX0_init_24 : decode cX0_init 24 = .ok (.iconst 3, 1) := by decide +kernel
theorem dX0_init_25 : decode cX0_init 25 = .ok (.invokespecial 21, 3) := by decide +kernel
theorem dX0_init_28 : decode cX0_init 28 = .ok (.putfield 24, 3) := by decide +kernel
theorem dX0_init_31 : decode cX0_init 31 = .ok (.aload_n 0, 1) := by decide +kernel
theorem dX0_init_32 : decode cX0_init 32 = .ok (.iconst 0, 1) := by decide +kernel
theorem dX0_init_33 : decode cX0_init 33 = .ok (.putfield 28, 3) := by decide +kernel
theorem dX0_init_36 : decode cX0_init 36 = .ok (.aload_n 0, 1) := by decide +kernel
theorem dX0_init_37 : decode cX0_init 37 = .ok (.iconst 0, 1) := by decide +kernel
theorem dX0_init_38 : decode cX0_init 38 = .ok (.putfield 31, 3) := by decide +kernel
theorem dX0_init_41 : decode cX0_init 41 = .ok (.return_, 1) := by decide +kernel
theorem dX0_read_0 : decode cX0_read 0 = .ok (.aload_n 0, 1) := by decide +kernel
theorem dX0_read_1 : decode cX0_read 1 = .ok (.getfield 24, 3) := by decide +kernel
theorem dX0_read_4 : decode cX0_read 4 = .ok (.iconst 0, 1) := by decide +kernel
theorem dX0_read_5 : decode cX0_read 5 = .ok (.putfield 34, 3) := by decide +kernel
theorem dX0_read_8 : decode cX0_read 8 = .ok (.aload_n 0, 1) := by decide +kernel
theorem dX0_read_9 : decode cX0_read 9 = .ok (.iconst 0, 1) := by decide +kernel
theorem dX0_read_10 : decode cX0_read 10 = .ok (.putfield 28, 3) := by decide +kernel
theorem dX0_read_13 : decode cX0_read 13 = .ok (.iconst (-1), 1) := by decide +kernel
theorem dX0_read_14 : decode cX0_read 14 = .ok (.istore_n 2, 1) := by decide +kernel
theorem dX0_read_15 : decode cX0_read 15 = .ok (.iconst 0, 1) := by decide +kernel
theorem dX0_read_16 : decode cX0_read 16 = .ok (.istore_n 3, 1) := by decide +kernel
theorem dX0_read_17 : decode cX0_read 17 = .ok (.iload_n 3, 1) := by decide +kernel
theorem dX0_read_18 : decode cX0_read 18 = .ok (.bipush 90, 2) := by decide +kernel
theorem dX0_read_20 : decode cX0_read 20 = .ok (.if_icmp .ge 31, 3) := by decide +kernel
theorem dX0_read_23 : decode cX0_read 23 = .ok (.iload_n 2, 1) := by decide +kernel
theorem dX0_read_24 : decode cX0_read 24 = .ok (.iconst (-1), 1) := by decide +kernel
theorem dX0_read_25 : decode cX0_read 25 = .ok (.if_icmp .ne 26, 3) := by decide +kernel
theorem dX0_read_28 : decode cX0_read 28 = .ok (.aload_n 0, 1) := by decide +kernel
theorem dX0_read_29 : decode cX0_read 29 = .ok (.getfield 28, 3) := by decide +kernel
theorem dX0_read_32 : decode cX0_read 32 = .ok (.aload_n 0, 1) := by decide +kernel
theorem dX0_read_33 : decode cX0_read 33 = .ok (.getfield 15, 3) := by decide +kernel
theorem dX0_read_36 : decode cX0_read 36 = .ok (.if_icmp .ge 15, 3) := by decide +kernel
theorem dX0_read_39 : decode cX0_read 39 = .ok (.aload_n 0, 1) := by decide +kernel
theorem dX0_read_40 : decode cX0_read 40 = .ok (.iload_n 1, 1) := by decide +kernel
theorem dX0_read_41 : decode cX0_read 41 = .ok (.invokevirtual 37, 3) := by decide +kernel
theorem dX0_read_44 : decode cX0_read 44 = .ok (.istore_n 2, 1) := by decide +kernel
theorem dX0_read_45 : decode cX0_read 45 = .ok (.iinc 3 1, 3) := by decide +kernel
theorem dX0_read_48 : decode cX0_read 48 = .ok (.goto (-31), 3) := by decide +kernel
theorem dX0_read_51 : decode cX0_read 51 = .ok (.iload_n 2, 1) := by decide +kernel
theorem dX0_read_52 : decode cX0_read 52 = .ok (.ireturn, 1) := by decide +kernel
theorem dX0_readPart_0 : decode cX0_readPart 0 = .ok (.aload_n 0, 1) := by decide +kernel
theorem dX0_readPart_1 : decode cX0_readPart 1 = .ok (.aload_n 0, 1) := by decide +kernel
theorem dX0_readPart_2 : decode cX0_readPart 2 = .ok (.getfield 28, 3) := by decide +kernel
theorem dX0_readPart_5 : decode cX0_readPart 5 = .ok (.invokevirtual 41, 3) := by decide +kernel
theorem dX0_readPart_8 : decode cX0_readPart 8 = .ok (.istore_n 2, 1) := by decide +kernel
theorem dX0_readPart_9 : decode cX0_readPart 9 = .ok (.iload_n 2, 1) := by decide +kernel
theorem dX0_readPart_10 : decode cX0_readPart 10 = .ok (.bipush 109, 2) := by decide +kernel
theorem dX0_readPart_12 : decode cX0_readPart 12 = .ok (.if_icmp .eq 20, 3) := by decide +kernel
theorem dX0_readPart_15 : decode cX0_readPart 15 = .ok (.iload_n 2, 1) := by decide +kernel
theorem dX0_readPart_16 : decode cX0_readPart 16 = .ok (.bipush 112, 2) := by decide +kernel
theorem dX0_readPart_18 : decode cX0_readPart 18 = .ok (.if_icmp .eq 14, 3) := by decide +kernel
theorem dX0_readPart_21 : decode cX0_readPart 21 = .ok (.iload_n 2, 1) := by decide +kernel
theorem dX0_readPart_22 : decode cX0_readPart 22 = .ok (.bipush 104, 2) := by decide +kernel
theorem dX0_readPart_24 : decode cX0_readPart 24 = .ok (.if_icmp .eq 8, 3) := by decide +kernel
theorem dX0_readPart_27 : decode cX0_readPart 27 = .ok (.aload_n 0, 1) := by decide +kernel
theorem dX0_readPart_28 : decode cX0_readPart 28 = .ok (.getfield 28, 3) := by decide +kernel
theorem dX0_readPart_31 : decode cX0_readPart 31 = .ok (.ireturn, 1) := by decide +kernel
theorem dX0_readPart_32 : decode cX0_readPart 32 = .ok (.aload_n 0, 1) := by decide +kernel
theorem dX0_readPart_33 : decode cX0_readPart 33 = .ok (.dup, 1) := by decide +kernel
theorem dX0_readPart_34 : decode cX0_readPart 34 = .ok (.getfield 28, 3) := by decide +kernel
theorem dX0_readPart_37 : decode cX0_readPart 37 = .ok (.iconst 1, 1) := by decide +kernel
theorem dX0_readPart_38 : decode cX0_readPart 38 = .ok (.iadd, 1) := by decide +kernel
theorem dX0_readPart_39 : decode cX0_readPart 39 = .ok (.putfield 28, 3) := by decide +kernel
theorem dX0_readPart_42 : decode cX0_readPart 42 = .ok (.aload_n 0, 1) := by decide +kernel
theorem dX0_readPart_43 : decode cX0_readPart 43 = .ok (.getfield 24, 3) := by decide +kernel
theorem dX0_readPart_46 : decode cX0_readPart 46 = .ok (.invokevirtual 44, 3) := by decide +kernel
theorem dX0_readPart_49 : decode cX0_readPart 49 = .ok (.istore_n 3, 1) := by decide +kernel
theorem dX0_readPart_50 : decode cX0_readPart 50 = .ok (.aload_n 0, 1) := by decide +kernel
theorem dX0_readPart_51 : decode cX0_readPart 51 = .ok (.getfield 24, 3) := by decide +kernel
theorem dX0_readPart_54 : decode cX0_readPart 54 = .ok (.iload_n 3, 1) := by decide +kernel
theorem dX0_readPart_55 : decode cX0_readPart 55 = .ok (.iconst 0, 1) := by decide +kernel
theorem dX0_readPart_56 : decode cX0_readPart 56 = .ok (.iload_n 2, 1) := by decide +kernel
theorem dX0_readPart_57 : decode cX0_readPart 57 = .ok (.invokevirtual 48, 3) := by decide +kernel
theorem dX0_readPart_60 : decode cX0_readPart 60 = .ok (.iload_n 2, 1) := by decide +kernel
theorem dX0_readPart_61 : decode cX0_readPart 61 = .ok (.bipush 104, 2) := by decide +kernel
theorem dX0_readPart_63 : decode cX0_readPart 63 = .ok (.if_icmp .ne 7, 3) := by decide +kernel
theorem dX0_readPart_66 : decode cX0_readPart 66 = .ok (.iconst (-1), 1) := by decide +kernel
theorem dX0_readPart_67 : decode cX0_readPart 67 = .ok (.goto 20, 3) := by decide +kernel
theorem dX0_readPart_70 : decode cX0_readPart 70 = .ok (.aload_n 0, 1) := by decide +kernel
theorem dX0_readPart_71 : decode cX0_readPart 71 = .ok (.iload_n 3, 1) := by decide +kernel
theorem dX0_readPart_72 : decode cX0_readPart 72 = .ok (.iload_n 2, 1) := by decide +kernel
theorem dX0_readPart_73 : decode cX0_readPart 73 = .ok (.bipush 109, 2) := by decide +kernel
theorem dX0_readPart_75 : decode cX0_readPart 75 = .ok (.if_icmp .ne 7, 3) := by decide +kernel
theorem dX0_readPart_78 : decode cX0_readPart 78 = .ok (.iconst 1, 1) := by decide +kernel
theorem dX0_readPart_79 : decode cX0_readPart 79 = .ok (.goto 4, 3) := by decide +kernel
theorem dX0_readPart_82 : decode cX0_readPart 82 = .ok (.iconst 0, 1) := by decide +kernel
theorem dX0_readPart_83 : decode cX0_readPart 83 = .ok (.iload_n 1, 1) := by decide +kernel
theorem dX0_readPart_84 : decode cX0_readPart 84 = .ok (.invokevirtual 52, 3) := by decide +kernel
theorem dX0_readPart_87 : decode cX0_readPart 87 = .ok (.istore 4, 2) := by decide +kernel
theorem dX0_readPart_89 : decode cX0_readPart 89 = .ok (.iload 4, 2) := by decide +kernel
theorem dX0_readPart_91 : decode cX0_readPart 91 = .ok (.iconst (-1), 1) := by decide +kernel
theorem dX0_readPart_92 : decode cX0_readPart 92 = .ok (.if_icmp .ne 12, 3) := by decide +kernel
theorem dX0_readPart_95 : decode cX0_readPart 95 = .ok (.aload_n 0, 1) := by decide +kernel
theorem dX0_readPart_96 : decode cX0_readPart 96 = .ok (.bipush 59, 2) := by decide +kernel
theorem dX0_readPart_98 : decode cX0_readPart 98 = .ok (.invokevirtual 56, 3) := by decide +kernel
theorem dX0_readPart_101 : decode cX0_readPart 101 = .ok (.goto 5, 3) := by decide +kernel
theorem dX0_readPart_104 : decode cX0_readPart 104 = .ok (.iload 4, 2) := by decide +kernel
theorem dX0_readPart_106 : decode cX0_readPart 106 = .ok (.ireturn, 1) := by decide +kernel
theorem dX0_readStep_0 : decode cX0_readStep 0 = .ok (.aload_n 0, 1) := by decide +kernel
theorem dX0_readStep_1 : decode cX0_readStep 1 = .ok (.iload_n 3, 1) := by decide +kernel
theorem dX0_readStep_2 : decode cX0_readStep 2 = .ok (.invokevirtual 59, 3) := by decide +kernel
theorem dX0_readStep_5 : decode cX0_readStep 5 = .ok (.istore 4, 2) := by decide +kernel
theorem dX0_readStep_7 : decode cX0_readStep 7 = .ok (.aload_n 0, 1) := by decide +kernel
theorem dX0_readStep_8 : decode cX0_readStep 8 = .ok (.getfield 24, 3) := by decide +kernel
theorem dX0_readStep_11 : decode cX0_readStep 11 = .ok (.iload_n 1, 1) := by decide +kernel
theorem dX0_readStep_12 : decode cX0_readStep 12 = .ok (.iconst 1, 1) := by decide +kernel
theorem dX0_readStep_13 : decode cX0_readStep 13 = .ok (.aload_n 0, 1) := by decide +kernel
theorem dX0_readStep_14 : decode cX0_readStep 14 = .ok (.getfield 31, 3) := by decide +kernel
theorem dX0_readStep_17 : decode cX0_readStep 17 = .ok (.invokevirtual 48, 3) := by decide +kernel
theorem dX0_readStep_20 : decode cX0_readStep 20 = .ok (.iload 4, 2) := by decide +kernel
theorem dX0_readStep_22 : decode cX0_readStep 22 = .ok (.iconst (-1), 1) := by decide +kernel
theorem dX0_readStep_23 : decode cX0_readStep 23 = .ok (.if_icmp .ne 11, 3) := by decide +kernel
theorem dX0_readStep_26 : decode cX0_readStep 26 = .ok (.aload_n 0, 1) := by decide +kernel
theorem dX0_readStep_27 : decode cX0_readStep 27 = .ok (.bipush 62, 2) := by decide +kernel
theorem dX0_readStep_29 : decode cX0_readStep 29 = .ok (.invokevirtual 56, 3) := by decide +kernel
theorem dX0_readStep_32 : decode cX0_readStep 32 = .ok (.istore 4, 2) := by decide +kernel
theorem dX0_readStep_34 : decode cX0_readStep 34 = .ok (.iload 4, 2) := by decide +kernel
theorem dX0_readStep_36 : decode cX0_readStep 36 = .ok (.iconst (-1), 1) := by decide +kernel
theorem dX0_readStep_37 : decode cX0_readStep 37 = .ok (.if_icmp .ne 34, 3) := by decide +kernel
theorem dX0_readStep_40 : decode cX0_readStep 40 = .ok (.iload_n 2, 1) := by decide +kernel
theorem dX0_readStep_41 : decode cX0_readStep 41 = .ok (.ifCond .eq 10, 3) := by decide +kernel
theorem dX0_readStep_44 : decode cX0_readStep 44 = .ok (.aload_n 0, 1) := by decide +kernel
theorem dX0_readStep_45 : decode cX0_readStep 45 = .ok (.invokevirtual 62, 3) := by decide +kernel
theorem dX0_readStep_48 : decode cX0_readStep 48 = .ok (.goto 8, 3) := by decide +kernel
theorem dX0_readStep_51 : decode cX0_readStep 51 = .ok (.aload_n 0, 1) := by decide +kernel
theorem dX0_readStep_52 : decode cX0_readStep 52 = .ok (.iconst 2, 1) := by decide +kernel
theorem dX0_readStep_53 : decode cX0_readStep 53 = .ok (.invokevirtual 65, 3) := by decide +kernel
theorem dX0_readStep_56 : decode cX0_readStep 56 = .ok (.istore 4, 2) := by decide +kernel
theorem dX0_readStep_58 : decode cX0_readStep 58 = .ok (.aload_n 0, 1) := by decide +kernel
theorem dX0_readStep_59 : decode cX0_readStep 59 = .ok (.getfield 24, 3) := by decide +kernel
theorem dX0_readStep_62 : decode cX0_readStep 62 = .ok (.iload_n 1, 1) := by decide +kernel
theorem dX0_readStep_63 : decode cX0_readStep 63 = .ok (.iconst 2, 1) := by decide +kernel
theorem dX0_readStep_64 : decode cX0_readStep 64 = .ok (.aload_n 0, 1) := by decide +kernel
theorem dX0_readStep_65 : decode cX0_readStep 65 = .ok (.getfield 31, 3) := by decide +kernel
theorem dX0_readStep_68 : decode cX0_readStep 68 = .ok (.invokevirtual 48, 3) := by decide +kernel
theorem dX0_readStep_71 : decode cX0_readStep 71 = .ok (.iload 4, 2) := by decide +kernel
theorem dX0_readStep_73 : decode cX0_readStep 73 = .ok (.ireturn, 1) := by decide +kernel
theorem dX0_readMachine_0 : decode cX0_readMachine 0 = .ok (.aload_n 0, 1) := by decide +kernel
theorem dX0_readMachine_1 : decode cX0_readMachine 1 = .ok (.getfield 28, 3) := by decide +kernel
theorem dX0_readMachine_4 : decode cX0_readMachine 4 = .ok (.istore_n 2, 1) := by decide +kernel
theorem dX0_readMachine_5 : decode cX0_readMachine 5 = .ok (.aload_n 0, 1) := by decide +kernel
theorem dX0_readMachine_6 : decode cX0_readMachine 6 = .ok (.aload_n 0, 1) := by decide +kernel
theorem dX0_readMachine_7 : decode cX0_readMachine 7 = .ok (.getfield 28, 3) := by decide +kernel
theorem dX0_readMachine_10 : decode cX0_readMachine 10 = .ok (.invokevirtual 41, 3) := by decide +kernel
theorem dX0_readMachine_13 : decode cX0_readMachine 13 = .ok (.invokestatic 68, 3) := by decide +kernel
theorem dX0_readMachine_16 : decode cX0_readMachine 16 = .ok (.ifCond .ne 8, 3) := by decide +kernel
theorem dX0_readMachine_19 : decode cX0_readMachine 19 = .ok (.aload_n 0, 1) := by decide +kernel
theorem dX0_readMachine_20 : decode cX0_readMachine 20 = .ok (.getfield 28, 3) := by decide +kernel
theorem dX0_readMachine_23 : decode cX0_readMachine 23 = .ok (.ireturn, 1) := by decide +kernel
theorem dX0_readMachine_24 : decode cX0_readMachine 24 = .ok (.aload_n 0, 1) := by decide +kernel
theorem dX0_readMachine_25 : decode cX0_readMachine 25 = .ok (.aload_n 0, 1) := by decide +kernel
theorem dX0_readMachine_26 : decode cX0_readMachine 26 = .ok (.getfield 28, 3) := by decide +kernel
theorem dX0_readMachine_29 : decode cX0_readMachine 29 = .ok (.invokevirtual 41, 3) := by decide +kernel
theorem dX0_readMachine_32 : decode cX0_readMachine 32 = .ok (.bipush 48, 2) := by decide +kernel
theorem dX0_readMachine_34 : decode cX0_readMachine 34 = .ok (.isub, 1) := by decide +kernel
theorem dX0_readMachine_35 : decode cX0_readMachine 35 = .ok (.istore_n 3, 1) := by decide +kernel
theorem dX0_readMachine_36 : decode cX0_readMachine 36 = .ok (.aload_n 0, 1) := by decide +kernel
theorem dX0_readMachine_37 : decode cX0_readMachine 37 = .ok (.dup, 1) := by decide +kernel
theorem dX0_readMachine_38 : decode cX0_readMachine 38 = .ok (.getfield 28, 3) := by decide +kernel
theorem dX0_readMachine_41 : decode cX0_readMachine 41 = .ok (.iconst 1, 1) := by decide +kernel
theorem dX0_readMachine_42 : decode cX0_readMachine 42 = .ok (.iadd, 1) := by decide +kernel
theorem dX0_readMachine_43 : decode cX0_readMachine 43 = .ok (.putfield 28, 3) := by decide +kernel
theorem dX0_readMachine_46 : decode cX0_readMachine 46 = .ok (.aload_n 0, 1) := by decide +kernel
theorem dX0_readMachine_47 : decode cX0_readMachine 47 = .ok (.aload_n 0, 1) := by decide +kernel
theorem dX0_readMachine_48 : decode cX0_readMachine 48 = .ok (.getfield 28, 3) := by decide +kernel
theorem dX0_readMachine_51 : decode cX0_readMachine 51 = .ok (.invokevirtual 41, 3) := by decide +kernel
theorem dX0_readMachine_54 : decode cX0_readMachine 54 = .ok (.invokestatic 68, 3) := by decide +kernel
theorem dX0_readMachine_57 : decode cX0_readMachine 57 = .ok (.ifCond .eq 30, 3) := by decide +kernel
theorem dX0_readMachine_60 : decode cX0_readMachine 60 = .ok (.bipush 10, 2) := by decide +kernel
theorem dX0_readMachine_62 : decode cX0_readMachine 62 = .ok (.iload_n 3, 1) := by decide +kernel
theorem dX0_readMachine_63 : decode cX0_readMachine 63 = .ok (.imul, 1) := by decide +kernel
theorem dX0_readMachine_64 : decode cX0_readMachine 64 = .ok (.aload_n 0, 1) := by decide +kernel
theorem dX0_readMachine_65 : decode cX0_readMachine 65 = .ok (.aload_n 0, 1) := by decide +kernel
theorem dX0_readMachine_66 : decode cX0_readMachine 66 = .ok (.getfield 28, 3) := by decide +kernel
theorem dX0_readMachine_69 : decode cX0_readMachine 69 = .ok (.invokevirtual 41, 3) := by decide +kernel
theorem dX0_readMachine_72 : decode cX0_readMachine 72 = .ok (.iadd, 1) := by decide +kernel
theorem dX0_readMachine_73 : decode cX0_readMachine 73 = .ok (.bipush 48, 2) := by decide +kernel
theorem dX0_readMachine_75 : decode cX0_readMachine 75 = .ok (.isub, 1) := by decide +kernel
theorem dX0_readMachine_76 : decode cX0_readMachine 76 = .ok (.istore_n 3, 1) := by decide +kernel
theorem dX0_readMachine_77 : decode cX0_readMachine 77 = .ok (.aload_n 0, 1) := by decide +kernel
theorem dX0_readMachine_78 : decode cX0_readMachine 78 = .ok (.dup, 1) := by decide +kernel
theorem dX0_readMachine_79 : decode cX0_readMachine 79 = .ok (.getfield 28, 3) := by decide +kernel
theorem dX0_readMachine_82 : decode cX0_readMachine 82 = .ok (.iconst 1, 1) := by decide +kernel
theorem dX0_readMachine_83 : decode cX0_readMachine 83 = .ok (.iadd, 1) := by decide +kernel
theorem dX0_readMachine_84 : decode cX0_readMachine 84 = .ok (.putfield 28, 3) := by decide +kernel
theorem dX0_readMachine_87 : decode cX0_readMachine 87 = .ok (.aload_n 0, 1) := by decide +kernel
theorem dX0_readMachine_88 : decode cX0_readMachine 88 = .ok (.aload_n 0, 1) := by decide +kernel
theorem dX0_readMachine_89 : decode cX0_readMachine 89 = .ok (.getfield 28, 3) := by decide +kernel
theorem dX0_readMachine_92 : decode cX0_readMachine 92 = .ok (.invokevirtual 41, 3) := by decide +kernel
theorem dX0_readMachine_95 : decode cX0_readMachine 95 = .ok (.invokestatic 68, 3) := by decide +kernel
theorem dX0_readMachine_98 : decode cX0_readMachine 98 = .ok (.ifCond .eq 8, 3) := by decide +kernel
theorem dX0_readMachine_101 : decode cX0_readMachine 101 = .ok (.aload_n 0, 1) := by decide +kernel
theorem dX0_readMachine_102 : decode cX0_readMachine 102 = .ok (.getfield 28, 3) := by decide +kernel
theorem dX0_readMachine_105 : decode cX0_readMachine 105 = .ok (.ireturn, 1) := by decide +kernel
theorem dX0_readMachine_106 : decode cX0_readMachine 106 = .ok (.aload_n 0, 1) := by decide +kernel
theorem dX0_readMachine_107 : decode cX0_readMachine 107 = .ok (.iload_n 3, 1) := by decide +kernel
theorem dX0_readMachine_108 : decode cX0_readMachine 108 = .ok (.putfield 31, 3) := by decide +kernel
theorem dX0_readMachine_111 : decode cX0_readMachine 111 = .ok (.iload_n 3, 1) := by decide +kernel
theorem dX0_readMachine_112 : decode cX0_readMachine 112 = .ok (.iload_n 1, 1) := by decide +kernel
theorem dX0_readMachine_113 : decode cX0_readMachine 113 = .ok (.if_icmp .ge 7, 3) := by decide +kernel
theorem dX0_readMachine_116 : decode cX0_readMachine 116 = .ok (.iconst (-1), 1) := by decide +kernel
theorem dX0_readMachine_117 : decode cX0_readMachine 117 = .ok (.goto 4, 3) := by decide +kernel
theorem dX0_readMachine_120 : decode cX0_readMachine 120 = .ok (.iload_n 2, 1) := by decide +kernel
theorem dX0_readMachine_121 : decode cX0_readMachine 121 = .ok (.ireturn, 1) := by decide +kernel
theorem dX0_readRack_0 : decode cX0_readRack 0 = .ok (.aload_n 0, 1) := by decide +kernel
theorem dX0_readRack_1 : decode cX0_readRack 1 = .ok (.aload_n 0, 1) := by decide +kernel
theorem dX0_readRack_2 : decode cX0_readRack 2 = .ok (.getfield 28, 3) := by decide +kernel
theorem dX0_readRack_5 : decode cX0_readRack 5 = .ok (.invokevirtual 41, 3) := by decide +kernel
theorem dX0_readRack_8 : decode cX0_readRack 8 = .ok (.bipush 115, 2) := by decide +kernel
theorem dX0_readRack_10 : decode cX0_readRack 10 = .ok (.if_icmp .eq 9, 3) := by decide +kernel
theorem dX0_readRack_13 : decode cX0_readRack 13 = .ok (.aload_n 0, 1) := by decide +kernel
theorem dX0_readRack_14 : decode cX0_readRack 14 = .ok (.iconst 5, 1) := by decide +kernel
theorem dX0_readRack_15 : decode cX0_readRack 15 = .ok (.invokevirtual 65, 3) := by decide +kernel
theorem dX0_readRack_18 : decode cX0_readRack 18 = .ok (.ireturn, 1) := by decide +kernel
theorem dX0_readRack_19 : decode cX0_readRack 19 = .ok (.aload_n 0, 1) := by decide +kernel
theorem dX0_readRack_20 : decode cX0_readRack 20 = .ok (.iconst (-1), 1) := by decide +kernel
theorem dX0_readRack_21 : decode cX0_readRack 21 = .ok (.putfield 31, 3) := by decide +kernel
theorem dX0_readRack_24 : decode cX0_readRack 24 = .ok (.aload_n 0, 1) := by decide +kernel
theorem dX0_readRack_25 : decode cX0_readRack 25 = .ok (.dup, 1) := by decide +kernel
theorem dX0_readRack_26 : decode cX0_readRack 26 = .ok (.getfield 28, 3) := by decide +kernel
theorem dX0_readRack_29 : decode cX0_readRack 29 = .ok (.iconst 1, 1) := by decide +kernel
theorem dX0_readRack_30 : decode cX0_readRack 30 = .ok (.iadd, 1) := by decide +kernel
theorem dX0_readRack_31 : decode cX0_readRack 31 = .ok (.putfield 28, 3) := by decide +kernel
theorem dX0_readRack_34 : decode cX0_readRack 34 = .ok (.iconst (-1), 1) := by decide +kernel
theorem dX0_readRack_35 : decode cX0_readRack 35 = .ok (.ireturn, 1) := by decide +kernel
theorem dX0_readDigit_0 : decode cX0_readDigit 0 = .ok (.aload_n 0, 1) := by decide +kernel
theorem dX0_readDigit_1 : decode cX0_readDigit 1 = .ok (.aload_n 0, 1) := by decide +kernel
theorem dX0_readDigit_2 : decode cX0_readDigit 2 = .ok (.getfield 28, 3) := by decide +kernel
theorem dX0_readDigit_5 : decode cX0_readDigit 5 = .ok (.invokevirtual 41, 3) := by decide +kernel
theorem dX0_readDigit_8 : decode cX0_readDigit 8 = .ok (.bipush 48, 2) := by decide +kernel
theorem dX0_readDigit_10 : decode cX0_readDigit 10 = .ok (.isub, 1) := by decide +kernel
theorem dX0_readDigit_11 : decode cX0_readDigit 11 = .ok (.istore_n 2, 1) := by decide +kernel
theorem dX0_readDigit_12 : decode cX0_readDigit 12 = .ok (.iload_n 2, 1) := by decide +kernel
theorem dX0_readDigit_13 : decode cX0_readDigit 13 = .ok (.ifCond .lt 8, 3) := by decide +kernel
theorem dX0_readDigit_16 : decode cX0_readDigit 16 = .ok (.iload_n 2, 1) := by decide +kernel
theorem dX0_readDigit_17 : decode cX0_readDigit 17 = .ok (.iload_n 1, 1) := by decide +kernel
theorem dX0_readDigit_18 : decode cX0_readDigit 18 = .ok (.if_icmp .le 8, 3) := by decide +kernel
theorem dX0_readDigit_21 : decode cX0_readDigit 21 = .ok (.aload_n 0, 1) := by decide +kernel
theorem dX0_readDigit_22 : decode cX0_readDigit 22 = .ok (.getfield 28, 3) := by decide +kernel
theorem dX0_readDigit_25 : decode cX0_readDigit 25 = .ok (.ireturn, 1) := by decide +kernel
theorem dX0_readDigit_26 : decode cX0_readDigit 26 = .ok (.aload_n 0, 1) := by decide +kernel
theorem dX0_readDigit_27 : decode cX0_readDigit 27 = .ok (.iload_n 2, 1) := by decide +kernel
theorem dX0_readDigit_28 : decode cX0_readDigit 28 = .ok (.putfield 31, 3) := by decide +kernel
theorem dX0_readDigit_31 : decode cX0_readDigit 31 = .ok (.aload_n 0, 1) := by decide +kernel
theorem dX0_readDigit_32 : decode cX0_readDigit 32 = .ok (.dup, 1) := by decide +kernel
theorem dX0_readDigit_33 : decode cX0_readDigit 33 = .ok (.getfield 28, 3) := by decide +kernel
theorem dX0_readDigit_36 : decode cX0_readDigit 36 = .ok (.iconst 1, 1) := by decide +kernel
theorem dX0_readDigit_37 : decode cX0_readDigit 37 = .ok (.iadd, 1) := by decide +kernel
theorem dX0_readDigit_38 : decode cX0_readDigit 38 = .ok (.putfield 28, 3) := by decide +kernel
theorem dX0_readDigit_41 : decode cX0_readDigit 41 = .ok (.iconst (-1), 1) := by decide +kernel
theorem dX0_readDigit_42 : decode cX0_readDigit 42 = .ok (.ireturn, 1) := by decide +kernel
theorem dX0_readByte_0 : decode cX0_readByte 0 = .ok (.aload_n 0, 1) := by decide +kernel
theorem dX0_readByte_1 : decode cX0_readByte 1 = .ok (.aload_n 0, 1) := by decide +kernel
theorem dX0_readByte_2 : decode cX0_readByte 2 = .ok (.getfield 28, 3) := by decide +kernel
theorem dX0_readByte_5 : decode cX0_readByte 5 = .ok (.invokevirtual 41, 3) := by decide +kernel
theorem dX0_readByte_8 : decode cX0_readByte 8 = .ok (.iload_n 1, 1) := by decide +kernel
theorem dX0_readByte_9 : decode cX0_readByte 9 = .ok (.if_icmp .eq 8, 3) := by decide +kernel
theorem dX0_readByte_12 : decode cX0_readByte 12 = .ok (.aload_n 0, 1) := by decide +kernel
theorem dX0_readByte_13 : decode cX0_readByte 13 = .ok (.getfield 28, 3) := by decide +kernel
theorem dX0_readByte_16 : decode cX0_readByte 16 = .ok (.ireturn, 1) := by decide +kernel
theorem dX0_readByte_17 : decode cX0_readByte 17 = .ok (.aload_n 0, 1) := by decide +kernel
theorem dX0_readByte_18 : decode cX0_readByte 18 = .ok (.dup, 1) := by decide +kernel
theorem dX0_readByte_19 : decode cX0_readByte 19 = .ok (.getfield 28, 3) := by decide +kernel
theorem dX0_readByte_22 : decode cX0_readByte 22 = .ok (.iconst 1, 1) := by decide +kernel
theorem dX0_readByte_23 : decode cX0_readByte 23 = .ok (.iadd, 1) := by decide +kernel
theorem dX0_readByte_24 : decode cX0_readByte 24 = .ok (.putfield 28, 3) := by decide +kernel
theorem dX0_readByte_27 : decode cX0_readByte 27 = .ok (.iconst (-1), 1) := by decide +kernel
theorem dX0_readByte_28 : decode cX0_readByte 28 = .ok (.ireturn, 1) := by decide +kernel
theorem dX0_byteAt_0 : decode cX0_byteAt 0 = .ok (.iload_n 1, 1) := by decide +kernel
theorem dX0_byteAt_1 : decode cX0_byteAt 1 = .ok (.ifCond .lt 26, 3) := by decide +kernel
theorem dX0_byteAt_4 : decode cX0_byteAt 4 = .ok (.iload_n 1, 1) := by decide +kernel
theorem dX0_byteAt_5 : decode cX0_byteAt 5 = .ok (.aload_n 0, 1) := by decide +kernel
theorem dX0_byteAt_6 : decode cX0_byteAt 6 = .ok (.getfield 15, 3) := by decide +kernel
theorem dX0_byteAt_9 : decode cX0_byteAt 9 = .ok (.if_icmp .ge 18, 3) := by decide +kernel
theorem dX0_byteAt_12 : decode cX0_byteAt 12 = .ok (.iload_n 1, 1) := by decide +kernel
theorem dX0_byteAt_13 : decode cX0_byteAt 13 = .ok (.bipush 90, 2) := by decide +kernel
theorem dX0_byteAt_15 : decode cX0_byteAt 15 = .ok (.if_icmp .ge 12, 3) := by decide +kernel
theorem dX0_byteAt_18 : decode cX0_byteAt 18 = .ok (.aload_n 0, 1) := by decide +kernel
theorem dX0_byteAt_19 : decode cX0_byteAt 19 = .ok (.getfield 9, 3) := by decide +kernel
theorem dX0_byteAt_22 : decode cX0_byteAt 22 = .ok (.iload_n 1, 1) := by decide +kernel
theorem dX0_byteAt_23 : decode cX0_byteAt 23 = .ok (.iaload, 1) := by decide +kernel
theorem dX0_byteAt_24 : decode cX0_byteAt 24 = .ok (.goto 4, 3) := by decide +kernel
theorem dX0_byteAt_27 : decode cX0_byteAt 27 = .ok (.iconst (-1), 1) := by decide +kernel
theorem dX0_byteAt_28 : decode cX0_byteAt 28 = .ok (.ireturn, 1) := by decide +kernel
theorem dX0_isDigit_0 : decode cX0_isDigit 0 = .ok (.iload_n 0, 1) := by decide +kernel
theorem dX0_isDigit_1 : decode cX0_isDigit 1 = .ok (.bipush 48, 2) := by decide +kernel
theorem dX0_isDigit_3 : decode cX0_isDigit 3 = .ok (.if_icmp .lt 13, 3) := by decide +kernel
theorem dX0_isDigit_6 : decode cX0_isDigit 6 = .ok (.iload_n 0, 1) := by decide +kernel
theorem dX0_isDigit_7 : decode cX0_isDigit 7 = .ok (.bipush 57, 2) := by decide +kernel
theorem dX0_isDigit_9 : decode cX0_isDigit 9 = .ok (.if_icmp .gt 7, 3) := by decide +kernel
theorem dX0_isDigit_12 : decode cX0_isDigit 12 = .ok (.iconst 1, 1) := by decide +kernel
theorem dX0_isDigit_13 : decode cX0_isDigit 13 = .ok (.goto 4, 3) := by decide +kernel
theorem dX0_isDigit_16 : decode cX0_isDigit 16 = .ok (.iconst 0, 1) := by decide +kernel
theorem dX0_isDigit_17 : decode cX0_isDigit 17 = .ok (.ireturn, 1) := by decide +kernel
theorem dX0_runIn_0 : decode cX0_runIn 0 = .ok (.iconst 0, 1) := by decide +kernel
theorem dX0_runIn_1 : decode cX0_runIn 1 = .ok (.istore_n 2, 1) := by decide +kernel
theorem dX0_runIn_2 : decode cX0_runIn 2 = .ok (.iconst 0, 1) := by decide +kernel
theorem dX0_runIn_3 : decode cX0_runIn 3 = .ok (.istore_n 3, 1) := by decide +kernel
theorem dX0_runIn_4 : decode cX0_runIn 4 = .ok (.iload_n 3, 1) := by decide +kernel
theorem dX0_runIn_5 : decode cX0_runIn 5 = .ok (.aload_n 0, 1) := by decide +kernel
theorem dX0_runIn_6 : decode cX0_runIn 6 = .ok (.getfield 24, 3) := by decide +kernel
theorem dX0_runIn_9 : decode cX0_runIn 9 = .ok (.getfield 34, 3) := by decide +kernel
theorem dX0_runIn_12 : decode cX0_runIn 12 = .ok (.if_icmp .ge 160, 3) := by decide +kernel
theorem dX0_runIn_15 : decode cX0_runIn 15 = .ok (.aload_n 0, 1) := by decide +kernel
theorem dX0_runIn_16 : decode cX0_runIn 16 = .ok (.getfield 24, 3) := by decide +kernel
theorem dX0_runIn_19 : decode cX0_runIn 19 = .ok (.iload_n 3, 1) := by decide +kernel
theorem dX0_runIn_20 : decode cX0_runIn 20 = .ok (.iconst 0, 1) := by decide +kernel
theorem dX0_runIn_21 : decode cX0_runIn 21 = .ok (.invokevirtual 72, 3) := by decide +kernel
theorem dX0_runIn_24 : decode cX0_runIn 24 = .ok (.istore 4, 2) := by decide +kernel
theorem dX0_runIn_26 : decode cX0_runIn 26 = .ok (.iload 4, 2) := by decide +kernel
theorem dX0_runIn_28 : decode cX0_runIn 28 = .ok (.bipush 104, 2) := by decide +kernel
theorem dX0_runIn_30 : decode cX0_runIn 30 = .ok (.if_icmp .ne 30, 3) := by decide +kernel
theorem dX0_runIn_33 : decode cX0_runIn 33 = .ok (.aload_n 1, 1) := by decide +kernel
theorem dX0_runIn_34 : decode cX0_runIn 34 = .ok (.getfield 75, 3) := by decide +kernel
theorem dX0_runIn_37 : decode cX0_runIn 37 = .ok (.sipush 2000, 3) := by decide +kernel
theorem dX0_runIn_40 : decode cX0_runIn 40 = .ok (.if_icmp .lt 7, 3) := by decide +kernel
theorem dX0_runIn_43 : decode cX0_runIn 43 = .ok (.sipush (-9999), 3) := by decide +kernel
theorem dX0_runIn_46 : decode cX0_runIn 46 = .ok (.ireturn, 1) := by decide +kernel
theorem dX0_runIn_47 : decode cX0_runIn 47 = .ok (.aload_n 1, 1) := by decide +kernel
theorem dX0_runIn_48 : decode cX0_runIn 48 = .ok (.dup, 1) := by decide +kernel
theorem dX0_runIn_49 : decode cX0_runIn 49 = .ok (.getfield 75, 3) := by decide +kernel
theorem dX0_runIn_52 : decode cX0_runIn 52 = .ok (.iconst 1, 1) := by decide +kernel
theorem dX0_runIn_53 : decode cX0_runIn 53 = .ok (.iadd, 1) := by decide +kernel
theorem dX0_runIn_54 : decode cX0_runIn 54 = .ok (.putfield 75, 3) := by decide +kernel
theorem dX0_runIn_57 : decode cX0_runIn 57 = .ok (.goto 109, 3) := by decide +kernel
theorem dX0_runIn_60 : decode cX0_runIn 60 = .ok (.aload_n 0, 1) := by decide +kernel
theorem dX0_runIn_61 : decode cX0_runIn 61 = .ok (.getfield 24, 3) := by decide +kernel
theorem dX0_runIn_64 : decode cX0_runIn 64 = .ok (.iload_n 3, 1) := by decide +kernel
theorem dX0_runIn_65 : decode cX0_runIn 65 = .ok (.iconst 1, 1) := by decide +kernel
theorem dX0_runIn_66 : decode cX0_runIn 66 = .ok (.invokevirtual 72, 3) := by decide +kernel
theorem dX0_runIn_69 : decode cX0_runIn 69 = .ok (.istore 5, 2) := by decide +kernel
theorem dX0_runIn_71 : decode cX0_runIn 71 = .ok (.aload_n 0, 1) := by decide +kernel
theorem dX0_runIn_72 : decode cX0_runIn 72 = .ok (.getfield 24, 3) := by decide +kernel
theorem dX0_runIn_75 : decode cX0_runIn 75 = .ok (.iload_n 3, 1) := by decide +kernel
theorem dX0_runIn_76 : decode cX0_runIn 76 = .ok (.iconst 2, 1) := by decide +kernel
theorem dX0_runIn_77 : decode cX0_runIn 77 = .ok (.invokevirtual 72, 3) := by decide +kernel
theorem dX0_runIn_80 : decode cX0_runIn 80 = .ok (.istore 6, 2) := by decide +kernel
theorem dX0_runIn_82 : decode cX0_runIn 82 = .ok (.iload 4, 2) := by decide +kernel
theorem dX0_runIn_84 : decode cX0_runIn 84 = .ok (.bipush 109, 2) := by decide +kernel
theorem dX0_runIn_86 : decode cX0_runIn 86 = .ok (.if_icmp .ne 7, 3) := by decide +kernel
theorem dX0_runIn_89 : decode cX0_runIn 89 = .ok (.iconst 1, 1) := by decide +kernel
theorem dX0_runIn_90 : decode cX0_runIn 90 = .ok (.goto 4, 3) := by decide +kernel
theorem dX0_runIn_93 : decode cX0_runIn 93 = .ok (.iconst 0, 1) := by decide +kernel
theorem dX0_runIn_94 : decode cX0_runIn 94 = .ok (.istore 7, 2) := by decide +kernel
theorem dX0_runIn_96 : decode cX0_runIn 96 = .ok (.iload 7, 2) := by decide +kernel
theorem dX0_runIn_98 : decode cX0_runIn 98 = .ok (.ifCond .eq 14, 3) := by decide +kernel
theorem dX0_runIn_101 : decode cX0_runIn 101 = .ok (.aload_n 1, 1) := by decide +kernel
theorem dX0_runIn_102 : decode cX0_runIn 102 = .ok (.iload 5, 2) := by decide +kernel
theorem dX0_runIn_104 : decode cX0_runIn 104 = .ok (.iload 6, 2) := by decide +kernel
theorem dX0_runIn_106 : decode cX0_runIn 106 = .ok (.invokevirtual 80, 3) := by decide +kernel
theorem dX0_runIn_109 : decode cX0_runIn 109 = .ok (.goto 11, 3) := by decide +kernel
theorem dX0_runIn_112 : decode cX0_runIn 112 = .ok (.aload_n 1, 1) := by decide +kernel
theorem dX0_runIn_113 : decode cX0_runIn 113 = .ok (.iload 5, 2) := by decide +kernel
theorem dX0_runIn_115 : decode cX0_runIn 115 = .ok (.iload 6, 2) := by decide +kernel
theorem dX0_runIn_117 : decode cX0_runIn 117 = .ok (.invokevirtual 83, 3) := by decide +kernel
theorem dX0_runIn_120 : decode cX0_runIn 120 = .ok (.istore 8, 2) := by decide +kernel
theorem dX0_runIn_122 : decode cX0_runIn 122 = .ok (.iload 8, 2) := by decide +kernel
theorem dX0_runIn_124 : decode cX0_runIn 124 = .ok (.ifCond .eq 15, 3) := by decide +kernel
theorem dX0_runIn_127 : decode cX0_runIn 127 = .ok (.sipush (-1000), 3) := by decide +kernel
theorem dX0_runIn_130 : decode cX0_runIn 130 = .ok (.bipush 10, 2) := by decide +kernel
theorem dX0_runIn_132 : decode cX0_runIn 132 = .ok (.iload_n 2, 1) := by decide +kernel
theorem dX0_runIn_133 : decode cX0_runIn 133 = .ok (.imul, 1) := by decide +kernel
theorem dX0_runIn_134 : decode cX0_runIn 134 = .ok (.isub, 1) := by decide +kernel
theorem dX0_runIn_135 : decode cX0_runIn 135 = .ok (.iload 8, 2) := by decide +kernel
theorem dX0_runIn_137 : decode cX0_runIn 137 = .ok (.isub, 1) := by decide +kernel
theorem dX0_runIn_138 : decode cX0_runIn 138 = .ok (.ireturn, 1) := by decide +kernel
theorem dX0_runIn_139 : decode cX0_runIn 139 = .ok (.iload 7, 2) := by decide +kernel
theorem dX0_runIn_141 : decode cX0_runIn 141 = .ok (.ifCond .eq 14, 3) := by decide +kernel
theorem dX0_runIn_144 : decode cX0_runIn 144 = .ok (.aload_n 1, 1) := by decide +kernel
theorem dX0_runIn_145 : decode cX0_runIn 145 = .ok (.iload 5, 2) := by decide +kernel
theorem dX0_runIn_147 : decode cX0_runIn 147 = .ok (.iload 6, 2) := by decide +kernel
theorem dX0_runIn_149 : decode cX0_runIn 149 = .ok (.invokevirtual 86, 3) := by decide +kernel
theorem dX0_runIn_152 : decode cX0_runIn 152 = .ok (.goto 11, 3) := by decide +kernel
theorem dX0_runIn_155 : decode cX0_runIn 155 = .ok (.aload_n 1, 1) := by decide +kernel
theorem dX0_runIn_156 : decode cX0_runIn 156 = .ok (.iload 5, 2) := by decide +kernel
theorem dX0_runIn_158 : decode cX0_runIn 158 = .ok (.iload 6, 2) := by decide +kernel
theorem dX0_runIn_160 : decode cX0_runIn 160 = .ok (.invokevirtual 89, 3) := by decide +kernel
theorem dX0_runIn_163 : decode cX0_runIn 163 = .ok (.iinc 2 1, 3) := by decide +kernel
theorem dX0_runIn_166 : decode cX0_runIn 166 = .ok (.iinc 3 1, 3) := by decide +kernel
theorem dX0_runIn_169 : decode cX0_runIn 169 = .ok (.goto (-165), 3) := by decide +kernel
theorem dX0_runIn_172 : decode cX0_runIn 172 = .ok (.iload_n 2, 1) := by decide +kernel
theorem dX0_runIn_173 : decode cX0_runIn 173 = .ok (.ireturn, 1) := by decide +kernel
end
section
theorem dX3_init_0 : decode cX3_init 0 = .ok (.aload_n 0, 1) := by decide +kernel
theorem dX3_init_1 : decode cX3_init 1 = .ok (.invokespecial 3, 3) := by decide +kernel
theorem dX3_init_4 : decode cX3_init 4 = .ok (.aload_n 0, 1) := by decide +kernel
theorem dX3_init_5 : decode cX3_init 5 = .ok (.new 9, 3) := by decide +kernel
theorem dX3_init_8 : decode cX3_init 8 = .ok (.dup, 1) := by decide +kernel
theorem dX3_init_9 : decode cX3_init 9 = .ok (.invokespecial 11, 3) := by decide +kernel
theorem dX3_init_12 : decode cX3_init 12 = .ok (.putfield 12, 3) := by decide +kernel
theorem dX3_init_15 : decode cX3_init 15 = .ok (.aload_n 0, 1) := by decide +kernel
theorem dX3_init_16 : decode cX3_init 16 = .ok (.new 9, 3) := by decide +kernel
theorem dX3_init_19 : decode cX3_init 19 = .ok (.dup, 1) := by decide +kernel
theorem dX3_init_20 : decode cX3_init 20 = .ok (.invokespecial 11, 3) := by decide +kernel
theorem dX3_init_23 : decode cX3_init 23 = .ok (.putfield 16, 3) := by decide +kernel
theorem dX3_init_26 : decode cX3_init 26 = .ok (.aload_n 0, 1) := by decide +kernel
theorem dX3_init_27 : decode cX3_init 27 = .ok (.iconst 4, 1) := by decide +kernel
theorem dX3_init_28 : decode cX3_init 28 = .ok (.anewarray 9, 3) := by decide +kernel
theorem dX3_init_31 : decode cX3_init 31 = .ok (.putfield 19, 3) := by decide +kernel
theorem dX3_init_34 : decode cX3_init 34 = .ok (.aload_n 0, 1) := by decide +kernel
theorem dX3_init_35 : decode cX3_init 35 = .ok (.iconst 0, 1) := by decide +kernel
theorem dX3_init_36 : decode cX3_init 36 = .ok (.putfield 23, 3) := by decide +kernel
theorem dX3_init_39 : decode cX3_init 39 = .ok (.aload_n 0, 1) := by decide +kernel
theorem dX3_init_40 : decode cX3_init 40 = .ok (.new 27, 3) := by decide +kernel
theorem dX3_init_43 : decode cX3_init 43 = .ok (.dup, 1) := by decide +kernel
theorem dX3_init_44 : decode cX3_init 44 = .ok (.invokespecial 29, 3) := by decide +kernel
theorem dX3_init_47 : decode cX3_init 47 = .ok (.putfield 30, 3) := by decide +kernel
theorem dX3_init_50 : decode cX3_init 50 = .ok (.iconst 0, 1) := by decide +kernel
theorem dX3_init_51 : decode cX3_init 51 = .ok (.istore_n 1, 1) := by decide +kernel
theorem dX3_init_52 : decode cX3_init 52 = .ok (.iload_n 1, 1) := by decide +kernel
theorem dX3_init_53 : decode cX3_init 53 = .ok (.iconst 4, 1) := by decide +kernel
theorem dX3_init_54 : decode cX3_init 54 = .ok (.if_icmp .ge 22, 3) := by decide +kernel
theorem dX3_init_57 : decode cX3_init 57 = .ok (.aload_n 0, 1) := by decide +kernel
theorem dX3_init_58 : decode cX3_init 58 = .ok (.getfield 19, 3) := by decide +kernel
theorem dX3_init_61 : decode cX3_init 61 = .ok (.iload_n 1, 1) := by decide +kernel
theorem dX3_init_62 : decode cX3_init 62 = .ok (.new 9, 3) := by decide +kernel
theorem dX3_init_65 : decode cX3_init 65 = .ok (.dup, 1) := by decide +kernel
theorem dX3_init_66 : decode cX3_init 66 = .ok (.invokespecial 11, 3) := by decide +kernel
theorem dX3_init_69 : decode cX3_init 69 = .ok (.aastore, 1) := by decide +kernel
theorem dX3_init_70 : decode cX3_init 70 = .ok (.iinc 1 1, 3) := by decide +kernel
theorem dX3_init_73 : decode cX3_init 73 = .ok (.goto (-21), 3) := by decide +kernel
theorem dX3_init_76 : decode cX3_init 76 = .ok (.return_, 1) := by decide +kernel
theorem dX3_setLimit_0 : decode cX3_setLimit 0 = .ok (.iload_n 1, 1) := by decide +kernel
theorem dX3_setLimit_1 : decode cX3_setLimit 1 = .ok (.invokestatic 34, 3) := by decide +kernel
theorem dX3_setLimit_4 : decode cX3_setLimit 4 = .ok (.iload_n 2, 1) := by decide +kernel
theorem dX3_setLimit_5 : decode cX3_setLimit 5 = .ok (.iconst 0, 1) := by decide +kernel
theorem dX3_setLimit_6 : decode cX3_setLimit 6 = .ok (.sipush 500, 3) := by decide +kernel
theorem dX3_setLimit_9 : decode cX3_setLimit 9 = .ok (.invokestatic 38, 3) := by decide +kernel
theorem dX3_setLimit_12 : decode cX3_setLimit 12 = .ok (.aload_n 0, 1) := by decide +kernel
theorem dX3_setLimit_13 : decode cX3_setLimit 13 = .ok (.invokevirtual 42, 3) := by decide +kernel
theorem dX3_setLimit_16 : decode cX3_setLimit 16 = .ok (.aload_n 0, 1) := by decide +kernel
theorem dX3_setLimit_17 : decode cX3_setLimit 17 = .ok (.getfield 12, 3) := by decide +kernel
theorem dX3_setLimit_20 : decode cX3_setLimit 20 = .ok (.getfield 45, 3) := by decide +kernel
theorem dX3_setLimit_23 : decode cX3_setLimit 23 = .ok (.iload_n 1, 1) := by decide +kernel
theorem dX3_setLimit_24 : decode cX3_setLimit 24 = .ok (.iaload, 1) := by decide +kernel
theorem dX3_setLimit_25 : decode cX3_setLimit 25 = .ok (.istore_n 3, 1) := by decide +kernel
theorem dX3_setLimit_26 : decode cX3_setLimit 26 = .ok (.aload_n 0, 1) := by decide +kernel
theorem dX3_setLimit_27 : decode cX3_setLimit 27 = .ok (.getfield 12, 3) := by decide +kernel
theorem dX3_setLimit_30 : decode cX3_setLimit 30 = .ok (.getfield 45, 3) := by decide +kernel
theorem dX3_setLimit_33 : decode cX3_setLimit 33 = .ok (.iload_n 1, 1) := by decide +kernel
theorem dX3_setLimit_34 : decode cX3_setLimit 34 = .ok (.iload_n 2, 1) := by decide +kernel
theorem dX3_setLimit_35 : decode cX3_setLimit 35 = .ok (.iastore, 1) := by decide +kernel
theorem dX3_setLimit_36 : decode cX3_setLimit 36 = .ok (.iload_n 3, 1) := by decide +kernel
theorem dX3_setLimit_37 : decode cX3_setLimit 37 = .ok (.ireturn, 1) := by decide +kernel
theorem dX3_setTray_0 : decode cX3_setTray 0 = .ok (.iload_n 1, 1) := by decide +kernel
theorem dX3_setTray_1 : decode cX3_setTray 1 = .ok (.invokestatic 49, 3) := by decide +kernel
theorem dX3_setTray_4 : decode cX3_setTray 4 = .ok (.iload_n 2, 1) := by decide +kernel
theorem dX3_setTray_5 : decode cX3_setTray 5 = .ok (.iconst 0, 1) := by decide +kernel
theorem dX3_setTray_6 : decode cX3_setTray 6 = .ok (.bipush 9, 2) := by decide +kernel
theorem dX3_setTray_8 : decode cX3_setTray 8 = .ok (.invokestatic 38, 3) := by decide +kernel
theorem dX3_setTray_11 : decode cX3_setTray 11 = .ok (.aload_n 0, 1) := by decide +kernel
theorem dX3_setTray_12 : decode cX3_setTray 12 = .ok (.invokevirtual 42, 3) := by decide +kernel
theorem dX3_setTray_15 : decode cX3_setTray 15 = .ok (.aload_n 0, 1) := by decide +kernel
theorem dX3_setTray_16 : decode cX3_setTray 16 = .ok (.getfield 12, 3) := by decide +kernel
theorem dX3_setTray_19 : decode cX3_setTray 19 = .ok (.getfield 52, 3) := by decide +kernel
theorem dX3_setTray_22 : decode cX3_setTray 22 = .ok (.iload_n 1, 1) := by decide +kernel
theorem dX3_setTray_23 : decode cX3_setTray 23 = .ok (.iaload, 1) := by decide +kernel
theorem dX3_setTray_24 : decode cX3_setTray 24 = .ok (.istore_n 3, 1) := by decide +kernel
theorem dX3_setTray_25 : decode cX3_setTray 25 = .ok (.aload_n 0, 1) := by decide +kernel
theorem dX3_setTray_26 : decode cX3_setTray 26 = .ok (.getfield 12, 3) := by decide +kernel
theorem dX3_setTray_29 : decode cX3_setTray 29 = .ok (.getfield 52, 3) := by decide +kernel
theorem dX3_setTray_32 : decode cX3_setTray 32 = .ok (.iload_n 1, 1) := by decide +kernel
theorem dX3_setTray_33 : decode cX3_setTray 33 = .ok (.iload_n 2, 1) := by decide +kernel
theorem dX3_setTray_34 : decode cX3_setTray 34 = .ok (.iastore, 1) := by decide +kernel
theorem dX3_setTray_35 : decode cX3_setTray 35 = .ok (.iload_n 3, 1) := by decide +kernel
theorem dX3_setTray_36 : decode cX3_setTray 36 = .ok (.ireturn, 1) := by decide +kernel
theorem dX3_setLevel_0 : decode cX3_setLevel 0 = .ok (.iload_n 1, 1) := by decide +kernel
theorem dX3_setLevel_1 : decode cX3_setLevel 1 = .ok (.iconst 0, 1) := by decide +kernel
theorem dX3_setLevel_2 : decode cX3_setLevel 2 = .ok (.sipush 500, 3) := by decide +kernel
theorem dX3_setLevel_5 : decode cX3_setLevel 5 = .ok (.invokestatic 38, 3) := by decide +kernel
theorem dX3_setLevel_8 : decode cX3_setLevel 8 = .ok (.aload_n 0, 1) := by decide +kernel
theorem dX3_setLevel_9 : decode cX3_setLevel 9 = .ok (.invokevirtual 42, 3) := by decide +kernel
theorem dX3_setLevel_12 : decode cX3_setLevel 12 = .ok (.aload_n 0, 1) := by decide +kernel
theorem dX3_setLevel_13 : decode cX3_setLevel 13 = .ok (.getfield 12, 3) := by decide +kernel
theorem dX3_setLevel_16 : decode cX3_setLevel 16 = .ok (.getfield 55, 3) := by decide +kernel
theorem dX3_setLevel_19 : decode cX3_setLevel 19 = .ok (.istore_n 2, 1) := by decide +kernel
theorem dX3_setLevel_20 : decode cX3_setLevel 20 = .ok (.aload_n 0, 1) := by decide +kernel
theorem dX3_setLevel_21 : decode cX3_setLevel 21 = .ok (.getfield 12, 3) := by decide +kernel
theorem dX3_setLevel_24 : decode cX3_setLevel 24 = .ok (.iload_n 1, 1) := by decide +kernel
theorem dX3_setLevel_25 : decode cX3_setLevel 25 = .ok (.putfield 55, 3) := by decide +kernel
theorem dX3_setLevel_28 : decode cX3_setLevel 28 = .ok (.iload_n 2, 1) := by decide +kernel
theorem dX3_setLevel_29 : decode cX3_setLevel 29 = .ok (.ireturn, 1) := by decide +kernel
theorem dX3_addMachine_0 : decode cX3_addMachine 0 = .ok (.iload_n 1, 1) := by decide +kernel
theorem dX3_addMachine_1 : decode cX3_addMachine 1 = .ok (.iconst 1, 1) := by decide +kernel
theorem dX3_addMachine_2 : decode cX3_addMachine 2 = .ok (.iconst 4, 1) := by decide +kernel
theorem dX3_addMachine_3 : decode cX3_addMachine 3 = .ok (.invokestatic 38, 3) := by decide +kernel
theorem dX3_addMachine_6 : decode cX3_addMachine 6 = .ok (.iload_n 2, 1) := by decide +kernel
theorem dX3_addMachine_7 : decode cX3_addMachine 7 = .ok (.iconst 1, 1) := by decide +kernel
theorem dX3_addMachine_8 : decode cX3_addMachine 8 = .ok (.bipush 99, 2) := by decide +kernel
theorem dX3_addMachine_10 : decode cX3_addMachine 10 = .ok (.invokestatic 38, 3) := by decide +kernel
theorem dX3_addMachine_13 : decode cX3_addMachine 13 = .ok (.iload_n 3, 1) := by decide +kernel
theorem dX3_addMachine_14 : decode cX3_addMachine 14 = .ok (.iconst 0, 1) := by decide +kernel
theorem dX3_addMachine_15 : decode cX3_addMachine 15 = .ok (.iconst 2, 1) := by decide +kernel
theorem dX3_addMachine_16 : decode cX3_addMachine 16 = .ok (.invokestatic 38, 3) := by decide +kernel
theorem dX3_addMachine_19 : decode cX3_addMachine 19 = .ok (.iload 4, 2) := by decide +kernel
theorem dX3_addMachine_21 : decode cX3_addMachine 21 = .ok (.iconst 0, 1) := by decide +kernel
theorem dX3_addMachine_22 : decode cX3_addMachine 22 = .ok (.iconst 3, 1) := by decide +kernel
theorem dX3_addMachine_23 : decode cX3_addMachine 23 = .ok (.invokestatic 38, 3) := by decide +kernel
theorem dX3_addMachine_26 : decode cX3_addMachine 26 = .ok (.aload_n 0, 1) := by decide +kernel
theorem dX3_addMachine_27 : decode cX3_addMachine 27 = .ok (.getfield 12, 3) := by decide +kernel
theorem dX3_addMachine_30 : decode cX3_addMachine 30 = .ok (.getfield 58, 3) := by decide +kernel
theorem dX3_addMachine_33 : decode cX3_addMachine 33 = .ok (.invokestatic 62, 3) := by decide +kernel
theorem dX3_addMachine_36 : decode cX3_addMachine 36 = .ok (.aload_n 0, 1) := by decide +kernel
theorem dX3_addMachine_37 : decode cX3_addMachine 37 = .ok (.invokevirtual 42, 3) := by decide +kernel
theorem dX3_addMachine_40 : decode cX3_addMachine 40 = .ok (.aload_n 0, 1) := by decide +kernel
theorem dX3_addMachine_41 : decode cX3_addMachine 41 = .ok (.getfield 12, 3) := by decide +kernel
theorem dX3_addMachine_44 : decode cX3_addMachine 44 = .ok (.getfield 58, 3) := by decide +kernel
theorem dX3_addMachine_47 : decode cX3_addMachine 47 = .ok (.invokevirtual 66, 3) := by decide +kernel
theorem dX3_addMachine_50 : decode cX3_addMachine 50 = .ok (.istore 5, 2) := by decide +kernel
theorem dX3_addMachine_52 : decode cX3_addMachine 52 = .ok (.aload_n 0, 1) := by decide +kernel
theorem dX3_addMachine_53 : decode cX3_addMachine 53 = .ok (.getfield 12, 3) := by decide +kernel
theorem dX3_addMachine_56 : decode cX3_addMachine 56 = .ok (.getfield 58, 3) := by decide +kernel
theorem dX3_addMachine_59 : decode cX3_addMachine 59 = .ok (.iload 5, 2) := by decide +kernel
theorem dX3_addMachine_61 : decode cX3_addMachine 61 = .ok (.iconst 0, 1) := by decide +kernel
theorem dX3_addMachine_62 : decode cX3_addMachine 62 = .ok (.iload_n 1, 1) := by decide +kernel
theorem dX3_addMachine_63 : decode cX3_addMachine 63 = .ok (.invokevirtual 72, 3) := by decide +kernel
theorem dX3_addMachine_66 : decode cX3_addMachine 66 = .ok (.aload_n 0, 1) := by decide +kernel
theorem dX3_addMachine_67 : decode cX3_addMachine 67 = .ok (.getfield 12, 3) := by decide +kernel
theorem dX3_addMachine_70 : decode cX3_addMachine 70 = .ok (.getfield 58, 3) := by decide +kernel
theorem dX3_addMachine_73 : decode cX3_addMachine 73 = .ok (.iload 5, 2) := by decide +kernel
theorem dX3_addMachine_75 : decode cX3_addMachine 75 = .ok (.iconst 1, 1) := by decide +kernel
theorem dX3_addMachine_76 : decode cX3_addMachine 76 = .ok (.iload_n 2, 1) := by decide +kernel
theorem dX3_addMachine_77 : decode cX3_addMachine 77 = .ok (.invokevirtual 72, 3) := by decide +kernel
theorem dX3_addMachine_80 : decode cX3_addMachine 80 = .ok (.aload_n 0, 1) := by decide +kernel
theorem dX3_addMachine_81 : decode cX3_addMachine 81 = .ok (.getfield 12, 3) := by decide +kernel
theorem dX3_addMachine_84 : decode cX3_addMachine 84 = .ok (.getfield 58, 3) := by decide +kernel
theorem dX3_addMachine_87 : decode cX3_addMachine 87 = .ok (.iload 5, 2) := by decide +kernel
theorem dX3_addMachine_89 : decode cX3_addMachine 89 = .ok (.iconst 3, 1) := by decide +kernel
theorem dX3_addMachine_90 : decode cX3_addMachine 90 = .ok (.iload 4, 2) := by decide +kernel
theorem dX3_addMachine_92 : decode cX3_addMachine 92 = .ok (.invokevirtual 72, 3) := by decide +kernel
theorem dX3_addMachine_95 : decode cX3_addMachine 95 = .ok (.aload_n 0, 1) := by decide +kernel
theorem dX3_addMachine_96 : decode cX3_addMachine 96 = .ok (.getfield 12, 3) := by decide +kernel
theorem dX3_addMachine_99 : decode cX3_addMachine 99 = .ok (.iload 5, 2) := by decide +kernel
theorem dX3_addMachine_101 : decode cX3_addMachine 101 = .ok (.iconst (-1), 1) := by decide +kernel
theorem dX3_addMachine_102 : decode cX3_addMachine 102 = .ok (.iconst (-1), 1) := by decide +kernel
theorem dX3_addMachine_103 : decode cX3_addMachine 103 = .ok (.iload_n 3, 1) := by decide +kernel
theorem dX3_addMachine_104 : decode cX3_addMachine 104 = .ok (.invokevirtual 75, 3) := by decide +kernel
theorem dX3_addMachine_107 : decode cX3_addMachine 107 = .ok (.iload 5, 2) := by decide +kernel
theorem dX3_addMachine_109 : decode cX3_addMachine 109 = .ok (.ireturn, 1) := by decide +kernel
theorem dX3_addCable_0 : decode cX3_addCable 0 = .ok (.aload_n 0, 1) := by decide +kernel
theorem dX3_addCable_1 : decode cX3_addCable 1 = .ok (.iload_n 1, 1) := by decide +kernel
theorem dX3_addCable_2 : decode cX3_addCable 2 = .ok (.invokevirtual 79, 3) := by decide +kernel
theorem dX3_addCable_5 : decode cX3_addCable 5 = .ok (.aload_n 0, 1) := by decide +kernel
theorem dX3_addCable_6 : decode cX3_addCable 6 = .ok (.iload_n 2, 1) := by decide +kernel
theorem dX3_addCable_7 : decode cX3_addCable 7 = .ok (.invokevirtual 79, 3) := by decide +kernel
theorem dX3_addCable_10 : decode cX3_addCable 10 = .ok (.iload_n 1, 1) := by decide +kernel
theorem dX3_addCable_11 : decode cX3_addCable 11 = .ok (.iload_n 2, 1) := by decide +kernel
theorem dX3_addCable_12 : decode cX3_addCable 12 = .ok (.if_icmp .ne 13, 3) := by decide +kernel
theorem dX3_addCable_15 : decode cX3_addCable 15 = .ok (.new 82, 3) := by decide +kernel
theorem dX3_addCable_18 : decode cX3_addCable 18 = .ok (.dup, 1) := by decide +kernel
theorem dX3_addCable_19 : decode cX3_addCable 19 = .ok (.ldc 84, 2) := by decide +kernel
theorem dX3_addCable_21 : decode cX3_addCable 21 = .ok (.invokespecial 86, 3) := by decide +kernel
theorem dX3_addCable_24 : decode cX3_addCable 24 = .ok (.athrow, 1) := by decide +kernel
theorem dX3_addCable_25 : decode cX3_addCable 25 = .ok (.iload_n 3, 1) := by decide +kernel
theorem dX3_addCable_26 : decode cX3_addCable 26 = .ok (.iconst 1, 1) := by decide +kernel
theorem dX3_addCable_27 : decode cX3_addCable 27 = .ok (.bipush 20, 2) := by decide +kernel
theorem dX3_addCable_29 : decode cX3_addCable 29 = .ok (.invokestatic 38, 3) := by decide +kernel
theorem dX3_addCable_32 : decode cX3_addCable 32 = .ok (.aload_n 0, 1) := by decide +kernel
theorem dX3_addCable_33 : decode cX3_addCable 33 = .ok (.getfield 12, 3) := by decide +kernel
theorem dX3_addCable_36 : decode cX3_addCable 36 = .ok (.getfield 89, 3) := by decide +kernel
theorem dX3_addCable_39 : decode cX3_addCable 39 = .ok (.invokestatic 62, 3) := by decide +kernel
theorem dX3_addCable_42 : decode cX3_addCable 42 = .ok (.aload_n 0, 1) := by decide +kernel
theorem dX3_addCable_43 : decode cX3_addCable 43 = .ok (.invokevirtual 42, 3) := by decide +kernel
theorem dX3_addCable_46 : decode cX3_addCable 46 = .ok (.aload_n 0, 1) := by decide +kernel
theorem dX3_addCable_47 : decode cX3_addCable 47 = .ok (.getfield 12, 3) := by decide +kernel
theorem dX3_addCable_50 : decode cX3_addCable 50 = .ok (.getfield 89, 3) := by decide +kernel
theorem dX3_addCable_53 : decode cX3_addCable 53 = .ok (.invokevirtual 66, 3) := by decide +kernel
theorem dX3_addCable_56 : decode cX3_addCable 56 = .ok (.istore 4, 2) := by decide +kernel
theorem dX3_addCable_58 : decode cX3_addCable 58 = .ok (.aload_n 0, 1) := by decide +kernel
theorem dX3_addCable_59 : decode cX3_addCable 59 = .ok (.getfield 12, 3) := by decide +kernel
theorem dX3_addCable_62 : decode cX3_addCable 62 = .ok (.getfield 89, 3) := by decide +kernel
theorem dX3_addCable_65 : decode cX3_addCable 65 = .ok (.iload 4, 2) := by decide +kernel
theorem dX3_addCable_67 : decode cX3_addCable 67 = .ok (.iconst 0, 1) := by decide +kernel
theorem dX3_addCable_68 : decode cX3_addCable 68 = .ok (.iload_n 1, 1) := by decide +kernel
theorem dX3_addCable_69 : decode cX3_addCable 69 = .ok (.invokevirtual 72, 3) := by decide +kernel
theorem dX3_addCable_72 : decode cX3_addCable 72 = .ok (.aload_n 0, 1) := by decide +kernel
theorem dX3_addCable_73 : decode cX3_addCable 73 = .ok (.getfield 12, 3) := by decide +kernel
theorem dX3_addCable_76 : decode cX3_addCable 76 = .ok (.getfield 89, 3) := by decide +kernel
theorem dX3_addCable_79 : decode cX3_addCable 79 = .ok (.iload 4, 2) := by decide +kernel
theorem dX3_addCable_81 : decode cX3_addCable 81 = .ok (.iconst 1, 1) := by decide +kernel
theorem dX3_addCable_82 : decode cX3_addCable 82 = .ok (.iload_n 2, 1) := by decide +kernel
theorem dX3_addCable_83 : decode cX3_addCable 83 = .ok (.invokevirtual 72, 3) := by decide +kernel
theorem dX3_addCable_86 : decode cX3_addCable 86 = .ok (.aload_n 0, 1) := by decide +kernel
theorem dX3_addCable_87 : decode cX3_addCable 87 = .ok (.getfield 12, 3) := by decide +kernel
theorem dX3_addCable_90 : decode cX3_addCable 90 = .ok (.getfield 89, 3) := by decide +kernel
theorem dX3_addCable_93 : decode cX3_addCable 93 = .ok (.iload 4, 2) := by decide +kernel
theorem dX3_addCable_95 : decode cX3_addCable 95 = .ok (.iconst 2, 1) := by decide +kernel
theorem dX3_addCable_96 : decode cX3_addCable 96 = .ok (.iload_n 3, 1) := by decide +kernel
theorem dX3_addCable_97 : decode cX3_addCable 97 = .ok (.invokevirtual 72, 3) := by decide +kernel
theorem dX3_addCable_100 : decode cX3_addCable 100 = .ok (.iload 4, 2) := by decide +kernel
theorem dX3_addCable_102 : decode cX3_addCable 102 = .ok (.ireturn, 1) := by decide +kernel
theorem dX3_removeCable_0 : decode cX3_removeCable 0 = .ok (.aload_n 0, 1) := by decide +kernel
theorem dX3_removeCable_1 : decode cX3_removeCable 1 = .ok (.iload_n 1, 1) := by decide +kernel
theorem dX3_removeCable_2 : decode cX3_removeCable 2 = .ok (.invokevirtual 92, 3) := by decide +kernel
theorem dX3_removeCable_5 : decode cX3_removeCable 5 = .ok (.aload_n 0, 1) := by decide +kernel
theorem dX3_removeCable_6 : decode cX3_removeCable 6 = .ok (.invokevirtual 42, 3) := by decide +kernel
theorem dX3_removeCable_9 : decode cX3_removeCable 9 = .ok (.aload_n 0, 1) := by decide +kernel
theorem dX3_removeCable_10 : decode cX3_removeCable 10 = .ok (.getfield 12, 3) := by decide +kernel
theorem dX3_removeCable_13 : decode cX3_removeCable 13 = .ok (.getfield 89, 3) := by decide +kernel
theorem dX3_removeCable_16 : decode cX3_removeCable 16 = .ok (.iload_n 1, 1) := by decide +kernel
theorem dX3_removeCable_17 : decode cX3_removeCable 17 = .ok (.invokevirtual 95, 3) := by decide +kernel
theorem dX3_removeCable_20 : decode cX3_removeCable 20 = .ok (.aload_n 0, 1) := by decide +kernel
theorem dX3_removeCable_21 : decode cX3_removeCable 21 = .ok (.getfield 12, 3) := by decide +kernel
theorem dX3_removeCable_24 : decode cX3_removeCable 24 = .ok (.getfield 89, 3) := by decide +kernel
theorem dX3_removeCable_27 : decode cX3_removeCable 27 = .ok (.getfield 98, 3) := by decide +kernel
theorem dX3_removeCable_30 : decode cX3_removeCable 30 = .ok (.ireturn, 1) := by decide +kernel
theorem dX3_addFreeze_0 : decode cX3_addFreeze 0 = .ok (.iload_n 1, 1) := by decide +kernel
theorem dX3_addFreeze_1 : decode cX3_addFreeze 1 = .ok (.iconst 0, 1) := by decide +kernel
theorem dX3_addFreeze_2 : decode cX3_addFreeze 2 = .ok (.iconst 3, 1) := by decide +kernel
theorem dX3_addFreeze_3 : decode cX3_addFreeze 3 = .ok (.invokestatic 38, 3) := by decide +kernel
theorem dX3_addFreeze_6 : decode cX3_addFreeze 6 = .ok (.iload_n 2, 1) := by decide +kernel
theorem dX3_addFreeze_7 : decode cX3_addFreeze 7 = .ok (.iconst 0, 1) := by decide +kernel
theorem dX3_addFreeze_8 : decode cX3_addFreeze 8 = .ok (.sipush 999, 3) := by decide +kernel
theorem dX3_addFreeze_11 : decode cX3_addFreeze 11 = .ok (.invokestatic 38, 3) := by decide +kernel
theorem dX3_addFreeze_14 : decode cX3_addFreeze 14 = .ok (.iload_n 3, 1) := by decide +kernel
theorem dX3_addFreeze_15 : decode cX3_addFreeze 15 = .ok (.iconst 1, 1) := by decide +kernel
theorem dX3_addFreeze_16 : decode cX3_addFreeze 16 = .ok (.bipush 99, 2) := by decide +kernel
theorem dX3_addFreeze_18 : decode cX3_addFreeze 18 = .ok (.invokestatic 38, 3) := by decide +kernel
theorem dX3_addFreeze_21 : decode cX3_addFreeze 21 = .ok (.aload_n 0, 1) := by decide +kernel
theorem dX3_addFreeze_22 : decode cX3_addFreeze 22 = .ok (.getfield 12, 3) := by decide +kernel
theorem dX3_addFreeze_25 : decode cX3_addFreeze 25 = .ok (.getfield 101, 3) := by decide +kernel
theorem dX3_addFreeze_28 : decode cX3_addFreeze 28 = .ok (.invokestatic 62, 3) := by decide +kernel
theorem dX3_addFreeze_31 : decode cX3_addFreeze 31 = .ok (.aload_n 0, 1) := by decide +kernel
theorem dX3_addFreeze_32 : decode cX3_addFreeze 32 = .ok (.invokevirtual 42, 3) := by decide +kernel
theorem dX3_addFreeze_35 : decode cX3_addFreeze 35 = .ok (.aload_n 0, 1) := by decide +kernel
theorem dX3_addFreeze_36 : decode cX3_addFreeze 36 = .ok (.getfield 12, 3) := by decide +kernel
theorem dX3_addFreeze_39 : decode cX3_addFreeze 39 = .ok (.getfield 101, 3) := by decide +kernel
theorem dX3_addFreeze_42 : decode cX3_addFreeze 42 = .ok (.invokevirtual 66, 3) := by decide +kernel
theorem dX3_addFreeze_45 : decode cX3_addFreeze 45 = .ok (.istore 4, 2) := by decide +kernel
theorem dX3_addFreeze_47 : decode cX3_addFreeze 47 = .ok (.aload_n 0, 1) := by decide +kernel
theorem dX3_addFreeze_48 : decode cX3_addFreeze 48 = .ok (.getfield 12, 3) := by decide +kernel
theorem dX3_addFreeze_51 : decode cX3_addFreeze 51 = .ok (.getfield 101, 3) := by decide +kernel
theorem dX3_addFreeze_54 : decode cX3_addFreeze 54 = .ok (.iload 4, 2) := by decide +kernel
theorem dX3_addFreeze_56 : decode cX3_addFreeze 56 = .ok (.iconst 0, 1) := by decide +kernel
theorem dX3_addFreeze_57 : decode cX3_addFreeze 57 = .ok (.iload_n 1, 1) := by decide +kernel
theorem dX3_addFreeze_58 : decode cX3_addFreeze 58 = .ok (.invokevirtual 72, 3) := by decide +kernel
theorem dX3_addFreeze_61 : decode cX3_addFreeze 61 = .ok (.aload_n 0, 1) := by decide +kernel
theorem dX3_addFreeze_62 : decode cX3_addFreeze 62 = .ok (.getfield 12, 3) := by decide +kernel
theorem dX3_addFreeze_65 : decode cX3_addFreeze 65 = .ok (.getfield 101, 3) := by decide +kernel
theorem dX3_addFreeze_68 : decode cX3_addFreeze 68 = .ok (.iload 4, 2) := by decide +kernel
theorem dX3_addFreeze_70 : decode cX3_addFreeze 70 = .ok (.iconst 1, 1) := by decide +kernel
theorem dX3_addFreeze_71 : decode cX3_addFreeze 71 = .ok (.iload_n 2, 1) := by decide +kernel
theorem dX3_addFreeze_72 : decode cX3_addFreeze 72 = .ok (.invokevirtual 72, 3) := by decide +kernel
theorem dX3_addFreeze_75 : decode cX3_addFreeze 75 = .ok (.aload_n 0, 1) := by decide +kernel
theorem dX3_addFreeze_76 : decode cX3_addFreeze 76 = .ok (.getfield 12, 3) := by decide +kernel
theorem dX3_addFreeze_79 : decode cX3_addFreeze 79 = .ok (.getfield 101, 3) := by decide +kernel
theorem dX3_addFreeze_82 : decode cX3_addFreeze 82 = .ok (.iload 4, 2) := by decide +kernel
theorem dX3_addFreeze_84 : decode cX3_addFreeze 84 = .ok (.iconst 2, 1) := by decide +kernel
theorem dX3_addFreeze_85 : decode cX3_addFreeze 85 = .ok (.iload_n 3, 1) := by decide +kernel
theorem dX3_addFreeze_86 : decode cX3_addFreeze 86 = .ok (.invokevirtual 72, 3) := by decide +kernel
theorem dX3_addFreeze_89 : decode cX3_addFreeze 89 = .ok (.iload 4, 2) := by decide +kernel
theorem dX3_addFreeze_91 : decode cX3_addFreeze 91 = .ok (.ireturn, 1) := by decide +kernel
theorem dX3_removeFreeze_0 : decode cX3_removeFreeze 0 = .ok (.aload_n 0, 1) := by decide +kernel
theorem dX3_removeFreeze_1 : decode cX3_removeFreeze 1 = .ok (.getfield 12, 3) := by decide +kernel
theorem dX3_removeFreeze_4 : decode cX3_removeFreeze 4 = .ok (.getfield 101, 3) := by decide +kernel
theorem dX3_removeFreeze_7 : decode cX3_removeFreeze 7 = .ok (.iload_n 1, 1) := by decide +kernel
theorem dX3_removeFreeze_8 : decode cX3_removeFreeze 8 = .ok (.invokevirtual 104, 3) := by decide +kernel
theorem dX3_removeFreeze_11 : decode cX3_removeFreeze 11 = .ok (.ifCond .ne 13, 3) := by decide +kernel
theorem dX3_removeFreeze_14 : decode cX3_removeFreeze 14 = .ok (.new 108, 3) := by decide +kernel
theorem dX3_removeFreeze_17 : decode cX3_removeFreeze 17 = .ok (.dup, 1) := by decide +kernel
theorem dX3_removeFreeze_18 : decode cX3_removeFreeze 18 = .ok (.ldc 110, 2) := by decide +kernel
theorem dX3_removeFreeze_20 : decode cX3_removeFreeze 20 = .ok (.invokespecial 112, 3) := by decide +kernel
theorem dX3_removeFreeze_23 : decode cX3_removeFreeze 23 = .ok (.athrow, 1) := by decide +kernel
theorem dX3_removeFreeze_24 : decode cX3_removeFreeze 24 = .ok (.aload_n 0, 1) := by decide +kernel
theorem dX3_removeFreeze_25 : decode cX3_removeFreeze 25 = .ok (.invokevirtual 42, 3) := by decide +kernel
theorem dX3_removeFreeze_28 : decode cX3_removeFreeze 28 = .ok (.aload_n 0, 1) := by decide +kernel
theorem dX3_removeFreeze_29 : decode cX3_removeFreeze 29 = .ok (.getfield 12, 3) := by decide +kernel
theorem dX3_removeFreeze_32 : decode cX3_removeFreeze 32 = .ok (.getfield 101, 3) := by decide +kernel
theorem dX3_removeFreeze_35 : decode cX3_removeFreeze 35 = .ok (.iload_n 1, 1) := by decide +kernel
theorem dX3_removeFreeze_36 : decode cX3_removeFreeze 36 = .ok (.invokevirtual 95, 3) := by decide +kernel
theorem dX3_removeFreeze_39 : decode cX3_removeFreeze 39 = .ok (.aload_n 0, 1) := by decide +kernel
theorem dX3_removeFreeze_40 : decode cX3_removeFreeze 40 = .ok (.getfield 12, 3) := by decide +kernel
theorem dX3_removeFreeze_43 : decode cX3_removeFreeze 43 = .ok (.getfield 101, 3) := by decide +kernel
theorem dX3_removeFreeze_46 : decode cX3_removeFreeze 46 = .ok (.getfield 98, 3) := by decide +kernel
theorem dX3_removeFreeze_49 : decode cX3_removeFreeze 49 = .ok (.ireturn, 1) := by decide +kernel
theorem dX3_pass_0 : decode cX3_pass 0 = .ok (.iload_n 1, 1) := by decide +kernel
theorem dX3_pass_1 : decode cX3_pass 1 = .ok (.iconst 1, 1) := by decide +kernel
theorem dX3_pass_2 : decode cX3_pass 2 = .ok (.bipush 99, 2) := by decide +kernel
theorem dX3_pass_4 : decode cX3_pass 4 = .ok (.invokestatic 38, 3) := by decide +kernel
theorem dX3_pass_7 : decode cX3_pass 7 = .ok (.aload_n 0, 1) := by decide +kernel
theorem dX3_pass_8 : decode cX3_pass 8 = .ok (.getfield 12, 3) := by decide +kernel
theorem dX3_pass_11 : decode cX3_pass 11 = .ok (.getfield 113, 3) := by decide +kernel
theorem dX3_pass_14 : decode cX3_pass 14 = .ok (.iload_n 1, 1) := by decide +kernel
theorem dX3_pass_15 : decode cX3_pass 15 = .ok (.iadd, 1) := by decide +kernel
theorem dX3_pass_16 : decode cX3_pass 16 = .ok (.sipush 2000, 3) := by decide +kernel
theorem dX3_pass_19 : decode cX3_pass 19 = .ok (.if_icmp .le 13, 3) := by decide +kernel
theorem dX3_pass_22 : decode cX3_pass 22 = .ok (.new 116, 3) := by decide +kernel
theorem dX3_pass_25 : decode cX3_pass 25 = .ok (.dup, 1) := by decide +kernel
theorem dX3_pass_26 : decode cX3_pass 26 = .ok (.ldc 118, 2) := by decide +kernel
theorem dX3_pass_28 : decode cX3_pass 28 = .ok (.invokespecial 120, 3) := by decide +kernel
theorem dX3_pass_31 : decode cX3_pass 31 = .ok (.athrow, 1) := by decide +kernel
theorem dX3_pass_32 : decode cX3_pass 32 = .ok (.aload_n 0, 1) := by decide +kernel
theorem dX3_pass_33 : decode cX3_pass 33 = .ok (.invokevirtual 42, 3) := by decide +kernel
theorem dX3_pass_36 : decode cX3_pass 36 = .ok (.aload_n 0, 1) := by decide +kernel
theorem dX3_pass_37 : decode cX3_pass 37 = .ok (.getfield 12, 3) := by decide +kernel
theorem dX3_pass_40 : decode cX3_pass 40 = .ok (.dup, 1) := by decide +kernel
theorem dX3_pass_41 : decode cX3_pass 41 = .ok (.getfield 113, 3) := by decide +kernel
theorem dX3_pass_44 : decode cX3_pass 44 = .ok (.iload_n 1, 1) := by decide +kernel
theorem dX3_pass_45 : decode cX3_pass 45 = .ok (.iadd, 1) := by decide +kernel
theorem dX3_pass_46 : decode cX3_pass 46 = .ok (.putfield 113, 3) := by decide +kernel
theorem dX3_pass_49 : decode cX3_pass 49 = .ok (.aload_n 0, 1) := by decide +kernel
theorem dX3_pass_50 : decode cX3_pass 50 = .ok (.getfield 12, 3) := by decide +kernel
theorem dX3_pass_53 : decode cX3_pass 53 = .ok (.getfield 113, 3) := by decide +kernel
theorem dX3_pass_56 : decode cX3_pass 56 = .ok (.ireturn, 1) := by decide +kernel
theorem dX3_machine_0 : decode cX3_machine 0 = .ok (.aload_n 0, 1) := by decide +kernel
theorem dX3_machine_1 : decode cX3_machine 1 = .ok (.iload_n 1, 1) := by decide +kernel
theorem dX3_machine_2 : decode cX3_machine 2 = .ok (.invokevirtual 79, 3) := by decide +kernel
theorem dX3_machine_5 : decode cX3_machine 5 = .ok (.iload_n 2, 1) := by decide +kernel
theorem dX3_machine_6 : decode cX3_machine 6 = .ok (.iconst 0, 1) := by decide +kernel
theorem dX3_machine_7 : decode cX3_machine 7 = .ok (.bipush 7, 2) := by decide +kernel
theorem dX3_machine_9 : decode cX3_machine 9 = .ok (.invokestatic 38, 3) := by decide +kernel
theorem dX3_machine_12 : decode cX3_machine 12 = .ok (.iload_n 2, 1) := by decide +kernel
theorem dX3_machine_13 : decode cX3_machine 13 = .ok (.bipush 7, 2) := by decide +kernel
theorem dX3_machine_15 : decode cX3_machine 15 = .ok (.if_icmp .ne 12, 3) := by decide +kernel
theorem dX3_machine_18 : decode cX3_machine 18 = .ok (.aload_n 0, 1) := by decide +kernel
theorem dX3_machine_19 : decode cX3_machine 19 = .ok (.getfield 12, 3) := by decide +kernel
theorem dX3_machine_22 : decode cX3_machine 22 = .ok (.iload_n 1, 1) := by decide +kernel
theorem dX3_machine_23 : decode cX3_machine 23 = .ok (.invokevirtual 121, 3) := by decide +kernel
theorem dX3_machine_26 : decode cX3_machine 26 = .ok (.ireturn, 1) := by decide +kernel
theorem dX3_machine_27 : decode cX3_machine 27 = .ok (.iload_n 2, 1) := by decide +kernel
theorem dX3_machine_28 : decode cX3_machine 28 = .ok (.bipush 6, 2) := by decide +kernel
theorem dX3_machine_30 : decode cX3_machine 30 = .ok (.if_icmp .ne 20, 3) := by decide +kernel
theorem dX3_machine_33 : decode cX3_machine 33 = .ok (.aload_n 0, 1) := by decide +kernel
theorem dX3_machine_34 : decode cX3_machine 34 = .ok (.getfield 12, 3) := by decide +kernel
theorem dX3_machine_37 : decode cX3_machine 37 = .ok (.iload_n 1, 1) := by decide +kernel
theorem dX3_machine_38 : decode cX3_machine 38 = .ok (.invokevirtual 125, 3) := by decide +kernel
theorem dX3_machine_41 : decode cX3_machine 41 = .ok (.ifCond .eq 7, 3) := by decide +kernel
theorem dX3_machine_44 : decode cX3_machine 44 = .ok (.iconst 1, 1) := by decide +kernel
theorem dX3_machine_45 : decode cX3_machine 45 = .ok (.goto 4, 3) := by decide +kernel
theorem dX3_machine_48 : decode cX3_machine 48 = .ok (.iconst 0, 1) := by decide +kernel
theorem dX3_machine_49 : decode cX3_machine 49 = .ok (.ireturn, 1) := by decide +kernel
theorem dX3_machine_50 : decode cX3_machine 50 = .ok (.aload_n 0, 1) := by decide +kernel
theorem dX3_machine_51 : decode cX3_machine 51 = .ok (.getfield 12, 3) := by decide +kernel
theorem dX3_machine_54 : decode cX3_machine 54 = .ok (.getfield 58, 3) := by decide +kernel
theorem dX3_machine_57 : decode cX3_machine 57 = .ok (.iload_n 1, 1) := by decide +kernel
theorem dX3_machine_58 : decode cX3_machine 58 = .ok (.iload_n 2, 1) := by decide +kernel
theorem dX3_machine_59 : decode cX3_machine 59 = .ok (.invokevirtual 128, 3) := by decide +kernel
theorem dX3_machine_62 : decode cX3_machine 62 = .ok (.ireturn, 1) := by decide +kernel
theorem dX3_rack_0 : decode cX3_rack 0 = .ok (.iload_n 1, 1) := by decide +kernel
theorem dX3_rack_1 : decode cX3_rack 1 = .ok (.invokestatic 34, 3) := by decide +kernel
theorem dX3_rack_4 : decode cX3_rack 4 = .ok (.iload_n 2, 1) := by decide +kernel
theorem dX3_rack_5 : decode cX3_rack 5 = .ok (.iconst 0, 1) := by decide +kernel
theorem dX3_rack_6 : decode cX3_rack 6 = .ok (.bipush 7, 2) := by decide +kernel
theorem dX3_rack_8 : decode cX3_rack 8 = .ok (.invokestatic 38, 3) := by decide +kernel
theorem dX3_rack_11 : decode cX3_rack 11 = .ok (.iload_n 2, 1) := by decide +kernel
theorem dX3_rack_12 : decode cX3_rack 12 = .ok (.tableswitch 97 0 7 #[48, 58, 97, 97, 97, 67, 76, 88], 48) := by decide +kernel
theorem dX3_rack_60 : decode cX3_rack 60 = .ok (.aload_n 0, 1) := by decide +kernel
theorem dX3_rack_61 : decode cX3_rack 61 = .ok (.getfield 12, 3) := by decide +kernel
theorem dX3_rack_64 : decode cX3_rack 64 = .ok (.getfield 45, 3) := by decide +kernel
theorem dX3_rack_67 : decode cX3_rack 67 = .ok (.iload_n 1, 1) := by decide +kernel
theorem dX3_rack_68 : decode cX3_rack 68 = .ok (.iaload, 1) := by decide +kernel
theorem dX3_rack_69 : decode cX3_rack 69 = .ok (.ireturn, 1) := by decide +kernel
theorem dX3_rack_70 : decode cX3_rack 70 = .ok (.aload_n 0, 1) := by decide +kernel
theorem dX3_rack_71 : decode cX3_rack 71 = .ok (.getfield 12, 3) := by decide +kernel
theorem dX3_rack_74 : decode cX3_rack 74 = .ok (.iload_n 1, 1) := by decide +kernel
theorem dX3_rack_75 : decode cX3_rack 75 = .ok (.invokevirtual 132, 3) := by decide +kernel
theorem dX3_rack_78 : decode cX3_rack 78 = .ok (.ireturn, 1) := by decide +kernel
theorem dX3_rack_79 : decode cX3_rack 79 = .ok (.aload_n 0, 1) := by decide +kernel
theorem dX3_rack_80 : decode cX3_rack 80 = .ok (.getfield 12, 3) := by decide +kernel
theorem dX3_rack_83 : decode cX3_rack 83 = .ok (.iload_n 1, 1) := by decide +kernel
theorem dX3_rack_84 : decode cX3_rack 84 = .ok (.invokevirtual 135, 3) := by decide +kernel
theorem dX3_rack_87 : decode cX3_rack 87 = .ok (.ireturn, 1) := by decide +kernel
theorem dX3_rack_88 : decode cX3_rack 88 = .ok (.bipush 10, 2) := by decide +kernel
theorem dX3_rack_90 : decode cX3_rack 90 = .ok (.aload_n 0, 1) := by decide +kernel
theorem dX3_rack_91 : decode cX3_rack 91 = .ok (.getfield 12, 3) := by decide +kernel
theorem dX3_rack_94 : decode cX3_rack 94 = .ok (.iload_n 1, 1) := by decide +kernel
theorem dX3_rack_95 : decode cX3_rack 95 = .ok (.invokevirtual 138, 3) := by decide +kernel
theorem dX3_rack_98 : decode cX3_rack 98 = .ok (.isub, 1) := by decide +kernel
theorem dX3_rack_99 : decode cX3_rack 99 = .ok (.ireturn, 1) := by decide +kernel
theorem dX3_rack_100 : decode cX3_rack 100 = .ok (.aload_n 0, 1) := by decide +kernel
theorem dX3_rack_101 : decode cX3_rack 101 = .ok (.getfield 12, 3) := by decide +kernel
theorem dX3_rack_104 : decode cX3_rack 104 = .ok (.iload_n 1, 1) := by decide +kernel
theorem dX3_rack_105 : decode cX3_rack 105 = .ok (.invokevirtual 141, 3) := by decide +kernel
theorem dX3_rack_108 : decode cX3_rack 108 = .ok (.ireturn, 1) := by decide +kernel
theorem dX3_rack_109 : decode cX3_rack 109 = .ok (.aload_n 0, 1) := by decide +kernel
theorem dX3_rack_110 : decode cX3_rack 110 = .ok (.getfield 12, 3) := by decide +kernel
theorem dX3_rack_113 : decode cX3_rack 113 = .ok (.iload_n 1, 1) := by decide +kernel
theorem dX3_rack_114 : decode cX3_rack 114 = .ok (.iload_n 2, 1) := by decide +kernel
theorem dX3_rack_115 : decode cX3_rack 115 = .ok (.iconst 2, 1) := by decide +kernel
theorem dX3_rack_116 : decode cX3_rack 116 = .ok (.isub, 1) := by decide +kernel
theorem dX3_rack_117 : decode cX3_rack 117 = .ok (.invokevirtual 144, 3) := by decide +kernel
theorem dX3_rack_120 : decode cX3_rack 120 = .ok (.ireturn, 1) := by decide +kernel
theorem dX3_slot_0 : decode cX3_slot 0 = .ok (.iload_n 1, 1) := by decide +kernel
theorem dX3_slot_1 : decode cX3_slot 1 = .ok (.invokestatic 34, 3) := by decide +kernel
theorem dX3_slot_4 : decode cX3_slot 4 = .ok (.iload_n 2, 1) := by decide +kernel
theorem dX3_slot_5 : decode cX3_slot 5 = .ok (.ifCond .lt 9, 3) := by decide +kernel
theorem dX3_slot_8 : decode cX3_slot 8 = .ok (.iload_n 2, 1) := by decide +kernel
theorem dX3_slot_9 : decode cX3_slot 9 = .ok (.bipush 10, 2) := by decide +kernel
theorem dX3_slot_11 : decode cX3_slot 11 = .ok (.if_icmp .lt 13, 3) := by decide +kernel
theorem dX3_slot_14 : decode cX3_slot 14 = .ok (.new 108, 3) := by decide +kernel
theorem dX3_slot_17 : decode cX3_slot 17 = .ok (.dup, 1) := by decide +kernel
theorem dX3_slot_18 : decode cX3_slot 18 = .ok (.ldc 147, 2) := by decide +kernel
theorem dX3_slot_20 : decode cX3_slot 20 = .ok (.invokespecial 112, 3) := by decide +kernel
theorem dX3_slot_23 : decode cX3_slot 23 = .ok (.athrow, 1) := by decide +kernel
theorem dX3_slot_24 : decode cX3_slot 24 = .ok (.aload_n 0, 1) := by decide +kernel
theorem dX3_slot_25 : decode cX3_slot 25 = .ok (.getfield 12, 3) := by decide +kernel
theorem dX3_slot_28 : decode cX3_slot 28 = .ok (.iload_n 1, 1) := by decide +kernel
theorem dX3_slot_29 : decode cX3_slot 29 = .ok (.iload_n 2, 1) := by decide +kernel
theorem dX3_slot_30 : decode cX3_slot 30 = .ok (.invokevirtual 149, 3) := by decide +kernel
theorem dX3_slot_33 : decode cX3_slot 33 = .ok (.ireturn, 1) := by decide +kernel
theorem dX3_cable_0 : decode cX3_cable 0 = .ok (.aload_n 0, 1) := by decide +kernel
theorem dX3_cable_1 : decode cX3_cable 1 = .ok (.iload_n 1, 1) := by decide +kernel
theorem dX3_cable_2 : decode cX3_cable 2 = .ok (.invokevirtual 92, 3) := by decide +kernel
theorem dX3_cable_5 : decode cX3_cable 5 = .ok (.iload_n 2, 1) := by decide +kernel
theorem dX3_cable_6 : decode cX3_cable 6 = .ok (.iconst 0, 1) := by decide +kernel
theorem dX3_cable_7 : decode cX3_cable 7 = .ok (.iconst 3, 1) := by decide +kernel
theorem dX3_cable_8 : decode cX3_cable 8 = .ok (.invokestatic 38, 3) := by decide +kernel
theorem dX3_cable_11 : decode cX3_cable 11 = .ok (.iload_n 2, 1) := by decide +kernel
theorem dX3_cable_12 : decode cX3_cable 12 = .ok (.iconst 3, 1) := by decide +kernel
theorem dX3_cable_13 : decode cX3_cable 13 = .ok (.if_icmp .ne 14, 3) := by decide +kernel
theorem dX3_cable_16 : decode cX3_cable 16 = .ok (.aload_n 0, 1) := by decide +kernel
theorem dX3_cable_17 : decode cX3_cable 17 = .ok (.getfield 12, 3) := by decide +kernel
theorem dX3_cable_20 : decode cX3_cable 20 = .ok (.iload_n 1, 1) := by decide +kernel
theorem dX3_cable_21 : decode cX3_cable 21 = .ok (.invokevirtual 152, 3) := by decide +kernel
theorem dX3_cable_24 : decode cX3_cable 24 = .ok (.goto 15, 3) := by decide +kernel
theorem dX3_cable_27 : decode cX3_cable 27 = .ok (.aload_n 0, 1) := by decide +kernel
theorem dX3_cable_28 : decode cX3_cable 28 = .ok (.getfield 12, 3) := by decide +kernel
theorem dX3_cable_31 : decode cX3_cable 31 = .ok (.getfield 89, 3) := by decide +kernel
theorem dX3_cable_34 : decode cX3_cable 34 = .ok (.iload_n 1, 1) := by decide +kernel
theorem dX3_cable_35 : decode cX3_cable 35 = .ok (.iload_n 2, 1) := by decide +kernel
theorem dX3_cable_36 : decode cX3_cable 36 = .ok (.invokevirtual 128, 3) := by decide +kernel
theorem dX3_cable_39 : decode cX3_cable 39 = .ok (.ireturn, 1) := by decide +kernel
theorem dX3_tray_0 : decode cX3_tray 0 = .ok (.iload_n 1, 1) := by decide +kernel
theorem dX3_tray_1 : decode cX3_tray 1 = .ok (.invokestatic 49, 3) := by decide +kernel
theorem dX3_tray_4 : decode cX3_tray 4 = .ok (.aload_n 0, 1) := by decide +kernel
theorem dX3_tray_5 : decode cX3_tray 5 = .ok (.getfield 12, 3) := by decide +kernel
theorem dX3_tray_8 : decode cX3_tray 8 = .ok (.iload_n 1, 1) := by decide +kernel
theorem dX3_tray_9 : decode cX3_tray 9 = .ok (.invokevirtual 155, 3) := by decide +kernel
theorem dX3_tray_12 : decode cX3_tray 12 = .ok (.ireturn, 1) := by decide +kernel
theorem dX3_value_0 : decode cX3_value 0 = .ok (.iload_n 1, 1) := by decide +kernel
theorem dX3_value_1 : decode cX3_value 1 = .ok (.iconst 0, 1) := by decide +kernel
theorem dX3_value_2 : decode cX3_value 2 = .ok (.bipush 13, 2) := by decide +kernel
theorem dX3_value_4 : decode cX3_value 4 = .ok (.invokestatic 38, 3) := by decide +kernel
theorem dX3_value_7 : decode cX3_value 7 = .ok (.iload_n 1, 1) := by decide +kernel
theorem dX3_value_8 : decode cX3_value 8 = .ok (.tableswitch 172 0 13 #[72, 83, 91, 102, 113, 121, 172, 172, 172, 129, 137, 145, 156, 164], 72) := by decide +kernel
theorem dX3_value_80 : decode cX3_value 80 = .ok (.aload_n 0, 1) := by decide +kernel
theorem dX3_value_81 : decode cX3_value 81 = .ok (.getfield 12, 3) := by decide +kernel
theorem dX3_value_84 : decode cX3_value 84 = .ok (.getfield 58, 3) := by decide +kernel
theorem dX3_value_87 : decode cX3_value 87 = .ok (.getfield 98, 3) := by decide +kernel
theorem dX3_value_90 : decode cX3_value 90 = .ok (.ireturn, 1) := by decide +kernel
theorem dX3_value_91 : decode cX3_value 91 = .ok (.aload_n 0, 1) := by decide +kernel
theorem dX3_value_92 : decode cX3_value 92 = .ok (.getfield 12, 3) := by decide +kernel
theorem dX3_value_95 : decode cX3_value 95 = .ok (.invokevirtual 158, 3) := by decide +kernel
theorem dX3_value_98 : decode cX3_value 98 = .ok (.ireturn, 1) := by decide +kernel
theorem dX3_value_99 : decode cX3_value 99 = .ok (.aload_n 0, 1) := by decide +kernel
theorem dX3_value_100 : decode cX3_value 100 = .ok (.getfield 12, 3) := by decide +kernel
theorem dX3_value_103 : decode cX3_value 103 = .ok (.getfield 89, 3) := by decide +kernel
theorem dX3_value_106 : decode cX3_value 106 = .ok (.getfield 98, 3) := by decide +kernel
theorem dX3_value_109 : decode cX3_value 109 = .ok (.ireturn, 1) := by decide +kernel
theorem dX3_value_110 : decode cX3_value 110 = .ok (.aload_n 0, 1) := by decide +kernel
theorem dX3_value_111 : decode cX3_value 111 = .ok (.getfield 12, 3) := by decide +kernel
theorem dX3_value_114 : decode cX3_value 114 = .ok (.getfield 101, 3) := by decide +kernel
theorem dX3_value_117 : decode cX3_value 117 = .ok (.getfield 98, 3) := by decide +kernel
theorem dX3_value_120 : decode cX3_value 120 = .ok (.ireturn, 1) := by decide +kernel
theorem dX3_value_121 : decode cX3_value 121 = .ok (.aload_n 0, 1) := by decide +kernel
theorem dX3_value_122 : decode cX3_value 122 = .ok (.getfield 12, 3) := by decide +kernel
theorem dX3_value_125 : decode cX3_value 125 = .ok (.getfield 113, 3) := by decide +kernel
theorem dX3_value_128 : decode cX3_value 128 = .ok (.ireturn, 1) := by decide +kernel
theorem dX3_value_129 : decode cX3_value 129 = .ok (.aload_n 0, 1) := by decide +kernel
theorem dX3_value_130 : decode cX3_value 130 = .ok (.getfield 12, 3) := by decide +kernel
theorem dX3_value_133 : decode cX3_value 133 = .ok (.getfield 55, 3) := by decide +kernel
theorem dX3_value_136 : decode cX3_value 136 = .ok (.ireturn, 1) := by decide +kernel
theorem dX3_value_137 : decode cX3_value 137 = .ok (.aload_n 0, 1) := by decide +kernel
theorem dX3_value_138 : decode cX3_value 138 = .ok (.getfield 12, 3) := by decide +kernel
theorem dX3_value_141 : decode cX3_value 141 = .ok (.invokevirtual 161, 3) := by decide +kernel
theorem dX3_value_144 : decode cX3_value 144 = .ok (.ireturn, 1) := by decide +kernel
theorem dX3_value_145 : decode cX3_value 145 = .ok (.aload_n 0, 1) := by decide +kernel
theorem dX3_value_146 : decode cX3_value 146 = .ok (.getfield 12, 3) := by decide +kernel
theorem dX3_value_149 : decode cX3_value 149 = .ok (.invokevirtual 164, 3) := by decide +kernel
theorem dX3_value_152 : decode cX3_value 152 = .ok (.ireturn, 1) := by decide +kernel
theorem dX3_value_153 : decode cX3_value 153 = .ok (.aload_n 0, 1) := by decide +kernel
theorem dX3_value_154 : decode cX3_value 154 = .ok (.getfield 12, 3) := by decide +kernel
theorem dX3_value_157 : decode cX3_value 157 = .ok (.getfield 167, 3) := by decide +kernel
theorem dX3_value_160 : decode cX3_value 160 = .ok (.getfield 98, 3) := by decide +kernel
theorem dX3_value_163 : decode cX3_value 163 = .ok (.ireturn, 1) := by decide +kernel
theorem dX3_value_164 : decode cX3_value 164 = .ok (.aload_n 0, 1) := by decide +kernel
theorem dX3_value_165 : decode cX3_value 165 = .ok (.getfield 12, 3) := by decide +kernel
theorem dX3_value_168 : decode cX3_value 168 = .ok (.getfield 170, 3) := by decide +kernel
theorem dX3_value_171 : decode cX3_value 171 = .ok (.ireturn, 1) := by decide +kernel
theorem dX3_value_172 : decode cX3_value 172 = .ok (.aload_n 0, 1) := by decide +kernel
theorem dX3_value_173 : decode cX3_value 173 = .ok (.getfield 12, 3) := by decide +kernel
theorem dX3_value_176 : decode cX3_value 176 = .ok (.getfield 173, 3) := by decide +kernel
theorem dX3_value_179 : decode cX3_value 179 = .ok (.ireturn, 1) := by decide +kernel
theorem dX3_value_180 : decode cX3_value 180 = .ok (.aload_n 0, 1) := by decide +kernel
theorem dX3_value_181 : decode cX3_value 181 = .ok (.getfield 12, 3) := by decide +kernel
theorem dX3_value_184 : decode cX3_value 184 = .ok (.iload_n 1, 1) := by decide +kernel
theorem dX3_value_185 : decode cX3_value 185 = .ok (.bipush 6, 2) := by decide +kernel
theorem dX3_value_187 : decode cX3_value 187 = .ok (.isub, 1) := by decide +kernel
theorem dX3_value_188 : decode cX3_value 188 = .ok (.invokevirtual 176, 3) := by decide +kernel
theorem dX3_value_191 : decode cX3_value 191 = .ok (.ireturn, 1) := by decide +kernel
theorem dX3_move_0 : decode cX3_move 0 = .ok (.aload_n 0, 1) := by decide +kernel
theorem dX3_move_1 : decode cX3_move 1 = .ok (.iload_n 1, 1) := by decide +kernel
theorem dX3_move_2 : decode cX3_move 2 = .ok (.invokevirtual 79, 3) := by decide +kernel
theorem dX3_move_5 : decode cX3_move 5 = .ok (.iload_n 2, 1) := by decide +kernel
theorem dX3_move_6 : decode cX3_move 6 = .ok (.iconst (-1), 1) := by decide +kernel
theorem dX3_move_7 : decode cX3_move 7 = .ok (.iconst 5, 1) := by decide +kernel
theorem dX3_move_8 : decode cX3_move 8 = .ok (.invokestatic 38, 3) := by decide +kernel
theorem dX3_move_11 : decode cX3_move 11 = .ok (.aload_n 0, 1) := by decide +kernel
theorem dX3_move_12 : decode cX3_move 12 = .ok (.getfield 12, 3) := by decide +kernel
theorem dX3_move_15 : decode cX3_move 15 = .ok (.iload_n 1, 1) := by decide +kernel
theorem dX3_move_16 : decode cX3_move 16 = .ok (.iload_n 2, 1) := by decide +kernel
theorem dX3_move_17 : decode cX3_move 17 = .ok (.invokevirtual 179, 3) := by decide +kernel
theorem dX3_move_20 : decode cX3_move 20 = .ok (.istore_n 3, 1) := by decide +kernel
theorem dX3_move_21 : decode cX3_move 21 = .ok (.iload_n 3, 1) := by decide +kernel
theorem dX3_move_22 : decode cX3_move 22 = .ok (.ifCond .ne 16, 3) := by decide +kernel
theorem dX3_move_25 : decode cX3_move 25 = .ok (.aload_n 0, 1) := by decide +kernel
theorem dX3_move_26 : decode cX3_move 26 = .ok (.invokevirtual 42, 3) := by decide +kernel
theorem dX3_move_29 : decode cX3_move 29 = .ok (.aload_n 0, 1) := by decide +kernel
theorem dX3_move_30 : decode cX3_move 30 = .ok (.getfield 12, 3) := by decide +kernel
theorem dX3_move_33 : decode cX3_move 33 = .ok (.iload_n 1, 1) := by decide +kernel
theorem dX3_move_34 : decode cX3_move 34 = .ok (.iload_n 2, 1) := by decide +kernel
theorem dX3_move_35 : decode cX3_move 35 = .ok (.invokevirtual 182, 3) := by decide +kernel
theorem dX3_move_38 : decode cX3_move 38 = .ok (.iload_n 3, 1) := by decide +kernel
theorem dX3_move_39 : decode cX3_move 39 = .ok (.ireturn, 1) := by decide +kernel
theorem dX3_change_0 : decode cX3_change 0 = .ok (.aload_n 0, 1) := by decide +kernel
theorem dX3_change_1 : decode cX3_change 1 = .ok (.iload_n 1, 1) := by decide +kernel
theorem dX3_change_2 : decode cX3_change 2 = .ok (.invokevirtual 79, 3) := by decide +kernel
theorem dX3_change_5 : decode cX3_change 5 = .ok (.iload_n 2, 1) := by decide +kernel
theorem dX3_change_6 : decode cX3_change 6 = .ok (.iconst 0, 1) := by decide +kernel
theorem dX3_change_7 : decode cX3_change 7 = .ok (.iconst 2, 1) := by decide +kernel
theorem dX3_change_8 : decode cX3_change 8 = .ok (.invokestatic 38, 3) := by decide +kernel
theorem dX3_change_11 : decode cX3_change 11 = .ok (.aload_n 0, 1) := by decide +kernel
theorem dX3_change_12 : decode cX3_change 12 = .ok (.getfield 12, 3) := by decide +kernel
theorem dX3_change_15 : decode cX3_change 15 = .ok (.iload_n 1, 1) := by decide +kernel
theorem dX3_change_16 : decode cX3_change 16 = .ok (.iload_n 2, 1) := by decide +kernel
theorem dX3_change_17 : decode cX3_change 17 = .ok (.invokevirtual 186, 3) := by decide +kernel
theorem dX3_change_20 : decode cX3_change 20 = .ok (.istore_n 3, 1) := by decide +kernel
theorem dX3_change_21 : decode cX3_change 21 = .ok (.iload_n 3, 1) := by decide +kernel
theorem dX3_change_22 : decode cX3_change 22 = .ok (.ifCond .ne 16, 3) := by decide +kernel
theorem dX3_change_25 : decode cX3_change 25 = .ok (.aload_n 0, 1) := by decide +kernel
theorem dX3_change_26 : decode cX3_change 26 = .ok (.invokevirtual 42, 3) := by decide +kernel
theorem dX3_change_29 : decode cX3_change 29 = .ok (.aload_n 0, 1) := by decide +kernel
theorem dX3_change_30 : decode cX3_change 30 = .ok (.getfield 12, 3) := by decide +kernel
theorem dX3_change_33 : decode cX3_change 33 = .ok (.iload_n 1, 1) := by decide +kernel
theorem dX3_change_34 : decode cX3_change 34 = .ok (.iload_n 2, 1) := by decide +kernel
theorem dX3_change_35 : decode cX3_change 35 = .ok (.invokevirtual 189, 3) := by decide +kernel
theorem dX3_change_38 : decode cX3_change 38 = .ok (.iload_n 3, 1) := by decide +kernel
theorem dX3_change_39 : decode cX3_change 39 = .ok (.ireturn, 1) := by decide +kernel
theorem dX3_backOut_0 : decode cX3_backOut 0 = .ok (.aload_n 0, 1) := by decide +kernel
theorem dX3_backOut_1 : decode cX3_backOut 1 = .ok (.getfield 12, 3) := by decide +kernel
theorem dX3_backOut_4 : decode cX3_backOut 4 = .ok (.invokevirtual 192, 3) := by decide +kernel
theorem dX3_backOut_7 : decode cX3_backOut 7 = .ok (.istore_n 1, 1) := by decide +kernel
theorem dX3_backOut_8 : decode cX3_backOut 8 = .ok (.iload_n 1, 1) := by decide +kernel
theorem dX3_backOut_9 : decode cX3_backOut 9 = .ok (.ifCond .ne 14, 3) := by decide +kernel
theorem dX3_backOut_12 : decode cX3_backOut 12 = .ok (.aload_n 0, 1) := by decide +kernel
theorem dX3_backOut_13 : decode cX3_backOut 13 = .ok (.invokevirtual 42, 3) := by decide +kernel
theorem dX3_backOut_16 : decode cX3_backOut 16 = .ok (.aload_n 0, 1) := by decide +kernel
theorem dX3_backOut_17 : decode cX3_backOut 17 = .ok (.getfield 12, 3) := by decide +kernel
theorem dX3_backOut_20 : decode cX3_backOut 20 = .ok (.invokevirtual 195, 3) := by decide +kernel
theorem dX3_backOut_23 : decode cX3_backOut 23 = .ok (.iload_n 1, 1) := by decide +kernel
theorem dX3_backOut_24 : decode cX3_backOut 24 = .ok (.ireturn, 1) := by decide +kernel
theorem dX3_pile_0 : decode cX3_pile 0 = .ok (.iload_n 1, 1) := by decide +kernel
theorem dX3_pile_1 : decode cX3_pile 1 = .ok (.ifCond .ge 13, 3) := by decide +kernel
theorem dX3_pile_4 : decode cX3_pile 4 = .ok (.new 108, 3) := by decide +kernel
theorem dX3_pile_7 : decode cX3_pile 7 = .ok (.dup, 1) := by decide +kernel
theorem dX3_pile_8 : decode cX3_pile 8 = .ok (.ldc 198, 2) := by decide +kernel
theorem dX3_pile_10 : decode cX3_pile 10 = .ok (.invokespecial 112, 3) := by decide +kernel
theorem dX3_pile_13 : decode cX3_pile 13 = .ok (.athrow, 1) := by decide +kernel
theorem dX3_pile_14 : decode cX3_pile 14 = .ok (.iload_n 2, 1) := by decide +kernel
theorem dX3_pile_15 : decode cX3_pile 15 = .ok (.iconst 0, 1) := by decide +kernel
theorem dX3_pile_16 : decode cX3_pile 16 = .ok (.iconst 3, 1) := by decide +kernel
theorem dX3_pile_17 : decode cX3_pile 17 = .ok (.invokestatic 38, 3) := by decide +kernel
theorem dX3_pile_20 : decode cX3_pile 20 = .ok (.aload_n 0, 1) := by decide +kernel
theorem dX3_pile_21 : decode cX3_pile 21 = .ok (.getfield 12, 3) := by decide +kernel
theorem dX3_pile_24 : decode cX3_pile 24 = .ok (.getfield 167, 3) := by decide +kernel
theorem dX3_pile_27 : decode cX3_pile 27 = .ok (.aload_n 0, 1) := by decide +kernel
theorem dX3_pile_28 : decode cX3_pile 28 = .ok (.getfield 12, 3) := by decide +kernel
theorem dX3_pile_31 : decode cX3_pile 31 = .ok (.getfield 167, 3) := by decide +kernel
theorem dX3_pile_34 : decode cX3_pile 34 = .ok (.getfield 98, 3) := by decide +kernel
theorem dX3_pile_37 : decode cX3_pile 37 = .ok (.iconst 1, 1) := by decide +kernel
theorem dX3_pile_38 : decode cX3_pile 38 = .ok (.isub, 1) := by decide +kernel
theorem dX3_pile_39 : decode cX3_pile 39 = .ok (.iload_n 1, 1) := by decide +kernel
theorem dX3_pile_40 : decode cX3_pile 40 = .ok (.isub, 1) := by decide +kernel
theorem dX3_pile_41 : decode cX3_pile 41 = .ok (.iload_n 2, 1) := by decide +kernel
theorem dX3_pile_42 : decode cX3_pile 42 = .ok (.invokevirtual 128, 3) := by decide +kernel
theorem dX3_pile_45 : decode cX3_pile 45 = .ok (.ireturn, 1) := by decide +kernel
theorem dX3_mayMove_0 : decode cX3_mayMove 0 = .ok (.aload_n 0, 1) := by decide +kernel
theorem dX3_mayMove_1 : decode cX3_mayMove 1 = .ok (.iload_n 1, 1) := by decide +kernel
theorem dX3_mayMove_2 : decode cX3_mayMove 2 = .ok (.invokevirtual 79, 3) := by decide +kernel
theorem dX3_mayMove_5 : decode cX3_mayMove 5 = .ok (.iload_n 2, 1) := by decide +kernel
theorem dX3_mayMove_6 : decode cX3_mayMove 6 = .ok (.iconst (-1), 1) := by decide +kernel
theorem dX3_mayMove_7 : decode cX3_mayMove 7 = .ok (.iconst 5, 1) := by decide +kernel
theorem dX3_mayMove_8 : decode cX3_mayMove 8 = .ok (.invokestatic 38, 3) := by decide +kernel
theorem dX3_mayMove_11 : decode cX3_mayMove 11 = .ok (.aload_n 0, 1) := by decide +kernel
theorem dX3_mayMove_12 : decode cX3_mayMove 12 = .ok (.getfield 12, 3) := by decide +kernel
theorem dX3_mayMove_15 : decode cX3_mayMove 15 = .ok (.iload_n 1, 1) := by decide +kernel
theorem dX3_mayMove_16 : decode cX3_mayMove 16 = .ok (.iload_n 2, 1) := by decide +kernel
theorem dX3_mayMove_17 : decode cX3_mayMove 17 = .ok (.invokevirtual 179, 3) := by decide +kernel
theorem dX3_mayMove_20 : decode cX3_mayMove 20 = .ok (.ireturn, 1) := by decide +kernel
theorem dX3_bestRack_0 : decode cX3_bestRack 0 = .ok (.aload_n 0, 1) := by decide +kernel
theorem dX3_bestRack_1 : decode cX3_bestRack 1 = .ok (.iload_n 1, 1) := by decide +kernel
theorem dX3_bestRack_2 : decode cX3_bestRack 2 = .ok (.invokevirtual 79, 3) := by decide +kernel
theorem dX3_bestRack_5 : decode cX3_bestRack 5 = .ok (.iconst (-1), 1) := by decide +kernel
theorem dX3_bestRack_6 : decode cX3_bestRack 6 = .ok (.istore_n 2, 1) := by decide +kernel
theorem dX3_bestRack_7 : decode cX3_bestRack 7 = .ok (.iconst 0, 1) := by decide +kernel
theorem dX3_bestRack_8 : decode cX3_bestRack 8 = .ok (.istore_n 3, 1) := by decide +kernel
theorem dX3_bestRack_9 : decode cX3_bestRack 9 = .ok (.iconst 0, 1) := by decide +kernel
theorem dX3_bestRack_10 : decode cX3_bestRack 10 = .ok (.istore 4, 2) := by decide +kernel
theorem dX3_bestRack_12 : decode cX3_bestRack 12 = .ok (.iload 4, 2) := by decide +kernel
theorem dX3_bestRack_14 : decode cX3_bestRack 14 = .ok (.bipush 6, 2) := by decide +kernel
theorem dX3_bestRack_16 : decode cX3_bestRack 16 = .ok (.if_icmp .ge 51, 3) := by decide +kernel
theorem dX3_bestRack_19 : decode cX3_bestRack 19 = .ok (.aload_n 0, 1) := by decide +kernel
theorem dX3_bestRack_20 : decode cX3_bestRack 20 = .ok (.getfield 12, 3) := by decide +kernel
theorem dX3_bestRack_23 : decode cX3_bestRack 23 = .ok (.iload_n 1, 1) := by decide +kernel
theorem dX3_bestRack_24 : decode cX3_bestRack 24 = .ok (.iload 4, 2) := by decide +kernel
theorem dX3_bestRack_26 : decode cX3_bestRack 26 = .ok (.invokevirtual 179, 3) := by decide +kernel
theorem dX3_bestRack_29 : decode cX3_bestRack 29 = .ok (.ifCond .ne 32, 3) := by decide +kernel
theorem dX3_bestRack_32 : decode cX3_bestRack 32 = .ok (.aload_n 0, 1) := by decide +kernel
theorem dX3_bestRack_33 : decode cX3_bestRack 33 = .ok (.getfield 12, 3) := by decide +kernel
theorem dX3_bestRack_36 : decode cX3_bestRack 36 = .ok (.iload_n 1, 1) := by decide +kernel
theorem dX3_bestRack_37 : decode cX3_bestRack 37 = .ok (.iload 4, 2) := by decide +kernel
theorem dX3_bestRack_39 : decode cX3_bestRack 39 = .ok (.invokevirtual 200, 3) := by decide +kernel
theorem dX3_bestRack_42 : decode cX3_bestRack 42 = .ok (.istore 5, 2) := by decide +kernel
theorem dX3_bestRack_44 : decode cX3_bestRack 44 = .ok (.iload_n 2, 1) := by decide +kernel
theorem dX3_bestRack_45 : decode cX3_bestRack 45 = .ok (.iconst (-1), 1) := by decide +kernel
theorem dX3_bestRack_46 : decode cX3_bestRack 46 = .ok (.if_icmp .eq 9, 3) := by decide +kernel
theorem dX3_bestRack_49 : decode cX3_bestRack 49 = .ok (.iload 5, 2) := by decide +kernel
theorem dX3_bestRack_51 : decode cX3_bestRack 51 = .ok (.iload_n 3, 1) := by decide +kernel
theorem dX3_bestRack_52 : decode cX3_bestRack 52 = .ok (.if_icmp .ge 9, 3) := by decide +kernel
theorem dX3_bestRack_55 : decode cX3_bestRack 55 = .ok (.iload 4, 2) := by decide +kernel
theorem dX3_bestRack_57 : decode cX3_bestRack 57 = .ok (.istore_n 2, 1) := by decide +kernel
theorem dX3_bestRack_58 : decode cX3_bestRack 58 = .ok (.iload 5, 2) := by decide +kernel
theorem dX3_bestRack_60 : decode cX3_bestRack 60 = .ok (.istore_n 3, 1) := by decide +kernel
theorem dX3_bestRack_61 : decode cX3_bestRack 61 = .ok (.iinc 4 1, 3) := by decide +kernel
theorem dX3_bestRack_64 : decode cX3_bestRack 64 = .ok (.goto (-52), 3) := by decide +kernel
theorem dX3_bestRack_67 : decode cX3_bestRack 67 = .ok (.iload_n 2, 1) := by decide +kernel
theorem dX3_bestRack_68 : decode cX3_bestRack 68 = .ok (.ireturn, 1) := by decide +kernel
theorem dX3_bestChange_0 : decode cX3_bestChange 0 = .ok (.iconst (-1), 1) := by decide +kernel
theorem dX3_bestChange_1 : decode cX3_bestChange 1 = .ok (.istore_n 1, 1) := by decide +kernel
theorem dX3_bestChange_2 : decode cX3_bestChange 2 = .ok (.aload_n 0, 1) := by decide +kernel
theorem dX3_bestChange_3 : decode cX3_bestChange 3 = .ok (.getfield 12, 3) := by decide +kernel
theorem dX3_bestChange_6 : decode cX3_bestChange 6 = .ok (.invokevirtual 161, 3) := by decide +kernel
theorem dX3_bestChange_9 : decode cX3_bestChange 9 = .ok (.istore_n 2, 1) := by decide +kernel
theorem dX3_bestChange_10 : decode cX3_bestChange 10 = .ok (.iconst 0, 1) := by decide +kernel
theorem dX3_bestChange_11 : decode cX3_bestChange 11 = .ok (.istore_n 3, 1) := by decide +kernel
theorem dX3_bestChange_12 : decode cX3_bestChange 12 = .ok (.iload_n 3, 1) := by decide +kernel
theorem dX3_bestChange_13 : decode cX3_bestChange 13 = .ok (.aload_n 0, 1) := by decide +kernel
theorem dX3_bestChange_14 : decode cX3_bestChange 14 = .ok (.getfield 12, 3) := by decide +kernel
theorem dX3_bestChange_17 : decode cX3_bestChange 17 = .ok (.getfield 58, 3) := by decide +kernel
theorem dX3_bestChange_20 : decode cX3_bestChange 20 = .ok (.getfield 98, 3) := by decide +kernel
theorem dX3_bestChange_23 : decode cX3_bestChange 23 = .ok (.if_icmp .ge 65, 3) := by decide +kernel
theorem dX3_bestChange_26 : decode cX3_bestChange 26 = .ok (.iconst 0, 1) := by decide +kernel
theorem dX3_bestChange_27 : decode cX3_bestChange 27 = .ok (.istore 4, 2) := by decide +kernel
theorem dX3_bestChange_29 : decode cX3_bestChange 29 = .ok (.iload 4, 2) := by decide +kernel
theorem dX3_bestChange_31 : decode cX3_bestChange 31 = .ok (.iconst 3, 1) := by decide +kernel
theorem dX3_bestChange_32 : decode cX3_bestChange 32 = .ok (.if_icmp .ge 50, 3) := by decide +kernel
theorem dX3_bestChange_35 : decode cX3_bestChange 35 = .ok (.aload_n 0, 1) := by decide +kernel
theorem dX3_bestChange_36 : decode cX3_bestChange 36 = .ok (.getfield 12, 3) := by decide +kernel
theorem dX3_bestChange_39 : decode cX3_bestChange 39 = .ok (.iload_n 3, 1) := by decide +kernel
theorem dX3_bestChange_40 : decode cX3_bestChange 40 = .ok (.iload 4, 2) := by decide +kernel
theorem dX3_bestChange_42 : decode cX3_bestChange 42 = .ok (.invokevirtual 203, 3) := by decide +kernel
theorem dX3_bestChange_45 : decode cX3_bestChange 45 = .ok (.istore 5, 2) := by decide +kernel
theorem dX3_bestChange_47 : decode cX3_bestChange 47 = .ok (.iload 5, 2) := by decide +kernel
theorem dX3_bestChange_49 : decode cX3_bestChange 49 = .ok (.iload_n 2, 1) := by decide +kernel
theorem dX3_bestChange_50 : decode cX3_bestChange 50 = .ok (.if_icmp .ge 26, 3) := by decide +kernel
theorem dX3_bestChange_53 : decode cX3_bestChange 53 = .ok (.aload_n 0, 1) := by decide +kernel
theorem dX3_bestChange_54 : decode cX3_bestChange 54 = .ok (.getfield 12, 3) := by decide +kernel
theorem dX3_bestChange_57 : decode cX3_bestChange 57 = .ok (.iload_n 3, 1) := by decide +kernel
theorem dX3_bestChange_58 : decode cX3_bestChange 58 = .ok (.iload 4, 2) := by decide +kernel
theorem dX3_bestChange_60 : decode cX3_bestChange 60 = .ok (.invokevirtual 186, 3) := by decide +kernel
theorem dX3_bestChange_63 : decode cX3_bestChange 63 = .ok (.ifCond .ne 13, 3) := by decide +kernel
theorem dX3_bestChange_66 : decode cX3_bestChange 66 = .ok (.iconst 3, 1) := by decide +kernel
theorem dX3_bestChange_67 : decode cX3_bestChange 67 = .ok (.iload_n 3, 1) := by decide +kernel
theorem dX3_bestChange_68 : decode cX3_bestChange 68 = .ok (.imul, 1) := by decide +kernel
theorem dX3_bestChange_69 : decode cX3_bestChange 69 = .ok (.iload 4, 2) := by decide +kernel
theorem dX3_bestChange_71 : decode cX3_bestChange 71 = .ok (.iadd, 1) := by decide +kernel
theorem dX3_bestChange_72 : decode cX3_bestChange 72 = .ok (.istore_n 1, 1) := by decide +kernel
theorem dX3_bestChange_73 : decode cX3_bestChange 73 = .ok (.iload 5, 2) := by decide +kernel
theorem dX3_bestChange_75 : decode cX3_bestChange 75 = .ok (.istore_n 2, 1) := by decide +kernel
theorem dX3_bestChange_76 : decode cX3_bestChange 76 = .ok (.iinc 4 1, 3) := by decide +kernel
theorem dX3_bestChange_79 : decode cX3_bestChange 79 = .ok (.goto (-50), 3) := by decide +kernel
theorem dX3_bestChange_82 : decode cX3_bestChange 82 = .ok (.iinc 3 1, 3) := by decide +kernel
theorem dX3_bestChange_85 : decode cX3_bestChange 85 = .ok (.goto (-73), 3) := by decide +kernel
theorem dX3_bestChange_88 : decode cX3_bestChange 88 = .ok (.iload_n 1, 1) := by decide +kernel
theorem dX3_bestChange_89 : decode cX3_bestChange 89 = .ok (.ireturn, 1) := by decide +kernel
theorem dX3_backable_0 : decode cX3_backable 0 = .ok (.aload_n 0, 1) := by decide +kernel
theorem dX3_backable_1 : decode cX3_backable 1 = .ok (.getfield 16, 3) := by decide +kernel
theorem dX3_backable_4 : decode cX3_backable 4 = .ok (.aload_n 0, 1) := by decide +kernel
theorem dX3_backable_5 : decode cX3_backable 5 = .ok (.getfield 12, 3) := by decide +kernel
theorem dX3_backable_8 : decode cX3_backable 8 = .ok (.invokevirtual 206, 3) := by decide +kernel
theorem dX3_backable_11 : decode cX3_backable 11 = .ok (.iconst 0, 1) := by decide +kernel
theorem dX3_backable_12 : decode cX3_backable 12 = .ok (.istore_n 1, 1) := by decide +kernel
theorem dX3_backable_13 : decode cX3_backable 13 = .ok (.iload_n 1, 1) := by decide +kernel
theorem dX3_backable_14 : decode cX3_backable 14 = .ok (.bipush 20, 2) := by decide +kernel
theorem dX3_backable_16 : decode cX3_backable 16 = .ok (.if_icmp .ge 26, 3) := by decide +kernel
theorem dX3_backable_19 : decode cX3_backable 19 = .ok (.aload_n 0, 1) := by decide +kernel
theorem dX3_backable_20 : decode cX3_backable 20 = .ok (.getfield 16, 3) := by decide +kernel
theorem dX3_backable_23 : decode cX3_backable 23 = .ok (.invokevirtual 192, 3) := by decide +kernel
theorem dX3_backable_26 : decode cX3_backable 26 = .ok (.ifCond .ne 16, 3) := by decide +kernel
theorem dX3_backable_29 : decode cX3_backable 29 = .ok (.aload_n 0, 1) := by decide +kernel
theorem dX3_backable_30 : decode cX3_backable 30 = .ok (.getfield 16, 3) := by decide +kernel
theorem dX3_backable_33 : decode cX3_backable 33 = .ok (.invokevirtual 195, 3) := by decide +kernel
theorem dX3_backable_36 : decode cX3_backable 36 = .ok (.iinc 1 1, 3) := by decide +kernel
theorem dX3_backable_39 : decode cX3_backable 39 = .ok (.goto (-26), 3) := by decide +kernel
theorem dX3_backable_42 : decode cX3_backable 42 = .ok (.iload_n 1, 1) := by decide +kernel
theorem dX3_backable_43 : decode cX3_backable 43 = .ok (.ireturn, 1) := by decide +kernel
theorem dX3_taken_0 : decode cX3_taken 0 = .ok (.iconst 0, 1) := by decide +kernel
theorem dX3_taken_1 : decode cX3_taken 1 = .ok (.istore_n 1, 1) := by decide +kernel
theorem dX3_taken_2 : decode cX3_taken 2 = .ok (.iconst 0, 1) := by decide +kernel
theorem dX3_taken_3 : decode cX3_taken 3 = .ok (.istore_n 2, 1) := by decide +kernel
theorem dX3_taken_4 : decode cX3_taken 4 = .ok (.iload_n 2, 1) := by decide +kernel
theorem dX3_taken_5 : decode cX3_taken 5 = .ok (.bipush 6, 2) := by decide +kernel
theorem dX3_taken_7 : decode cX3_taken 7 = .ok (.if_icmp .ge 20, 3) := by decide +kernel
theorem dX3_taken_10 : decode cX3_taken 10 = .ok (.iload_n 1, 1) := by decide +kernel
theorem dX3_taken_11 : decode cX3_taken 11 = .ok (.aload_n 0, 1) := by decide +kernel
theorem dX3_taken_12 : decode cX3_taken 12 = .ok (.getfield 12, 3) := by decide +kernel
theorem dX3_taken_15 : decode cX3_taken 15 = .ok (.iload_n 2, 1) := by decide +kernel
theorem dX3_taken_16 : decode cX3_taken 16 = .ok (.invokevirtual 138, 3) := by decide +kernel
theorem dX3_taken_19 : decode cX3_taken 19 = .ok (.iadd, 1) := by decide +kernel
theorem dX3_taken_20 : decode cX3_taken 20 = .ok (.istore_n 1, 1) := by decide +kernel
theorem dX3_taken_21 : decode cX3_taken 21 = .ok (.iinc 2 1, 3) := by decide +kernel
theorem dX3_taken_24 : decode cX3_taken 24 = .ok (.goto (-20), 3) := by decide +kernel
theorem dX3_taken_27 : decode cX3_taken 27 = .ok (.iload_n 1, 1) := by decide +kernel
theorem dX3_taken_28 : decode cX3_taken 28 = .ok (.i2d, 1) := by decide +kernel
theorem dX3_taken_29 : decode cX3_taken 29 = .ok (.ldc2_w 210, 3) := by decide +kernel
theorem dX3_taken_32 : decode cX3_taken 32 = .ok (.ddiv, 1) := by decide +kernel
theorem dX3_taken_33 : decode cX3_taken 33 = .ok (.dreturn, 1) := by decide +kernel
theorem dX3_append_0 : decode cX3_append 0 = .ok (.iload_n 1, 1) := by decide +kernel
theorem dX3_append_1 : decode cX3_append 1 = .ok (.iconst 0, 1) := by decide +kernel
theorem dX3_append_2 : decode cX3_append 2 = .ok (.bipush 127, 2) := by decide +kernel
theorem dX3_append_4 : decode cX3_append 4 = .ok (.invokestatic 38, 3) := by decide +kernel
theorem dX3_append_7 : decode cX3_append 7 = .ok (.aload_n 0, 1) := by decide +kernel
theorem dX3_append_8 : decode cX3_append 8 = .ok (.getfield 30, 3) := by decide +kernel
theorem dX3_append_11 : decode cX3_append 11 = .ok (.getfield 212, 3) := by decide +kernel
theorem dX3_append_14 : decode cX3_append 14 = .ok (.bipush 90, 2) := by decide +kernel
theorem dX3_append_16 : decode cX3_append 16 = .ok (.if_icmp .lt 13, 3) := by decide +kernel
theorem dX3_append_19 : decode cX3_append 19 = .ok (.new 116, 3) := by decide +kernel
theorem dX3_append_22 : decode cX3_append 22 = .ok (.dup, 1) := by decide +kernel
theorem dX3_append_23 : decode cX3_append 23 = .ok (.ldc 215, 2) := by decide +kernel
theorem dX3_append_25 : decode cX3_append 25 = .ok (.invokespecial 120, 3) := by decide +kernel
theorem dX3_append_28 : decode cX3_append 28 = .ok (.athrow, 1) := by decide +kernel
theorem dX3_append_29 : decode cX3_append 29 = .ok (.aload_n 0, 1) := by decide +kernel
theorem dX3_append_30 : decode cX3_append 30 = .ok (.getfield 30, 3) := by decide +kernel
theorem dX3_append_33 : decode cX3_append 33 = .ok (.getfield 217, 3) := by decide +kernel
theorem dX3_append_36 : decode cX3_append 36 = .ok (.aload_n 0, 1) := by decide +kernel
theorem dX3_append_37 : decode cX3_append 37 = .ok (.getfield 30, 3) := by decide +kernel
theorem dX3_append_40 : decode cX3_append 40 = .ok (.getfield 212, 3) := by decide +kernel
theorem dX3_append_43 : decode cX3_append 43 = .ok (.iload_n 1, 1) := by decide +kernel
theorem dX3_append_44 : decode cX3_append 44 = .ok (.iastore, 1) := by decide +kernel
theorem dX3_append_45 : decode cX3_append 45 = .ok (.aload_n 0, 1) := by decide +kernel
theorem dX3_append_46 : decode cX3_append 46 = .ok (.getfield 30, 3) := by decide +kernel
theorem dX3_append_49 : decode cX3_append 49 = .ok (.dup, 1) := by decide +kernel
theorem dX3_append_50 : decode cX3_append 50 = .ok (.getfield 212, 3) := by decide +kernel
theorem dX3_append_53 : decode cX3_append 53 = .ok (.iconst 1, 1) := by decide +kernel
theorem dX3_append_54 : decode cX3_append 54 = .ok (.iadd, 1) := by decide +kernel
theorem dX3_append_55 : decode cX3_append 55 = .ok (.putfield 212, 3) := by decide +kernel
theorem dX3_append_58 : decode cX3_append 58 = .ok (.aload_n 0, 1) := by decide +kernel
theorem dX3_append_59 : decode cX3_append 59 = .ok (.getfield 30, 3) := by decide +kernel
theorem dX3_append_62 : decode cX3_append 62 = .ok (.getfield 212, 3) := by decide +kernel
theorem dX3_append_65 : decode cX3_append 65 = .ok (.ireturn, 1) := by decide +kernel
theorem dX3_clearText_0 : decode cX3_clearText 0 = .ok (.aload_n 0, 1) := by decide +kernel
theorem dX3_clearText_1 : decode cX3_clearText 1 = .ok (.getfield 30, 3) := by decide +kernel
theorem dX3_clearText_4 : decode cX3_clearText 4 = .ok (.getfield 212, 3) := by decide +kernel
theorem dX3_clearText_7 : decode cX3_clearText 7 = .ok (.istore_n 1, 1) := by decide +kernel
theorem dX3_clearText_8 : decode cX3_clearText 8 = .ok (.aload_n 0, 1) := by decide +kernel
theorem dX3_clearText_9 : decode cX3_clearText 9 = .ok (.getfield 30, 3) := by decide +kernel
theorem dX3_clearText_12 : decode cX3_clearText 12 = .ok (.iconst 0, 1) := by decide +kernel
theorem dX3_clearText_13 : decode cX3_clearText 13 = .ok (.putfield 212, 3) := by decide +kernel
theorem dX3_clearText_16 : decode cX3_clearText 16 = .ok (.iload_n 1, 1) := by decide +kernel
theorem dX3_clearText_17 : decode cX3_clearText 17 = .ok (.ireturn, 1) := by decide +kernel
theorem dX3_plan_0 : decode cX3_plan 0 = .ok (.aload_n 0, 1) := by decide +kernel
theorem dX3_plan_1 : decode cX3_plan 1 = .ok (.getfield 30, 3) := by decide +kernel
theorem dX3_plan_4 : decode cX3_plan 4 = .ok (.aload_n 0, 1) := by decide +kernel
theorem dX3_plan_5 : decode cX3_plan 5 = .ok (.getfield 12, 3) := by decide +kernel
theorem dX3_plan_8 : decode cX3_plan 8 = .ok (.getfield 58, 3) := by decide +kernel
theorem dX3_plan_11 : decode cX3_plan 11 = .ok (.getfield 98, 3) := by decide +kernel
theorem dX3_plan_14 : decode cX3_plan 14 = .ok (.invokevirtual 220, 3) := by decide +kernel
theorem dX3_plan_17 : decode cX3_plan 17 = .ok (.istore_n 1, 1) := by decide +kernel
theorem dX3_plan_18 : decode cX3_plan 18 = .ok (.iload_n 1, 1) := by decide +kernel
theorem dX3_plan_19 : decode cX3_plan 19 = .ok (.iconst (-1), 1) := by decide +kernel
theorem dX3_plan_20 : decode cX3_plan 20 = .ok (.if_icmp .eq 8, 3) := by decide +kernel
theorem dX3_plan_23 : decode cX3_plan 23 = .ok (.bipush (-10), 2) := by decide +kernel
theorem dX3_plan_25 : decode cX3_plan 25 = .ok (.iload_n 1, 1) := by decide +kernel
theorem dX3_plan_26 : decode cX3_plan 26 = .ok (.isub, 1) := by decide +kernel
theorem dX3_plan_27 : decode cX3_plan 27 = .ok (.ireturn, 1) := by decide +kernel
theorem dX3_plan_28 : decode cX3_plan 28 = .ok (.aload_n 0, 1) := by decide +kernel
theorem dX3_plan_29 : decode cX3_plan 29 = .ok (.getfield 16, 3) := by decide +kernel
theorem dX3_plan_32 : decode cX3_plan 32 = .ok (.aload_n 0, 1) := by decide +kernel
theorem dX3_plan_33 : decode cX3_plan 33 = .ok (.getfield 12, 3) := by decide +kernel
theorem dX3_plan_36 : decode cX3_plan 36 = .ok (.invokevirtual 206, 3) := by decide +kernel
theorem dX3_plan_39 : decode cX3_plan 39 = .ok (.aload_n 0, 1) := by decide +kernel
theorem dX3_plan_40 : decode cX3_plan 40 = .ok (.getfield 30, 3) := by decide +kernel
theorem dX3_plan_43 : decode cX3_plan 43 = .ok (.aload_n 0, 1) := by decide +kernel
theorem dX3_plan_44 : decode cX3_plan 44 = .ok (.getfield 16, 3) := by decide +kernel
theorem dX3_plan_47 : decode cX3_plan 47 = .ok (.invokevirtual 223, 3) := by decide +kernel
theorem dX3_plan_50 : decode cX3_plan 50 = .ok (.istore_n 2, 1) := by decide +kernel
theorem dX3_plan_51 : decode cX3_plan 51 = .ok (.iload_n 2, 1) := by decide +kernel
theorem dX3_plan_52 : decode cX3_plan 52 = .ok (.ifCond .lt 25, 3) := by decide +kernel
theorem dX3_plan_55 : decode cX3_plan 55 = .ok (.aload_n 0, 1) := by decide +kernel
theorem dX3_plan_56 : decode cX3_plan 56 = .ok (.invokevirtual 42, 3) := by decide +kernel
theorem dX3_plan_59 : decode cX3_plan 59 = .ok (.aload_n 0, 1) := by decide +kernel
theorem dX3_plan_60 : decode cX3_plan 60 = .ok (.getfield 12, 3) := by decide +kernel
theorem dX3_plan_63 : decode cX3_plan 63 = .ok (.astore_n 3, 1) := by decide +kernel
theorem dX3_plan_64 : decode cX3_plan 64 = .ok (.aload_n 0, 1) := by decide +kernel
theorem dX3_plan_65 : decode cX3_plan 65 = .ok (.aload_n 0, 1) := by decide +kernel
theorem dX3_plan_66 : decode cX3_plan 66 = .ok (.getfield 16, 3) := by decide +kernel
theorem dX3_plan_69 : decode cX3_plan 69 = .ok (.putfield 12, 3) := by decide +kernel
theorem dX3_plan_72 : decode cX3_plan 72 = .ok (.aload_n 0, 1) := by decide +kernel
theorem dX3_plan_73 : decode cX3_plan 73 = .ok (.aload_n 3, 1) := by decide +kernel
theorem dX3_plan_74 : decode cX3_plan 74 = .ok (.putfield 16, 3) := by decide +kernel
theorem dX3_plan_77 : decode cX3_plan 77 = .ok (.iload_n 2, 1) := by decide +kernel
theorem dX3_plan_78 : decode cX3_plan 78 = .ok (.ireturn, 1) := by decide +kernel
theorem dX3_undo_0 : decode cX3_undo 0 = .ok (.aload_n 0, 1) := by decide +kernel
theorem dX3_undo_1 : decode cX3_undo 1 = .ok (.getfield 23, 3) := by decide +kernel
theorem dX3_undo_4 : decode cX3_undo 4 = .ok (.ifCond .gt 13, 3) := by decide +kernel
theorem dX3_undo_7 : decode cX3_undo 7 = .ok (.new 116, 3) := by decide +kernel
theorem dX3_undo_10 : decode cX3_undo 10 = .ok (.dup, 1) := by decide +kernel
theorem dX3_undo_11 : decode cX3_undo 11 = .ok (.ldc 227, 2) := by decide +kernel
theorem dX3_undo_13 : decode cX3_undo 13 = .ok (.invokespecial 120, 3) := by decide +kernel
theorem dX3_undo_16 : decode cX3_undo 16 = .ok (.athrow, 1) := by decide +kernel
theorem dX3_undo_17 : decode cX3_undo 17 = .ok (.aload_n 0, 1) := by decide +kernel
theorem dX3_undo_18 : decode cX3_undo 18 = .ok (.dup, 1) := by decide +kernel
theorem dX3_undo_19 : decode cX3_undo 19 = .ok (.getfield 23, 3) := by decide +kernel
theorem dX3_undo_22 : decode cX3_undo 22 = .ok (.iconst 1, 1) := by decide +kernel
theorem dX3_undo_23 : decode cX3_undo 23 = .ok (.isub, 1) := by decide +kernel
theorem dX3_undo_24 : decode cX3_undo 24 = .ok (.putfield 23, 3) := by decide +kernel
theorem dX3_undo_27 : decode cX3_undo 27 = .ok (.aload_n 0, 1) := by decide +kernel
theorem dX3_undo_28 : decode cX3_undo 28 = .ok (.getfield 12, 3) := by decide +kernel
theorem dX3_undo_31 : decode cX3_undo 31 = .ok (.astore_n 1, 1) := by decide +kernel
theorem dX3_undo_32 : decode cX3_undo 32 = .ok (.aload_n 0, 1) := by decide +kernel
theorem dX3_undo_33 : decode cX3_undo 33 = .ok (.aload_n 0, 1) := by decide +kernel
theorem dX3_undo_34 : decode cX3_undo 34 = .ok (.getfield 19, 3) := by decide +kernel
theorem dX3_undo_37 : decode cX3_undo 37 = .ok (.aload_n 0, 1) := by decide +kernel
theorem dX3_undo_38 : decode cX3_undo 38 = .ok (.getfield 23, 3) := by decide +kernel
theorem dX3_undo_41 : decode cX3_undo 41 = .ok (.aaload, 1) := by decide +kernel
theorem dX3_undo_42 : decode cX3_undo 42 = .ok (.putfield 12, 3) := by decide +kernel
theorem dX3_undo_45 : decode cX3_undo 45 = .ok (.aload_n 0, 1) := by decide +kernel
theorem dX3_undo_46 : decode cX3_undo 46 = .ok (.getfield 19, 3) := by decide +kernel
theorem dX3_undo_49 : decode cX3_undo 49 = .ok (.aload_n 0, 1) := by decide +kernel
theorem dX3_undo_50 : decode cX3_undo 50 = .ok (.getfield 23, 3) := by decide +kernel
theorem dX3_undo_53 : decode cX3_undo 53 = .ok (.aload_n 1, 1) := by decide +kernel
theorem dX3_undo_54 : decode cX3_undo 54 = .ok (.aastore, 1) := by decide +kernel
theorem dX3_undo_55 : decode cX3_undo 55 = .ok (.aload_n 0, 1) := by decide +kernel
theorem dX3_undo_56 : decode cX3_undo 56 = .ok (.getfield 23, 3) := by decide +kernel
theorem dX3_undo_59 : decode cX3_undo 59 = .ok (.ireturn, 1) := by decide +kernel
theorem dX3_digest_0 : decode cX3_digest 0 = .ok (.ldc2_w 229, 3) := by decide +kernel
theorem dX3_digest_3 : decode cX3_digest 3 = .ok (.aload_n 0, 1) := by decide +kernel
theorem dX3_digest_4 : decode cX3_digest 4 = .ok (.getfield 30, 3) := by decide +kernel
theorem dX3_digest_7 : decode cX3_digest 7 = .ok (.getfield 212, 3) := by decide +kernel
theorem dX3_digest_10 : decode cX3_digest 10 = .ok (.invokestatic 231, 3) := by decide +kernel
theorem dX3_digest_13 : decode cX3_digest 13 = .ok (.lstore_n 1, 1) := by decide +kernel
theorem dX3_digest_14 : decode cX3_digest 14 = .ok (.iconst 0, 1) := by decide +kernel
theorem dX3_digest_15 : decode cX3_digest 15 = .ok (.istore_n 3, 1) := by decide +kernel
theorem dX3_digest_16 : decode cX3_digest 16 = .ok (.iload_n 3, 1) := by decide +kernel
theorem dX3_digest_17 : decode cX3_digest 17 = .ok (.bipush 13, 2) := by decide +kernel
theorem dX3_digest_19 : decode cX3_digest 19 = .ok (.if_icmp .gt 19, 3) := by decide +kernel
theorem dX3_digest_22 : decode cX3_digest 22 = .ok (.lload_n 1, 1) := by decide +kernel
theorem dX3_digest_23 : decode cX3_digest 23 = .ok (.aload_n 0, 1) := by decide +kernel
theorem dX3_digest_24 : decode cX3_digest 24 = .ok (.iload_n 3, 1) := by decide +kernel
theorem dX3_digest_25 : decode cX3_digest 25 = .ok (.invokevirtual 235, 3) := by decide +kernel
theorem dX3_digest_28 : decode cX3_digest 28 = .ok (.invokestatic 231, 3) := by decide +kernel
theorem dX3_digest_31 : decode cX3_digest 31 = .ok (.lstore_n 1, 1) := by decide +kernel
theorem dX3_digest_32 : decode cX3_digest 32 = .ok (.iinc 3 1, 3) := by decide +kernel
theorem dX3_digest_35 : decode cX3_digest 35 = .ok (.goto (-19), 3) := by decide +kernel
theorem dX3_digest_38 : decode cX3_digest 38 = .ok (.iconst 0, 1) := by decide +kernel
theorem dX3_digest_39 : decode cX3_digest 39 = .ok (.istore_n 3, 1) := by decide +kernel
theorem dX3_digest_40 : decode cX3_digest 40 = .ok (.iload_n 3, 1) := by decide +kernel
theorem dX3_digest_41 : decode cX3_digest 41 = .ok (.bipush 6, 2) := by decide +kernel
theorem dX3_digest_43 : decode cX3_digest 43 = .ok (.if_icmp .ge 16, 3) := by decide +kernel
theorem dX3_digest_46 : decode cX3_digest 46 = .ok (.aload_n 0, 1) := by decide +kernel
theorem dX3_digest_47 : decode cX3_digest 47 = .ok (.lload_n 1, 1) := by decide +kernel
theorem dX3_digest_48 : decode cX3_digest 48 = .ok (.iload_n 3, 1) := by decide +kernel
theorem dX3_digest_49 : decode cX3_digest 49 = .ok (.invokevirtual 238, 3) := by decide +kernel
theorem dX3_digest_52 : decode cX3_digest 52 = .ok (.lstore_n 1, 1) := by decide +kernel
theorem dX3_digest_53 : decode cX3_digest 53 = .ok (.iinc 3 1, 3) := by decide +kernel
theorem dX3_digest_56 : decode cX3_digest 56 = .ok (.goto (-16), 3) := by decide +kernel
theorem dX3_digest_59 : decode cX3_digest 59 = .ok (.iconst 0, 1) := by decide +kernel
theorem dX3_digest_60 : decode cX3_digest 60 = .ok (.istore_n 3, 1) := by decide +kernel
theorem dX3_digest_61 : decode cX3_digest 61 = .ok (.iload_n 3, 1) := by decide +kernel
theorem dX3_digest_62 : decode cX3_digest 62 = .ok (.iconst 5, 1) := by decide +kernel
theorem dX3_digest_63 : decode cX3_digest 63 = .ok (.if_icmp .ge 19, 3) := by decide +kernel
theorem dX3_digest_66 : decode cX3_digest 66 = .ok (.lload_n 1, 1) := by decide +kernel
theorem dX3_digest_67 : decode cX3_digest 67 = .ok (.aload_n 0, 1) := by decide +kernel
theorem dX3_digest_68 : decode cX3_digest 68 = .ok (.iload_n 3, 1) := by decide +kernel
theorem dX3_digest_69 : decode cX3_digest 69 = .ok (.invokevirtual 241, 3) := by decide +kernel
theorem dX3_digest_72 : decode cX3_digest 72 = .ok (.invokestatic 231, 3) := by decide +kernel
theorem dX3_digest_75 : decode cX3_digest 75 = .ok (.lstore_n 1, 1) := by decide +kernel
theorem dX3_digest_76 : decode cX3_digest 76 = .ok (.iinc 3 1, 3) := by decide +kernel
theorem dX3_digest_79 : decode cX3_digest 79 = .ok (.goto (-18), 3) := by decide +kernel
theorem dX3_digest_82 : decode cX3_digest 82 = .ok (.iconst 0, 1) := by decide +kernel
theorem dX3_digest_83 : decode cX3_digest 83 = .ok (.istore_n 3, 1) := by decide +kernel
theorem dX3_digest_84 : decode cX3_digest 84 = .ok (.iload_n 3, 1) := by decide +kernel
theorem dX3_digest_85 : decode cX3_digest 85 = .ok (.aload_n 0, 1) := by decide +kernel
theorem dX3_digest_86 : decode cX3_digest 86 = .ok (.getfield 12, 3) := by decide +kernel
theorem dX3_digest_89 : decode cX3_digest 89 = .ok (.getfield 58, 3) := by decide +kernel
theorem dX3_digest_92 : decode cX3_digest 92 = .ok (.getfield 98, 3) := by decide +kernel
theorem dX3_digest_95 : decode cX3_digest 95 = .ok (.if_icmp .ge 37, 3) := by decide +kernel
theorem dX3_digest_98 : decode cX3_digest 98 = .ok (.iconst 0, 1) := by decide +kernel
theorem dX3_digest_99 : decode cX3_digest 99 = .ok (.istore 4, 2) := by decide +kernel
theorem dX3_digest_101 : decode cX3_digest 101 = .ok (.iload 4, 2) := by decide +kernel
theorem dX3_digest_103 : decode cX3_digest 103 = .ok (.bipush 7, 2) := by decide +kernel
theorem dX3_digest_105 : decode cX3_digest 105 = .ok (.if_icmp .gt 21, 3) := by decide +kernel
theorem dX3_digest_108 : decode cX3_digest 108 = .ok (.lload_n 1, 1) := by decide +kernel
theorem dX3_digest_109 : decode cX3_digest 109 = .ok (.aload_n 0, 1) := by decide +kernel
theorem dX3_digest_110 : decode cX3_digest 110 = .ok (.iload_n 3, 1) := by decide +kernel
theorem dX3_digest_111 : decode cX3_digest 111 = .ok (.iload 4, 2) := by decide +kernel
theorem dX3_digest_113 : decode cX3_digest 113 = .ok (.invokevirtual 244, 3) := by decide +kernel
theorem dX3_digest_116 : decode cX3_digest 116 = .ok (.invokestatic 231, 3) := by decide +kernel
theorem dX3_digest_119 : decode cX3_digest 119 = .ok (.lstore_n 1, 1) := by decide +kernel
theorem dX3_digest_120 : decode cX3_digest 120 = .ok (.iinc 4 1, 3) := by decide +kernel
theorem dX3_digest_123 : decode cX3_digest 123 = .ok (.goto (-22), 3) := by decide +kernel
theorem dX3_digest_126 : decode cX3_digest 126 = .ok (.iinc 3 1, 3) := by decide +kernel
theorem dX3_digest_129 : decode cX3_digest 129 = .ok (.goto (-45), 3) := by decide +kernel
theorem dX3_digest_132 : decode cX3_digest 132 = .ok (.iconst 0, 1) := by decide +kernel
theorem dX3_digest_133 : decode cX3_digest 133 = .ok (.istore_n 3, 1) := by decide +kernel
theorem dX3_digest_134 : decode cX3_digest 134 = .ok (.iload_n 3, 1) := by decide +kernel
theorem dX3_digest_135 : decode cX3_digest 135 = .ok (.aload_n 0, 1) := by decide +kernel
theorem dX3_digest_136 : decode cX3_digest 136 = .ok (.getfield 12, 3) := by decide +kernel
theorem dX3_digest_139 : decode cX3_digest 139 = .ok (.getfield 89, 3) := by decide +kernel
theorem dX3_digest_142 : decode cX3_digest 142 = .ok (.getfield 98, 3) := by decide +kernel
theorem dX3_digest_145 : decode cX3_digest 145 = .ok (.if_icmp .ge 36, 3) := by decide +kernel
theorem dX3_digest_148 : decode cX3_digest 148 = .ok (.iconst 0, 1) := by decide +kernel
theorem dX3_digest_149 : decode cX3_digest 149 = .ok (.istore 4, 2) := by decide +kernel
theorem dX3_digest_151 : decode cX3_digest 151 = .ok (.iload 4, 2) := by decide +kernel
theorem dX3_digest_153 : decode cX3_digest 153 = .ok (.iconst 3, 1) := by decide +kernel
theorem dX3_digest_154 : decode cX3_digest 154 = .ok (.if_icmp .gt 21, 3) := by decide +kernel
theorem dX3_digest_157 : decode cX3_digest 157 = .ok (.lload_n 1, 1) := by decide +kernel
theorem dX3_digest_158 : decode cX3_digest 158 = .ok (.aload_n 0, 1) := by decide +kernel
theorem dX3_digest_159 : decode cX3_digest 159 = .ok (.iload_n 3, 1) := by decide +kernel
theorem dX3_digest_160 : decode cX3_digest 160 = .ok (.iload 4, 2) := by decide +kernel
theorem dX3_digest_162 : decode cX3_digest 162 = .ok (.invokevirtual 247, 3) := by decide +kernel
theorem dX3_digest_165 : decode cX3_digest 165 = .ok (.invokestatic 231, 3) := by decide +kernel
theorem dX3_digest_168 : decode cX3_digest 168 = .ok (.lstore_n 1, 1) := by decide +kernel
theorem dX3_digest_169 : decode cX3_digest 169 = .ok (.iinc 4 1, 3) := by decide +kernel
theorem dX3_digest_172 : decode cX3_digest 172 = .ok (.goto (-21), 3) := by decide +kernel
theorem dX3_digest_175 : decode cX3_digest 175 = .ok (.iinc 3 1, 3) := by decide +kernel
theorem dX3_digest_178 : decode cX3_digest 178 = .ok (.goto (-44), 3) := by decide +kernel
theorem dX3_digest_181 : decode cX3_digest 181 = .ok (.iconst 0, 1) := by decide +kernel
theorem dX3_digest_182 : decode cX3_digest 182 = .ok (.istore_n 3, 1) := by decide +kernel
theorem dX3_digest_183 : decode cX3_digest 183 = .ok (.iload_n 3, 1) := by decide +kernel
theorem dX3_digest_184 : decode cX3_digest 184 = .ok (.aload_n 0, 1) := by decide +kernel
theorem dX3_digest_185 : decode cX3_digest 185 = .ok (.getfield 12, 3) := by decide +kernel
theorem dX3_digest_188 : decode cX3_digest 188 = .ok (.getfield 167, 3) := by decide +kernel
theorem dX3_digest_191 : decode cX3_digest 191 = .ok (.getfield 98, 3) := by decide +kernel
theorem dX3_digest_194 : decode cX3_digest 194 = .ok (.if_icmp .ge 36, 3) := by decide +kernel
theorem dX3_digest_197 : decode cX3_digest 197 = .ok (.iconst 0, 1) := by decide +kernel
theorem dX3_digest_198 : decode cX3_digest 198 = .ok (.istore 4, 2) := by decide +kernel
theorem dX3_digest_200 : decode cX3_digest 200 = .ok (.iload 4, 2) := by decide +kernel
theorem dX3_digest_202 : decode cX3_digest 202 = .ok (.iconst 4, 1) := by decide +kernel
theorem dX3_digest_203 : decode cX3_digest 203 = .ok (.if_icmp .ge 21, 3) := by decide +kernel
theorem dX3_digest_206 : decode cX3_digest 206 = .ok (.lload_n 1, 1) := by decide +kernel
theorem dX3_digest_207 : decode cX3_digest 207 = .ok (.aload_n 0, 1) := by decide +kernel
theorem dX3_digest_208 : decode cX3_digest 208 = .ok (.iload_n 3, 1) := by decide +kernel
theorem dX3_digest_209 : decode cX3_digest 209 = .ok (.iload 4, 2) := by decide +kernel
theorem dX3_digest_211 : decode cX3_digest 211 = .ok (.invokevirtual 250, 3) := by decide +kernel
theorem dX3_digest_214 : decode cX3_digest 214 = .ok (.invokestatic 231, 3) := by decide +kernel
theorem dX3_digest_217 : decode cX3_digest 217 = .ok (.lstore_n 1, 1) := by decide +kernel
theorem dX3_digest_218 : decode cX3_digest 218 = .ok (.iinc 4 1, 3) := by decide +kernel
theorem dX3_digest_221 : decode cX3_digest 221 = .ok (.goto (-21), 3) := by decide +kernel
theorem dX3_digest_224 : decode cX3_digest 224 = .ok (.iinc 3 1, 3) := by decide +kernel
theorem dX3_digest_227 : decode cX3_digest 227 = .ok (.goto (-44), 3) := by decide +kernel
theorem dX3_digest_230 : decode cX3_digest 230 = .ok (.lload_n 1, 1) := by decide +kernel
theorem dX3_digest_231 : decode cX3_digest 231 = .ok (.aload_n 0, 1) := by decide +kernel
theorem dX3_digest_232 : decode cX3_digest 232 = .ok (.getfield 23, 3) := by decide +kernel
theorem dX3_digest_235 : decode cX3_digest 235 = .ok (.invokestatic 231, 3) := by decide +kernel
theorem dX3_digest_238 : decode cX3_digest 238 = .ok (.lreturn, 1) := by decide +kernel
theorem dX3_mixRack_0 : decode cX3_mixRack 0 = .ok (.lload_n 1, 1) := by decide +kernel
theorem dX3_mixRack_1 : decode cX3_mixRack 1 = .ok (.lstore 4, 2) := by decide +kernel
theorem dX3_mixRack_3 : decode cX3_mixRack 3 = .ok (.iconst 0, 1) := by decide +kernel
theorem dX3_mixRack_4 : decode cX3_mixRack 4 = .ok (.istore 6, 2) := by decide +kernel
theorem dX3_mixRack_6 : decode cX3_mixRack 6 = .ok (.iload 6, 2) := by decide +kernel
theorem dX3_mixRack_8 : decode cX3_mixRack 8 = .ok (.bipush 7, 2) := by decide +kernel
theorem dX3_mixRack_10 : decode cX3_mixRack 10 = .ok (.if_icmp .gt 23, 3) := by decide +kernel
theorem dX3_mixRack_13 : decode cX3_mixRack 13 = .ok (.lload 4, 2) := by decide +kernel
theorem dX3_mixRack_15 : decode cX3_mixRack 15 = .ok (.aload_n 0, 1) := by decide +kernel
theorem dX3_mixRack_16 : decode cX3_mixRack 16 = .ok (.iload_n 3, 1) := by decide +kernel
theorem dX3_mixRack_17 : decode cX3_mixRack 17 = .ok (.iload 6, 2) := by decide +kernel
theorem dX3_mixRack_19 : decode cX3_mixRack 19 = .ok (.invokevirtual 253, 3) := by decide +kernel
theorem dX3_mixRack_22 : decode cX3_mixRack 22 = .ok (.invokestatic 231, 3) := by decide +kernel
theorem dX3_mixRack_25 : decode cX3_mixRack 25 = .ok (.lstore 4, 2) := by decide +kernel
theorem dX3_mixRack_27 : decode cX3_mixRack 27 = .ok (.iinc 6 1, 3) := by decide +kernel
theorem dX3_mixRack_30 : decode cX3_mixRack 30 = .ok (.goto (-24), 3) := by decide +kernel
theorem dX3_mixRack_33 : decode cX3_mixRack 33 = .ok (.iconst 0, 1) := by decide +kernel
theorem dX3_mixRack_34 : decode cX3_mixRack 34 = .ok (.istore 6, 2) := by decide +kernel
theorem dX3_mixRack_36 : decode cX3_mixRack 36 = .ok (.iload 6, 2) := by decide +kernel
theorem dX3_mixRack_38 : decode cX3_mixRack 38 = .ok (.bipush 10, 2) := by decide +kernel
theorem dX3_mixRack_40 : decode cX3_mixRack 40 = .ok (.if_icmp .ge 23, 3) := by decide +kernel
theorem dX3_mixRack_43 : decode cX3_mixRack 43 = .ok (.lload 4, 2) := by decide +kernel
theorem dX3_mixRack_45 : decode cX3_mixRack 45 = .ok (.aload_n 0, 1) := by decide +kernel
theorem dX3_mixRack_46 : decode cX3_mixRack 46 = .ok (.iload_n 3, 1) := by decide +kernel
theorem dX3_mixRack_47 : decode cX3_mixRack 47 = .ok (.iload 6, 2) := by decide +kernel
theorem dX3_mixRack_49 : decode cX3_mixRack 49 = .ok (.invokevirtual 256, 3) := by decide +kernel
theorem dX3_mixRack_52 : decode cX3_mixRack 52 = .ok (.invokestatic 231, 3) := by decide +kernel
theorem dX3_mixRack_55 : decode cX3_mixRack 55 = .ok (.lstore 4, 2) := by decide +kernel
theorem dX3_mixRack_57 : decode cX3_mixRack 57 = .ok (.iinc 6 1, 3) := by decide +kernel
theorem dX3_mixRack_60 : decode cX3_mixRack 60 = .ok (.goto (-24), 3) := by decide +kernel
theorem dX3_mixRack_63 : decode cX3_mixRack 63 = .ok (.lload 4, 2) := by decide +kernel
theorem dX3_mixRack_65 : decode cX3_mixRack 65 = .ok (.lreturn, 1) := by decide +kernel
theorem dX3_mix_0 : decode cX3_mix 0 = .ok (.ldc2_w 259, 3) := by decide +kernel
theorem dX3_mix_3 : decode cX3_mix 3 = .ok (.lload_n 0, 1) := by decide +kernel
theorem dX3_mix_4 : decode cX3_mix 4 = .ok (.lmul, 1) := by decide +kernel
theorem dX3_mix_5 : decode cX3_mix 5 = .ok (.iload_n 2, 1) := by decide +kernel
theorem dX3_mix_6 : decode cX3_mix 6 = .ok (.i2l, 1) := by decide +kernel
theorem dX3_mix_7 : decode cX3_mix 7 = .ok (.ladd, 1) := by decide +kernel
theorem dX3_mix_8 : decode cX3_mix 8 = .ok (.lreturn, 1) := by decide +kernel
theorem dX3_save_0 : decode cX3_save 0 = .ok (.aload_n 0, 1) := by decide +kernel
theorem dX3_save_1 : decode cX3_save 1 = .ok (.getfield 23, 3) := by decide +kernel
theorem dX3_save_4 : decode cX3_save 4 = .ok (.iconst 4, 1) := by decide +kernel
theorem dX3_save_5 : decode cX3_save 5 = .ok (.if_icmp .lt 49, 3) := by decide +kernel
theorem dX3_save_8 : decode cX3_save 8 = .ok (.aload_n 0, 1) := by decide +kernel
theorem dX3_save_9 : decode cX3_save 9 = .ok (.getfield 19, 3) := by decide +kernel
theorem dX3_save_12 : decode cX3_save 12 = .ok (.iconst 0, 1) := by decide +kernel
theorem dX3_save_13 : decode cX3_save 13 = .ok (.aaload, 1) := by decide +kernel
theorem dX3_save_14 : decode cX3_save 14 = .ok (.astore_n 1, 1) := by decide +kernel
theorem dX3_save_15 : decode cX3_save 15 = .ok (.iconst 1, 1) := by decide +kernel
theorem dX3_save_16 : decode cX3_save 16 = .ok (.istore_n 2, 1) := by decide +kernel
theorem dX3_save_17 : decode cX3_save 17 = .ok (.iload_n 2, 1) := by decide +kernel
theorem dX3_save_18 : decode cX3_save 18 = .ok (.iconst 4, 1) := by decide +kernel
theorem dX3_save_19 : decode cX3_save 19 = .ok (.if_icmp .ge 23, 3) := by decide +kernel
theorem dX3_save_22 : decode cX3_save 22 = .ok (.aload_n 0, 1) := by decide +kernel
theorem dX3_save_23 : decode cX3_save 23 = .ok (.getfield 19, 3) := by decide +kernel
theorem dX3_save_26 : decode cX3_save 26 = .ok (.iload_n 2, 1) := by decide +kernel
theorem dX3_save_27 : decode cX3_save 27 = .ok (.iconst 1, 1) := by decide +kernel
theorem dX3_save_28 : decode cX3_save 28 = .ok (.isub, 1) := by decide +kernel
theorem dX3_save_29 : decode cX3_save 29 = .ok (.aload_n 0, 1) := by decide +kernel
theorem dX3_save_30 : decode cX3_save 30 = .ok (.getfield 19, 3) := by decide +kernel
theorem dX3_save_33 : decode cX3_save 33 = .ok (.iload_n 2, 1) := by decide +kernel
theorem dX3_save_34 : decode cX3_save 34 = .ok (.aaload, 1) := by decide +kernel
theorem dX3_save_35 : decode cX3_save 35 = .ok (.aastore, 1) := by decide +kernel
theorem dX3_save_36 : decode cX3_save 36 = .ok (.iinc 2 1, 3) := by decide +kernel
theorem dX3_save_39 : decode cX3_save 39 = .ok (.goto (-22), 3) := by decide +kernel
theorem dX3_save_42 : decode cX3_save 42 = .ok (.aload_n 0, 1) := by decide +kernel
theorem dX3_save_43 : decode cX3_save 43 = .ok (.getfield 19, 3) := by decide +kernel
theorem dX3_save_46 : decode cX3_save 46 = .ok (.iconst 3, 1) := by decide +kernel
theorem dX3_save_47 : decode cX3_save 47 = .ok (.aload_n 1, 1) := by decide +kernel
theorem dX3_save_48 : decode cX3_save 48 = .ok (.aastore, 1) := by decide +kernel
theorem dX3_save_49 : decode cX3_save 49 = .ok (.aload_n 0, 1) := by decide +kernel
theorem dX3_save_50 : decode cX3_save 50 = .ok (.iconst 3, 1) := by decide +kernel
theorem dX3_save_51 : decode cX3_save 51 = .ok (.putfield 23, 3) := by decide +kernel
theorem dX3_save_54 : decode cX3_save 54 = .ok (.aload_n 0, 1) := by decide +kernel
theorem dX3_save_55 : decode cX3_save 55 = .ok (.getfield 19, 3) := by decide +kernel
theorem dX3_save_58 : decode cX3_save 58 = .ok (.aload_n 0, 1) := by decide +kernel
theorem dX3_save_59 : decode cX3_save 59 = .ok (.getfield 23, 3) := by decide +kernel
theorem dX3_save_62 : decode cX3_save 62 = .ok (.aaload, 1) := by decide +kernel
theorem dX3_save_63 : decode cX3_save 63 = .ok (.aload_n 0, 1) := by decide +kernel
theorem dX3_save_64 : decode cX3_save 64 = .ok (.getfield 12, 3) := by decide +kernel
theorem dX3_save_67 : decode cX3_save 67 = .ok (.invokevirtual 206, 3) := by decide +kernel
theorem dX3_save_70 : decode cX3_save 70 = .ok (.aload_n 0, 1) := by decide +kernel
theorem dX3_save_71 : decode cX3_save 71 = .ok (.dup, 1) := by decide +kernel
theorem dX3_save_72 : decode cX3_save 72 = .ok (.getfield 23, 3) := by decide +kernel
theorem dX3_save_75 : decode cX3_save 75 = .ok (.iconst 1, 1) := by decide +kernel
theorem dX3_save_76 : decode cX3_save 76 = .ok (.iadd, 1) := by decide +kernel
theorem dX3_save_77 : decode cX3_save 77 = .ok (.putfield 23, 3) := by decide +kernel
theorem dX3_save_80 : decode cX3_save 80 = .ok (.return_, 1) := by decide +kernel
theorem dX3_checkMachine_0 : decode cX3_checkMachine 0 = .ok (.aload_n 0, 1) := by decide +kernel
theorem dX3_checkMachine_1 : decode cX3_checkMachine 1 = .ok (.getfield 12, 3) := by decide +kernel
theorem dX3_checkMachine_4 : decode cX3_checkMachine 4 = .ok (.getfield 58, 3) := by decide +kernel
theorem dX3_checkMachine_7 : decode cX3_checkMachine 7 = .ok (.iload_n 1, 1) := by decide +kernel
theorem dX3_checkMachine_8 : decode cX3_checkMachine 8 = .ok (.invokevirtual 104, 3) := by decide +kernel
theorem dX3_checkMachine_11 : decode cX3_checkMachine 11 = .ok (.ifCond .ne 14, 3) := by decide +kernel
theorem dX3_checkMachine_14 : decode cX3_checkMachine 14 = .ok (.new 108, 3) := by decide +kernel
theorem dX3_checkMachine_17 : decode cX3_checkMachine 17 = .ok (.dup, 1) := by decide +kernel
theorem dX3_checkMachine_18 : decode cX3_checkMachine 18 = .ok (.ldc_w 261, 3) := by decide +kernel
theorem dX3_checkMachine_21 : decode cX3_checkMachine 21 = .ok (.invokespecial 112, 3) := by decide +kernel
theorem dX3_checkMachine_24 : decode cX3_checkMachine 24 = .ok (.athrow, 1) := by decide +kernel
theorem dX3_checkMachine_25 : decode cX3_checkMachine 25 = .ok (.return_, 1) := by decide +kernel
theorem dX3_checkCable_0 : decode cX3_checkCable 0 = .ok (.aload_n 0, 1) := by decide +kernel
theorem dX3_checkCable_1 : decode cX3_checkCable 1 = .ok (.getfield 12, 3) := by decide +kernel
theorem dX3_checkCable_4 : decode cX3_checkCable 4 = .ok (.getfield 89, 3) := by decide +kernel
theorem dX3_checkCable_7 : decode cX3_checkCable 7 = .ok (.iload_n 1, 1) := by decide +kernel
theorem dX3_checkCable_8 : decode cX3_checkCable 8 = .ok (.invokevirtual 104, 3) := by decide +kernel
theorem dX3_checkCable_11 : decode cX3_checkCable 11 = .ok (.ifCond .ne 14, 3) := by decide +kernel
theorem dX3_checkCable_14 : decode cX3_checkCable 14 = .ok (.new 108, 3) := by decide +kernel
theorem dX3_checkCable_17 : decode cX3_checkCable 17 = .ok (.dup, 1) := by decide +kernel
theorem dX3_checkCable_18 : decode cX3_checkCable 18 = .ok (.ldc_w 263, 3) := by decide +kernel
theorem dX3_checkCable_21 : decode cX3_checkCable 21 = .ok (.invokespecial 112, 3) := by decide +kernel
theorem dX3_checkCable_24 : decode cX3_checkCable 24 = .ok (.athrow, 1) := by decide +kernel
theorem dX3_checkCable_25 : decode cX3_checkCable 25 = .ok (.return_, 1) := by decide +kernel
theorem dX3_checkRack_0 : decode cX3_checkRack 0 = .ok (.iload_n 0, 1) := by decide +kernel
theorem dX3_checkRack_1 : decode cX3_checkRack 1 = .ok (.ifCond .lt 9, 3) := by decide +kernel
theorem dX3_checkRack_4 : decode cX3_checkRack 4 = .ok (.iload_n 0, 1) := by decide +kernel
theorem dX3_checkRack_5 : decode cX3_checkRack 5 = .ok (.bipush 6, 2) := by decide +kernel
theorem dX3_checkRack_7 : decode cX3_checkRack 7 = .ok (.if_icmp .lt 14, 3) := by decide +kernel
theorem dX3_checkRack_10 : decode cX3_checkRack 10 = .ok (.new 108, 3) := by decide +kernel
theorem dX3_checkRack_13 : decode cX3_checkRack 13 = .ok (.dup, 1) := by decide +kernel
theorem dX3_checkRack_14 : decode cX3_checkRack 14 = .ok (.ldc_w 265, 3) := by decide +kernel
theorem dX3_checkRack_17 : decode cX3_checkRack 17 = .ok (.invokespecial 112, 3) := by decide +kernel
theorem dX3_checkRack_20 : decode cX3_checkRack 20 = .ok (.athrow, 1) := by decide +kernel
theorem dX3_checkRack_21 : decode cX3_checkRack 21 = .ok (.return_, 1) := by decide +kernel
theorem dX3_checkTray_0 : decode cX3_checkTray 0 = .ok (.iload_n 0, 1) := by decide +kernel
theorem dX3_checkTray_1 : decode cX3_checkTray 1 = .ok (.ifCond .lt 8, 3) := by decide +kernel
theorem dX3_checkTray_4 : decode cX3_checkTray 4 = .ok (.iload_n 0, 1) := by decide +kernel
theorem dX3_checkTray_5 : decode cX3_checkTray 5 = .ok (.iconst 5, 1) := by decide +kernel
theorem dX3_checkTray_6 : decode cX3_checkTray 6 = .ok (.if_icmp .lt 14, 3) := by decide +kernel
theorem dX3_checkTray_9 : decode cX3_checkTray 9 = .ok (.new 108, 3) := by decide +kernel
theorem dX3_checkTray_12 : decode cX3_checkTray 12 = .ok (.dup, 1) := by decide +kernel
theorem dX3_checkTray_13 : decode cX3_checkTray 13 = .ok (.ldc_w 267, 3) := by decide +kernel
theorem dX3_checkTray_16 : decode cX3_checkTray 16 = .ok (.invokespecial 112, 3) := by decide +kernel
theorem dX3_checkTray_19 : decode cX3_checkTray 19 = .ok (.athrow, 1) := by decide +kernel
theorem dX3_checkTray_20 : decode cX3_checkTray 20 = .ok (.return_, 1) := by decide +kernel
theorem dX3_checkRange_0 : decode cX3_checkRange 0 = .ok (.iload_n 0, 1) := by decide +kernel
theorem dX3_checkRange_1 : decode cX3_checkRange 1 = .ok (.iload_n 1, 1) := by decide +kernel
theorem dX3_checkRange_2 : decode cX3_checkRange 2 = .ok (.if_icmp .lt 8, 3) := by decide +kernel
theorem dX3_checkRange_5 : decode cX3_checkRange 5 = .ok (.iload_n 0, 1) := by decide +kernel
theorem dX3_checkRange_6 : decode cX3_checkRange 6 = .ok (.iload_n 2, 1) := by decide +kernel
theorem dX3_checkRange_7 : decode cX3_checkRange 7 = .ok (.if_icmp .le 14, 3) := by decide +kernel
theorem dX3_checkRange_10 : decode cX3_checkRange 10 = .ok (.new 82, 3) := by decide +kernel
theorem dX3_checkRange_13 : decode cX3_checkRange 13 = .ok (.dup, 1) := by decide +kernel
theorem dX3_checkRange_14 : decode cX3_checkRange 14 = .ok (.ldc_w 269, 3) := by decide +kernel
theorem dX3_checkRange_17 : decode cX3_checkRange 17 = .ok (.invokespecial 86, 3) := by decide +kernel
theorem dX3_checkRange_20 : decode cX3_checkRange 20 = .ok (.athrow, 1) := by decide +kernel
theorem dX3_checkRange_21 : decode cX3_checkRange 21 = .ok (.return_, 1) := by decide +kernel
theorem dX3_checkSpace_0 : decode cX3_checkSpace 0 = .ok (.aload_n 0, 1) := by decide +kernel
theorem dX3_checkSpace_1 : decode cX3_checkSpace 1 = .ok (.invokevirtual 271, 3) := by decide +kernel
theorem dX3_checkSpace_4 : decode cX3_checkSpace 4 = .ok (.ifCond .eq 14, 3) := by decide +kernel
theorem dX3_checkSpace_7 : decode cX3_checkSpace 7 = .ok (.new 116, 3) := by decide +kernel
theorem dX3_checkSpace_10 : decode cX3_checkSpace 10 = .ok (.dup, 1) := by decide +kernel
theorem dX3_checkSpace_11 : decode cX3_checkSpace 11 = .ok (.ldc_w 275, 3) := by decide +kernel
theorem dX3_checkSpace_14 : decode cX3_checkSpace 14 = .ok (.invokespecial 120, 3) := by decide +kernel
theorem dX3_checkSpace_17 : decode cX3_checkSpace 17 = .ok (.athrow, 1) := by decide +kernel
theorem dX3_checkSpace_18 : decode cX3_checkSpace 18 = .ok (.return_, 1) := by decide +kernel
end
section
theorem dX4_init_0 : decode cX4_init 0 = .ok (.aload_n 0, 1) := by decide +kernel
theorem dX4_init_1 : decode cX4_init 1 = .ok (.invokespecial 1, 3) := by decide +kernel
theorem dX4_init_4 : decode cX4_init 4 = .ok (.aload_n 0, 1) := by decide +kernel
theorem dX4_init_5 : decode cX4_init 5 = .ok (.sipush 219, 3) := by decide +kernel
theorem dX4_init_8 : decode cX4_init 8 = .ok (.newarray .int, 2) := by decide +kernel
theorem dX4_init_10 : decode cX4_init 10 = .ok (.putfield 7, 3) := by decide +kernel
theorem dX4_init_13 : decode cX4_init 13 = .ok (.aload_n 0, 1) := by decide +kernel
theorem dX4_init_14 : decode cX4_init 14 = .ok (.sipush 876, 3) := by decide +kernel
theorem dX4_init_17 : decode cX4_init 17 = .ok (.newarray .int, 2) := by decide +kernel
theorem dX4_init_19 : decode cX4_init 19 = .ok (.putfield 13, 3) := by decide +kernel
theorem dX4_init_22 : decode cX4_init 22 = .ok (.aload_n 0, 1) := by decide +kernel
theorem dX4_init_23 : decode cX4_init 23 = .ok (.sipush 219, 3) := by decide +kernel
theorem dX4_init_26 : decode cX4_init 26 = .ok (.newarray .int, 2) := by decide +kernel
theorem dX4_init_28 : decode cX4_init 28 = .ok (.putfield 16, 3) := by decide +kernel
theorem dX4_init_31 : decode cX4_init 31 = .ok (.aload_n 0, 1) := by decide +kernel
theorem dX4_init_32 : decode cX4_init 32 = .ok (.sipush 219, 3) := by decide +kernel
theorem dX4_init_35 : decode cX4_init 35 = .ok (.newarray .int, 2) := by decide +kernel
theorem dX4_init_37 : decode cX4_init 37 = .ok (.putfield 19, 3) := by decide +kernel
theorem dX4_init_40 : decode cX4_init 40 = .ok (.aload_n 0, 1) := by decide +kernel
theorem dX4_init_41 : decode cX4_init 41 = .ok (.bipush 90, 2) := by decide +kernel
theorem dX4_init_43 : decode cX4_init 43 = .ok (.newarray .int, 2) := by decide +kernel
theorem dX4_init_45 : decode cX4_init 45 = .ok (.putfield 22, 3) := by decide +kernel
theorem dX4_init_48 : decode cX4_init 48 = .ok (.iconst 0, 1) := by decide +kernel
theorem dX4_init_49 : decode cX4_init 49 = .ok (.istore_n 1, 1) := by decide +kernel
theorem dX4_init_50 : decode cX4_init 50 = .ok (.iload_n 1, 1) := by decide +kernel
theorem dX4_init_51 : decode cX4_init 51 = .ok (.bipush 6, 2) := by decide +kernel
theorem dX4_init_53 : decode cX4_init 53 = .ok (.if_icmp .ge 20, 3) := by decide +kernel
theorem dX4_init_56 : decode cX4_init 56 = .ok (.aload_n 0, 1) := by decide +kernel
theorem dX4_init_57 : decode cX4_init 57 = .ok (.getfield 7, 3) := by decide +kernel
theorem dX4_init_60 : decode cX4_init 60 = .ok (.iconst 0, 1) := by decide +kernel
theorem dX4_init_61 : decode cX4_init 61 = .ok (.iload_n 1, 1) := by decide +kernel
theorem dX4_init_62 : decode cX4_init 62 = .ok (.iadd, 1) := by decide +kernel
theorem dX4_init_63 : decode cX4_init 63 = .ok (.sipush 200, 3) := by decide +kernel
theorem dX4_init_66 : decode cX4_init 66 = .ok (.iastore, 1) := by decide +kernel
theorem dX4_init_67 : decode cX4_init 67 = .ok (.iinc 1 1, 3) := by decide +kernel
theorem dX4_init_70 : decode cX4_init 70 = .ok (.goto (-20), 3) := by decide +kernel
theorem dX4_init_73 : decode cX4_init 73 = .ok (.iconst 0, 1) := by decide +kernel
theorem dX4_init_74 : decode cX4_init 74 = .ok (.istore_n 1, 1) := by decide +kernel
theorem dX4_init_75 : decode cX4_init 75 = .ok (.iload_n 1, 1) := by decide +kernel
theorem dX4_init_76 : decode cX4_init 76 = .ok (.iconst 5, 1) := by decide +kernel
theorem dX4_init_77 : decode cX4_init 77 = .ok (.if_icmp .ge 19, 3) := by decide +kernel
theorem dX4_init_80 : decode cX4_init 80 = .ok (.aload_n 0, 1) := by decide +kernel
theorem dX4_init_81 : decode cX4_init 81 = .ok (.getfield 7, 3) := by decide +kernel
theorem dX4_init_84 : decode cX4_init 84 = .ok (.bipush 6, 2) := by decide +kernel
theorem dX4_init_86 : decode cX4_init 86 = .ok (.iload_n 1, 1) := by decide +kernel
theorem dX4_init_87 : decode cX4_init 87 = .ok (.iadd, 1) := by decide +kernel
theorem dX4_init_88 : decode cX4_init 88 = .ok (.iconst 4, 1) := by decide +kernel
theorem dX4_init_89 : decode cX4_init 89 = .ok (.iastore, 1) := by decide +kernel
theorem dX4_init_90 : decode cX4_init 90 = .ok (.iinc 1 1, 3) := by decide +kernel
theorem dX4_init_93 : decode cX4_init 93 = .ok (.goto (-18), 3) := by decide +kernel
theorem dX4_init_96 : decode cX4_init 96 = .ok (.aload_n 0, 1) := by decide +kernel
theorem dX4_init_97 : decode cX4_init 97 = .ok (.getfield 7, 3) := by decide +kernel
theorem dX4_init_100 : decode cX4_init 100 = .ok (.bipush 11, 2) := by decide +kernel
theorem dX4_init_102 : decode cX4_init 102 = .ok (.bipush 100, 2) := by decide +kernel
theorem dX4_init_104 : decode cX4_init 104 = .ok (.iastore, 1) := by decide +kernel
theorem dX4_init_105 : decode cX4_init 105 = .ok (.return_, 1) := by decide +kernel
theorem dX4_thrown_0 : decode cX4_thrown 0 = .ok (.aload_n 0, 1) := by decide +kernel
theorem dX4_thrown_1 : decode cX4_thrown 1 = .ok (.getfield 25, 3) := by decide +kernel
theorem dX4_thrown_4 : decode cX4_thrown 4 = .ok (.ireturn, 1) := by decide +kernel
theorem dX4_refused_0 : decode cX4_refused 0 = .ok (.aload_n 0, 1) := by decide +kernel
theorem dX4_refused_1 : decode cX4_refused 1 = .ok (.iload_n 1, 1) := by decide +kernel
theorem dX4_refused_2 : decode cX4_refused 2 = .ok (.putfield 25, 3) := by decide +kernel
theorem dX4_refused_5 : decode cX4_refused 5 = .ok (.iload_n 1, 1) := by decide +kernel
theorem dX4_refused_6 : decode cX4_refused 6 = .ok (.ifCond .le 7, 3) := by decide +kernel
theorem dX4_refused_9 : decode cX4_refused 9 = .ok (.iconst 1, 1) := by decide +kernel
theorem dX4_refused_10 : decode cX4_refused 10 = .ok (.goto 4, 3) := by decide +kernel
theorem dX4_refused_13 : decode cX4_refused 13 = .ok (.iconst 0, 1) := by decide +kernel
theorem dX4_refused_14 : decode cX4_refused 14 = .ok (.ireturn, 1) := by decide +kernel
theorem dX4_in_0 : decode cX4_in 0 = .ok (.iload_n 0, 1) := by decide +kernel
theorem dX4_in_1 : decode cX4_in 1 = .ok (.iload_n 1, 1) := by decide +kernel
theorem dX4_in_2 : decode cX4_in 2 = .ok (.if_icmp .lt 12, 3) := by decide +kernel
theorem dX4_in_5 : decode cX4_in 5 = .ok (.iload_n 0, 1) := by decide +kernel
theorem dX4_in_6 : decode cX4_in 6 = .ok (.iload_n 2, 1) := by decide +kernel
theorem dX4_in_7 : decode cX4_in 7 = .ok (.if_icmp .gt 7, 3) := by decide +kernel
theorem dX4_in_10 : decode cX4_in 10 = .ok (.iconst 1, 1) := by decide +kernel
theorem dX4_in_11 : decode cX4_in 11 = .ok (.goto 4, 3) := by decide +kernel
theorem dX4_in_14 : decode cX4_in 14 = .ok (.iconst 0, 1) := by decide +kernel
theorem dX4_in_15 : decode cX4_in 15 = .ok (.ireturn, 1) := by decide +kernel
theorem dX4_saves_0 : decode cX4_saves 0 = .ok (.aload_n 0, 1) := by decide +kernel
theorem dX4_saves_1 : decode cX4_saves 1 = .ok (.aload_n 0, 1) := by decide +kernel
theorem dX4_saves_2 : decode cX4_saves 2 = .ok (.getfield 7, 3) := by decide +kernel
theorem dX4_saves_5 : decode cX4_saves 5 = .ok (.invokevirtual 29, 3) := by decide +kernel
theorem dX4_saves_8 : decode cX4_saves 8 = .ok (.return_, 1) := by decide +kernel
theorem dX4_savesFrom_0 : decode cX4_savesFrom 0 = .ok (.aload_n 0, 1) := by decide +kernel
theorem dX4_savesFrom_1 : decode cX4_savesFrom 1 = .ok (.getfield 33, 3) := by decide +kernel
theorem dX4_savesFrom_4 : decode cX4_savesFrom 4 = .ok (.iconst 4, 1) := by decide +kernel
theorem dX4_savesFrom_5 : decode cX4_savesFrom 5 = .ok (.if_icmp .ne 44, 3) := by decide +kernel
theorem dX4_savesFrom_8 : decode cX4_savesFrom 8 = .ok (.iconst 0, 1) := by decide +kernel
theorem dX4_savesFrom_9 : decode cX4_savesFrom 9 = .ok (.istore_n 2, 1) := by decide +kernel
theorem dX4_savesFrom_10 : decode cX4_savesFrom 10 = .ok (.iload_n 2, 1) := by decide +kernel
theorem dX4_savesFrom_11 : decode cX4_savesFrom 11 = .ok (.sipush 657, 3) := by decide +kernel
theorem dX4_savesFrom_14 : decode cX4_savesFrom 14 = .ok (.if_icmp .ge 25, 3) := by decide +kernel
theorem dX4_savesFrom_17 : decode cX4_savesFrom 17 = .ok (.aload_n 0, 1) := by decide +kernel
theorem dX4_savesFrom_18 : decode cX4_savesFrom 18 = .ok (.getfield 13, 3) := by decide +kernel
theorem dX4_savesFrom_21 : decode cX4_savesFrom 21 = .ok (.iload_n 2, 1) := by decide +kernel
theorem dX4_savesFrom_22 : decode cX4_savesFrom 22 = .ok (.aload_n 0, 1) := by decide +kernel
theorem dX4_savesFrom_23 : decode cX4_savesFrom 23 = .ok (.getfield 13, 3) := by decide +kernel
theorem dX4_savesFrom_26 : decode cX4_savesFrom 26 = .ok (.iload_n 2, 1) := by decide +kernel
theorem dX4_savesFrom_27 : decode cX4_savesFrom 27 = .ok (.sipush 219, 3) := by decide +kernel
theorem dX4_savesFrom_30 : decode cX4_savesFrom 30 = .ok (.iadd, 1) := by decide +kernel
theorem dX4_savesFrom_31 : decode cX4_savesFrom 31 = .ok (.iaload, 1) := by decide +kernel
theorem dX4_savesFrom_32 : decode cX4_savesFrom 32 = .ok (.iastore, 1) := by decide +kernel
theorem dX4_savesFrom_33 : decode cX4_savesFrom 33 = .ok (.iinc 2 1, 3) := by decide +kernel
theorem dX4_savesFrom_36 : decode cX4_savesFrom 36 = .ok (.goto (-26), 3) := by decide +kernel
theorem dX4_savesFrom_39 : decode cX4_savesFrom 39 = .ok (.aload_n 0, 1) := by decide +kernel
theorem dX4_savesFrom_40 : decode cX4_savesFrom 40 = .ok (.dup, 1) := by decide +kernel
theorem dX4_savesFrom_41 : decode cX4_savesFrom 41 = .ok (.getfield 33, 3) := by decide +kernel
theorem dX4_savesFrom_44 : decode cX4_savesFrom 44 = .ok (.iconst 1, 1) := by decide +kernel
theorem dX4_savesFrom_45 : decode cX4_savesFrom 45 = .ok (.isub, 1) := by decide +kernel
theorem dX4_savesFrom_46 : decode cX4_savesFrom 46 = .ok (.putfield 33, 3) := by decide +kernel
theorem dX4_savesFrom_49 : decode cX4_savesFrom 49 = .ok (.iconst 0, 1) := by decide +kernel
theorem dX4_savesFrom_50 : decode cX4_savesFrom 50 = .ok (.istore_n 2, 1) := by decide +kernel
theorem dX4_savesFrom_51 : decode cX4_savesFrom 51 = .ok (.iload_n 2, 1) := by decide +kernel
theorem dX4_savesFrom_52 : decode cX4_savesFrom 52 = .ok (.sipush 219, 3) := by decide +kernel
theorem dX4_savesFrom_55 : decode cX4_savesFrom 55 = .ok (.if_icmp .ge 27, 3) := by decide +kernel
theorem dX4_savesFrom_58 : decode cX4_savesFrom 58 = .ok (.aload_n 0, 1) := by decide +kernel
theorem dX4_savesFrom_59 : decode cX4_savesFrom 59 = .ok (.getfield 13, 3) := by decide +kernel
theorem dX4_savesFrom_62 : decode cX4_savesFrom 62 = .ok (.sipush 219, 3) := by decide +kernel
theorem dX4_savesFrom_65 : decode cX4_savesFrom 65 = .ok (.aload_n 0, 1) := by decide +kernel
theorem dX4_savesFrom_66 : decode cX4_savesFrom 66 = .ok (.getfield 33, 3) := by decide +kernel
theorem dX4_savesFrom_69 : decode cX4_savesFrom 69 = .ok (.imul, 1) := by decide +kernel
theorem dX4_savesFrom_70 : decode cX4_savesFrom 70 = .ok (.iload_n 2, 1) := by decide +kernel
theorem dX4_savesFrom_71 : decode cX4_savesFrom 71 = .ok (.iadd, 1) := by decide +kernel
theorem dX4_savesFrom_72 : decode cX4_savesFrom 72 = .ok (.aload_n 1, 1) := by decide +kernel
theorem dX4_savesFrom_73 : decode cX4_savesFrom 73 = .ok (.iload_n 2, 1) := by decide +kernel
theorem dX4_savesFrom_74 : decode cX4_savesFrom 74 = .ok (.iaload, 1) := by decide +kernel
theorem dX4_savesFrom_75 : decode cX4_savesFrom 75 = .ok (.iastore, 1) := by decide +kernel
theorem dX4_savesFrom_76 : decode cX4_savesFrom 76 = .ok (.iinc 2 1, 3) := by decide +kernel
theorem dX4_savesFrom_79 : decode cX4_savesFrom 79 = .ok (.goto (-28), 3) := by decide +kernel
theorem dX4_savesFrom_82 : decode cX4_savesFrom 82 = .ok (.aload_n 0, 1) := by decide +kernel
theorem dX4_savesFrom_83 : decode cX4_savesFrom 83 = .ok (.dup, 1) := by decide +kernel
theorem dX4_savesFrom_84 : decode cX4_savesFrom 84 = .ok (.getfield 33, 3) := by decide +kernel
theorem dX4_savesFrom_87 : decode cX4_savesFrom 87 = .ok (.iconst 1, 1) := by decide +kernel
theorem dX4_savesFrom_88 : decode cX4_savesFrom 88 = .ok (.iadd, 1) := by decide +kernel
theorem dX4_savesFrom_89 : decode cX4_savesFrom 89 = .ok (.putfield 33, 3) := by decide +kernel
theorem dX4_savesFrom_92 : decode cX4_savesFrom 92 = .ok (.return_, 1) := by decide +kernel
theorem dX4_undo_0 : decode cX4_undo 0 = .ok (.aload_n 0, 1) := by decide +kernel
theorem dX4_undo_1 : decode cX4_undo 1 = .ok (.aload_n 0, 1) := by decide +kernel
theorem dX4_undo_2 : decode cX4_undo 2 = .ok (.getfield 33, 3) := by decide +kernel
theorem dX4_undo_5 : decode cX4_undo 5 = .ok (.ifCond .ne 7, 3) := by decide +kernel
theorem dX4_undo_8 : decode cX4_undo 8 = .ok (.iconst 1, 1) := by decide +kernel
theorem dX4_undo_9 : decode cX4_undo 9 = .ok (.goto 4, 3) := by decide +kernel
theorem dX4_undo_12 : decode cX4_undo 12 = .ok (.iconst 0, 1) := by decide +kernel
theorem dX4_undo_13 : decode cX4_undo 13 = .ok (.invokevirtual 36, 3) := by decide +kernel
theorem dX4_undo_16 : decode cX4_undo 16 = .ok (.ifCond .eq 5, 3) := by decide +kernel
theorem dX4_undo_19 : decode cX4_undo 19 = .ok (.iconst 0, 1) := by decide +kernel
theorem dX4_undo_20 : decode cX4_undo 20 = .ok (.ireturn, 1) := by decide +kernel
theorem dX4_undo_21 : decode cX4_undo 21 = .ok (.aload_n 0, 1) := by decide +kernel
theorem dX4_undo_22 : decode cX4_undo 22 = .ok (.dup, 1) := by decide +kernel
theorem dX4_undo_23 : decode cX4_undo 23 = .ok (.getfield 33, 3) := by decide +kernel
theorem dX4_undo_26 : decode cX4_undo 26 = .ok (.iconst 1, 1) := by decide +kernel
theorem dX4_undo_27 : decode cX4_undo 27 = .ok (.isub, 1) := by decide +kernel
theorem dX4_undo_28 : decode cX4_undo 28 = .ok (.putfield 33, 3) := by decide +kernel
theorem dX4_undo_31 : decode cX4_undo 31 = .ok (.iconst 0, 1) := by decide +kernel
theorem dX4_undo_32 : decode cX4_undo 32 = .ok (.istore_n 1, 1) := by decide +kernel
theorem dX4_undo_33 : decode cX4_undo 33 = .ok (.iload_n 1, 1) := by decide +kernel
theorem dX4_undo_34 : decode cX4_undo 34 = .ok (.sipush 219, 3) := by decide +kernel
theorem dX4_undo_37 : decode cX4_undo 37 = .ok (.if_icmp .ge 30, 3) := by decide +kernel
theorem dX4_undo_40 : decode cX4_undo 40 = .ok (.aload_n 0, 1) := by decide +kernel
theorem dX4_undo_41 : decode cX4_undo 41 = .ok (.getfield 7, 3) := by decide +kernel
theorem dX4_undo_44 : decode cX4_undo 44 = .ok (.iload_n 1, 1) := by decide +kernel
theorem dX4_undo_45 : decode cX4_undo 45 = .ok (.aload_n 0, 1) := by decide +kernel
theorem dX4_undo_46 : decode cX4_undo 46 = .ok (.getfield 13, 3) := by decide +kernel
theorem dX4_undo_49 : decode cX4_undo 49 = .ok (.sipush 219, 3) := by decide +kernel
theorem dX4_undo_52 : decode cX4_undo 52 = .ok (.aload_n 0, 1) := by decide +kernel
theorem dX4_undo_53 : decode cX4_undo 53 = .ok (.getfield 33, 3) := by decide +kernel
theorem dX4_undo_56 : decode cX4_undo 56 = .ok (.imul, 1) := by decide +kernel
theorem dX4_undo_57 : decode cX4_undo 57 = .ok (.iload_n 1, 1) := by decide +kernel
theorem dX4_undo_58 : decode cX4_undo 58 = .ok (.iadd, 1) := by decide +kernel
theorem dX4_undo_59 : decode cX4_undo 59 = .ok (.iaload, 1) := by decide +kernel
theorem dX4_undo_60 : decode cX4_undo 60 = .ok (.iastore, 1) := by decide +kernel
theorem dX4_undo_61 : decode cX4_undo 61 = .ok (.iinc 1 1, 3) := by decide +kernel
theorem dX4_undo_64 : decode cX4_undo 64 = .ok (.goto (-31), 3) := by decide +kernel
theorem dX4_undo_67 : decode cX4_undo 67 = .ok (.aload_n 0, 1) := by decide +kernel
theorem dX4_undo_68 : decode cX4_undo 68 = .ok (.getfield 33, 3) := by decide +kernel
theorem dX4_undo_71 : decode cX4_undo 71 = .ok (.ireturn, 1) := by decide +kernel
theorem dX4_copies_0 : decode cX4_copies 0 = .ok (.iconst 0, 1) := by decide +kernel
theorem dX4_copies_1 : decode cX4_copies 1 = .ok (.istore_n 2, 1) := by decide +kernel
theorem dX4_copies_2 : decode cX4_copies 2 = .ok (.iload_n 2, 1) := by decide +kernel
theorem dX4_copies_3 : decode cX4_copies 3 = .ok (.sipush 219, 3) := by decide +kernel
theorem dX4_copies_6 : decode cX4_copies 6 = .ok (.if_icmp .ge 15, 3) := by decide +kernel
theorem dX4_copies_9 : decode cX4_copies 9 = .ok (.aload_n 0, 1) := by decide +kernel
theorem dX4_copies_10 : decode cX4_copies 10 = .ok (.iload_n 2, 1) := by decide +kernel
theorem dX4_copies_11 : decode cX4_copies 11 = .ok (.aload_n 1, 1) := by decide +kernel
theorem dX4_copies_12 : decode cX4_copies 12 = .ok (.iload_n 2, 1) := by decide +kernel
theorem dX4_copies_13 : decode cX4_copies 13 = .ok (.iaload, 1) := by decide +kernel
theorem dX4_copies_14 : decode cX4_copies 14 = .ok (.iastore, 1) := by decide +kernel
theorem dX4_copies_15 : decode cX4_copies 15 = .ok (.iinc 2 1, 3) := by decide +kernel
theorem dX4_copies_18 : decode cX4_copies 18 = .ok (.goto (-16), 3) := by decide +kernel
theorem dX4_copies_21 : decode cX4_copies 21 = .ok (.return_, 1) := by decide +kernel
theorem dX4_puts_0 : decode cX4_puts 0 = .ok (.aload_n 0, 1) := by decide +kernel
theorem dX4_puts_1 : decode cX4_puts 1 = .ok (.invokevirtual 40, 3) := by decide +kernel
theorem dX4_puts_4 : decode cX4_puts 4 = .ok (.aload_n 0, 1) := by decide +kernel
theorem dX4_puts_5 : decode cX4_puts 5 = .ok (.getfield 7, 3) := by decide +kernel
theorem dX4_puts_8 : decode cX4_puts 8 = .ok (.iload_n 1, 1) := by decide +kernel
theorem dX4_puts_9 : decode cX4_puts 9 = .ok (.iaload, 1) := by decide +kernel
theorem dX4_puts_10 : decode cX4_puts 10 = .ok (.istore_n 3, 1) := by decide +kernel
theorem dX4_puts_11 : decode cX4_puts 11 = .ok (.aload_n 0, 1) := by decide +kernel
theorem dX4_puts_12 : decode cX4_puts 12 = .ok (.getfield 7, 3) := by decide +kernel
theorem dX4_puts_15 : decode cX4_puts 15 = .ok (.iload_n 1, 1) := by decide +kernel
theorem dX4_puts_16 : decode cX4_puts 16 = .ok (.iload_n 2, 1) := by decide +kernel
theorem dX4_puts_17 : decode cX4_puts 17 = .ok (.iastore, 1) := by decide +kernel
theorem dX4_puts_18 : decode cX4_puts 18 = .ok (.iload_n 3, 1) := by decide +kernel
theorem dX4_puts_19 : decode cX4_puts 19 = .ok (.ireturn, 1) := by decide +kernel
theorem dX4_isRack_0 : decode cX4_isRack 0 = .ok (.iload_n 0, 1) := by decide +kernel
theorem dX4_isRack_1 : decode cX4_isRack 1 = .ok (.iconst 0, 1) := by decide +kernel
theorem dX4_isRack_2 : decode cX4_isRack 2 = .ok (.iconst 5, 1) := by decide +kernel
theorem dX4_isRack_3 : decode cX4_isRack 3 = .ok (.invokestatic 43, 3) := by decide +kernel
theorem dX4_isRack_6 : decode cX4_isRack 6 = .ok (.ireturn, 1) := by decide +kernel
theorem dX4_isTray_0 : decode cX4_isTray 0 = .ok (.iload_n 0, 1) := by decide +kernel
theorem dX4_isTray_1 : decode cX4_isTray 1 = .ok (.iconst 0, 1) := by decide +kernel
theorem dX4_isTray_2 : decode cX4_isTray 2 = .ok (.iconst 4, 1) := by decide +kernel
theorem dX4_isTray_3 : decode cX4_isTray 3 = .ok (.invokestatic 43, 3) := by decide +kernel
theorem dX4_isTray_6 : decode cX4_isTray 6 = .ok (.ireturn, 1) := by decide +kernel
theorem dX4_setLimit_0 : decode cX4_setLimit 0 = .ok (.aload_n 0, 1) := by decide +kernel
theorem dX4_setLimit_1 : decode cX4_setLimit 1 = .ok (.iload_n 1, 1) := by decide +kernel
theorem dX4_setLimit_2 : decode cX4_setLimit 2 = .ok (.invokestatic 47, 3) := by decide +kernel
theorem dX4_setLimit_5 : decode cX4_setLimit 5 = .ok (.ifCond .ne 7, 3) := by decide +kernel
theorem dX4_setLimit_8 : decode cX4_setLimit 8 = .ok (.iconst 1, 1) := by decide +kernel
theorem dX4_setLimit_9 : decode cX4_setLimit 9 = .ok (.goto 19, 3) := by decide +kernel
theorem dX4_setLimit_12 : decode cX4_setLimit 12 = .ok (.iload_n 2, 1) := by decide +kernel
theorem dX4_setLimit_13 : decode cX4_setLimit 13 = .ok (.iconst 0, 1) := by decide +kernel
theorem dX4_setLimit_14 : decode cX4_setLimit 14 = .ok (.sipush 500, 3) := by decide +kernel
theorem dX4_setLimit_17 : decode cX4_setLimit 17 = .ok (.invokestatic 43, 3) := by decide +kernel
theorem dX4_setLimit_20 : decode cX4_setLimit 20 = .ok (.ifCond .eq 7, 3) := by decide +kernel
theorem dX4_setLimit_23 : decode cX4_setLimit 23 = .ok (.iconst 0, 1) := by decide +kernel
theorem dX4_setLimit_24 : decode cX4_setLimit 24 = .ok (.goto 4, 3) := by decide +kernel
theorem dX4_setLimit_27 : decode cX4_setLimit 27 = .ok (.iconst 2, 1) := by decide +kernel
theorem dX4_setLimit_28 : decode cX4_setLimit 28 = .ok (.invokevirtual 36, 3) := by decide +kernel
theorem dX4_setLimit_31 : decode cX4_setLimit 31 = .ok (.ifCond .eq 7, 3) := by decide +kernel
theorem dX4_setLimit_34 : decode cX4_setLimit 34 = .ok (.iconst 0, 1) := by decide +kernel
theorem dX4_setLimit_35 : decode cX4_setLimit 35 = .ok (.goto 11, 3) := by decide +kernel
theorem dX4_setLimit_38 : decode cX4_setLimit 38 = .ok (.aload_n 0, 1) := by decide +kernel
theorem dX4_setLimit_39 : decode cX4_setLimit 39 = .ok (.iconst 0, 1) := by decide +kernel
theorem dX4_setLimit_40 : decode cX4_setLimit 40 = .ok (.iload_n 1, 1) := by decide +kernel
theorem dX4_setLimit_41 : decode cX4_setLimit 41 = .ok (.iadd, 1) := by decide +kernel
theorem dX4_setLimit_42 : decode cX4_setLimit 42 = .ok (.iload_n 2, 1) := by decide +kernel
theorem dX4_setLimit_43 : decode cX4_setLimit 43 = .ok (.invokevirtual 50, 3) := by decide +kernel
theorem dX4_setLimit_46 : decode cX4_setLimit 46 = .ok (.ireturn, 1) := by decide +kernel
theorem dX4_setTray_0 : decode cX4_setTray 0 = .ok (.aload_n 0, 1) := by decide +kernel
theorem dX4_setTray_1 : decode cX4_setTray 1 = .ok (.iload_n 1, 1) := by decide +kernel
theorem dX4_setTray_2 : decode cX4_setTray 2 = .ok (.invokestatic 54, 3) := by decide +kernel
theorem dX4_setTray_5 : decode cX4_setTray 5 = .ok (.ifCond .ne 7, 3) := by decide +kernel
theorem dX4_setTray_8 : decode cX4_setTray 8 = .ok (.iconst 1, 1) := by decide +kernel
theorem dX4_setTray_9 : decode cX4_setTray 9 = .ok (.goto 18, 3) := by decide +kernel
theorem dX4_setTray_12 : decode cX4_setTray 12 = .ok (.iload_n 2, 1) := by decide +kernel
theorem dX4_setTray_13 : decode cX4_setTray 13 = .ok (.iconst 0, 1) := by decide +kernel
theorem dX4_setTray_14 : decode cX4_setTray 14 = .ok (.bipush 9, 2) := by decide +kernel
theorem dX4_setTray_16 : decode cX4_setTray 16 = .ok (.invokestatic 43, 3) := by decide +kernel
theorem dX4_setTray_19 : decode cX4_setTray 19 = .ok (.ifCond .eq 7, 3) := by decide +kernel
theorem dX4_setTray_22 : decode cX4_setTray 22 = .ok (.iconst 0, 1) := by decide +kernel
theorem dX4_setTray_23 : decode cX4_setTray 23 = .ok (.goto 4, 3) := by decide +kernel
theorem dX4_setTray_26 : decode cX4_setTray 26 = .ok (.iconst 2, 1) := by decide +kernel
theorem dX4_setTray_27 : decode cX4_setTray 27 = .ok (.invokevirtual 36, 3) := by decide +kernel
theorem dX4_setTray_30 : decode cX4_setTray 30 = .ok (.ifCond .eq 7, 3) := by decide +kernel
theorem dX4_setTray_33 : decode cX4_setTray 33 = .ok (.iconst 0, 1) := by decide +kernel
theorem dX4_setTray_34 : decode cX4_setTray 34 = .ok (.goto 12, 3) := by decide +kernel
theorem dX4_setTray_37 : decode cX4_setTray 37 = .ok (.aload_n 0, 1) := by decide +kernel
theorem dX4_setTray_38 : decode cX4_setTray 38 = .ok (.bipush 6, 2) := by decide +kernel
theorem dX4_setTray_40 : decode cX4_setTray 40 = .ok (.iload_n 1, 1) := by decide +kernel
theorem dX4_setTray_41 : decode cX4_setTray 41 = .ok (.iadd, 1) := by decide +kernel
theorem dX4_setTray_42 : decode cX4_setTray 42 = .ok (.iload_n 2, 1) := by decide +kernel
theorem dX4_setTray_43 : decode cX4_setTray 43 = .ok (.invokevirtual 50, 3) := by decide +kernel
theorem dX4_setTray_46 : decode cX4_setTray 46 = .ok (.ireturn, 1) := by decide +kernel
theorem dX4_setLevel_0 : decode cX4_setLevel 0 = .ok (.aload_n 0, 1) := by decide +kernel
theorem dX4_setLevel_1 : decode cX4_setLevel 1 = .ok (.iload_n 1, 1) := by decide +kernel
theorem dX4_setLevel_2 : decode cX4_setLevel 2 = .ok (.iconst 0, 1) := by decide +kernel
theorem dX4_setLevel_3 : decode cX4_setLevel 3 = .ok (.sipush 500, 3) := by decide +kernel
theorem dX4_setLevel_6 : decode cX4_setLevel 6 = .ok (.invokestatic 43, 3) := by decide +kernel
theorem dX4_setLevel_9 : decode cX4_setLevel 9 = .ok (.ifCond .eq 7, 3) := by decide +kernel
theorem dX4_setLevel_12 : decode cX4_setLevel 12 = .ok (.iconst 0, 1) := by decide +kernel
theorem dX4_setLevel_13 : decode cX4_setLevel 13 = .ok (.goto 4, 3) := by decide +kernel
theorem dX4_setLevel_16 : decode cX4_setLevel 16 = .ok (.iconst 1, 1) := by decide +kernel
theorem dX4_setLevel_17 : decode cX4_setLevel 17 = .ok (.invokevirtual 36, 3) := by decide +kernel
theorem dX4_setLevel_20 : decode cX4_setLevel 20 = .ok (.ifCond .eq 7, 3) := by decide +kernel
theorem dX4_setLevel_23 : decode cX4_setLevel 23 = .ok (.iconst 0, 1) := by decide +kernel
theorem dX4_setLevel_24 : decode cX4_setLevel 24 = .ok (.goto 10, 3) := by decide +kernel
theorem dX4_setLevel_27 : decode cX4_setLevel 27 = .ok (.aload_n 0, 1) := by decide +kernel
theorem dX4_setLevel_28 : decode cX4_setLevel 28 = .ok (.bipush 11, 2) := by decide +kernel
theorem dX4_setLevel_30 : decode cX4_setLevel 30 = .ok (.iload_n 1, 1) := by decide +kernel
theorem dX4_setLevel_31 : decode cX4_setLevel 31 = .ok (.invokevirtual 50, 3) := by decide +kernel
theorem dX4_setLevel_34 : decode cX4_setLevel 34 = .ok (.ireturn, 1) := by decide +kernel
theorem dX4_of_0 : decode cX4_of 0 = .ok (.aload_n 0, 1) := by decide +kernel
theorem dX4_of_1 : decode cX4_of 1 = .ok (.getfield 7, 3) := by decide +kernel
theorem dX4_of_4 : decode cX4_of 4 = .ok (.bipush 19, 2) := by decide +kernel
theorem dX4_of_6 : decode cX4_of 6 = .ok (.bipush 6, 2) := by decide +kernel
theorem dX4_of_8 : decode cX4_of 8 = .ok (.iload_n 1, 1) := by decide +kernel
theorem dX4_of_9 : decode cX4_of 9 = .ok (.imul, 1) := by decide +kernel
theorem dX4_of_10 : decode cX4_of 10 = .ok (.iadd, 1) := by decide +kernel
theorem dX4_of_11 : decode cX4_of 11 = .ok (.iload_n 2, 1) := by decide +kernel
theorem dX4_of_12 : decode cX4_of 12 = .ok (.iadd, 1) := by decide +kernel
theorem dX4_of_13 : decode cX4_of 13 = .ok (.iaload, 1) := by decide +kernel
theorem dX4_of_14 : decode cX4_of 14 = .ok (.ireturn, 1) := by decide +kernel
theorem dX4_isMachine_0 : decode cX4_isMachine 0 = .ok (.iload_n 1, 1) := by decide +kernel
theorem dX4_isMachine_1 : decode cX4_isMachine 1 = .ok (.iconst 0, 1) := by decide +kernel
theorem dX4_isMachine_2 : decode cX4_isMachine 2 = .ok (.aload_n 0, 1) := by decide +kernel
theorem dX4_isMachine_3 : decode cX4_isMachine 3 = .ok (.getfield 7, 3) := by decide +kernel
theorem dX4_isMachine_6 : decode cX4_isMachine 6 = .ok (.bipush 13, 2) := by decide +kernel
theorem dX4_isMachine_8 : decode cX4_isMachine 8 = .ok (.iaload, 1) := by decide +kernel
theorem dX4_isMachine_9 : decode cX4_isMachine 9 = .ok (.iconst 1, 1) := by decide +kernel
theorem dX4_isMachine_10 : decode cX4_isMachine 10 = .ok (.isub, 1) := by decide +kernel
theorem dX4_isMachine_11 : decode cX4_isMachine 11 = .ok (.invokestatic 43, 3) := by decide +kernel
theorem dX4_isMachine_14 : decode cX4_isMachine 14 = .ok (.ireturn, 1) := by decide +kernel
theorem dX4_addMachine_0 : decode cX4_addMachine 0 = .ok (.iload_n 1, 1) := by decide +kernel
theorem dX4_addMachine_1 : decode cX4_addMachine 1 = .ok (.iconst 1, 1) := by decide +kernel
theorem dX4_addMachine_2 : decode cX4_addMachine 2 = .ok (.iconst 4, 1) := by decide +kernel
theorem dX4_addMachine_3 : decode cX4_addMachine 3 = .ok (.invokestatic 43, 3) := by decide +kernel
theorem dX4_addMachine_6 : decode cX4_addMachine 6 = .ok (.ifCond .eq 36, 3) := by decide +kernel
theorem dX4_addMachine_9 : decode cX4_addMachine 9 = .ok (.iload_n 2, 1) := by decide +kernel
theorem dX4_addMachine_10 : decode cX4_addMachine 10 = .ok (.iconst 1, 1) := by decide +kernel
theorem dX4_addMachine_11 : decode cX4_addMachine 11 = .ok (.bipush 99, 2) := by decide +kernel
theorem dX4_addMachine_13 : decode cX4_addMachine 13 = .ok (.invokestatic 43, 3) := by decide +kernel
theorem dX4_addMachine_16 : decode cX4_addMachine 16 = .ok (.ifCond .eq 26, 3) := by decide +kernel
theorem dX4_addMachine_19 : decode cX4_addMachine 19 = .ok (.iload_n 3, 1) := by decide +kernel
theorem dX4_addMachine_20 : decode cX4_addMachine 20 = .ok (.iconst 0, 1) := by decide +kernel
theorem dX4_addMachine_21 : decode cX4_addMachine 21 = .ok (.iconst 2, 1) := by decide +kernel
theorem dX4_addMachine_22 : decode cX4_addMachine 22 = .ok (.invokestatic 43, 3) := by decide +kernel
theorem dX4_addMachine_25 : decode cX4_addMachine 25 = .ok (.ifCond .eq 17, 3) := by decide +kernel
theorem dX4_addMachine_28 : decode cX4_addMachine 28 = .ok (.iload 4, 2) := by decide +kernel
theorem dX4_addMachine_30 : decode cX4_addMachine 30 = .ok (.iconst 0, 1) := by decide +kernel
theorem dX4_addMachine_31 : decode cX4_addMachine 31 = .ok (.iconst 3, 1) := by decide +kernel
theorem dX4_addMachine_32 : decode cX4_addMachine 32 = .ok (.invokestatic 43, 3) := by decide +kernel
theorem dX4_addMachine_35 : decode cX4_addMachine 35 = .ok (.ifCond .eq 7, 3) := by decide +kernel
theorem dX4_addMachine_38 : decode cX4_addMachine 38 = .ok (.iconst 1, 1) := by decide +kernel
theorem dX4_addMachine_39 : decode cX4_addMachine 39 = .ok (.goto 4, 3) := by decide +kernel
theorem dX4_addMachine_42 : decode cX4_addMachine 42 = .ok (.iconst 0, 1) := by decide +kernel
theorem dX4_addMachine_43 : decode cX4_addMachine 43 = .ok (.istore 5, 2) := by decide +kernel
theorem dX4_addMachine_45 : decode cX4_addMachine 45 = .ok (.aload_n 0, 1) := by decide +kernel
theorem dX4_addMachine_46 : decode cX4_addMachine 46 = .ok (.iload 5, 2) := by decide +kernel
theorem dX4_addMachine_48 : decode cX4_addMachine 48 = .ok (.ifCond .ne 7, 3) := by decide +kernel
theorem dX4_addMachine_51 : decode cX4_addMachine 51 = .ok (.iconst 1, 1) := by decide +kernel
theorem dX4_addMachine_52 : decode cX4_addMachine 52 = .ok (.goto 20, 3) := by decide +kernel
theorem dX4_addMachine_55 : decode cX4_addMachine 55 = .ok (.aload_n 0, 1) := by decide +kernel
theorem dX4_addMachine_56 : decode cX4_addMachine 56 = .ok (.getfield 7, 3) := by decide +kernel
theorem dX4_addMachine_59 : decode cX4_addMachine 59 = .ok (.bipush 13, 2) := by decide +kernel
theorem dX4_addMachine_61 : decode cX4_addMachine 61 = .ok (.iaload, 1) := by decide +kernel
theorem dX4_addMachine_62 : decode cX4_addMachine 62 = .ok (.bipush 12, 2) := by decide +kernel
theorem dX4_addMachine_64 : decode cX4_addMachine 64 = .ok (.if_icmp .ne 7, 3) := by decide +kernel
theorem dX4_addMachine_67 : decode cX4_addMachine 67 = .ok (.iconst 2, 1) := by decide +kernel
theorem dX4_addMachine_68 : decode cX4_addMachine 68 = .ok (.goto 4, 3) := by decide +kernel
theorem dX4_addMachine_71 : decode cX4_addMachine 71 = .ok (.iconst 0, 1) := by decide +kernel
theorem dX4_addMachine_72 : decode cX4_addMachine 72 = .ok (.invokevirtual 36, 3) := by decide +kernel
theorem dX4_addMachine_75 : decode cX4_addMachine 75 = .ok (.ifCond .eq 5, 3) := by decide +kernel
theorem dX4_addMachine_78 : decode cX4_addMachine 78 = .ok (.iconst 0, 1) := by decide +kernel
theorem dX4_addMachine_79 : decode cX4_addMachine 79 = .ok (.ireturn, 1) := by decide +kernel
theorem dX4_addMachine_80 : decode cX4_addMachine 80 = .ok (.aload_n 0, 1) := by decide +kernel
theorem dX4_addMachine_81 : decode cX4_addMachine 81 = .ok (.invokevirtual 40, 3) := by decide +kernel
theorem dX4_addMachine_84 : decode cX4_addMachine 84 = .ok (.bipush 19, 2) := by decide +kernel
theorem dX4_addMachine_86 : decode cX4_addMachine 86 = .ok (.bipush 6, 2) := by decide +kernel
theorem dX4_addMachine_88 : decode cX4_addMachine 88 = .ok (.aload_n 0, 1) := by decide +kernel
theorem dX4_addMachine_89 : decode cX4_addMachine 89 = .ok (.getfield 7, 3) := by decide +kernel
theorem dX4_addMachine_92 : decode cX4_addMachine 92 = .ok (.bipush 13, 2) := by decide +kernel
theorem dX4_addMachine_94 : decode cX4_addMachine 94 = .ok (.iaload, 1) := by decide +kernel
theorem dX4_addMachine_95 : decode cX4_addMachine 95 = .ok (.imul, 1) := by decide +kernel
theorem dX4_addMachine_96 : decode cX4_addMachine 96 = .ok (.iadd, 1) := by decide +kernel
theorem dX4_addMachine_97 : decode cX4_addMachine 97 = .ok (.istore 6, 2) := by decide +kernel
theorem dX4_addMachine_99 : decode cX4_addMachine 99 = .ok (.aload_n 0, 1) := by decide +kernel
theorem dX4_addMachine_100 : decode cX4_addMachine 100 = .ok (.getfield 7, 3) := by decide +kernel
theorem dX4_addMachine_103 : decode cX4_addMachine 103 = .ok (.iload 6, 2) := by decide +kernel
theorem dX4_addMachine_105 : decode cX4_addMachine 105 = .ok (.iconst 0, 1) := by decide +kernel
theorem dX4_addMachine_106 : decode cX4_addMachine 106 = .ok (.iadd, 1) := by decide +kernel
theorem dX4_addMachine_107 : decode cX4_addMachine 107 = .ok (.iload_n 1, 1) := by decide +kernel
theorem dX4_addMachine_108 : decode cX4_addMachine 108 = .ok (.iastore, 1) := by decide +kernel
theorem dX4_addMachine_109 : decode cX4_addMachine 109 = .ok (.aload_n 0, 1) := by decide +kernel
theorem dX4_addMachine_110 : decode cX4_addMachine 110 = .ok (.getfield 7, 3) := by decide +kernel
theorem dX4_addMachine_113 : decode cX4_addMachine 113 = .ok (.iload 6, 2) := by decide +kernel
theorem dX4_addMachine_115 : decode cX4_addMachine 115 = .ok (.iconst 1, 1) := by decide +kernel
theorem dX4_addMachine_116 : decode cX4_addMachine 116 = .ok (.iadd, 1) := by decide +kernel
theorem dX4_addMachine_117 : decode cX4_addMachine 117 = .ok (.iload_n 2, 1) := by decide +kernel
theorem dX4_addMachine_118 : decode cX4_addMachine 118 = .ok (.iastore, 1) := by decide +kernel
theorem dX4_addMachine_119 : decode cX4_addMachine 119 = .ok (.aload_n 0, 1) := by decide +kernel
theorem dX4_addMachine_120 : decode cX4_addMachine 120 = .ok (.getfield 7, 3) := by decide +kernel
theorem dX4_addMachine_123 : decode cX4_addMachine 123 = .ok (.iload 6, 2) := by decide +kernel
theorem dX4_addMachine_125 : decode cX4_addMachine 125 = .ok (.iconst 2, 1) := by decide +kernel
theorem dX4_addMachine_126 : decode cX4_addMachine 126 = .ok (.iadd, 1) := by decide +kernel
theorem dX4_addMachine_127 : decode cX4_addMachine 127 = .ok (.iload_n 3, 1) := by decide +kernel
theorem dX4_addMachine_128 : decode cX4_addMachine 128 = .ok (.iastore, 1) := by decide +kernel
theorem dX4_addMachine_129 : decode cX4_addMachine 129 = .ok (.aload_n 0, 1) := by decide +kernel
theorem dX4_addMachine_130 : decode cX4_addMachine 130 = .ok (.getfield 7, 3) := by decide +kernel
theorem dX4_addMachine_133 : decode cX4_addMachine 133 = .ok (.iload 6, 2) := by decide +kernel
theorem dX4_addMachine_135 : decode cX4_addMachine 135 = .ok (.iconst 3, 1) := by decide +kernel
theorem dX4_addMachine_136 : decode cX4_addMachine 136 = .ok (.iadd, 1) := by decide +kernel
theorem dX4_addMachine_137 : decode cX4_addMachine 137 = .ok (.iload 4, 2) := by decide +kernel
theorem dX4_addMachine_139 : decode cX4_addMachine 139 = .ok (.iastore, 1) := by decide +kernel
theorem dX4_addMachine_140 : decode cX4_addMachine 140 = .ok (.aload_n 0, 1) := by decide +kernel
theorem dX4_addMachine_141 : decode cX4_addMachine 141 = .ok (.getfield 7, 3) := by decide +kernel
theorem dX4_addMachine_144 : decode cX4_addMachine 144 = .ok (.iload 6, 2) := by decide +kernel
theorem dX4_addMachine_146 : decode cX4_addMachine 146 = .ok (.iconst 4, 1) := by decide +kernel
theorem dX4_addMachine_147 : decode cX4_addMachine 147 = .ok (.iadd, 1) := by decide +kernel
theorem dX4_addMachine_148 : decode cX4_addMachine 148 = .ok (.iconst (-1), 1) := by decide +kernel
theorem dX4_addMachine_149 : decode cX4_addMachine 149 = .ok (.iastore, 1) := by decide +kernel
theorem dX4_addMachine_150 : decode cX4_addMachine 150 = .ok (.aload_n 0, 1) := by decide +kernel
theorem dX4_addMachine_151 : decode cX4_addMachine 151 = .ok (.getfield 7, 3) := by decide +kernel
theorem dX4_addMachine_154 : decode cX4_addMachine 154 = .ok (.iload 6, 2) := by decide +kernel
theorem dX4_addMachine_156 : decode cX4_addMachine 156 = .ok (.iconst 5, 1) := by decide +kernel
theorem dX4_addMachine_157 : decode cX4_addMachine 157 = .ok (.iadd, 1) := by decide +kernel
theorem dX4_addMachine_158 : decode cX4_addMachine 158 = .ok (.iconst (-1), 1) := by decide +kernel
theorem dX4_addMachine_159 : decode cX4_addMachine 159 = .ok (.iastore, 1) := by decide +kernel
theorem dX4_addMachine_160 : decode cX4_addMachine 160 = .ok (.aload_n 0, 1) := by decide +kernel
theorem dX4_addMachine_161 : decode cX4_addMachine 161 = .ok (.getfield 7, 3) := by decide +kernel
theorem dX4_addMachine_164 : decode cX4_addMachine 164 = .ok (.bipush 13, 2) := by decide +kernel
theorem dX4_addMachine_166 : decode cX4_addMachine 166 = .ok (.dup2, 1) := by decide +kernel
theorem dX4_addMachine_167 : decode cX4_addMachine 167 = .ok (.iaload, 1) := by decide +kernel
theorem dX4_addMachine_168 : decode cX4_addMachine 168 = .ok (.iconst 1, 1) := by decide +kernel
theorem dX4_addMachine_169 : decode cX4_addMachine 169 = .ok (.iadd, 1) := by decide +kernel
theorem dX4_addMachine_170 : decode cX4_addMachine 170 = .ok (.iastore, 1) := by decide +kernel
theorem dX4_addMachine_171 : decode cX4_addMachine 171 = .ok (.aload_n 0, 1) := by decide +kernel
theorem dX4_addMachine_172 : decode cX4_addMachine 172 = .ok (.getfield 7, 3) := by decide +kernel
theorem dX4_addMachine_175 : decode cX4_addMachine 175 = .ok (.bipush 13, 2) := by decide +kernel
theorem dX4_addMachine_177 : decode cX4_addMachine 177 = .ok (.iaload, 1) := by decide +kernel
theorem dX4_addMachine_178 : decode cX4_addMachine 178 = .ok (.iconst 1, 1) := by decide +kernel
theorem dX4_addMachine_179 : decode cX4_addMachine 179 = .ok (.isub, 1) := by decide +kernel
theorem dX4_addMachine_180 : decode cX4_addMachine 180 = .ok (.ireturn, 1) := by decide +kernel
theorem dX4_addCable_0 : decode cX4_addCable 0 = .ok (.aload_n 0, 1) := by decide +kernel
theorem dX4_addCable_1 : decode cX4_addCable 1 = .ok (.iload_n 1, 1) := by decide +kernel
theorem dX4_addCable_2 : decode cX4_addCable 2 = .ok (.invokevirtual 57, 3) := by decide +kernel
theorem dX4_addCable_5 : decode cX4_addCable 5 = .ok (.ifCond .eq 15, 3) := by decide +kernel
theorem dX4_addCable_8 : decode cX4_addCable 8 = .ok (.aload_n 0, 1) := by decide +kernel
theorem dX4_addCable_9 : decode cX4_addCable 9 = .ok (.iload_n 2, 1) := by decide +kernel
theorem dX4_addCable_10 : decode cX4_addCable 10 = .ok (.invokevirtual 57, 3) := by decide +kernel
theorem dX4_addCable_13 : decode cX4_addCable 13 = .ok (.ifCond .eq 7, 3) := by decide +kernel
theorem dX4_addCable_16 : decode cX4_addCable 16 = .ok (.iconst 1, 1) := by decide +kernel
theorem dX4_addCable_17 : decode cX4_addCable 17 = .ok (.goto 4, 3) := by decide +kernel
theorem dX4_addCable_20 : decode cX4_addCable 20 = .ok (.iconst 0, 1) := by decide +kernel
theorem dX4_addCable_21 : decode cX4_addCable 21 = .ok (.istore 4, 2) := by decide +kernel
theorem dX4_addCable_23 : decode cX4_addCable 23 = .ok (.aload_n 0, 1) := by decide +kernel
theorem dX4_addCable_24 : decode cX4_addCable 24 = .ok (.iload 4, 2) := by decide +kernel
theorem dX4_addCable_26 : decode cX4_addCable 26 = .ok (.ifCond .ne 7, 3) := by decide +kernel
theorem dX4_addCable_29 : decode cX4_addCable 29 = .ok (.iconst 1, 1) := by decide +kernel
theorem dX4_addCable_30 : decode cX4_addCable 30 = .ok (.goto 39, 3) := by decide +kernel
theorem dX4_addCable_33 : decode cX4_addCable 33 = .ok (.iload_n 1, 1) := by decide +kernel
theorem dX4_addCable_34 : decode cX4_addCable 34 = .ok (.iload_n 2, 1) := by decide +kernel
theorem dX4_addCable_35 : decode cX4_addCable 35 = .ok (.if_icmp .eq 13, 3) := by decide +kernel
theorem dX4_addCable_38 : decode cX4_addCable 38 = .ok (.iload_n 3, 1) := by decide +kernel
theorem dX4_addCable_39 : decode cX4_addCable 39 = .ok (.iconst 1, 1) := by decide +kernel
theorem dX4_addCable_40 : decode cX4_addCable 40 = .ok (.bipush 20, 2) := by decide +kernel
theorem dX4_addCable_42 : decode cX4_addCable 42 = .ok (.invokestatic 43, 3) := by decide +kernel
theorem dX4_addCable_45 : decode cX4_addCable 45 = .ok (.ifCond .ne 7, 3) := by decide +kernel
theorem dX4_addCable_48 : decode cX4_addCable 48 = .ok (.iconst 2, 1) := by decide +kernel
theorem dX4_addCable_49 : decode cX4_addCable 49 = .ok (.goto 20, 3) := by decide +kernel
theorem dX4_addCable_52 : decode cX4_addCable 52 = .ok (.aload_n 0, 1) := by decide +kernel
theorem dX4_addCable_53 : decode cX4_addCable 53 = .ok (.getfield 7, 3) := by decide +kernel
theorem dX4_addCable_56 : decode cX4_addCable 56 = .ok (.bipush 14, 2) := by decide +kernel
theorem dX4_addCable_58 : decode cX4_addCable 58 = .ok (.iaload, 1) := by decide +kernel
theorem dX4_addCable_59 : decode cX4_addCable 59 = .ok (.bipush 10, 2) := by decide +kernel
theorem dX4_addCable_61 : decode cX4_addCable 61 = .ok (.if_icmp .ne 7, 3) := by decide +kernel
theorem dX4_addCable_64 : decode cX4_addCable 64 = .ok (.iconst 3, 1) := by decide +kernel
theorem dX4_addCable_65 : decode cX4_addCable 65 = .ok (.goto 4, 3) := by decide +kernel
theorem dX4_addCable_68 : decode cX4_addCable 68 = .ok (.iconst 0, 1) := by decide +kernel
theorem dX4_addCable_69 : decode cX4_addCable 69 = .ok (.invokevirtual 36, 3) := by decide +kernel
theorem dX4_addCable_72 : decode cX4_addCable 72 = .ok (.ifCond .eq 5, 3) := by decide +kernel
theorem dX4_addCable_75 : decode cX4_addCable 75 = .ok (.iconst 0, 1) := by decide +kernel
theorem dX4_addCable_76 : decode cX4_addCable 76 = .ok (.ireturn, 1) := by decide +kernel
theorem dX4_addCable_77 : decode cX4_addCable 77 = .ok (.aload_n 0, 1) := by decide +kernel
theorem dX4_addCable_78 : decode cX4_addCable 78 = .ok (.invokevirtual 40, 3) := by decide +kernel
theorem dX4_addCable_81 : decode cX4_addCable 81 = .ok (.aload_n 0, 1) := by decide +kernel
theorem dX4_addCable_82 : decode cX4_addCable 82 = .ok (.bipush 91, 2) := by decide +kernel
theorem dX4_addCable_84 : decode cX4_addCable 84 = .ok (.bipush 14, 2) := by decide +kernel
theorem dX4_addCable_86 : decode cX4_addCable 86 = .ok (.iload_n 1, 1) := by decide +kernel
theorem dX4_addCable_87 : decode cX4_addCable 87 = .ok (.iload_n 2, 1) := by decide +kernel
theorem dX4_addCable_88 : decode cX4_addCable 88 = .ok (.iload_n 3, 1) := by decide +kernel
theorem dX4_addCable_89 : decode cX4_addCable 89 = .ok (.invokevirtual 60, 3) := by decide +kernel
theorem dX4_addCable_92 : decode cX4_addCable 92 = .ok (.ireturn, 1) := by decide +kernel
theorem dX4_adds_0 : decode cX4_adds 0 = .ok (.iload_n 1, 1) := by decide +kernel
theorem dX4_adds_1 : decode cX4_adds 1 = .ok (.iconst 3, 1) := by decide +kernel
theorem dX4_adds_2 : decode cX4_adds 2 = .ok (.aload_n 0, 1) := by decide +kernel
theorem dX4_adds_3 : decode cX4_adds 3 = .ok (.getfield 7, 3) := by decide +kernel
theorem dX4_adds_6 : decode cX4_adds 6 = .ok (.iload_n 2, 1) := by decide +kernel
theorem dX4_adds_7 : decode cX4_adds 7 = .ok (.iaload, 1) := by decide +kernel
theorem dX4_adds_8 : decode cX4_adds 8 = .ok (.imul, 1) := by decide +kernel
theorem dX4_adds_9 : decode cX4_adds 9 = .ok (.iadd, 1) := by decide +kernel
theorem dX4_adds_10 : decode cX4_adds 10 = .ok (.istore 6, 2) := by decide +kernel
theorem dX4_adds_12 : decode cX4_adds 12 = .ok (.aload_n 0, 1) := by decide +kernel
theorem dX4_adds_13 : decode cX4_adds 13 = .ok (.getfield 7, 3) := by decide +kernel
theorem dX4_adds_16 : decode cX4_adds 16 = .ok (.iload 6, 2) := by decide +kernel
theorem dX4_adds_18 : decode cX4_adds 18 = .ok (.iload_n 3, 1) := by decide +kernel
theorem dX4_adds_19 : decode cX4_adds 19 = .ok (.iastore, 1) := by decide +kernel
theorem dX4_adds_20 : decode cX4_adds 20 = .ok (.aload_n 0, 1) := by decide +kernel
theorem dX4_adds_21 : decode cX4_adds 21 = .ok (.getfield 7, 3) := by decide +kernel
theorem dX4_adds_24 : decode cX4_adds 24 = .ok (.iload 6, 2) := by decide +kernel
theorem dX4_adds_26 : decode cX4_adds 26 = .ok (.iconst 1, 1) := by decide +kernel
theorem dX4_adds_27 : decode cX4_adds 27 = .ok (.iadd, 1) := by decide +kernel
theorem dX4_adds_28 : decode cX4_adds 28 = .ok (.iload 4, 2) := by decide +kernel
theorem dX4_adds_30 : decode cX4_adds 30 = .ok (.iastore, 1) := by decide +kernel
theorem dX4_adds_31 : decode cX4_adds 31 = .ok (.aload_n 0, 1) := by decide +kernel
theorem dX4_adds_32 : decode cX4_adds 32 = .ok (.getfield 7, 3) := by decide +kernel
theorem dX4_adds_35 : decode cX4_adds 35 = .ok (.iload 6, 2) := by decide +kernel
theorem dX4_adds_37 : decode cX4_adds 37 = .ok (.iconst 2, 1) := by decide +kernel
theorem dX4_adds_38 : decode cX4_adds 38 = .ok (.iadd, 1) := by decide +kernel
theorem dX4_adds_39 : decode cX4_adds 39 = .ok (.iload 5, 2) := by decide +kernel
theorem dX4_adds_41 : decode cX4_adds 41 = .ok (.iastore, 1) := by decide +kernel
theorem dX4_adds_42 : decode cX4_adds 42 = .ok (.aload_n 0, 1) := by decide +kernel
theorem dX4_adds_43 : decode cX4_adds 43 = .ok (.getfield 7, 3) := by decide +kernel
theorem dX4_adds_46 : decode cX4_adds 46 = .ok (.iload_n 2, 1) := by decide +kernel
theorem dX4_adds_47 : decode cX4_adds 47 = .ok (.dup2, 1) := by decide +kernel
theorem dX4_adds_48 : decode cX4_adds 48 = .ok (.iaload, 1) := by decide +kernel
theorem dX4_adds_49 : decode cX4_adds 49 = .ok (.iconst 1, 1) := by decide +kernel
theorem dX4_adds_50 : decode cX4_adds 50 = .ok (.iadd, 1) := by decide +kernel
theorem dX4_adds_51 : decode cX4_adds 51 = .ok (.iastore, 1) := by decide +kernel
theorem dX4_adds_52 : decode cX4_adds 52 = .ok (.aload_n 0, 1) := by decide +kernel
theorem dX4_adds_53 : decode cX4_adds 53 = .ok (.getfield 7, 3) := by decide +kernel
theorem dX4_adds_56 : decode cX4_adds 56 = .ok (.iload_n 2, 1) := by decide +kernel
theorem dX4_adds_57 : decode cX4_adds 57 = .ok (.iaload, 1) := by decide +kernel
theorem dX4_adds_58 : decode cX4_adds 58 = .ok (.iconst 1, 1) := by decide +kernel
theorem dX4_adds_59 : decode cX4_adds 59 = .ok (.isub, 1) := by decide +kernel
theorem dX4_adds_60 : decode cX4_adds 60 = .ok (.ireturn, 1) := by decide +kernel
theorem dX4_drops_0 : decode cX4_drops 0 = .ok (.aload_n 0, 1) := by decide +kernel
theorem dX4_drops_1 : decode cX4_drops 1 = .ok (.getfield 7, 3) := by decide +kernel
theorem dX4_drops_4 : decode cX4_drops 4 = .ok (.iload_n 2, 1) := by decide +kernel
theorem dX4_drops_5 : decode cX4_drops 5 = .ok (.dup2, 1) := by decide +kernel
theorem dX4_drops_6 : decode cX4_drops 6 = .ok (.iaload, 1) := by decide +kernel
theorem dX4_drops_7 : decode cX4_drops 7 = .ok (.iconst 1, 1) := by decide +kernel
theorem dX4_drops_8 : decode cX4_drops 8 = .ok (.isub, 1) := by decide +kernel
theorem dX4_drops_9 : decode cX4_drops 9 = .ok (.iastore, 1) := by decide +kernel
theorem dX4_drops_10 : decode cX4_drops 10 = .ok (.iload_n 1, 1) := by decide +kernel
theorem dX4_drops_11 : decode cX4_drops 11 = .ok (.iconst 3, 1) := by decide +kernel
theorem dX4_drops_12 : decode cX4_drops 12 = .ok (.iload_n 3, 1) := by decide +kernel
theorem dX4_drops_13 : decode cX4_drops 13 = .ok (.imul, 1) := by decide +kernel
theorem dX4_drops_14 : decode cX4_drops 14 = .ok (.iadd, 1) := by decide +kernel
theorem dX4_drops_15 : decode cX4_drops 15 = .ok (.istore 4, 2) := by decide +kernel
theorem dX4_drops_17 : decode cX4_drops 17 = .ok (.iload 4, 2) := by decide +kernel
theorem dX4_drops_19 : decode cX4_drops 19 = .ok (.iload_n 1, 1) := by decide +kernel
theorem dX4_drops_20 : decode cX4_drops 20 = .ok (.iconst 3, 1) := by decide +kernel
theorem dX4_drops_21 : decode cX4_drops 21 = .ok (.aload_n 0, 1) := by decide +kernel
theorem dX4_drops_22 : decode cX4_drops 22 = .ok (.getfield 7, 3) := by decide +kernel
theorem dX4_drops_25 : decode cX4_drops 25 = .ok (.iload_n 2, 1) := by decide +kernel
theorem dX4_drops_26 : decode cX4_drops 26 = .ok (.iaload, 1) := by decide +kernel
theorem dX4_drops_27 : decode cX4_drops 27 = .ok (.imul, 1) := by decide +kernel
theorem dX4_drops_28 : decode cX4_drops 28 = .ok (.iadd, 1) := by decide +kernel
theorem dX4_drops_29 : decode cX4_drops 29 = .ok (.if_icmp .ge 25, 3) := by decide +kernel
theorem dX4_drops_32 : decode cX4_drops 32 = .ok (.aload_n 0, 1) := by decide +kernel
theorem dX4_drops_33 : decode cX4_drops 33 = .ok (.getfield 7, 3) := by decide +kernel
theorem dX4_drops_36 : decode cX4_drops 36 = .ok (.iload 4, 2) := by decide +kernel
theorem dX4_drops_38 : decode cX4_drops 38 = .ok (.aload_n 0, 1) := by decide +kernel
theorem dX4_drops_39 : decode cX4_drops 39 = .ok (.getfield 7, 3) := by decide +kernel
theorem dX4_drops_42 : decode cX4_drops 42 = .ok (.iload 4, 2) := by decide +kernel
theorem dX4_drops_44 : decode cX4_drops 44 = .ok (.iconst 3, 1) := by decide +kernel
theorem dX4_drops_45 : decode cX4_drops 45 = .ok (.iadd, 1) := by decide +kernel
theorem dX4_drops_46 : decode cX4_drops 46 = .ok (.iaload, 1) := by decide +kernel
theorem dX4_drops_47 : decode cX4_drops 47 = .ok (.iastore, 1) := by decide +kernel
theorem dX4_drops_48 : decode cX4_drops 48 = .ok (.iinc 4 1, 3) := by decide +kernel
theorem dX4_drops_51 : decode cX4_drops 51 = .ok (.goto (-34), 3) := by decide +kernel
theorem dX4_drops_54 : decode cX4_drops 54 = .ok (.aload_n 0, 1) := by decide +kernel
theorem dX4_drops_55 : decode cX4_drops 55 = .ok (.getfield 7, 3) := by decide +kernel
theorem dX4_drops_58 : decode cX4_drops 58 = .ok (.iload_n 2, 1) := by decide +kernel
theorem dX4_drops_59 : decode cX4_drops 59 = .ok (.iaload, 1) := by decide +kernel
theorem dX4_drops_60 : decode cX4_drops 60 = .ok (.ireturn, 1) := by decide +kernel
theorem dX4_isCable_0 : decode cX4_isCable 0 = .ok (.iload_n 1, 1) := by decide +kernel
theorem dX4_isCable_1 : decode cX4_isCable 1 = .ok (.iconst 0, 1) := by decide +kernel
theorem dX4_isCable_2 : decode cX4_isCable 2 = .ok (.aload_n 0, 1) := by decide +kernel
theorem dX4_isCable_3 : decode cX4_isCable 3 = .ok (.getfield 7, 3) := by decide +kernel
theorem dX4_isCable_6 : decode cX4_isCable 6 = .ok (.bipush 14, 2) := by decide +kernel
theorem dX4_isCable_8 : decode cX4_isCable 8 = .ok (.iaload, 1) := by decide +kernel
theorem dX4_isCable_9 : decode cX4_isCable 9 = .ok (.iconst 1, 1) := by decide +kernel
theorem dX4_isCable_10 : decode cX4_isCable 10 = .ok (.isub, 1) := by decide +kernel
theorem dX4_isCable_11 : decode cX4_isCable 11 = .ok (.invokestatic 43, 3) := by decide +kernel
theorem dX4_isCable_14 : decode cX4_isCable 14 = .ok (.ireturn, 1) := by decide +kernel
theorem dX4_removeCable_0 : decode cX4_removeCable 0 = .ok (.aload_n 0, 1) := by decide +kernel
theorem dX4_removeCable_1 : decode cX4_removeCable 1 = .ok (.aload_n 0, 1) := by decide +kernel
theorem dX4_removeCable_2 : decode cX4_removeCable 2 = .ok (.iload_n 1, 1) := by decide +kernel
theorem dX4_removeCable_3 : decode cX4_removeCable 3 = .ok (.invokevirtual 64, 3) := by decide +kernel
theorem dX4_removeCable_6 : decode cX4_removeCable 6 = .ok (.ifCond .eq 7, 3) := by decide +kernel
theorem dX4_removeCable_9 : decode cX4_removeCable 9 = .ok (.iconst 0, 1) := by decide +kernel
theorem dX4_removeCable_10 : decode cX4_removeCable 10 = .ok (.goto 4, 3) := by decide +kernel
theorem dX4_removeCable_13 : decode cX4_removeCable 13 = .ok (.iconst 1, 1) := by decide +kernel
theorem dX4_removeCable_14 : decode cX4_removeCable 14 = .ok (.invokevirtual 36, 3) := by decide +kernel
theorem dX4_removeCable_17 : decode cX4_removeCable 17 = .ok (.ifCond .eq 5, 3) := by decide +kernel
theorem dX4_removeCable_20 : decode cX4_removeCable 20 = .ok (.iconst 0, 1) := by decide +kernel
theorem dX4_removeCable_21 : decode cX4_removeCable 21 = .ok (.ireturn, 1) := by decide +kernel
theorem dX4_removeCable_22 : decode cX4_removeCable 22 = .ok (.aload_n 0, 1) := by decide +kernel
theorem dX4_removeCable_23 : decode cX4_removeCable 23 = .ok (.invokevirtual 40, 3) := by decide +kernel
theorem dX4_removeCable_26 : decode cX4_removeCable 26 = .ok (.aload_n 0, 1) := by decide +kernel
theorem dX4_removeCable_27 : decode cX4_removeCable 27 = .ok (.bipush 91, 2) := by decide +kernel
theorem dX4_removeCable_29 : decode cX4_removeCable 29 = .ok (.bipush 14, 2) := by decide +kernel
theorem dX4_removeCable_31 : decode cX4_removeCable 31 = .ok (.iload_n 1, 1) := by decide +kernel
theorem dX4_removeCable_32 : decode cX4_removeCable 32 = .ok (.invokevirtual 67, 3) := by decide +kernel
theorem dX4_removeCable_35 : decode cX4_removeCable 35 = .ok (.ireturn, 1) := by decide +kernel
theorem dX4_addFreeze_0 : decode cX4_addFreeze 0 = .ok (.iload_n 1, 1) := by decide +kernel
theorem dX4_addFreeze_1 : decode cX4_addFreeze 1 = .ok (.iconst 0, 1) := by decide +kernel
theorem dX4_addFreeze_2 : decode cX4_addFreeze 2 = .ok (.iconst 3, 1) := by decide +kernel
theorem dX4_addFreeze_3 : decode cX4_addFreeze 3 = .ok (.invokestatic 43, 3) := by decide +kernel
theorem dX4_addFreeze_6 : decode cX4_addFreeze 6 = .ok (.ifCond .eq 28, 3) := by decide +kernel
theorem dX4_addFreeze_9 : decode cX4_addFreeze 9 = .ok (.iload_n 2, 1) := by decide +kernel
theorem dX4_addFreeze_10 : decode cX4_addFreeze 10 = .ok (.iconst 0, 1) := by decide +kernel
theorem dX4_addFreeze_11 : decode cX4_addFreeze 11 = .ok (.sipush 999, 3) := by decide +kernel
theorem dX4_addFreeze_14 : decode cX4_addFreeze 14 = .ok (.invokestatic 43, 3) := by decide +kernel
theorem dX4_addFreeze_17 : decode cX4_addFreeze 17 = .ok (.ifCond .eq 17, 3) := by decide +kernel
theorem dX4_addFreeze_20 : decode cX4_addFreeze 20 = .ok (.iload_n 3, 1) := by decide +kernel
theorem dX4_addFreeze_21 : decode cX4_addFreeze 21 = .ok (.iconst 1, 1) := by decide +kernel
theorem dX4_addFreeze_22 : decode cX4_addFreeze 22 = .ok (.bipush 99, 2) := by decide +kernel
theorem dX4_addFreeze_24 : decode cX4_addFreeze 24 = .ok (.invokestatic 43, 3) := by decide +kernel
theorem dX4_addFreeze_27 : decode cX4_addFreeze 27 = .ok (.ifCond .eq 7, 3) := by decide +kernel
theorem dX4_addFreeze_30 : decode cX4_addFreeze 30 = .ok (.iconst 1, 1) := by decide +kernel
theorem dX4_addFreeze_31 : decode cX4_addFreeze 31 = .ok (.goto 4, 3) := by decide +kernel
theorem dX4_addFreeze_34 : decode cX4_addFreeze 34 = .ok (.iconst 0, 1) := by decide +kernel
theorem dX4_addFreeze_35 : decode cX4_addFreeze 35 = .ok (.istore 4, 2) := by decide +kernel
theorem dX4_addFreeze_37 : decode cX4_addFreeze 37 = .ok (.aload_n 0, 1) := by decide +kernel
theorem dX4_addFreeze_38 : decode cX4_addFreeze 38 = .ok (.iload 4, 2) := by decide +kernel
theorem dX4_addFreeze_40 : decode cX4_addFreeze 40 = .ok (.ifCond .ne 7, 3) := by decide +kernel
theorem dX4_addFreeze_43 : decode cX4_addFreeze 43 = .ok (.iconst 1, 1) := by decide +kernel
theorem dX4_addFreeze_44 : decode cX4_addFreeze 44 = .ok (.goto 20, 3) := by decide +kernel
theorem dX4_addFreeze_47 : decode cX4_addFreeze 47 = .ok (.aload_n 0, 1) := by decide +kernel
theorem dX4_addFreeze_48 : decode cX4_addFreeze 48 = .ok (.getfield 7, 3) := by decide +kernel
theorem dX4_addFreeze_51 : decode cX4_addFreeze 51 = .ok (.bipush 15, 2) := by decide +kernel
theorem dX4_addFreeze_53 : decode cX4_addFreeze 53 = .ok (.iaload, 1) := by decide +kernel
theorem dX4_addFreeze_54 : decode cX4_addFreeze 54 = .ok (.bipush 6, 2) := by decide +kernel
theorem dX4_addFreeze_56 : decode cX4_addFreeze 56 = .ok (.if_icmp .ne 7, 3) := by decide +kernel
theorem dX4_addFreeze_59 : decode cX4_addFreeze 59 = .ok (.iconst 2, 1) := by decide +kernel
theorem dX4_addFreeze_60 : decode cX4_addFreeze 60 = .ok (.goto 4, 3) := by decide +kernel
theorem dX4_addFreeze_63 : decode cX4_addFreeze 63 = .ok (.iconst 0, 1) := by decide +kernel
theorem dX4_addFreeze_64 : decode cX4_addFreeze 64 = .ok (.invokevirtual 36, 3) := by decide +kernel
theorem dX4_addFreeze_67 : decode cX4_addFreeze 67 = .ok (.ifCond .eq 5, 3) := by decide +kernel
theorem dX4_addFreeze_70 : decode cX4_addFreeze 70 = .ok (.iconst 0, 1) := by decide +kernel
theorem dX4_addFreeze_71 : decode cX4_addFreeze 71 = .ok (.ireturn, 1) := by decide +kernel
theorem dX4_addFreeze_72 : decode cX4_addFreeze 72 = .ok (.aload_n 0, 1) := by decide +kernel
theorem dX4_addFreeze_73 : decode cX4_addFreeze 73 = .ok (.invokevirtual 40, 3) := by decide +kernel
theorem dX4_addFreeze_76 : decode cX4_addFreeze 76 = .ok (.aload_n 0, 1) := by decide +kernel
theorem dX4_addFreeze_77 : decode cX4_addFreeze 77 = .ok (.bipush 121, 2) := by decide +kernel
theorem dX4_addFreeze_79 : decode cX4_addFreeze 79 = .ok (.bipush 15, 2) := by decide +kernel
theorem dX4_addFreeze_81 : decode cX4_addFreeze 81 = .ok (.iload_n 1, 1) := by decide +kernel
theorem dX4_addFreeze_82 : decode cX4_addFreeze 82 = .ok (.iload_n 2, 1) := by decide +kernel
theorem dX4_addFreeze_83 : decode cX4_addFreeze 83 = .ok (.iload_n 3, 1) := by decide +kernel
theorem dX4_addFreeze_84 : decode cX4_addFreeze 84 = .ok (.invokevirtual 60, 3) := by decide +kernel
theorem dX4_addFreeze_87 : decode cX4_addFreeze 87 = .ok (.ireturn, 1) := by decide +kernel
theorem dX4_removeFreeze_0 : decode cX4_removeFreeze 0 = .ok (.aload_n 0, 1) := by decide +kernel
theorem dX4_removeFreeze_1 : decode cX4_removeFreeze 1 = .ok (.iload_n 1, 1) := by decide +kernel
theorem dX4_removeFreeze_2 : decode cX4_removeFreeze 2 = .ok (.iconst 0, 1) := by decide +kernel
theorem dX4_removeFreeze_3 : decode cX4_removeFreeze 3 = .ok (.aload_n 0, 1) := by decide +kernel
theorem dX4_removeFreeze_4 : decode cX4_removeFreeze 4 = .ok (.getfield 7, 3) := by decide +kernel
theorem dX4_removeFreeze_7 : decode cX4_removeFreeze 7 = .ok (.bipush 15, 2) := by decide +kernel
theorem dX4_removeFreeze_9 : decode cX4_removeFreeze 9 = .ok (.iaload, 1) := by decide +kernel
theorem dX4_removeFreeze_10 : decode cX4_removeFreeze 10 = .ok (.iconst 1, 1) := by decide +kernel
theorem dX4_removeFreeze_11 : decode cX4_removeFreeze 11 = .ok (.isub, 1) := by decide +kernel
theorem dX4_removeFreeze_12 : decode cX4_removeFreeze 12 = .ok (.invokestatic 43, 3) := by decide +kernel
theorem dX4_removeFreeze_15 : decode cX4_removeFreeze 15 = .ok (.ifCond .eq 7, 3) := by decide +kernel
theorem dX4_removeFreeze_18 : decode cX4_removeFreeze 18 = .ok (.iconst 0, 1) := by decide +kernel
theorem dX4_removeFreeze_19 : decode cX4_removeFreeze 19 = .ok (.goto 4, 3) := by decide +kernel
theorem dX4_removeFreeze_22 : decode cX4_removeFreeze 22 = .ok (.iconst 1, 1) := by decide +kernel
theorem dX4_removeFreeze_23 : decode cX4_removeFreeze 23 = .ok (.invokevirtual 36, 3) := by decide +kernel
theorem dX4_removeFreeze_26 : decode cX4_removeFreeze 26 = .ok (.ifCond .eq 5, 3) := by decide +kernel
theorem dX4_removeFreeze_29 : decode cX4_removeFreeze 29 = .ok (.iconst 0, 1) := by decide +kernel
theorem dX4_removeFreeze_30 : decode cX4_removeFreeze 30 = .ok (.ireturn, 1) := by decide +kernel
theorem dX4_removeFreeze_31 : decode cX4_removeFreeze 31 = .ok (.aload_n 0, 1) := by decide +kernel
theorem dX4_removeFreeze_32 : decode cX4_removeFreeze 32 = .ok (.invokevirtual 40, 3) := by decide +kernel
theorem dX4_removeFreeze_35 : decode cX4_removeFreeze 35 = .ok (.aload_n 0, 1) := by decide +kernel
theorem dX4_removeFreeze_36 : decode cX4_removeFreeze 36 = .ok (.bipush 121, 2) := by decide +kernel
theorem dX4_removeFreeze_38 : decode cX4_removeFreeze 38 = .ok (.bipush 15, 2) := by decide +kernel
theorem dX4_removeFreeze_40 : decode cX4_removeFreeze 40 = .ok (.iload_n 1, 1) := by decide +kernel
theorem dX4_removeFreeze_41 : decode cX4_removeFreeze 41 = .ok (.invokevirtual 67, 3) := by decide +kernel
theorem dX4_removeFreeze_44 : decode cX4_removeFreeze 44 = .ok (.ireturn, 1) := by decide +kernel
theorem dX4_pass_0 : decode cX4_pass 0 = .ok (.aload_n 0, 1) := by decide +kernel
theorem dX4_pass_1 : decode cX4_pass 1 = .ok (.iload_n 1, 1) := by decide +kernel
theorem dX4_pass_2 : decode cX4_pass 2 = .ok (.iconst 1, 1) := by decide +kernel
theorem dX4_pass_3 : decode cX4_pass 3 = .ok (.bipush 99, 2) := by decide +kernel
theorem dX4_pass_5 : decode cX4_pass 5 = .ok (.invokestatic 43, 3) := by decide +kernel
theorem dX4_pass_8 : decode cX4_pass 8 = .ok (.ifCond .ne 7, 3) := by decide +kernel
theorem dX4_pass_11 : decode cX4_pass 11 = .ok (.iconst 1, 1) := by decide +kernel
theorem dX4_pass_12 : decode cX4_pass 12 = .ok (.goto 23, 3) := by decide +kernel
theorem dX4_pass_15 : decode cX4_pass 15 = .ok (.aload_n 0, 1) := by decide +kernel
theorem dX4_pass_16 : decode cX4_pass 16 = .ok (.getfield 7, 3) := by decide +kernel
theorem dX4_pass_19 : decode cX4_pass 19 = .ok (.bipush 12, 2) := by decide +kernel
theorem dX4_pass_21 : decode cX4_pass 21 = .ok (.iaload, 1) := by decide +kernel
theorem dX4_pass_22 : decode cX4_pass 22 = .ok (.iload_n 1, 1) := by decide +kernel
theorem dX4_pass_23 : decode cX4_pass 23 = .ok (.iadd, 1) := by decide +kernel
theorem dX4_pass_24 : decode cX4_pass 24 = .ok (.sipush 2000, 3) := by decide +kernel
theorem dX4_pass_27 : decode cX4_pass 27 = .ok (.if_icmp .le 7, 3) := by decide +kernel
theorem dX4_pass_30 : decode cX4_pass 30 = .ok (.iconst 2, 1) := by decide +kernel
theorem dX4_pass_31 : decode cX4_pass 31 = .ok (.goto 4, 3) := by decide +kernel
theorem dX4_pass_34 : decode cX4_pass 34 = .ok (.iconst 0, 1) := by decide +kernel
theorem dX4_pass_35 : decode cX4_pass 35 = .ok (.invokevirtual 36, 3) := by decide +kernel
theorem dX4_pass_38 : decode cX4_pass 38 = .ok (.ifCond .eq 5, 3) := by decide +kernel
theorem dX4_pass_41 : decode cX4_pass 41 = .ok (.iconst 0, 1) := by decide +kernel
theorem dX4_pass_42 : decode cX4_pass 42 = .ok (.ireturn, 1) := by decide +kernel
theorem dX4_pass_43 : decode cX4_pass 43 = .ok (.aload_n 0, 1) := by decide +kernel
theorem dX4_pass_44 : decode cX4_pass 44 = .ok (.invokevirtual 40, 3) := by decide +kernel
theorem dX4_pass_47 : decode cX4_pass 47 = .ok (.aload_n 0, 1) := by decide +kernel
theorem dX4_pass_48 : decode cX4_pass 48 = .ok (.getfield 7, 3) := by decide +kernel
theorem dX4_pass_51 : decode cX4_pass 51 = .ok (.bipush 12, 2) := by decide +kernel
theorem dX4_pass_53 : decode cX4_pass 53 = .ok (.dup2, 1) := by decide +kernel
theorem dX4_pass_54 : decode cX4_pass 54 = .ok (.iaload, 1) := by decide +kernel
theorem dX4_pass_55 : decode cX4_pass 55 = .ok (.iload_n 1, 1) := by decide +kernel
theorem dX4_pass_56 : decode cX4_pass 56 = .ok (.iadd, 1) := by decide +kernel
theorem dX4_pass_57 : decode cX4_pass 57 = .ok (.iastore, 1) := by decide +kernel
theorem dX4_pass_58 : decode cX4_pass 58 = .ok (.aload_n 0, 1) := by decide +kernel
theorem dX4_pass_59 : decode cX4_pass 59 = .ok (.getfield 7, 3) := by decide +kernel
theorem dX4_pass_62 : decode cX4_pass 62 = .ok (.bipush 12, 2) := by decide +kernel
theorem dX4_pass_64 : decode cX4_pass 64 = .ok (.iaload, 1) := by decide +kernel
theorem dX4_pass_65 : decode cX4_pass 65 = .ok (.ireturn, 1) := by decide +kernel
theorem dX4_isFrozen_0 : decode cX4_isFrozen 0 = .ok (.iconst 0, 1) := by decide +kernel
theorem dX4_isFrozen_1 : decode cX4_isFrozen 1 = .ok (.istore_n 2, 1) := by decide +kernel
theorem dX4_isFrozen_2 : decode cX4_isFrozen 2 = .ok (.iconst 0, 1) := by decide +kernel
theorem dX4_isFrozen_3 : decode cX4_isFrozen 3 = .ok (.istore_n 3, 1) := by decide +kernel
theorem dX4_isFrozen_4 : decode cX4_isFrozen 4 = .ok (.iload_n 3, 1) := by decide +kernel
theorem dX4_isFrozen_5 : decode cX4_isFrozen 5 = .ok (.aload_n 0, 1) := by decide +kernel
theorem dX4_isFrozen_6 : decode cX4_isFrozen 6 = .ok (.getfield 7, 3) := by decide +kernel
theorem dX4_isFrozen_9 : decode cX4_isFrozen 9 = .ok (.bipush 15, 2) := by decide +kernel
theorem dX4_isFrozen_11 : decode cX4_isFrozen 11 = .ok (.iaload, 1) := by decide +kernel
theorem dX4_isFrozen_12 : decode cX4_isFrozen 12 = .ok (.if_icmp .ge 86, 3) := by decide +kernel
theorem dX4_isFrozen_15 : decode cX4_isFrozen 15 = .ok (.bipush 121, 2) := by decide +kernel
theorem dX4_isFrozen_17 : decode cX4_isFrozen 17 = .ok (.iconst 3, 1) := by decide +kernel
theorem dX4_isFrozen_18 : decode cX4_isFrozen 18 = .ok (.iload_n 3, 1) := by decide +kernel
theorem dX4_isFrozen_19 : decode cX4_isFrozen 19 = .ok (.imul, 1) := by decide +kernel
theorem dX4_isFrozen_20 : decode cX4_isFrozen 20 = .ok (.iadd, 1) := by decide +kernel
theorem dX4_isFrozen_21 : decode cX4_isFrozen 21 = .ok (.istore 4, 2) := by decide +kernel
theorem dX4_isFrozen_23 : decode cX4_isFrozen 23 = .ok (.iload_n 2, 1) := by decide +kernel
theorem dX4_isFrozen_24 : decode cX4_isFrozen 24 = .ok (.ifCond .ne 62, 3) := by decide +kernel
theorem dX4_isFrozen_27 : decode cX4_isFrozen 27 = .ok (.aload_n 0, 1) := by decide +kernel
theorem dX4_isFrozen_28 : decode cX4_isFrozen 28 = .ok (.getfield 7, 3) := by decide +kernel
theorem dX4_isFrozen_31 : decode cX4_isFrozen 31 = .ok (.iload 4, 2) := by decide +kernel
theorem dX4_isFrozen_33 : decode cX4_isFrozen 33 = .ok (.iaload, 1) := by decide +kernel
theorem dX4_isFrozen_34 : decode cX4_isFrozen 34 = .ok (.aload_n 0, 1) := by decide +kernel
theorem dX4_isFrozen_35 : decode cX4_isFrozen 35 = .ok (.iload_n 1, 1) := by decide +kernel
theorem dX4_isFrozen_36 : decode cX4_isFrozen 36 = .ok (.iconst 3, 1) := by decide +kernel
theorem dX4_isFrozen_37 : decode cX4_isFrozen 37 = .ok (.invokevirtual 71, 3) := by decide +kernel
theorem dX4_isFrozen_40 : decode cX4_isFrozen 40 = .ok (.if_icmp .ne 50, 3) := by decide +kernel
theorem dX4_isFrozen_43 : decode cX4_isFrozen 43 = .ok (.aload_n 0, 1) := by decide +kernel
theorem dX4_isFrozen_44 : decode cX4_isFrozen 44 = .ok (.getfield 7, 3) := by decide +kernel
theorem dX4_isFrozen_47 : decode cX4_isFrozen 47 = .ok (.bipush 12, 2) := by decide +kernel
theorem dX4_isFrozen_49 : decode cX4_isFrozen 49 = .ok (.iaload, 1) := by decide +kernel
theorem dX4_isFrozen_50 : decode cX4_isFrozen 50 = .ok (.aload_n 0, 1) := by decide +kernel
theorem dX4_isFrozen_51 : decode cX4_isFrozen 51 = .ok (.getfield 7, 3) := by decide +kernel
theorem dX4_isFrozen_54 : decode cX4_isFrozen 54 = .ok (.iload 4, 2) := by decide +kernel
theorem dX4_isFrozen_56 : decode cX4_isFrozen 56 = .ok (.iconst 1, 1) := by decide +kernel
theorem dX4_isFrozen_57 : decode cX4_isFrozen 57 = .ok (.iadd, 1) := by decide +kernel
theorem dX4_isFrozen_58 : decode cX4_isFrozen 58 = .ok (.iaload, 1) := by decide +kernel
theorem dX4_isFrozen_59 : decode cX4_isFrozen 59 = .ok (.aload_n 0, 1) := by decide +kernel
theorem dX4_isFrozen_60 : decode cX4_isFrozen 60 = .ok (.getfield 7, 3) := by decide +kernel
theorem dX4_isFrozen_63 : decode cX4_isFrozen 63 = .ok (.iload 4, 2) := by decide +kernel
theorem dX4_isFrozen_65 : decode cX4_isFrozen 65 = .ok (.iconst 1, 1) := by decide +kernel
theorem dX4_isFrozen_66 : decode cX4_isFrozen 66 = .ok (.iadd, 1) := by decide +kernel
theorem dX4_isFrozen_67 : decode cX4_isFrozen 67 = .ok (.iaload, 1) := by decide +kernel
theorem dX4_isFrozen_68 : decode cX4_isFrozen 68 = .ok (.aload_n 0, 1) := by decide +kernel
theorem dX4_isFrozen_69 : decode cX4_isFrozen 69 = .ok (.getfield 7, 3) := by decide +kernel
theorem dX4_isFrozen_72 : decode cX4_isFrozen 72 = .ok (.iload 4, 2) := by decide +kernel
theorem dX4_isFrozen_74 : decode cX4_isFrozen 74 = .ok (.iconst 2, 1) := by decide +kernel
theorem dX4_isFrozen_75 : decode cX4_isFrozen 75 = .ok (.iadd, 1) := by decide +kernel
theorem dX4_isFrozen_76 : decode cX4_isFrozen 76 = .ok (.iaload, 1) := by decide +kernel
theorem dX4_isFrozen_77 : decode cX4_isFrozen 77 = .ok (.iadd, 1) := by decide +kernel
theorem dX4_isFrozen_78 : decode cX4_isFrozen 78 = .ok (.iconst 1, 1) := by decide +kernel
theorem dX4_isFrozen_79 : decode cX4_isFrozen 79 = .ok (.isub, 1) := by decide +kernel
theorem dX4_isFrozen_80 : decode cX4_isFrozen 80 = .ok (.invokestatic 43, 3) := by decide +kernel
theorem dX4_isFrozen_83 : decode cX4_isFrozen 83 = .ok (.ifCond .eq 7, 3) := by decide +kernel
theorem dX4_isFrozen_86 : decode cX4_isFrozen 86 = .ok (.iconst 1, 1) := by decide +kernel
theorem dX4_isFrozen_87 : decode cX4_isFrozen 87 = .ok (.goto 4, 3) := by decide +kernel
theorem dX4_isFrozen_90 : decode cX4_isFrozen 90 = .ok (.iconst 0, 1) := by decide +kernel
theorem dX4_isFrozen_91 : decode cX4_isFrozen 91 = .ok (.istore_n 2, 1) := by decide +kernel
theorem dX4_isFrozen_92 : decode cX4_isFrozen 92 = .ok (.iinc 3 1, 3) := by decide +kernel
theorem dX4_isFrozen_95 : decode cX4_isFrozen 95 = .ok (.goto (-91), 3) := by decide +kernel
theorem dX4_isFrozen_98 : decode cX4_isFrozen 98 = .ok (.iload_n 2, 1) := by decide +kernel
theorem dX4_isFrozen_99 : decode cX4_isFrozen 99 = .ok (.ireturn, 1) := by decide +kernel
theorem dX4_cablesOf_0 : decode cX4_cablesOf 0 = .ok (.iconst 0, 1) := by decide +kernel
theorem dX4_cablesOf_1 : decode cX4_cablesOf 1 = .ok (.istore_n 2, 1) := by decide +kernel
theorem dX4_cablesOf_2 : decode cX4_cablesOf 2 = .ok (.iconst 0, 1) := by decide +kernel
theorem dX4_cablesOf_3 : decode cX4_cablesOf 3 = .ok (.istore_n 3, 1) := by decide +kernel
theorem dX4_cablesOf_4 : decode cX4_cablesOf 4 = .ok (.iload_n 3, 1) := by decide +kernel
theorem dX4_cablesOf_5 : decode cX4_cablesOf 5 = .ok (.aload_n 0, 1) := by decide +kernel
theorem dX4_cablesOf_6 : decode cX4_cablesOf 6 = .ok (.getfield 7, 3) := by decide +kernel
theorem dX4_cablesOf_9 : decode cX4_cablesOf 9 = .ok (.bipush 14, 2) := by decide +kernel
theorem dX4_cablesOf_11 : decode cX4_cablesOf 11 = .ok (.iaload, 1) := by decide +kernel
theorem dX4_cablesOf_12 : decode cX4_cablesOf 12 = .ok (.if_icmp .ge 49, 3) := by decide +kernel
theorem dX4_cablesOf_15 : decode cX4_cablesOf 15 = .ok (.iload_n 2, 1) := by decide +kernel
theorem dX4_cablesOf_16 : decode cX4_cablesOf 16 = .ok (.aload_n 0, 1) := by decide +kernel
theorem dX4_cablesOf_17 : decode cX4_cablesOf 17 = .ok (.getfield 7, 3) := by decide +kernel
theorem dX4_cablesOf_20 : decode cX4_cablesOf 20 = .ok (.bipush 91, 2) := by decide +kernel
theorem dX4_cablesOf_22 : decode cX4_cablesOf 22 = .ok (.iconst 3, 1) := by decide +kernel
theorem dX4_cablesOf_23 : decode cX4_cablesOf 23 = .ok (.iload_n 3, 1) := by decide +kernel
theorem dX4_cablesOf_24 : decode cX4_cablesOf 24 = .ok (.imul, 1) := by decide +kernel
theorem dX4_cablesOf_25 : decode cX4_cablesOf 25 = .ok (.iadd, 1) := by decide +kernel
theorem dX4_cablesOf_26 : decode cX4_cablesOf 26 = .ok (.iaload, 1) := by decide +kernel
theorem dX4_cablesOf_27 : decode cX4_cablesOf 27 = .ok (.iload_n 1, 1) := by decide +kernel
theorem dX4_cablesOf_28 : decode cX4_cablesOf 28 = .ok (.if_icmp .eq 20, 3) := by decide +kernel
theorem dX4_cablesOf_31 : decode cX4_cablesOf 31 = .ok (.aload_n 0, 1) := by decide +kernel
theorem dX4_cablesOf_32 : decode cX4_cablesOf 32 = .ok (.getfield 7, 3) := by decide +kernel
theorem dX4_cablesOf_35 : decode cX4_cablesOf 35 = .ok (.bipush 91, 2) := by decide +kernel
theorem dX4_cablesOf_37 : decode cX4_cablesOf 37 = .ok (.iconst 3, 1) := by decide +kernel
theorem dX4_cablesOf_38 : decode cX4_cablesOf 38 = .ok (.iload_n 3, 1) := by decide +kernel
theorem dX4_cablesOf_39 : decode cX4_cablesOf 39 = .ok (.imul, 1) := by decide +kernel
theorem dX4_cablesOf_40 : decode cX4_cablesOf 40 = .ok (.iadd, 1) := by decide +kernel
theorem dX4_cablesOf_41 : decode cX4_cablesOf 41 = .ok (.iconst 1, 1) := by decide +kernel
theorem dX4_cablesOf_42 : decode cX4_cablesOf 42 = .ok (.iadd, 1) := by decide +kernel
theorem dX4_cablesOf_43 : decode cX4_cablesOf 43 = .ok (.iaload, 1) := by decide +kernel
theorem dX4_cablesOf_44 : decode cX4_cablesOf 44 = .ok (.iload_n 1, 1) := by decide +kernel
theorem dX4_cablesOf_45 : decode cX4_cablesOf 45 = .ok (.if_icmp .ne 7, 3) := by decide +kernel
theorem dX4_cablesOf_48 : decode cX4_cablesOf 48 = .ok (.iconst 1, 1) := by decide +kernel
theorem dX4_cablesOf_49 : decode cX4_cablesOf 49 = .ok (.goto 4, 3) := by decide +kernel
theorem dX4_cablesOf_52 : decode cX4_cablesOf 52 = .ok (.iconst 0, 1) := by decide +kernel
theorem dX4_cablesOf_53 : decode cX4_cablesOf 53 = .ok (.iadd, 1) := by decide +kernel
theorem dX4_cablesOf_54 : decode cX4_cablesOf 54 = .ok (.istore_n 2, 1) := by decide +kernel
theorem dX4_cablesOf_55 : decode cX4_cablesOf 55 = .ok (.iinc 3 1, 3) := by decide +kernel
theorem dX4_cablesOf_58 : decode cX4_cablesOf 58 = .ok (.goto (-54), 3) := by decide +kernel
theorem dX4_cablesOf_61 : decode cX4_cablesOf 61 = .ok (.iload_n 2, 1) := by decide +kernel
theorem dX4_cablesOf_62 : decode cX4_cablesOf 62 = .ok (.ireturn, 1) := by decide +kernel
theorem dX4_tellMachine_0 : decode cX4_tellMachine 0 = .ok (.iload_n 2, 1) := by decide +kernel
theorem dX4_tellMachine_1 : decode cX4_tellMachine 1 = .ok (.bipush 6, 2) := by decide +kernel
theorem dX4_tellMachine_3 : decode cX4_tellMachine 3 = .ok (.if_icmp .ge 12, 3) := by decide +kernel
theorem dX4_tellMachine_6 : decode cX4_tellMachine 6 = .ok (.aload_n 0, 1) := by decide +kernel
theorem dX4_tellMachine_7 : decode cX4_tellMachine 7 = .ok (.iload_n 1, 1) := by decide +kernel
theorem dX4_tellMachine_8 : decode cX4_tellMachine 8 = .ok (.iload_n 2, 1) := by decide +kernel
theorem dX4_tellMachine_9 : decode cX4_tellMachine 9 = .ok (.invokevirtual 71, 3) := by decide +kernel
theorem dX4_tellMachine_12 : decode cX4_tellMachine 12 = .ok (.goto 30, 3) := by decide +kernel
theorem dX4_tellMachine_15 : decode cX4_tellMachine 15 = .ok (.iload_n 2, 1) := by decide +kernel
theorem dX4_tellMachine_16 : decode cX4_tellMachine 16 = .ok (.bipush 6, 2) := by decide +kernel
theorem dX4_tellMachine_18 : decode cX4_tellMachine 18 = .ok (.if_icmp .ne 19, 3) := by decide +kernel
theorem dX4_tellMachine_21 : decode cX4_tellMachine 21 = .ok (.aload_n 0, 1) := by decide +kernel
theorem dX4_tellMachine_22 : decode cX4_tellMachine 22 = .ok (.iload_n 1, 1) := by decide +kernel
theorem dX4_tellMachine_23 : decode cX4_tellMachine 23 = .ok (.invokevirtual 74, 3) := by decide +kernel
theorem dX4_tellMachine_26 : decode cX4_tellMachine 26 = .ok (.ifCond .eq 7, 3) := by decide +kernel
theorem dX4_tellMachine_29 : decode cX4_tellMachine 29 = .ok (.iconst 1, 1) := by decide +kernel
theorem dX4_tellMachine_30 : decode cX4_tellMachine 30 = .ok (.goto 12, 3) := by decide +kernel
theorem dX4_tellMachine_33 : decode cX4_tellMachine 33 = .ok (.iconst 0, 1) := by decide +kernel
theorem dX4_tellMachine_34 : decode cX4_tellMachine 34 = .ok (.goto 8, 3) := by decide +kernel
theorem dX4_tellMachine_37 : decode cX4_tellMachine 37 = .ok (.aload_n 0, 1) := by decide +kernel
theorem dX4_tellMachine_38 : decode cX4_tellMachine 38 = .ok (.iload_n 1, 1) := by decide +kernel
theorem dX4_tellMachine_39 : decode cX4_tellMachine 39 = .ok (.invokevirtual 77, 3) := by decide +kernel
theorem dX4_tellMachine_42 : decode cX4_tellMachine 42 = .ok (.ireturn, 1) := by decide +kernel
theorem dX4_machine_0 : decode cX4_machine 0 = .ok (.aload_n 0, 1) := by decide +kernel
theorem dX4_machine_1 : decode cX4_machine 1 = .ok (.aload_n 0, 1) := by decide +kernel
theorem dX4_machine_2 : decode cX4_machine 2 = .ok (.iload_n 1, 1) := by decide +kernel
theorem dX4_machine_3 : decode cX4_machine 3 = .ok (.invokevirtual 57, 3) := by decide +kernel
theorem dX4_machine_6 : decode cX4_machine 6 = .ok (.ifCond .ne 7, 3) := by decide +kernel
theorem dX4_machine_9 : decode cX4_machine 9 = .ok (.iconst 1, 1) := by decide +kernel
theorem dX4_machine_10 : decode cX4_machine 10 = .ok (.goto 18, 3) := by decide +kernel
theorem dX4_machine_13 : decode cX4_machine 13 = .ok (.iload_n 2, 1) := by decide +kernel
theorem dX4_machine_14 : decode cX4_machine 14 = .ok (.iconst 0, 1) := by decide +kernel
theorem dX4_machine_15 : decode cX4_machine 15 = .ok (.bipush 7, 2) := by decide +kernel
theorem dX4_machine_17 : decode cX4_machine 17 = .ok (.invokestatic 43, 3) := by decide +kernel
theorem dX4_machine_20 : decode cX4_machine 20 = .ok (.ifCond .eq 7, 3) := by decide +kernel
theorem dX4_machine_23 : decode cX4_machine 23 = .ok (.iconst 0, 1) := by decide +kernel
theorem dX4_machine_24 : decode cX4_machine 24 = .ok (.goto 4, 3) := by decide +kernel
theorem dX4_machine_27 : decode cX4_machine 27 = .ok (.iconst 2, 1) := by decide +kernel
theorem dX4_machine_28 : decode cX4_machine 28 = .ok (.invokevirtual 36, 3) := by decide +kernel
theorem dX4_machine_31 : decode cX4_machine 31 = .ok (.ifCond .eq 7, 3) := by decide +kernel
theorem dX4_machine_34 : decode cX4_machine 34 = .ok (.iconst 0, 1) := by decide +kernel
theorem dX4_machine_35 : decode cX4_machine 35 = .ok (.goto 9, 3) := by decide +kernel
theorem dX4_machine_38 : decode cX4_machine 38 = .ok (.aload_n 0, 1) := by decide +kernel
theorem dX4_machine_39 : decode cX4_machine 39 = .ok (.iload_n 1, 1) := by decide +kernel
theorem dX4_machine_40 : decode cX4_machine 40 = .ok (.iload_n 2, 1) := by decide +kernel
theorem dX4_machine_41 : decode cX4_machine 41 = .ok (.invokevirtual 81, 3) := by decide +kernel
theorem dX4_machine_44 : decode cX4_machine 44 = .ok (.ireturn, 1) := by decide +kernel
theorem dX4_load_0 : decode cX4_load 0 = .ok (.iconst 0, 1) := by decide +kernel
theorem dX4_load_1 : decode cX4_load 1 = .ok (.istore_n 3, 1) := by decide +kernel
theorem dX4_load_2 : decode cX4_load 2 = .ok (.iconst 0, 1) := by decide +kernel
theorem dX4_load_3 : decode cX4_load 3 = .ok (.istore 4, 2) := by decide +kernel
theorem dX4_load_5 : decode cX4_load 5 = .ok (.iload 4, 2) := by decide +kernel
theorem dX4_load_7 : decode cX4_load 7 = .ok (.aload_n 0, 1) := by decide +kernel
theorem dX4_load_8 : decode cX4_load 8 = .ok (.getfield 7, 3) := by decide +kernel
theorem dX4_load_11 : decode cX4_load 11 = .ok (.bipush 13, 2) := by decide +kernel
theorem dX4_load_13 : decode cX4_load 13 = .ok (.iaload, 1) := by decide +kernel
theorem dX4_load_14 : decode cX4_load 14 = .ok (.if_icmp .ge 78, 3) := by decide +kernel
theorem dX4_load_17 : decode cX4_load 17 = .ok (.aload_n 0, 1) := by decide +kernel
theorem dX4_load_18 : decode cX4_load 18 = .ok (.iload 4, 2) := by decide +kernel
theorem dX4_load_20 : decode cX4_load 20 = .ok (.iconst 4, 1) := by decide +kernel
theorem dX4_load_21 : decode cX4_load 21 = .ok (.invokevirtual 71, 3) := by decide +kernel
theorem dX4_load_24 : decode cX4_load 24 = .ok (.iconst (-1), 1) := by decide +kernel
theorem dX4_load_25 : decode cX4_load 25 = .ok (.if_icmp .eq 39, 3) := by decide +kernel
theorem dX4_load_28 : decode cX4_load 28 = .ok (.iload_n 1, 1) := by decide +kernel
theorem dX4_load_29 : decode cX4_load 29 = .ok (.iconst (-1), 1) := by decide +kernel
theorem dX4_load_30 : decode cX4_load 30 = .ok (.if_icmp .eq 14, 3) := by decide +kernel
theorem dX4_load_33 : decode cX4_load 33 = .ok (.aload_n 0, 1) := by decide +kernel
theorem dX4_load_34 : decode cX4_load 34 = .ok (.iload 4, 2) := by decide +kernel
theorem dX4_load_36 : decode cX4_load 36 = .ok (.iconst 4, 1) := by decide +kernel
theorem dX4_load_37 : decode cX4_load 37 = .ok (.invokevirtual 71, 3) := by decide +kernel
theorem dX4_load_40 : decode cX4_load 40 = .ok (.iload_n 1, 1) := by decide +kernel
theorem dX4_load_41 : decode cX4_load 41 = .ok (.if_icmp .ne 23, 3) := by decide +kernel
theorem dX4_load_44 : decode cX4_load 44 = .ok (.iload_n 2, 1) := by decide +kernel
theorem dX4_load_45 : decode cX4_load 45 = .ok (.iconst (-1), 1) := by decide +kernel
theorem dX4_load_46 : decode cX4_load 46 = .ok (.if_icmp .eq 14, 3) := by decide +kernel
theorem dX4_load_49 : decode cX4_load 49 = .ok (.aload_n 0, 1) := by decide +kernel
theorem dX4_load_50 : decode cX4_load 50 = .ok (.iload 4, 2) := by decide +kernel
theorem dX4_load_52 : decode cX4_load 52 = .ok (.iconst 2, 1) := by decide +kernel
theorem dX4_load_53 : decode cX4_load 53 = .ok (.invokevirtual 71, 3) := by decide +kernel
theorem dX4_load_56 : decode cX4_load 56 = .ok (.iload_n 2, 1) := by decide +kernel
theorem dX4_load_57 : decode cX4_load 57 = .ok (.if_icmp .ne 7, 3) := by decide +kernel
theorem dX4_load_60 : decode cX4_load 60 = .ok (.iconst 1, 1) := by decide +kernel
theorem dX4_load_61 : decode cX4_load 61 = .ok (.goto 4, 3) := by decide +kernel
theorem dX4_load_64 : decode cX4_load 64 = .ok (.iconst 0, 1) := by decide +kernel
theorem dX4_load_65 : decode cX4_load 65 = .ok (.istore 5, 2) := by decide +kernel
theorem dX4_load_67 : decode cX4_load 67 = .ok (.iload_n 3, 1) := by decide +kernel
theorem dX4_load_68 : decode cX4_load 68 = .ok (.iload 5, 2) := by decide +kernel
theorem dX4_load_70 : decode cX4_load 70 = .ok (.ifCond .eq 13, 3) := by decide +kernel
theorem dX4_load_73 : decode cX4_load 73 = .ok (.aload_n 0, 1) := by decide +kernel
theorem dX4_load_74 : decode cX4_load 74 = .ok (.iload 4, 2) := by decide +kernel
theorem dX4_load_76 : decode cX4_load 76 = .ok (.iconst 1, 1) := by decide +kernel
theorem dX4_load_77 : decode cX4_load 77 = .ok (.invokevirtual 71, 3) := by decide +kernel
theorem dX4_load_80 : decode cX4_load 80 = .ok (.goto 4, 3) := by decide +kernel
theorem dX4_load_83 : decode cX4_load 83 = .ok (.iconst 0, 1) := by decide +kernel
theorem dX4_load_84 : decode cX4_load 84 = .ok (.iadd, 1) := by decide +kernel
theorem dX4_load_85 : decode cX4_load 85 = .ok (.istore_n 3, 1) := by decide +kernel
theorem dX4_load_86 : decode cX4_load 86 = .ok (.iinc 4 1, 3) := by decide +kernel
theorem dX4_load_89 : decode cX4_load 89 = .ok (.goto (-84), 3) := by decide +kernel
theorem dX4_load_92 : decode cX4_load 92 = .ok (.iload_n 3, 1) := by decide +kernel
theorem dX4_load_93 : decode cX4_load 93 = .ok (.ireturn, 1) := by decide +kernel
theorem dX4_machineAt_0 : decode cX4_machineAt 0 = .ok (.iconst 0, 1) := by decide +kernel
theorem dX4_machineAt_1 : decode cX4_machineAt 1 = .ok (.istore_n 3, 1) := by decide +kernel
theorem dX4_machineAt_2 : decode cX4_machineAt 2 = .ok (.iload_n 3, 1) := by decide +kernel
theorem dX4_machineAt_3 : decode cX4_machineAt 3 = .ok (.aload_n 0, 1) := by decide +kernel
theorem dX4_machineAt_4 : decode cX4_machineAt 4 = .ok (.getfield 7, 3) := by decide +kernel
theorem dX4_machineAt_7 : decode cX4_machineAt 7 = .ok (.bipush 13, 2) := by decide +kernel
theorem dX4_machineAt_9 : decode cX4_machineAt 9 = .ok (.iaload, 1) := by decide +kernel
theorem dX4_machineAt_10 : decode cX4_machineAt 10 = .ok (.if_icmp .ge 49, 3) := by decide +kernel
theorem dX4_machineAt_13 : decode cX4_machineAt 13 = .ok (.aload_n 0, 1) := by decide +kernel
theorem dX4_machineAt_14 : decode cX4_machineAt 14 = .ok (.iload_n 3, 1) := by decide +kernel
theorem dX4_machineAt_15 : decode cX4_machineAt 15 = .ok (.iconst 4, 1) := by decide +kernel
theorem dX4_machineAt_16 : decode cX4_machineAt 16 = .ok (.invokevirtual 71, 3) := by decide +kernel
theorem dX4_machineAt_19 : decode cX4_machineAt 19 = .ok (.iload_n 1, 1) := by decide +kernel
theorem dX4_machineAt_20 : decode cX4_machineAt 20 = .ok (.if_icmp .ne 33, 3) := by decide +kernel
theorem dX4_machineAt_23 : decode cX4_machineAt 23 = .ok (.iload_n 2, 1) := by decide +kernel
theorem dX4_machineAt_24 : decode cX4_machineAt 24 = .ok (.aload_n 0, 1) := by decide +kernel
theorem dX4_machineAt_25 : decode cX4_machineAt 25 = .ok (.iload_n 3, 1) := by decide +kernel
theorem dX4_machineAt_26 : decode cX4_machineAt 26 = .ok (.iconst 5, 1) := by decide +kernel
theorem dX4_machineAt_27 : decode cX4_machineAt 27 = .ok (.invokevirtual 71, 3) := by decide +kernel
theorem dX4_machineAt_30 : decode cX4_machineAt 30 = .ok (.aload_n 0, 1) := by decide +kernel
theorem dX4_machineAt_31 : decode cX4_machineAt 31 = .ok (.iload_n 3, 1) := by decide +kernel
theorem dX4_machineAt_32 : decode cX4_machineAt 32 = .ok (.iconst 5, 1) := by decide +kernel
theorem dX4_machineAt_33 : decode cX4_machineAt 33 = .ok (.invokevirtual 71, 3) := by decide +kernel
theorem dX4_machineAt_36 : decode cX4_machineAt 36 = .ok (.aload_n 0, 1) := by decide +kernel
theorem dX4_machineAt_37 : decode cX4_machineAt 37 = .ok (.iload_n 3, 1) := by decide +kernel
theorem dX4_machineAt_38 : decode cX4_machineAt 38 = .ok (.iconst 0, 1) := by decide +kernel
theorem dX4_machineAt_39 : decode cX4_machineAt 39 = .ok (.invokevirtual 71, 3) := by decide +kernel
theorem dX4_machineAt_42 : decode cX4_machineAt 42 = .ok (.iadd, 1) := by decide +kernel
theorem dX4_machineAt_43 : decode cX4_machineAt 43 = .ok (.iconst 1, 1) := by decide +kernel
theorem dX4_machineAt_44 : decode cX4_machineAt 44 = .ok (.isub, 1) := by decide +kernel
theorem dX4_machineAt_45 : decode cX4_machineAt 45 = .ok (.invokestatic 43, 3) := by decide +kernel
theorem dX4_machineAt_48 : decode cX4_machineAt 48 = .ok (.ifCond .eq 5, 3) := by decide +kernel
theorem dX4_machineAt_51 : decode cX4_machineAt 51 = .ok (.iload_n 3, 1) := by decide +kernel
theorem dX4_machineAt_52 : decode cX4_machineAt 52 = .ok (.ireturn, 1) := by decide +kernel
theorem dX4_machineAt_53 : decode cX4_machineAt 53 = .ok (.iinc 3 1, 3) := by decide +kernel
theorem dX4_machineAt_56 : decode cX4_machineAt 56 = .ok (.goto (-54), 3) := by decide +kernel
theorem dX4_machineAt_59 : decode cX4_machineAt 59 = .ok (.iconst (-1), 1) := by decide +kernel
theorem dX4_machineAt_60 : decode cX4_machineAt 60 = .ok (.ireturn, 1) := by decide +kernel
theorem dX4_areFree_0 : decode cX4_areFree 0 = .ok (.iload_n 2, 1) := by decide +kernel
theorem dX4_areFree_1 : decode cX4_areFree 1 = .ok (.iload_n 3, 1) := by decide +kernel
theorem dX4_areFree_2 : decode cX4_areFree 2 = .ok (.iadd, 1) := by decide +kernel
theorem dX4_areFree_3 : decode cX4_areFree 3 = .ok (.bipush 10, 2) := by decide +kernel
theorem dX4_areFree_5 : decode cX4_areFree 5 = .ok (.if_icmp .gt 7, 3) := by decide +kernel
theorem dX4_areFree_8 : decode cX4_areFree 8 = .ok (.iconst 1, 1) := by decide +kernel
theorem dX4_areFree_9 : decode cX4_areFree 9 = .ok (.goto 4, 3) := by decide +kernel
theorem dX4_areFree_12 : decode cX4_areFree 12 = .ok (.iconst 0, 1) := by decide +kernel
theorem dX4_areFree_13 : decode cX4_areFree 13 = .ok (.istore 5, 2) := by decide +kernel
theorem dX4_areFree_15 : decode cX4_areFree 15 = .ok (.iload_n 2, 1) := by decide +kernel
theorem dX4_areFree_16 : decode cX4_areFree 16 = .ok (.istore 6, 2) := by decide +kernel
theorem dX4_areFree_18 : decode cX4_areFree 18 = .ok (.iload 6, 2) := by decide +kernel
theorem dX4_areFree_20 : decode cX4_areFree 20 = .ok (.iload_n 2, 1) := by decide +kernel
theorem dX4_areFree_21 : decode cX4_areFree 21 = .ok (.iload_n 3, 1) := by decide +kernel
theorem dX4_areFree_22 : decode cX4_areFree 22 = .ok (.iadd, 1) := by decide +kernel
theorem dX4_areFree_23 : decode cX4_areFree 23 = .ok (.if_icmp .ge 43, 3) := by decide +kernel
theorem dX4_areFree_26 : decode cX4_areFree 26 = .ok (.iload 5, 2) := by decide +kernel
theorem dX4_areFree_28 : decode cX4_areFree 28 = .ok (.ifCond .eq 38, 3) := by decide +kernel
theorem dX4_areFree_31 : decode cX4_areFree 31 = .ok (.aload_n 0, 1) := by decide +kernel
theorem dX4_areFree_32 : decode cX4_areFree 32 = .ok (.iload_n 1, 1) := by decide +kernel
theorem dX4_areFree_33 : decode cX4_areFree 33 = .ok (.iload 6, 2) := by decide +kernel
theorem dX4_areFree_35 : decode cX4_areFree 35 = .ok (.invokevirtual 84, 3) := by decide +kernel
theorem dX4_areFree_38 : decode cX4_areFree 38 = .ok (.istore 7, 2) := by decide +kernel
theorem dX4_areFree_40 : decode cX4_areFree 40 = .ok (.iload 7, 2) := by decide +kernel
theorem dX4_areFree_42 : decode cX4_areFree 42 = .ok (.iconst (-1), 1) := by decide +kernel
theorem dX4_areFree_43 : decode cX4_areFree 43 = .ok (.if_icmp .eq 10, 3) := by decide +kernel
theorem dX4_areFree_46 : decode cX4_areFree 46 = .ok (.iload 7, 2) := by decide +kernel
theorem dX4_areFree_48 : decode cX4_areFree 48 = .ok (.iload 4, 2) := by decide +kernel
theorem dX4_areFree_50 : decode cX4_areFree 50 = .ok (.if_icmp .ne 7, 3) := by decide +kernel
theorem dX4_areFree_53 : decode cX4_areFree 53 = .ok (.iconst 1, 1) := by decide +kernel
theorem dX4_areFree_54 : decode cX4_areFree 54 = .ok (.goto 4, 3) := by decide +kernel
theorem dX4_areFree_57 : decode cX4_areFree 57 = .ok (.iconst 0, 1) := by decide +kernel
theorem dX4_areFree_58 : decode cX4_areFree 58 = .ok (.istore 5, 2) := by decide +kernel
theorem dX4_areFree_60 : decode cX4_areFree 60 = .ok (.iinc 6 1, 3) := by decide +kernel
theorem dX4_areFree_63 : decode cX4_areFree 63 = .ok (.goto (-45), 3) := by decide +kernel
theorem dX4_areFree_66 : decode cX4_areFree 66 = .ok (.iload 5, 2) := by decide +kernel
theorem dX4_areFree_68 : decode cX4_areFree 68 = .ok (.ireturn, 1) := by decide +kernel
theorem dX4_lowest_0 : decode cX4_lowest 0 = .ok (.iconst 0, 1) := by decide +kernel
theorem dX4_lowest_1 : decode cX4_lowest 1 = .ok (.istore_n 3, 1) := by decide +kernel
theorem dX4_lowest_2 : decode cX4_lowest 2 = .ok (.iload_n 3, 1) := by decide +kernel
theorem dX4_lowest_3 : decode cX4_lowest 3 = .ok (.bipush 10, 2) := by decide +kernel
theorem dX4_lowest_5 : decode cX4_lowest 5 = .ok (.if_icmp .ge 22, 3) := by decide +kernel
theorem dX4_lowest_8 : decode cX4_lowest 8 = .ok (.aload_n 0, 1) := by decide +kernel
theorem dX4_lowest_9 : decode cX4_lowest 9 = .ok (.iload_n 1, 1) := by decide +kernel
theorem dX4_lowest_10 : decode cX4_lowest 10 = .ok (.iload_n 3, 1) := by decide +kernel
theorem dX4_lowest_11 : decode cX4_lowest 11 = .ok (.iload_n 2, 1) := by decide +kernel
theorem dX4_lowest_12 : decode cX4_lowest 12 = .ok (.iconst (-1), 1) := by decide +kernel
theorem dX4_lowest_13 : decode cX4_lowest 13 = .ok (.invokevirtual 87, 3) := by decide +kernel
theorem dX4_lowest_16 : decode cX4_lowest 16 = .ok (.ifCond .eq 5, 3) := by decide +kernel
theorem dX4_lowest_19 : decode cX4_lowest 19 = .ok (.iload_n 3, 1) := by decide +kernel
theorem dX4_lowest_20 : decode cX4_lowest 20 = .ok (.ireturn, 1) := by decide +kernel
theorem dX4_lowest_21 : decode cX4_lowest 21 = .ok (.iinc 3 1, 3) := by decide +kernel
theorem dX4_lowest_24 : decode cX4_lowest 24 = .ok (.goto (-22), 3) := by decide +kernel
theorem dX4_lowest_27 : decode cX4_lowest 27 = .ok (.iconst (-1), 1) := by decide +kernel
theorem dX4_lowest_28 : decode cX4_lowest 28 = .ok (.ireturn, 1) := by decide +kernel
theorem dX4_freeSlots_0 : decode cX4_freeSlots 0 = .ok (.iconst 0, 1) := by decide +kernel
theorem dX4_freeSlots_1 : decode cX4_freeSlots 1 = .ok (.istore_n 2, 1) := by decide +kernel
theorem dX4_freeSlots_2 : decode cX4_freeSlots 2 = .ok (.iconst 0, 1) := by decide +kernel
theorem dX4_freeSlots_3 : decode cX4_freeSlots 3 = .ok (.istore_n 3, 1) := by decide +kernel
theorem dX4_freeSlots_4 : decode cX4_freeSlots 4 = .ok (.iload_n 3, 1) := by decide +kernel
theorem dX4_freeSlots_5 : decode cX4_freeSlots 5 = .ok (.bipush 10, 2) := by decide +kernel
theorem dX4_freeSlots_7 : decode cX4_freeSlots 7 = .ok (.if_icmp .ge 27, 3) := by decide +kernel
theorem dX4_freeSlots_10 : decode cX4_freeSlots 10 = .ok (.iload_n 2, 1) := by decide +kernel
theorem dX4_freeSlots_11 : decode cX4_freeSlots 11 = .ok (.aload_n 0, 1) := by decide +kernel
theorem dX4_freeSlots_12 : decode cX4_freeSlots 12 = .ok (.iload_n 1, 1) := by decide +kernel
theorem dX4_freeSlots_13 : decode cX4_freeSlots 13 = .ok (.iload_n 3, 1) := by decide +kernel
theorem dX4_freeSlots_14 : decode cX4_freeSlots 14 = .ok (.invokevirtual 84, 3) := by decide +kernel
theorem dX4_freeSlots_17 : decode cX4_freeSlots 17 = .ok (.iconst (-1), 1) := by decide +kernel
theorem dX4_freeSlots_18 : decode cX4_freeSlots 18 = .ok (.if_icmp .ne 7, 3) := by decide +kernel
theorem dX4_freeSlots_21 : decode cX4_freeSlots 21 = .ok (.iconst 1, 1) := by decide +kernel
theorem dX4_freeSlots_22 : decode cX4_freeSlots 22 = .ok (.goto 4, 3) := by decide +kernel
theorem dX4_freeSlots_25 : decode cX4_freeSlots 25 = .ok (.iconst 0, 1) := by decide +kernel
theorem dX4_freeSlots_26 : decode cX4_freeSlots 26 = .ok (.iadd, 1) := by decide +kernel
theorem dX4_freeSlots_27 : decode cX4_freeSlots 27 = .ok (.istore_n 2, 1) := by decide +kernel
theorem dX4_freeSlots_28 : decode cX4_freeSlots 28 = .ok (.iinc 3 1, 3) := by decide +kernel
theorem dX4_freeSlots_31 : decode cX4_freeSlots 31 = .ok (.goto (-27), 3) := by decide +kernel
theorem dX4_freeSlots_34 : decode cX4_freeSlots 34 = .ok (.iload_n 2, 1) := by decide +kernel
theorem dX4_freeSlots_35 : decode cX4_freeSlots 35 = .ok (.ireturn, 1) := by decide +kernel
theorem dX4_machinesIn_0 : decode cX4_machinesIn 0 = .ok (.iconst 0, 1) := by decide +kernel
theorem dX4_machinesIn_1 : decode cX4_machinesIn 1 = .ok (.istore_n 2, 1) := by decide +kernel
theorem dX4_machinesIn_2 : decode cX4_machinesIn 2 = .ok (.iconst 0, 1) := by decide +kernel
theorem dX4_machinesIn_3 : decode cX4_machinesIn 3 = .ok (.istore_n 3, 1) := by decide +kernel
theorem dX4_machinesIn_4 : decode cX4_machinesIn 4 = .ok (.iload_n 3, 1) := by decide +kernel
theorem dX4_machinesIn_5 : decode cX4_machinesIn 5 = .ok (.aload_n 0, 1) := by decide +kernel
theorem dX4_machinesIn_6 : decode cX4_machinesIn 6 = .ok (.getfield 7, 3) := by decide +kernel
theorem dX4_machinesIn_9 : decode cX4_machinesIn 9 = .ok (.bipush 13, 2) := by decide +kernel
theorem dX4_machinesIn_11 : decode cX4_machinesIn 11 = .ok (.iaload, 1) := by decide +kernel
theorem dX4_machinesIn_12 : decode cX4_machinesIn 12 = .ok (.if_icmp .ge 27, 3) := by decide +kernel
theorem dX4_machinesIn_15 : decode cX4_machinesIn 15 = .ok (.iload_n 2, 1) := by decide +kernel
theorem dX4_machinesIn_16 : decode cX4_machinesIn 16 = .ok (.aload_n 0, 1) := by decide +kernel
theorem dX4_machinesIn_17 : decode cX4_machinesIn 17 = .ok (.iload_n 3, 1) := by decide +kernel
theorem dX4_machinesIn_18 : decode cX4_machinesIn 18 = .ok (.iconst 4, 1) := by decide +kernel
theorem dX4_machinesIn_19 : decode cX4_machinesIn 19 = .ok (.invokevirtual 71, 3) := by decide +kernel
theorem dX4_machinesIn_22 : decode cX4_machinesIn 22 = .ok (.iload_n 1, 1) := by decide +kernel
theorem dX4_machinesIn_23 : decode cX4_machinesIn 23 = .ok (.if_icmp .ne 7, 3) := by decide +kernel
theorem dX4_machinesIn_26 : decode cX4_machinesIn 26 = .ok (.iconst 1, 1) := by decide +kernel
theorem dX4_machinesIn_27 : decode cX4_machinesIn 27 = .ok (.goto 4, 3) := by decide +kernel
theorem dX4_machinesIn_30 : decode cX4_machinesIn 30 = .ok (.iconst 0, 1) := by decide +kernel
theorem dX4_machinesIn_31 : decode cX4_machinesIn 31 = .ok (.iadd, 1) := by decide +kernel
theorem dX4_machinesIn_32 : decode cX4_machinesIn 32 = .ok (.istore_n 2, 1) := by decide +kernel
theorem dX4_machinesIn_33 : decode cX4_machinesIn 33 = .ok (.iinc 3 1, 3) := by decide +kernel
theorem dX4_machinesIn_36 : decode cX4_machinesIn 36 = .ok (.goto (-32), 3) := by decide +kernel
theorem dX4_machinesIn_39 : decode cX4_machinesIn 39 = .ok (.iload_n 2, 1) := by decide +kernel
theorem dX4_machinesIn_40 : decode cX4_machinesIn 40 = .ok (.ireturn, 1) := by decide +kernel
theorem dX4_tellRack_0 : decode cX4_tellRack 0 = .ok (.iload_n 2, 1) := by decide +kernel
theorem dX4_tellRack_1 : decode cX4_tellRack 1 = .ok (.tableswitch 80 0 6 #[43, 52, 59, 59, 59, 68, 74], 43) := by decide +kernel
theorem dX4_tellRack_44 : decode cX4_tellRack 44 = .ok (.aload_n 0, 1) := by decide +kernel
theorem dX4_tellRack_45 : decode cX4_tellRack 45 = .ok (.getfield 7, 3) := by decide +kernel
theorem dX4_tellRack_48 : decode cX4_tellRack 48 = .ok (.iconst 0, 1) := by decide +kernel
theorem dX4_tellRack_49 : decode cX4_tellRack 49 = .ok (.iload_n 1, 1) := by decide +kernel
theorem dX4_tellRack_50 : decode cX4_tellRack 50 = .ok (.iadd, 1) := by decide +kernel
theorem dX4_tellRack_51 : decode cX4_tellRack 51 = .ok (.iaload, 1) := by decide +kernel
theorem dX4_tellRack_52 : decode cX4_tellRack 52 = .ok (.ireturn, 1) := by decide +kernel
theorem dX4_tellRack_53 : decode cX4_tellRack 53 = .ok (.aload_n 0, 1) := by decide +kernel
theorem dX4_tellRack_54 : decode cX4_tellRack 54 = .ok (.iload_n 1, 1) := by decide +kernel
theorem dX4_tellRack_55 : decode cX4_tellRack 55 = .ok (.iconst (-1), 1) := by decide +kernel
theorem dX4_tellRack_56 : decode cX4_tellRack 56 = .ok (.invokevirtual 91, 3) := by decide +kernel
theorem dX4_tellRack_59 : decode cX4_tellRack 59 = .ok (.ireturn, 1) := by decide +kernel
theorem dX4_tellRack_60 : decode cX4_tellRack 60 = .ok (.aload_n 0, 1) := by decide +kernel
theorem dX4_tellRack_61 : decode cX4_tellRack 61 = .ok (.iload_n 1, 1) := by decide +kernel
theorem dX4_tellRack_62 : decode cX4_tellRack 62 = .ok (.iload_n 2, 1) := by decide +kernel
theorem dX4_tellRack_63 : decode cX4_tellRack 63 = .ok (.iconst 2, 1) := by decide +kernel
theorem dX4_tellRack_64 : decode cX4_tellRack 64 = .ok (.isub, 1) := by decide +kernel
theorem dX4_tellRack_65 : decode cX4_tellRack 65 = .ok (.invokevirtual 91, 3) := by decide +kernel
theorem dX4_tellRack_68 : decode cX4_tellRack 68 = .ok (.ireturn, 1) := by decide +kernel
theorem dX4_tellRack_69 : decode cX4_tellRack 69 = .ok (.aload_n 0, 1) := by decide +kernel
theorem dX4_tellRack_70 : decode cX4_tellRack 70 = .ok (.iload_n 1, 1) := by decide +kernel
theorem dX4_tellRack_71 : decode cX4_tellRack 71 = .ok (.invokevirtual 94, 3) := by decide +kernel
theorem dX4_tellRack_74 : decode cX4_tellRack 74 = .ok (.ireturn, 1) := by decide +kernel
theorem dX4_tellRack_75 : decode cX4_tellRack 75 = .ok (.aload_n 0, 1) := by decide +kernel
theorem dX4_tellRack_76 : decode cX4_tellRack 76 = .ok (.iload_n 1, 1) := by decide +kernel
theorem dX4_tellRack_77 : decode cX4_tellRack 77 = .ok (.invokevirtual 97, 3) := by decide +kernel
theorem dX4_tellRack_80 : decode cX4_tellRack 80 = .ok (.ireturn, 1) := by decide +kernel
theorem dX4_tellRack_81 : decode cX4_tellRack 81 = .ok (.iconst 4, 1) := by decide +kernel
theorem dX4_tellRack_82 : decode cX4_tellRack 82 = .ok (.istore_n 3, 1) := by decide +kernel
theorem dX4_tellRack_83 : decode cX4_tellRack 83 = .ok (.iload_n 3, 1) := by decide +kernel
theorem dX4_tellRack_84 : decode cX4_tellRack 84 = .ok (.ifCond .le 19, 3) := by decide +kernel
theorem dX4_tellRack_87 : decode cX4_tellRack 87 = .ok (.aload_n 0, 1) := by decide +kernel
theorem dX4_tellRack_88 : decode cX4_tellRack 88 = .ok (.iload_n 1, 1) := by decide +kernel
theorem dX4_tellRack_89 : decode cX4_tellRack 89 = .ok (.iload_n 3, 1) := by decide +kernel
theorem dX4_tellRack_90 : decode cX4_tellRack 90 = .ok (.invokevirtual 100, 3) := by decide +kernel
theorem dX4_tellRack_93 : decode cX4_tellRack 93 = .ok (.iconst (-1), 1) := by decide +kernel
theorem dX4_tellRack_94 : decode cX4_tellRack 94 = .ok (.if_icmp .ne 9, 3) := by decide +kernel
theorem dX4_tellRack_97 : decode cX4_tellRack 97 = .ok (.iinc 3 (-1), 3) := by decide +kernel
theorem dX4_tellRack_100 : decode cX4_tellRack 100 = .ok (.goto (-17), 3) := by decide +kernel
theorem dX4_tellRack_103 : decode cX4_tellRack 103 = .ok (.iload_n 3, 1) := by decide +kernel
theorem dX4_tellRack_104 : decode cX4_tellRack 104 = .ok (.ireturn, 1) := by decide +kernel
theorem dX4_rack_0 : decode cX4_rack 0 = .ok (.aload_n 0, 1) := by decide +kernel
theorem dX4_rack_1 : decode cX4_rack 1 = .ok (.iload_n 1, 1) := by decide +kernel
theorem dX4_rack_2 : decode cX4_rack 2 = .ok (.invokestatic 47, 3) := by decide +kernel
theorem dX4_rack_5 : decode cX4_rack 5 = .ok (.ifCond .ne 7, 3) := by decide +kernel
theorem dX4_rack_8 : decode cX4_rack 8 = .ok (.iconst 1, 1) := by decide +kernel
theorem dX4_rack_9 : decode cX4_rack 9 = .ok (.goto 18, 3) := by decide +kernel
theorem dX4_rack_12 : decode cX4_rack 12 = .ok (.iload_n 2, 1) := by decide +kernel
theorem dX4_rack_13 : decode cX4_rack 13 = .ok (.iconst 0, 1) := by decide +kernel
theorem dX4_rack_14 : decode cX4_rack 14 = .ok (.bipush 7, 2) := by decide +kernel
theorem dX4_rack_16 : decode cX4_rack 16 = .ok (.invokestatic 43, 3) := by decide +kernel
theorem dX4_rack_19 : decode cX4_rack 19 = .ok (.ifCond .eq 7, 3) := by decide +kernel
theorem dX4_rack_22 : decode cX4_rack 22 = .ok (.iconst 0, 1) := by decide +kernel
theorem dX4_rack_23 : decode cX4_rack 23 = .ok (.goto 4, 3) := by decide +kernel
theorem dX4_rack_26 : decode cX4_rack 26 = .ok (.iconst 2, 1) := by decide +kernel
theorem dX4_rack_27 : decode cX4_rack 27 = .ok (.invokevirtual 36, 3) := by decide +kernel
theorem dX4_rack_30 : decode cX4_rack 30 = .ok (.ifCond .eq 7, 3) := by decide +kernel
theorem dX4_rack_33 : decode cX4_rack 33 = .ok (.iconst 0, 1) := by decide +kernel
theorem dX4_rack_34 : decode cX4_rack 34 = .ok (.goto 9, 3) := by decide +kernel
theorem dX4_rack_37 : decode cX4_rack 37 = .ok (.aload_n 0, 1) := by decide +kernel
theorem dX4_rack_38 : decode cX4_rack 38 = .ok (.iload_n 1, 1) := by decide +kernel
theorem dX4_rack_39 : decode cX4_rack 39 = .ok (.iload_n 2, 1) := by decide +kernel
theorem dX4_rack_40 : decode cX4_rack 40 = .ok (.invokevirtual 103, 3) := by decide +kernel
theorem dX4_rack_43 : decode cX4_rack 43 = .ok (.ireturn, 1) := by decide +kernel
theorem dX4_slot_0 : decode cX4_slot 0 = .ok (.aload_n 0, 1) := by decide +kernel
theorem dX4_slot_1 : decode cX4_slot 1 = .ok (.iload_n 1, 1) := by decide +kernel
theorem dX4_slot_2 : decode cX4_slot 2 = .ok (.invokestatic 47, 3) := by decide +kernel
theorem dX4_slot_5 : decode cX4_slot 5 = .ok (.ifCond .eq 17, 3) := by decide +kernel
theorem dX4_slot_8 : decode cX4_slot 8 = .ok (.iload_n 2, 1) := by decide +kernel
theorem dX4_slot_9 : decode cX4_slot 9 = .ok (.iconst 0, 1) := by decide +kernel
theorem dX4_slot_10 : decode cX4_slot 10 = .ok (.bipush 9, 2) := by decide +kernel
theorem dX4_slot_12 : decode cX4_slot 12 = .ok (.invokestatic 43, 3) := by decide +kernel
theorem dX4_slot_15 : decode cX4_slot 15 = .ok (.ifCond .eq 7, 3) := by decide +kernel
theorem dX4_slot_18 : decode cX4_slot 18 = .ok (.iconst 0, 1) := by decide +kernel
theorem dX4_slot_19 : decode cX4_slot 19 = .ok (.goto 4, 3) := by decide +kernel
theorem dX4_slot_22 : decode cX4_slot 22 = .ok (.iconst 1, 1) := by decide +kernel
theorem dX4_slot_23 : decode cX4_slot 23 = .ok (.invokevirtual 36, 3) := by decide +kernel
theorem dX4_slot_26 : decode cX4_slot 26 = .ok (.ifCond .eq 7, 3) := by decide +kernel
theorem dX4_slot_29 : decode cX4_slot 29 = .ok (.iconst 0, 1) := by decide +kernel
theorem dX4_slot_30 : decode cX4_slot 30 = .ok (.goto 9, 3) := by decide +kernel
theorem dX4_slot_33 : decode cX4_slot 33 = .ok (.aload_n 0, 1) := by decide +kernel
theorem dX4_slot_34 : decode cX4_slot 34 = .ok (.iload_n 1, 1) := by decide +kernel
theorem dX4_slot_35 : decode cX4_slot 35 = .ok (.iload_n 2, 1) := by decide +kernel
theorem dX4_slot_36 : decode cX4_slot 36 = .ok (.invokevirtual 84, 3) := by decide +kernel
theorem dX4_slot_39 : decode cX4_slot 39 = .ok (.ireturn, 1) := by decide +kernel
theorem dX4_needs_0 : decode cX4_needs 0 = .ok (.aload_n 0, 1) := by decide +kernel
theorem dX4_needs_1 : decode cX4_needs 1 = .ok (.aload_n 0, 1) := by decide +kernel
theorem dX4_needs_2 : decode cX4_needs 2 = .ok (.getfield 7, 3) := by decide +kernel
theorem dX4_needs_5 : decode cX4_needs 5 = .ok (.bipush 91, 2) := by decide +kernel
theorem dX4_needs_7 : decode cX4_needs 7 = .ok (.iconst 3, 1) := by decide +kernel
theorem dX4_needs_8 : decode cX4_needs 8 = .ok (.iload_n 1, 1) := by decide +kernel
theorem dX4_needs_9 : decode cX4_needs 9 = .ok (.imul, 1) := by decide +kernel
theorem dX4_needs_10 : decode cX4_needs 10 = .ok (.iadd, 1) := by decide +kernel
theorem dX4_needs_11 : decode cX4_needs 11 = .ok (.iaload, 1) := by decide +kernel
theorem dX4_needs_12 : decode cX4_needs 12 = .ok (.iconst 4, 1) := by decide +kernel
theorem dX4_needs_13 : decode cX4_needs 13 = .ok (.invokevirtual 71, 3) := by decide +kernel
theorem dX4_needs_16 : decode cX4_needs 16 = .ok (.istore_n 2, 1) := by decide +kernel
theorem dX4_needs_17 : decode cX4_needs 17 = .ok (.aload_n 0, 1) := by decide +kernel
theorem dX4_needs_18 : decode cX4_needs 18 = .ok (.aload_n 0, 1) := by decide +kernel
theorem dX4_needs_19 : decode cX4_needs 19 = .ok (.getfield 7, 3) := by decide +kernel
theorem dX4_needs_22 : decode cX4_needs 22 = .ok (.bipush 91, 2) := by decide +kernel
theorem dX4_needs_24 : decode cX4_needs 24 = .ok (.iconst 3, 1) := by decide +kernel
theorem dX4_needs_25 : decode cX4_needs 25 = .ok (.iload_n 1, 1) := by decide +kernel
theorem dX4_needs_26 : decode cX4_needs 26 = .ok (.imul, 1) := by decide +kernel
theorem dX4_needs_27 : decode cX4_needs 27 = .ok (.iadd, 1) := by decide +kernel
theorem dX4_needs_28 : decode cX4_needs 28 = .ok (.iconst 1, 1) := by decide +kernel
theorem dX4_needs_29 : decode cX4_needs 29 = .ok (.iadd, 1) := by decide +kernel
theorem dX4_needs_30 : decode cX4_needs 30 = .ok (.iaload, 1) := by decide +kernel
theorem dX4_needs_31 : decode cX4_needs 31 = .ok (.iconst 4, 1) := by decide +kernel
theorem dX4_needs_32 : decode cX4_needs 32 = .ok (.invokevirtual 71, 3) := by decide +kernel
theorem dX4_needs_35 : decode cX4_needs 35 = .ok (.istore_n 3, 1) := by decide +kernel
theorem dX4_needs_36 : decode cX4_needs 36 = .ok (.iload_n 2, 1) := by decide +kernel
theorem dX4_needs_37 : decode cX4_needs 37 = .ok (.iload_n 3, 1) := by decide +kernel
theorem dX4_needs_38 : decode cX4_needs 38 = .ok (.if_icmp .ge 9, 3) := by decide +kernel
theorem dX4_needs_41 : decode cX4_needs 41 = .ok (.iload_n 3, 1) := by decide +kernel
theorem dX4_needs_42 : decode cX4_needs 42 = .ok (.iload_n 2, 1) := by decide +kernel
theorem dX4_needs_43 : decode cX4_needs 43 = .ok (.isub, 1) := by decide +kernel
theorem dX4_needs_44 : decode cX4_needs 44 = .ok (.goto 6, 3) := by decide +kernel
theorem dX4_needs_47 : decode cX4_needs 47 = .ok (.iload_n 2, 1) := by decide +kernel
theorem dX4_needs_48 : decode cX4_needs 48 = .ok (.iload_n 3, 1) := by decide +kernel
theorem dX4_needs_49 : decode cX4_needs 49 = .ok (.isub, 1) := by decide +kernel
theorem dX4_needs_50 : decode cX4_needs 50 = .ok (.istore 4, 2) := by decide +kernel
theorem dX4_needs_52 : decode cX4_needs 52 = .ok (.iload_n 2, 1) := by decide +kernel
theorem dX4_needs_53 : decode cX4_needs 53 = .ok (.iconst (-1), 1) := by decide +kernel
theorem dX4_needs_54 : decode cX4_needs 54 = .ok (.if_icmp .eq 8, 3) := by decide +kernel
theorem dX4_needs_57 : decode cX4_needs 57 = .ok (.iload_n 3, 1) := by decide +kernel
theorem dX4_needs_58 : decode cX4_needs 58 = .ok (.iconst (-1), 1) := by decide +kernel
theorem dX4_needs_59 : decode cX4_needs 59 = .ok (.if_icmp .ne 7, 3) := by decide +kernel
theorem dX4_needs_62 : decode cX4_needs 62 = .ok (.iconst 0, 1) := by decide +kernel
theorem dX4_needs_63 : decode cX4_needs 63 = .ok (.goto 9, 3) := by decide +kernel
theorem dX4_needs_66 : decode cX4_needs 66 = .ok (.iconst 2, 1) := by decide +kernel
theorem dX4_needs_67 : decode cX4_needs 67 = .ok (.iconst 3, 1) := by decide +kernel
theorem dX4_needs_68 : decode cX4_needs 68 = .ok (.iload 4, 2) := by decide +kernel
theorem dX4_needs_70 : decode cX4_needs 70 = .ok (.imul, 1) := by decide +kernel
theorem dX4_needs_71 : decode cX4_needs 71 = .ok (.iadd, 1) := by decide +kernel
theorem dX4_needs_72 : decode cX4_needs 72 = .ok (.ireturn, 1) := by decide +kernel
theorem dX4_tellCable_0 : decode cX4_tellCable 0 = .ok (.iload_n 2, 1) := by decide +kernel
theorem dX4_tellCable_1 : decode cX4_tellCable 1 = .ok (.iconst 3, 1) := by decide +kernel
theorem dX4_tellCable_2 : decode cX4_tellCable 2 = .ok (.if_icmp .ge 19, 3) := by decide +kernel
theorem dX4_tellCable_5 : decode cX4_tellCable 5 = .ok (.aload_n 0, 1) := by decide +kernel
theorem dX4_tellCable_6 : decode cX4_tellCable 6 = .ok (.getfield 7, 3) := by decide +kernel
theorem dX4_tellCable_9 : decode cX4_tellCable 9 = .ok (.bipush 91, 2) := by decide +kernel
theorem dX4_tellCable_11 : decode cX4_tellCable 11 = .ok (.iconst 3, 1) := by decide +kernel
theorem dX4_tellCable_12 : decode cX4_tellCable 12 = .ok (.iload_n 1, 1) := by decide +kernel
theorem dX4_tellCable_13 : decode cX4_tellCable 13 = .ok (.imul, 1) := by decide +kernel
theorem dX4_tellCable_14 : decode cX4_tellCable 14 = .ok (.iadd, 1) := by decide +kernel
theorem dX4_tellCable_15 : decode cX4_tellCable 15 = .ok (.iload_n 2, 1) := by decide +kernel
theorem dX4_tellCable_16 : decode cX4_tellCable 16 = .ok (.iadd, 1) := by decide +kernel
theorem dX4_tellCable_17 : decode cX4_tellCable 17 = .ok (.iaload, 1) := by decide +kernel
theorem dX4_tellCable_18 : decode cX4_tellCable 18 = .ok (.goto 8, 3) := by decide +kernel
theorem dX4_tellCable_21 : decode cX4_tellCable 21 = .ok (.aload_n 0, 1) := by decide +kernel
theorem dX4_tellCable_22 : decode cX4_tellCable 22 = .ok (.iload_n 1, 1) := by decide +kernel
theorem dX4_tellCable_23 : decode cX4_tellCable 23 = .ok (.invokevirtual 106, 3) := by decide +kernel
theorem dX4_tellCable_26 : decode cX4_tellCable 26 = .ok (.ireturn, 1) := by decide +kernel
theorem dX4_cable_0 : decode cX4_cable 0 = .ok (.aload_n 0, 1) := by decide +kernel
theorem dX4_cable_1 : decode cX4_cable 1 = .ok (.aload_n 0, 1) := by decide +kernel
theorem dX4_cable_2 : decode cX4_cable 2 = .ok (.iload_n 1, 1) := by decide +kernel
theorem dX4_cable_3 : decode cX4_cable 3 = .ok (.invokevirtual 64, 3) := by decide +kernel
theorem dX4_cable_6 : decode cX4_cable 6 = .ok (.ifCond .ne 7, 3) := by decide +kernel
theorem dX4_cable_9 : decode cX4_cable 9 = .ok (.iconst 1, 1) := by decide +kernel
theorem dX4_cable_10 : decode cX4_cable 10 = .ok (.goto 17, 3) := by decide +kernel
theorem dX4_cable_13 : decode cX4_cable 13 = .ok (.iload_n 2, 1) := by decide +kernel
theorem dX4_cable_14 : decode cX4_cable 14 = .ok (.iconst 0, 1) := by decide +kernel
theorem dX4_cable_15 : decode cX4_cable 15 = .ok (.iconst 3, 1) := by decide +kernel
theorem dX4_cable_16 : decode cX4_cable 16 = .ok (.invokestatic 43, 3) := by decide +kernel
theorem dX4_cable_19 : decode cX4_cable 19 = .ok (.ifCond .eq 7, 3) := by decide +kernel
theorem dX4_cable_22 : decode cX4_cable 22 = .ok (.iconst 0, 1) := by decide +kernel
theorem dX4_cable_23 : decode cX4_cable 23 = .ok (.goto 4, 3) := by decide +kernel
theorem dX4_cable_26 : decode cX4_cable 26 = .ok (.iconst 2, 1) := by decide +kernel
theorem dX4_cable_27 : decode cX4_cable 27 = .ok (.invokevirtual 36, 3) := by decide +kernel
theorem dX4_cable_30 : decode cX4_cable 30 = .ok (.ifCond .eq 7, 3) := by decide +kernel
theorem dX4_cable_33 : decode cX4_cable 33 = .ok (.iconst 0, 1) := by decide +kernel
theorem dX4_cable_34 : decode cX4_cable 34 = .ok (.goto 9, 3) := by decide +kernel
theorem dX4_cable_37 : decode cX4_cable 37 = .ok (.aload_n 0, 1) := by decide +kernel
theorem dX4_cable_38 : decode cX4_cable 38 = .ok (.iload_n 1, 1) := by decide +kernel
theorem dX4_cable_39 : decode cX4_cable 39 = .ok (.iload_n 2, 1) := by decide +kernel
theorem dX4_cable_40 : decode cX4_cable 40 = .ok (.invokevirtual 109, 3) := by decide +kernel
theorem dX4_cable_43 : decode cX4_cable 43 = .ok (.ireturn, 1) := by decide +kernel
theorem dX4_inTray_0 : decode cX4_inTray 0 = .ok (.iconst 0, 1) := by decide +kernel
theorem dX4_inTray_1 : decode cX4_inTray 1 = .ok (.istore_n 2, 1) := by decide +kernel
theorem dX4_inTray_2 : decode cX4_inTray 2 = .ok (.iconst 0, 1) := by decide +kernel
theorem dX4_inTray_3 : decode cX4_inTray 3 = .ok (.istore_n 3, 1) := by decide +kernel
theorem dX4_inTray_4 : decode cX4_inTray 4 = .ok (.iload_n 3, 1) := by decide +kernel
theorem dX4_inTray_5 : decode cX4_inTray 5 = .ok (.aload_n 0, 1) := by decide +kernel
theorem dX4_inTray_6 : decode cX4_inTray 6 = .ok (.getfield 7, 3) := by decide +kernel
theorem dX4_inTray_9 : decode cX4_inTray 9 = .ok (.bipush 14, 2) := by decide +kernel
theorem dX4_inTray_11 : decode cX4_inTray 11 = .ok (.iaload, 1) := by decide +kernel
theorem dX4_inTray_12 : decode cX4_inTray 12 = .ok (.if_icmp .ge 104, 3) := by decide +kernel
theorem dX4_inTray_15 : decode cX4_inTray 15 = .ok (.aload_n 0, 1) := by decide +kernel
theorem dX4_inTray_16 : decode cX4_inTray 16 = .ok (.aload_n 0, 1) := by decide +kernel
theorem dX4_inTray_17 : decode cX4_inTray 17 = .ok (.getfield 7, 3) := by decide +kernel
theorem dX4_inTray_20 : decode cX4_inTray 20 = .ok (.bipush 91, 2) := by decide +kernel
theorem dX4_inTray_22 : decode cX4_inTray 22 = .ok (.iconst 3, 1) := by decide +kernel
theorem dX4_inTray_23 : decode cX4_inTray 23 = .ok (.iload_n 3, 1) := by decide +kernel
theorem dX4_inTray_24 : decode cX4_inTray 24 = .ok (.imul, 1) := by decide +kernel
theorem dX4_inTray_25 : decode cX4_inTray 25 = .ok (.iadd, 1) := by decide +kernel
theorem dX4_inTray_26 : decode cX4_inTray 26 = .ok (.iaload, 1) := by decide +kernel
theorem dX4_inTray_27 : decode cX4_inTray 27 = .ok (.iconst 4, 1) := by decide +kernel
theorem dX4_inTray_28 : decode cX4_inTray 28 = .ok (.invokevirtual 71, 3) := by decide +kernel
theorem dX4_inTray_31 : decode cX4_inTray 31 = .ok (.istore 4, 2) := by decide +kernel
theorem dX4_inTray_33 : decode cX4_inTray 33 = .ok (.aload_n 0, 1) := by decide +kernel
theorem dX4_inTray_34 : decode cX4_inTray 34 = .ok (.aload_n 0, 1) := by decide +kernel
theorem dX4_inTray_35 : decode cX4_inTray 35 = .ok (.getfield 7, 3) := by decide +kernel
theorem dX4_inTray_38 : decode cX4_inTray 38 = .ok (.bipush 91, 2) := by decide +kernel
theorem dX4_inTray_40 : decode cX4_inTray 40 = .ok (.iconst 3, 1) := by decide +kernel
theorem dX4_inTray_41 : decode cX4_inTray 41 = .ok (.iload_n 3, 1) := by decide +kernel
theorem dX4_inTray_42 : decode cX4_inTray 42 = .ok (.imul, 1) := by decide +kernel
theorem dX4_inTray_43 : decode cX4_inTray 43 = .ok (.iadd, 1) := by decide +kernel
theorem dX4_inTray_44 : decode cX4_inTray 44 = .ok (.iconst 1, 1) := by decide +kernel
theorem dX4_inTray_45 : decode cX4_inTray 45 = .ok (.iadd, 1) := by decide +kernel
theorem dX4_inTray_46 : decode cX4_inTray 46 = .ok (.iaload, 1) := by decide +kernel
theorem dX4_inTray_47 : decode cX4_inTray 47 = .ok (.iconst 4, 1) := by decide +kernel
theorem dX4_inTray_48 : decode cX4_inTray 48 = .ok (.invokevirtual 71, 3) := by decide +kernel
theorem dX4_inTray_51 : decode cX4_inTray 51 = .ok (.istore 5, 2) := by decide +kernel
theorem dX4_inTray_53 : decode cX4_inTray 53 = .ok (.iload 4, 2) := by decide +kernel
theorem dX4_inTray_55 : decode cX4_inTray 55 = .ok (.iconst (-1), 1) := by decide +kernel
theorem dX4_inTray_56 : decode cX4_inTray 56 = .ok (.if_icmp .eq 38, 3) := by decide +kernel
theorem dX4_inTray_59 : decode cX4_inTray 59 = .ok (.iload 5, 2) := by decide +kernel
theorem dX4_inTray_61 : decode cX4_inTray 61 = .ok (.iconst (-1), 1) := by decide +kernel
theorem dX4_inTray_62 : decode cX4_inTray 62 = .ok (.if_icmp .eq 32, 3) := by decide +kernel
theorem dX4_inTray_65 : decode cX4_inTray 65 = .ok (.iload 4, 2) := by decide +kernel
theorem dX4_inTray_67 : decode cX4_inTray 67 = .ok (.iload_n 1, 1) := by decide +kernel
theorem dX4_inTray_68 : decode cX4_inTray 68 = .ok (.if_icmp .gt 7, 3) := by decide +kernel
theorem dX4_inTray_71 : decode cX4_inTray 71 = .ok (.iconst 1, 1) := by decide +kernel
theorem dX4_inTray_72 : decode cX4_inTray 72 = .ok (.goto 4, 3) := by decide +kernel
theorem dX4_inTray_75 : decode cX4_inTray 75 = .ok (.iconst 0, 1) := by decide +kernel
theorem dX4_inTray_76 : decode cX4_inTray 76 = .ok (.iload 5, 2) := by decide +kernel
theorem dX4_inTray_78 : decode cX4_inTray 78 = .ok (.iload_n 1, 1) := by decide +kernel
theorem dX4_inTray_79 : decode cX4_inTray 79 = .ok (.if_icmp .gt 7, 3) := by decide +kernel
theorem dX4_inTray_82 : decode cX4_inTray 82 = .ok (.iconst 1, 1) := by decide +kernel
theorem dX4_inTray_83 : decode cX4_inTray 83 = .ok (.goto 4, 3) := by decide +kernel
theorem dX4_inTray_86 : decode cX4_inTray 86 = .ok (.iconst 0, 1) := by decide +kernel
theorem dX4_inTray_87 : decode cX4_inTray 87 = .ok (.if_icmp .eq 7, 3) := by decide +kernel
theorem dX4_inTray_90 : decode cX4_inTray 90 = .ok (.iconst 1, 1) := by decide +kernel
theorem dX4_inTray_91 : decode cX4_inTray 91 = .ok (.goto 4, 3) := by decide +kernel
theorem dX4_inTray_94 : decode cX4_inTray 94 = .ok (.iconst 0, 1) := by decide +kernel
theorem dX4_inTray_95 : decode cX4_inTray 95 = .ok (.istore 6, 2) := by decide +kernel
theorem dX4_inTray_97 : decode cX4_inTray 97 = .ok (.iload_n 2, 1) := by decide +kernel
theorem dX4_inTray_98 : decode cX4_inTray 98 = .ok (.iload 6, 2) := by decide +kernel
theorem dX4_inTray_100 : decode cX4_inTray 100 = .ok (.ifCond .eq 7, 3) := by decide +kernel
theorem dX4_inTray_103 : decode cX4_inTray 103 = .ok (.iconst 1, 1) := by decide +kernel
theorem dX4_inTray_104 : decode cX4_inTray 104 = .ok (.goto 4, 3) := by decide +kernel
theorem dX4_inTray_107 : decode cX4_inTray 107 = .ok (.iconst 0, 1) := by decide +kernel
theorem dX4_inTray_108 : decode cX4_inTray 108 = .ok (.iadd, 1) := by decide +kernel
theorem dX4_inTray_109 : decode cX4_inTray 109 = .ok (.istore_n 2, 1) := by decide +kernel
theorem dX4_inTray_110 : decode cX4_inTray 110 = .ok (.iinc 3 1, 3) := by decide +kernel
theorem dX4_inTray_113 : decode cX4_inTray 113 = .ok (.goto (-109), 3) := by decide +kernel
theorem dX4_inTray_116 : decode cX4_inTray 116 = .ok (.iload_n 2, 1) := by decide +kernel
theorem dX4_inTray_117 : decode cX4_inTray 117 = .ok (.ireturn, 1) := by decide +kernel
theorem dX4_tray_0 : decode cX4_tray 0 = .ok (.aload_n 0, 1) := by decide +kernel
theorem dX4_tray_1 : decode cX4_tray 1 = .ok (.iload_n 1, 1) := by decide +kernel
theorem dX4_tray_2 : decode cX4_tray 2 = .ok (.invokestatic 54, 3) := by decide +kernel
theorem dX4_tray_5 : decode cX4_tray 5 = .ok (.ifCond .eq 7, 3) := by decide +kernel
theorem dX4_tray_8 : decode cX4_tray 8 = .ok (.iconst 0, 1) := by decide +kernel
theorem dX4_tray_9 : decode cX4_tray 9 = .ok (.goto 4, 3) := by decide +kernel
theorem dX4_tray_12 : decode cX4_tray 12 = .ok (.iconst 1, 1) := by decide +kernel
theorem dX4_tray_13 : decode cX4_tray 13 = .ok (.invokevirtual 36, 3) := by decide +kernel
theorem dX4_tray_16 : decode cX4_tray 16 = .ok (.ifCond .eq 7, 3) := by decide +kernel
theorem dX4_tray_19 : decode cX4_tray 19 = .ok (.iconst 0, 1) := by decide +kernel
theorem dX4_tray_20 : decode cX4_tray 20 = .ok (.goto 8, 3) := by decide +kernel
theorem dX4_tray_23 : decode cX4_tray 23 = .ok (.aload_n 0, 1) := by decide +kernel
theorem dX4_tray_24 : decode cX4_tray 24 = .ok (.iload_n 1, 1) := by decide +kernel
theorem dX4_tray_25 : decode cX4_tray 25 = .ok (.invokevirtual 112, 3) := by decide +kernel
theorem dX4_tray_28 : decode cX4_tray 28 = .ok (.ireturn, 1) := by decide +kernel
theorem dX4_difference_0 : decode cX4_difference 0 = .ok (.iconst 0, 1) := by decide +kernel
theorem dX4_difference_1 : decode cX4_difference 1 = .ok (.istore_n 1, 1) := by decide +kernel
theorem dX4_difference_2 : decode cX4_difference 2 = .ok (.sipush 1188, 3) := by decide +kernel
theorem dX4_difference_5 : decode cX4_difference 5 = .ok (.istore_n 2, 1) := by decide +kernel
theorem dX4_difference_6 : decode cX4_difference 6 = .ok (.iconst 0, 1) := by decide +kernel
theorem dX4_difference_7 : decode cX4_difference 7 = .ok (.istore_n 3, 1) := by decide +kernel
theorem dX4_difference_8 : decode cX4_difference 8 = .ok (.iload_n 3, 1) := by decide +kernel
theorem dX4_difference_9 : decode cX4_difference 9 = .ok (.iconst 3, 1) := by decide +kernel
theorem dX4_difference_10 : decode cX4_difference 10 = .ok (.if_icmp .ge 43, 3) := by decide +kernel
theorem dX4_difference_13 : decode cX4_difference 13 = .ok (.aload_n 0, 1) := by decide +kernel
theorem dX4_difference_14 : decode cX4_difference 14 = .ok (.iconst (-1), 1) := by decide +kernel
theorem dX4_difference_15 : decode cX4_difference 15 = .ok (.iload_n 3, 1) := by decide +kernel
theorem dX4_difference_16 : decode cX4_difference 16 = .ok (.invokevirtual 91, 3) := by decide +kernel
theorem dX4_difference_19 : decode cX4_difference 19 = .ok (.istore 4, 2) := by decide +kernel
theorem dX4_difference_21 : decode cX4_difference 21 = .ok (.iload 4, 2) := by decide +kernel
theorem dX4_difference_23 : decode cX4_difference 23 = .ok (.iload_n 1, 1) := by decide +kernel
theorem dX4_difference_24 : decode cX4_difference 24 = .ok (.if_icmp .le 8, 3) := by decide +kernel
theorem dX4_difference_27 : decode cX4_difference 27 = .ok (.iload 4, 2) := by decide +kernel
theorem dX4_difference_29 : decode cX4_difference 29 = .ok (.goto 4, 3) := by decide +kernel
theorem dX4_difference_32 : decode cX4_difference 32 = .ok (.iload_n 1, 1) := by decide +kernel
theorem dX4_difference_33 : decode cX4_difference 33 = .ok (.istore_n 1, 1) := by decide +kernel
theorem dX4_difference_34 : decode cX4_difference 34 = .ok (.iload 4, 2) := by decide +kernel
theorem dX4_difference_36 : decode cX4_difference 36 = .ok (.iload_n 2, 1) := by decide +kernel
theorem dX4_difference_37 : decode cX4_difference 37 = .ok (.if_icmp .ge 8, 3) := by decide +kernel
theorem dX4_difference_40 : decode cX4_difference 40 = .ok (.iload 4, 2) := by decide +kernel
theorem dX4_difference_42 : decode cX4_difference 42 = .ok (.goto 4, 3) := by decide +kernel
theorem dX4_difference_45 : decode cX4_difference 45 = .ok (.iload_n 2, 1) := by decide +kernel
theorem dX4_difference_46 : decode cX4_difference 46 = .ok (.istore_n 2, 1) := by decide +kernel
theorem dX4_difference_47 : decode cX4_difference 47 = .ok (.iinc 3 1, 3) := by decide +kernel
theorem dX4_difference_50 : decode cX4_difference 50 = .ok (.goto (-42), 3) := by decide +kernel
theorem dX4_difference_53 : decode cX4_difference 53 = .ok (.iload_n 1, 1) := by decide +kernel
theorem dX4_difference_54 : decode cX4_difference 54 = .ok (.iload_n 2, 1) := by decide +kernel
theorem dX4_difference_55 : decode cX4_difference 55 = .ok (.isub, 1) := by decide +kernel
theorem dX4_difference_56 : decode cX4_difference 56 = .ok (.ireturn, 1) := by decide +kernel
theorem dX4_wrong_0 : decode cX4_wrong 0 = .ok (.iconst 0, 1) := by decide +kernel
theorem dX4_wrong_1 : decode cX4_wrong 1 = .ok (.istore_n 1, 1) := by decide +kernel
theorem dX4_wrong_2 : decode cX4_wrong 2 = .ok (.iload_n 1, 1) := by decide +kernel
theorem dX4_wrong_3 : decode cX4_wrong 3 = .ok (.bipush 6, 2) := by decide +kernel
theorem dX4_wrong_5 : decode cX4_wrong 5 = .ok (.if_icmp .ge 28, 3) := by decide +kernel
theorem dX4_wrong_8 : decode cX4_wrong 8 = .ok (.aload_n 0, 1) := by decide +kernel
theorem dX4_wrong_9 : decode cX4_wrong 9 = .ok (.iload_n 1, 1) := by decide +kernel
theorem dX4_wrong_10 : decode cX4_wrong 10 = .ok (.iconst (-1), 1) := by decide +kernel
theorem dX4_wrong_11 : decode cX4_wrong 11 = .ok (.invokevirtual 91, 3) := by decide +kernel
theorem dX4_wrong_14 : decode cX4_wrong 14 = .ok (.aload_n 0, 1) := by decide +kernel
theorem dX4_wrong_15 : decode cX4_wrong 15 = .ok (.getfield 7, 3) := by decide +kernel
theorem dX4_wrong_18 : decode cX4_wrong 18 = .ok (.iconst 0, 1) := by decide +kernel
theorem dX4_wrong_19 : decode cX4_wrong 19 = .ok (.iload_n 1, 1) := by decide +kernel
theorem dX4_wrong_20 : decode cX4_wrong 20 = .ok (.iadd, 1) := by decide +kernel
theorem dX4_wrong_21 : decode cX4_wrong 21 = .ok (.iaload, 1) := by decide +kernel
theorem dX4_wrong_22 : decode cX4_wrong 22 = .ok (.if_icmp .le 5, 3) := by decide +kernel
theorem dX4_wrong_25 : decode cX4_wrong 25 = .ok (.iconst 4, 1) := by decide +kernel
theorem dX4_wrong_26 : decode cX4_wrong 26 = .ok (.ireturn, 1) := by decide +kernel
theorem dX4_wrong_27 : decode cX4_wrong 27 = .ok (.iinc 1 1, 3) := by decide +kernel
theorem dX4_wrong_30 : decode cX4_wrong 30 = .ok (.goto (-28), 3) := by decide +kernel
theorem dX4_wrong_33 : decode cX4_wrong 33 = .ok (.iconst 0, 1) := by decide +kernel
theorem dX4_wrong_34 : decode cX4_wrong 34 = .ok (.istore_n 1, 1) := by decide +kernel
theorem dX4_wrong_35 : decode cX4_wrong 35 = .ok (.iload_n 1, 1) := by decide +kernel
theorem dX4_wrong_36 : decode cX4_wrong 36 = .ok (.iconst 5, 1) := by decide +kernel
theorem dX4_wrong_37 : decode cX4_wrong 37 = .ok (.if_icmp .ge 28, 3) := by decide +kernel
theorem dX4_wrong_40 : decode cX4_wrong 40 = .ok (.aload_n 0, 1) := by decide +kernel
theorem dX4_wrong_41 : decode cX4_wrong 41 = .ok (.iload_n 1, 1) := by decide +kernel
theorem dX4_wrong_42 : decode cX4_wrong 42 = .ok (.invokevirtual 112, 3) := by decide +kernel
theorem dX4_wrong_45 : decode cX4_wrong 45 = .ok (.aload_n 0, 1) := by decide +kernel
theorem dX4_wrong_46 : decode cX4_wrong 46 = .ok (.getfield 7, 3) := by decide +kernel
theorem dX4_wrong_49 : decode cX4_wrong 49 = .ok (.bipush 6, 2) := by decide +kernel
theorem dX4_wrong_51 : decode cX4_wrong 51 = .ok (.iload_n 1, 1) := by decide +kernel
theorem dX4_wrong_52 : decode cX4_wrong 52 = .ok (.iadd, 1) := by decide +kernel
theorem dX4_wrong_53 : decode cX4_wrong 53 = .ok (.iaload, 1) := by decide +kernel
theorem dX4_wrong_54 : decode cX4_wrong 54 = .ok (.if_icmp .le 5, 3) := by decide +kernel
theorem dX4_wrong_57 : decode cX4_wrong 57 = .ok (.iconst 5, 1) := by decide +kernel
theorem dX4_wrong_58 : decode cX4_wrong 58 = .ok (.ireturn, 1) := by decide +kernel
theorem dX4_wrong_59 : decode cX4_wrong 59 = .ok (.iinc 1 1, 3) := by decide +kernel
theorem dX4_wrong_62 : decode cX4_wrong 62 = .ok (.goto (-27), 3) := by decide +kernel
theorem dX4_wrong_65 : decode cX4_wrong 65 = .ok (.iconst 0, 1) := by decide +kernel
theorem dX4_wrong_66 : decode cX4_wrong 66 = .ok (.istore_n 1, 1) := by decide +kernel
theorem dX4_wrong_67 : decode cX4_wrong 67 = .ok (.iload_n 1, 1) := by decide +kernel
theorem dX4_wrong_68 : decode cX4_wrong 68 = .ok (.aload_n 0, 1) := by decide +kernel
theorem dX4_wrong_69 : decode cX4_wrong 69 = .ok (.getfield 7, 3) := by decide +kernel
theorem dX4_wrong_72 : decode cX4_wrong 72 = .ok (.bipush 14, 2) := by decide +kernel
theorem dX4_wrong_74 : decode cX4_wrong 74 = .ok (.iaload, 1) := by decide +kernel
theorem dX4_wrong_75 : decode cX4_wrong 75 = .ok (.if_icmp .ge 33, 3) := by decide +kernel
theorem dX4_wrong_78 : decode cX4_wrong 78 = .ok (.aload_n 0, 1) := by decide +kernel
theorem dX4_wrong_79 : decode cX4_wrong 79 = .ok (.iload_n 1, 1) := by decide +kernel
theorem dX4_wrong_80 : decode cX4_wrong 80 = .ok (.invokevirtual 106, 3) := by decide +kernel
theorem dX4_wrong_83 : decode cX4_wrong 83 = .ok (.aload_n 0, 1) := by decide +kernel
theorem dX4_wrong_84 : decode cX4_wrong 84 = .ok (.getfield 7, 3) := by decide +kernel
theorem dX4_wrong_87 : decode cX4_wrong 87 = .ok (.bipush 91, 2) := by decide +kernel
theorem dX4_wrong_89 : decode cX4_wrong 89 = .ok (.iconst 3, 1) := by decide +kernel
theorem dX4_wrong_90 : decode cX4_wrong 90 = .ok (.iload_n 1, 1) := by decide +kernel
theorem dX4_wrong_91 : decode cX4_wrong 91 = .ok (.imul, 1) := by decide +kernel
theorem dX4_wrong_92 : decode cX4_wrong 92 = .ok (.iadd, 1) := by decide +kernel
theorem dX4_wrong_93 : decode cX4_wrong 93 = .ok (.iconst 2, 1) := by decide +kernel
theorem dX4_wrong_94 : decode cX4_wrong 94 = .ok (.iadd, 1) := by decide +kernel
theorem dX4_wrong_95 : decode cX4_wrong 95 = .ok (.iaload, 1) := by decide +kernel
theorem dX4_wrong_96 : decode cX4_wrong 96 = .ok (.if_icmp .le 6, 3) := by decide +kernel
theorem dX4_wrong_99 : decode cX4_wrong 99 = .ok (.bipush 6, 2) := by decide +kernel
theorem dX4_wrong_101 : decode cX4_wrong 101 = .ok (.ireturn, 1) := by decide +kernel
theorem dX4_wrong_102 : decode cX4_wrong 102 = .ok (.iinc 1 1, 3) := by decide +kernel
theorem dX4_wrong_105 : decode cX4_wrong 105 = .ok (.goto (-38), 3) := by decide +kernel
theorem dX4_wrong_108 : decode cX4_wrong 108 = .ok (.aload_n 0, 1) := by decide +kernel
theorem dX4_wrong_109 : decode cX4_wrong 109 = .ok (.invokevirtual 115, 3) := by decide +kernel
theorem dX4_wrong_112 : decode cX4_wrong 112 = .ok (.aload_n 0, 1) := by decide +kernel
theorem dX4_wrong_113 : decode cX4_wrong 113 = .ok (.getfield 7, 3) := by decide +kernel
theorem dX4_wrong_116 : decode cX4_wrong 116 = .ok (.bipush 11, 2) := by decide +kernel
theorem dX4_wrong_118 : decode cX4_wrong 118 = .ok (.iaload, 1) := by decide +kernel
theorem dX4_wrong_119 : decode cX4_wrong 119 = .ok (.if_icmp .le 8, 3) := by decide +kernel
theorem dX4_wrong_122 : decode cX4_wrong 122 = .ok (.bipush 7, 2) := by decide +kernel
theorem dX4_wrong_124 : decode cX4_wrong 124 = .ok (.goto 4, 3) := by decide +kernel
theorem dX4_wrong_127 : decode cX4_wrong 127 = .ok (.iconst 0, 1) := by decide +kernel
theorem dX4_wrong_128 : decode cX4_wrong 128 = .ok (.ireturn, 1) := by decide +kernel
theorem dX4_standing_0 : decode cX4_standing 0 = .ok (.iconst 0, 1) := by decide +kernel
theorem dX4_standing_1 : decode cX4_standing 1 = .ok (.istore_n 1, 1) := by decide +kernel
theorem dX4_standing_2 : decode cX4_standing 2 = .ok (.iconst 0, 1) := by decide +kernel
theorem dX4_standing_3 : decode cX4_standing 3 = .ok (.istore_n 2, 1) := by decide +kernel
theorem dX4_standing_4 : decode cX4_standing 4 = .ok (.iload_n 2, 1) := by decide +kernel
theorem dX4_standing_5 : decode cX4_standing 5 = .ok (.aload_n 0, 1) := by decide +kernel
theorem dX4_standing_6 : decode cX4_standing 6 = .ok (.getfield 7, 3) := by decide +kernel
theorem dX4_standing_9 : decode cX4_standing 9 = .ok (.bipush 13, 2) := by decide +kernel
theorem dX4_standing_11 : decode cX4_standing 11 = .ok (.iaload, 1) := by decide +kernel
theorem dX4_standing_12 : decode cX4_standing 12 = .ok (.if_icmp .ge 27, 3) := by decide +kernel
theorem dX4_standing_15 : decode cX4_standing 15 = .ok (.iload_n 1, 1) := by decide +kernel
theorem dX4_standing_16 : decode cX4_standing 16 = .ok (.aload_n 0, 1) := by decide +kernel
theorem dX4_standing_17 : decode cX4_standing 17 = .ok (.iload_n 2, 1) := by decide +kernel
theorem dX4_standing_18 : decode cX4_standing 18 = .ok (.iconst 4, 1) := by decide +kernel
theorem dX4_standing_19 : decode cX4_standing 19 = .ok (.invokevirtual 71, 3) := by decide +kernel
theorem dX4_standing_22 : decode cX4_standing 22 = .ok (.iconst (-1), 1) := by decide +kernel
theorem dX4_standing_23 : decode cX4_standing 23 = .ok (.if_icmp .ne 7, 3) := by decide +kernel
theorem dX4_standing_26 : decode cX4_standing 26 = .ok (.iconst 0, 1) := by decide +kernel
theorem dX4_standing_27 : decode cX4_standing 27 = .ok (.goto 4, 3) := by decide +kernel
theorem dX4_standing_30 : decode cX4_standing 30 = .ok (.iconst 1, 1) := by decide +kernel
theorem dX4_standing_31 : decode cX4_standing 31 = .ok (.iadd, 1) := by decide +kernel
theorem dX4_standing_32 : decode cX4_standing 32 = .ok (.istore_n 1, 1) := by decide +kernel
theorem dX4_standing_33 : decode cX4_standing 33 = .ok (.iinc 2 1, 3) := by decide +kernel
theorem dX4_standing_36 : decode cX4_standing 36 = .ok (.goto (-32), 3) := by decide +kernel
theorem dX4_standing_39 : decode cX4_standing 39 = .ok (.iload_n 1, 1) := by decide +kernel
theorem dX4_standing_40 : decode cX4_standing 40 = .ok (.ireturn, 1) := by decide +kernel
theorem dX4_tellValue_0 : decode cX4_tellValue 0 = .ok (.iload_n 1, 1) := by decide +kernel
theorem dX4_tellValue_1 : decode cX4_tellValue 1 = .ok (.tableswitch 124 0 10 #[59, 67, 72, 80, 88, 96, 104, 104, 104, 114, 119], 59) := by decide +kernel
theorem dX4_tellValue_60 : decode cX4_tellValue 60 = .ok (.aload_n 0, 1) := by decide +kernel
theorem dX4_tellValue_61 : decode cX4_tellValue 61 = .ok (.getfield 7, 3) := by decide +kernel
theorem dX4_tellValue_64 : decode cX4_tellValue 64 = .ok (.bipush 13, 2) := by decide +kernel
theorem dX4_tellValue_66 : decode cX4_tellValue 66 = .ok (.iaload, 1) := by decide +kernel
theorem dX4_tellValue_67 : decode cX4_tellValue 67 = .ok (.ireturn, 1) := by decide +kernel
theorem dX4_tellValue_68 : decode cX4_tellValue 68 = .ok (.aload_n 0, 1) := by decide +kernel
theorem dX4_tellValue_69 : decode cX4_tellValue 69 = .ok (.invokevirtual 119, 3) := by decide +kernel
theorem dX4_tellValue_72 : decode cX4_tellValue 72 = .ok (.ireturn, 1) := by decide +kernel
theorem dX4_tellValue_73 : decode cX4_tellValue 73 = .ok (.aload_n 0, 1) := by decide +kernel
theorem dX4_tellValue_74 : decode cX4_tellValue 74 = .ok (.getfield 7, 3) := by decide +kernel
theorem dX4_tellValue_77 : decode cX4_tellValue 77 = .ok (.bipush 14, 2) := by decide +kernel
theorem dX4_tellValue_79 : decode cX4_tellValue 79 = .ok (.iaload, 1) := by decide +kernel
theorem dX4_tellValue_80 : decode cX4_tellValue 80 = .ok (.ireturn, 1) := by decide +kernel
theorem dX4_tellValue_81 : decode cX4_tellValue 81 = .ok (.aload_n 0, 1) := by decide +kernel
theorem dX4_tellValue_82 : decode cX4_tellValue 82 = .ok (.getfield 7, 3) := by decide +kernel
theorem dX4_tellValue_85 : decode cX4_tellValue 85 = .ok (.bipush 15, 2) := by decide +kernel
theorem dX4_tellValue_87 : decode cX4_tellValue 87 = .ok (.iaload, 1) := by decide +kernel
theorem dX4_tellValue_88 : decode cX4_tellValue 88 = .ok (.ireturn, 1) := by decide +kernel
theorem dX4_tellValue_89 : decode cX4_tellValue 89 = .ok (.aload_n 0, 1) := by decide +kernel
theorem dX4_tellValue_90 : decode cX4_tellValue 90 = .ok (.getfield 7, 3) := by decide +kernel
theorem dX4_tellValue_93 : decode cX4_tellValue 93 = .ok (.bipush 12, 2) := by decide +kernel
theorem dX4_tellValue_95 : decode cX4_tellValue 95 = .ok (.iaload, 1) := by decide +kernel
theorem dX4_tellValue_96 : decode cX4_tellValue 96 = .ok (.ireturn, 1) := by decide +kernel
theorem dX4_tellValue_97 : decode cX4_tellValue 97 = .ok (.aload_n 0, 1) := by decide +kernel
theorem dX4_tellValue_98 : decode cX4_tellValue 98 = .ok (.getfield 7, 3) := by decide +kernel
theorem dX4_tellValue_101 : decode cX4_tellValue 101 = .ok (.bipush 11, 2) := by decide +kernel
theorem dX4_tellValue_103 : decode cX4_tellValue 103 = .ok (.iaload, 1) := by decide +kernel
theorem dX4_tellValue_104 : decode cX4_tellValue 104 = .ok (.ireturn, 1) := by decide +kernel
theorem dX4_tellValue_105 : decode cX4_tellValue 105 = .ok (.aload_n 0, 1) := by decide +kernel
theorem dX4_tellValue_106 : decode cX4_tellValue 106 = .ok (.iconst (-1), 1) := by decide +kernel
theorem dX4_tellValue_107 : decode cX4_tellValue 107 = .ok (.iload_n 1, 1) := by decide +kernel
theorem dX4_tellValue_108 : decode cX4_tellValue 108 = .ok (.bipush 6, 2) := by decide +kernel
theorem dX4_tellValue_110 : decode cX4_tellValue 110 = .ok (.isub, 1) := by decide +kernel
theorem dX4_tellValue_111 : decode cX4_tellValue 111 = .ok (.invokevirtual 91, 3) := by decide +kernel
theorem dX4_tellValue_114 : decode cX4_tellValue 114 = .ok (.ireturn, 1) := by decide +kernel
theorem dX4_tellValue_115 : decode cX4_tellValue 115 = .ok (.aload_n 0, 1) := by decide +kernel
theorem dX4_tellValue_116 : decode cX4_tellValue 116 = .ok (.invokevirtual 115, 3) := by decide +kernel
theorem dX4_tellValue_119 : decode cX4_tellValue 119 = .ok (.ireturn, 1) := by decide +kernel
theorem dX4_tellValue_120 : decode cX4_tellValue 120 = .ok (.aload_n 0, 1) := by decide +kernel
theorem dX4_tellValue_121 : decode cX4_tellValue 121 = .ok (.invokevirtual 122, 3) := by decide +kernel
theorem dX4_tellValue_124 : decode cX4_tellValue 124 = .ok (.ireturn, 1) := by decide +kernel
theorem dX4_tellValue_125 : decode cX4_tellValue 125 = .ok (.aload_n 0, 1) := by decide +kernel
theorem dX4_tellValue_126 : decode cX4_tellValue 126 = .ok (.getfield 7, 3) := by decide +kernel
theorem dX4_tellValue_129 : decode cX4_tellValue 129 = .ok (.bipush 16, 2) := by decide +kernel
theorem dX4_tellValue_131 : decode cX4_tellValue 131 = .ok (.iload_n 1, 1) := by decide +kernel
theorem dX4_tellValue_132 : decode cX4_tellValue 132 = .ok (.iadd, 1) := by decide +kernel
theorem dX4_tellValue_133 : decode cX4_tellValue 133 = .ok (.bipush 11, 2) := by decide +kernel
theorem dX4_tellValue_135 : decode cX4_tellValue 135 = .ok (.isub, 1) := by decide +kernel
theorem dX4_tellValue_136 : decode cX4_tellValue 136 = .ok (.iaload, 1) := by decide +kernel
theorem dX4_tellValue_137 : decode cX4_tellValue 137 = .ok (.ireturn, 1) := by decide +kernel
theorem dX4_value_0 : decode cX4_value 0 = .ok (.aload_n 0, 1) := by decide +kernel
theorem dX4_value_1 : decode cX4_value 1 = .ok (.iload_n 1, 1) := by decide +kernel
theorem dX4_value_2 : decode cX4_value 2 = .ok (.iconst 0, 1) := by decide +kernel
theorem dX4_value_3 : decode cX4_value 3 = .ok (.bipush 13, 2) := by decide +kernel
theorem dX4_value_5 : decode cX4_value 5 = .ok (.invokestatic 43, 3) := by decide +kernel
theorem dX4_value_8 : decode cX4_value 8 = .ok (.ifCond .eq 7, 3) := by decide +kernel
theorem dX4_value_11 : decode cX4_value 11 = .ok (.iconst 0, 1) := by decide +kernel
theorem dX4_value_12 : decode cX4_value 12 = .ok (.goto 4, 3) := by decide +kernel
theorem dX4_value_15 : decode cX4_value 15 = .ok (.iconst 1, 1) := by decide +kernel
theorem dX4_value_16 : decode cX4_value 16 = .ok (.invokevirtual 36, 3) := by decide +kernel
theorem dX4_value_19 : decode cX4_value 19 = .ok (.ifCond .eq 7, 3) := by decide +kernel
theorem dX4_value_22 : decode cX4_value 22 = .ok (.iconst 0, 1) := by decide +kernel
theorem dX4_value_23 : decode cX4_value 23 = .ok (.goto 8, 3) := by decide +kernel
theorem dX4_value_26 : decode cX4_value 26 = .ok (.aload_n 0, 1) := by decide +kernel
theorem dX4_value_27 : decode cX4_value 27 = .ok (.iload_n 1, 1) := by decide +kernel
theorem dX4_value_28 : decode cX4_value 28 = .ok (.invokevirtual 125, 3) := by decide +kernel
theorem dX4_value_31 : decode cX4_value 31 = .ok (.ireturn, 1) := by decide +kernel
theorem dX4_places_0 : decode cX4_places 0 = .ok (.bipush 19, 2) := by decide +kernel
theorem dX4_places_2 : decode cX4_places 2 = .ok (.bipush 6, 2) := by decide +kernel
theorem dX4_places_4 : decode cX4_places 4 = .ok (.iload_n 1, 1) := by decide +kernel
theorem dX4_places_5 : decode cX4_places 5 = .ok (.imul, 1) := by decide +kernel
theorem dX4_places_6 : decode cX4_places 6 = .ok (.iadd, 1) := by decide +kernel
theorem dX4_places_7 : decode cX4_places 7 = .ok (.istore 5, 2) := by decide +kernel
theorem dX4_places_9 : decode cX4_places 9 = .ok (.aload_n 0, 1) := by decide +kernel
theorem dX4_places_10 : decode cX4_places 10 = .ok (.getfield 7, 3) := by decide +kernel
theorem dX4_places_13 : decode cX4_places 13 = .ok (.iload 5, 2) := by decide +kernel
theorem dX4_places_15 : decode cX4_places 15 = .ok (.iconst 4, 1) := by decide +kernel
theorem dX4_places_16 : decode cX4_places 16 = .ok (.iadd, 1) := by decide +kernel
theorem dX4_places_17 : decode cX4_places 17 = .ok (.iload_n 2, 1) := by decide +kernel
theorem dX4_places_18 : decode cX4_places 18 = .ok (.iastore, 1) := by decide +kernel
theorem dX4_places_19 : decode cX4_places 19 = .ok (.aload_n 0, 1) := by decide +kernel
theorem dX4_places_20 : decode cX4_places 20 = .ok (.getfield 7, 3) := by decide +kernel
theorem dX4_places_23 : decode cX4_places 23 = .ok (.iload 5, 2) := by decide +kernel
theorem dX4_places_25 : decode cX4_places 25 = .ok (.iconst 5, 1) := by decide +kernel
theorem dX4_places_26 : decode cX4_places 26 = .ok (.iadd, 1) := by decide +kernel
theorem dX4_places_27 : decode cX4_places 27 = .ok (.iload_n 3, 1) := by decide +kernel
theorem dX4_places_28 : decode cX4_places 28 = .ok (.iastore, 1) := by decide +kernel
theorem dX4_places_29 : decode cX4_places 29 = .ok (.aload_n 0, 1) := by decide +kernel
theorem dX4_places_30 : decode cX4_places 30 = .ok (.getfield 7, 3) := by decide +kernel
theorem dX4_places_33 : decode cX4_places 33 = .ok (.iload 5, 2) := by decide +kernel
theorem dX4_places_35 : decode cX4_places 35 = .ok (.iconst 2, 1) := by decide +kernel
theorem dX4_places_36 : decode cX4_places 36 = .ok (.iadd, 1) := by decide +kernel
theorem dX4_places_37 : decode cX4_places 37 = .ok (.iload 4, 2) := by decide +kernel
theorem dX4_places_39 : decode cX4_places 39 = .ok (.iastore, 1) := by decide +kernel
theorem dX4_places_40 : decode cX4_places 40 = .ok (.return_, 1) := by decide +kernel
theorem dX4_steps_0 : decode cX4_steps 0 = .ok (.aload_n 0, 1) := by decide +kernel
theorem dX4_steps_1 : decode cX4_steps 1 = .ok (.iload_n 1, 1) := by decide +kernel
theorem dX4_steps_2 : decode cX4_steps 2 = .ok (.iconst 4, 1) := by decide +kernel
theorem dX4_steps_3 : decode cX4_steps 3 = .ok (.invokevirtual 71, 3) := by decide +kernel
theorem dX4_steps_6 : decode cX4_steps 6 = .ok (.istore 5, 2) := by decide +kernel
theorem dX4_steps_8 : decode cX4_steps 8 = .ok (.aload_n 0, 1) := by decide +kernel
theorem dX4_steps_9 : decode cX4_steps 9 = .ok (.iload_n 1, 1) := by decide +kernel
theorem dX4_steps_10 : decode cX4_steps 10 = .ok (.iconst 5, 1) := by decide +kernel
theorem dX4_steps_11 : decode cX4_steps 11 = .ok (.invokevirtual 71, 3) := by decide +kernel
theorem dX4_steps_14 : decode cX4_steps 14 = .ok (.istore 6, 2) := by decide +kernel
theorem dX4_steps_16 : decode cX4_steps 16 = .ok (.aload_n 0, 1) := by decide +kernel
theorem dX4_steps_17 : decode cX4_steps 17 = .ok (.iload_n 1, 1) := by decide +kernel
theorem dX4_steps_18 : decode cX4_steps 18 = .ok (.iconst 2, 1) := by decide +kernel
theorem dX4_steps_19 : decode cX4_steps 19 = .ok (.invokevirtual 71, 3) := by decide +kernel
theorem dX4_steps_22 : decode cX4_steps 22 = .ok (.istore 7, 2) := by decide +kernel
theorem dX4_steps_24 : decode cX4_steps 24 = .ok (.aload_n 0, 1) := by decide +kernel
theorem dX4_steps_25 : decode cX4_steps 25 = .ok (.iload_n 1, 1) := by decide +kernel
theorem dX4_steps_26 : decode cX4_steps 26 = .ok (.iload_n 2, 1) := by decide +kernel
theorem dX4_steps_27 : decode cX4_steps 27 = .ok (.iload_n 3, 1) := by decide +kernel
theorem dX4_steps_28 : decode cX4_steps 28 = .ok (.iload 4, 2) := by decide +kernel
theorem dX4_steps_30 : decode cX4_steps 30 = .ok (.invokevirtual 128, 3) := by decide +kernel
theorem dX4_steps_33 : decode cX4_steps 33 = .ok (.aload_n 0, 1) := by decide +kernel
theorem dX4_steps_34 : decode cX4_steps 34 = .ok (.invokevirtual 122, 3) := by decide +kernel
theorem dX4_steps_37 : decode cX4_steps 37 = .ok (.istore 8, 2) := by decide +kernel
theorem dX4_steps_39 : decode cX4_steps 39 = .ok (.iload 8, 2) := by decide +kernel
theorem dX4_steps_41 : decode cX4_steps 41 = .ok (.ifCond .le 17, 3) := by decide +kernel
theorem dX4_steps_44 : decode cX4_steps 44 = .ok (.aload_n 0, 1) := by decide +kernel
theorem dX4_steps_45 : decode cX4_steps 45 = .ok (.iload_n 1, 1) := by decide +kernel
theorem dX4_steps_46 : decode cX4_steps 46 = .ok (.iload 5, 2) := by decide +kernel
theorem dX4_steps_48 : decode cX4_steps 48 = .ok (.iload 6, 2) := by decide +kernel
theorem dX4_steps_50 : decode cX4_steps 50 = .ok (.iload 7, 2) := by decide +kernel
theorem dX4_steps_52 : decode cX4_steps 52 = .ok (.invokevirtual 128, 3) := by decide +kernel
theorem dX4_steps_55 : decode cX4_steps 55 = .ok (.iload 8, 2) := by decide +kernel
theorem dX4_steps_57 : decode cX4_steps 57 = .ok (.ireturn, 1) := by decide +kernel
theorem dX4_steps_58 : decode cX4_steps 58 = .ok (.aload_n 0, 1) := by decide +kernel
theorem dX4_steps_59 : decode cX4_steps 59 = .ok (.getfield 7, 3) := by decide +kernel
theorem dX4_steps_62 : decode cX4_steps 62 = .ok (.bipush 16, 2) := by decide +kernel
theorem dX4_steps_64 : decode cX4_steps 64 = .ok (.iaload, 1) := by decide +kernel
theorem dX4_steps_65 : decode cX4_steps 65 = .ok (.bipush 20, 2) := by decide +kernel
theorem dX4_steps_67 : decode cX4_steps 67 = .ok (.if_icmp .ne 49, 3) := by decide +kernel
theorem dX4_steps_70 : decode cX4_steps 70 = .ok (.sipush 139, 3) := by decide +kernel
theorem dX4_steps_73 : decode cX4_steps 73 = .ok (.istore 9, 2) := by decide +kernel
theorem dX4_steps_75 : decode cX4_steps 75 = .ok (.iload 9, 2) := by decide +kernel
theorem dX4_steps_77 : decode cX4_steps 77 = .ok (.sipush 215, 3) := by decide +kernel
theorem dX4_steps_80 : decode cX4_steps 80 = .ok (.if_icmp .ge 25, 3) := by decide +kernel
theorem dX4_steps_83 : decode cX4_steps 83 = .ok (.aload_n 0, 1) := by decide +kernel
theorem dX4_steps_84 : decode cX4_steps 84 = .ok (.getfield 7, 3) := by decide +kernel
theorem dX4_steps_87 : decode cX4_steps 87 = .ok (.iload 9, 2) := by decide +kernel
theorem dX4_steps_89 : decode cX4_steps 89 = .ok (.aload_n 0, 1) := by decide +kernel
theorem dX4_steps_90 : decode cX4_steps 90 = .ok (.getfield 7, 3) := by decide +kernel
theorem dX4_steps_93 : decode cX4_steps 93 = .ok (.iload 9, 2) := by decide +kernel
theorem dX4_steps_95 : decode cX4_steps 95 = .ok (.iconst 4, 1) := by decide +kernel
theorem dX4_steps_96 : decode cX4_steps 96 = .ok (.iadd, 1) := by decide +kernel
theorem dX4_steps_97 : decode cX4_steps 97 = .ok (.iaload, 1) := by decide +kernel
theorem dX4_steps_98 : decode cX4_steps 98 = .ok (.iastore, 1) := by decide +kernel
theorem dX4_steps_99 : decode cX4_steps 99 = .ok (.iinc 9 1, 3) := by decide +kernel
theorem dX4_steps_102 : decode cX4_steps 102 = .ok (.goto (-27), 3) := by decide +kernel
theorem dX4_steps_105 : decode cX4_steps 105 = .ok (.aload_n 0, 1) := by decide +kernel
theorem dX4_steps_106 : decode cX4_steps 106 = .ok (.getfield 7, 3) := by decide +kernel
theorem dX4_steps_109 : decode cX4_steps 109 = .ok (.bipush 16, 2) := by decide +kernel
theorem dX4_steps_111 : decode cX4_steps 111 = .ok (.dup2, 1) := by decide +kernel
theorem dX4_steps_112 : decode cX4_steps 112 = .ok (.iaload, 1) := by decide +kernel
theorem dX4_steps_113 : decode cX4_steps 113 = .ok (.iconst 1, 1) := by decide +kernel
theorem dX4_steps_114 : decode cX4_steps 114 = .ok (.isub, 1) := by decide +kernel
theorem dX4_steps_115 : decode cX4_steps 115 = .ok (.iastore, 1) := by decide +kernel
theorem dX4_steps_116 : decode cX4_steps 116 = .ok (.sipush 139, 3) := by decide +kernel
theorem dX4_steps_119 : decode cX4_steps 119 = .ok (.iconst 4, 1) := by decide +kernel
theorem dX4_steps_120 : decode cX4_steps 120 = .ok (.aload_n 0, 1) := by decide +kernel
theorem dX4_steps_121 : decode cX4_steps 121 = .ok (.getfield 7, 3) := by decide +kernel
theorem dX4_steps_124 : decode cX4_steps 124 = .ok (.bipush 16, 2) := by decide +kernel
theorem dX4_steps_126 : decode cX4_steps 126 = .ok (.iaload, 1) := by decide +kernel
theorem dX4_steps_127 : decode cX4_steps 127 = .ok (.imul, 1) := by decide +kernel
theorem dX4_steps_128 : decode cX4_steps 128 = .ok (.iadd, 1) := by decide +kernel
theorem dX4_steps_129 : decode cX4_steps 129 = .ok (.istore 9, 2) := by decide +kernel
theorem dX4_steps_131 : decode cX4_steps 131 = .ok (.aload_n 0, 1) := by decide +kernel
theorem dX4_steps_132 : decode cX4_steps 132 = .ok (.getfield 7, 3) := by decide +kernel
theorem dX4_steps_135 : decode cX4_steps 135 = .ok (.iload 9, 2) := by decide +kernel
theorem dX4_steps_137 : decode cX4_steps 137 = .ok (.iload_n 1, 1) := by decide +kernel
theorem dX4_steps_138 : decode cX4_steps 138 = .ok (.iastore, 1) := by decide +kernel
theorem dX4_steps_139 : decode cX4_steps 139 = .ok (.aload_n 0, 1) := by decide +kernel
theorem dX4_steps_140 : decode cX4_steps 140 = .ok (.getfield 7, 3) := by decide +kernel
theorem dX4_steps_143 : decode cX4_steps 143 = .ok (.iload 9, 2) := by decide +kernel
theorem dX4_steps_145 : decode cX4_steps 145 = .ok (.iconst 1, 1) := by decide +kernel
theorem dX4_steps_146 : decode cX4_steps 146 = .ok (.iadd, 1) := by decide +kernel
theorem dX4_steps_147 : decode cX4_steps 147 = .ok (.iload 5, 2) := by decide +kernel
theorem dX4_steps_149 : decode cX4_steps 149 = .ok (.iastore, 1) := by decide +kernel
theorem dX4_steps_150 : decode cX4_steps 150 = .ok (.aload_n 0, 1) := by decide +kernel
theorem dX4_steps_151 : decode cX4_steps 151 = .ok (.getfield 7, 3) := by decide +kernel
theorem dX4_steps_154 : decode cX4_steps 154 = .ok (.iload 9, 2) := by decide +kernel
theorem dX4_steps_156 : decode cX4_steps 156 = .ok (.iconst 2, 1) := by decide +kernel
theorem dX4_steps_157 : decode cX4_steps 157 = .ok (.iadd, 1) := by decide +kernel
theorem dX4_steps_158 : decode cX4_steps 158 = .ok (.iload 6, 2) := by decide +kernel
theorem dX4_steps_160 : decode cX4_steps 160 = .ok (.iastore, 1) := by decide +kernel
theorem dX4_steps_161 : decode cX4_steps 161 = .ok (.aload_n 0, 1) := by decide +kernel
theorem dX4_steps_162 : decode cX4_steps 162 = .ok (.getfield 7, 3) := by decide +kernel
theorem dX4_steps_165 : decode cX4_steps 165 = .ok (.iload 9, 2) := by decide +kernel
theorem dX4_steps_167 : decode cX4_steps 167 = .ok (.iconst 3, 1) := by decide +kernel
theorem dX4_steps_168 : decode cX4_steps 168 = .ok (.iadd, 1) := by decide +kernel
theorem dX4_steps_169 : decode cX4_steps 169 = .ok (.iload 7, 2) := by decide +kernel
theorem dX4_steps_171 : decode cX4_steps 171 = .ok (.iastore, 1) := by decide +kernel
theorem dX4_steps_172 : decode cX4_steps 172 = .ok (.aload_n 0, 1) := by decide +kernel
theorem dX4_steps_173 : decode cX4_steps 173 = .ok (.getfield 7, 3) := by decide +kernel
theorem dX4_steps_176 : decode cX4_steps 176 = .ok (.bipush 16, 2) := by decide +kernel
theorem dX4_steps_178 : decode cX4_steps 178 = .ok (.dup2, 1) := by decide +kernel
theorem dX4_steps_179 : decode cX4_steps 179 = .ok (.iaload, 1) := by decide +kernel
theorem dX4_steps_180 : decode cX4_steps 180 = .ok (.iconst 1, 1) := by decide +kernel
theorem dX4_steps_181 : decode cX4_steps 181 = .ok (.iadd, 1) := by decide +kernel
theorem dX4_steps_182 : decode cX4_steps 182 = .ok (.iastore, 1) := by decide +kernel
theorem dX4_steps_183 : decode cX4_steps 183 = .ok (.aload_n 0, 1) := by decide +kernel
theorem dX4_steps_184 : decode cX4_steps 184 = .ok (.getfield 7, 3) := by decide +kernel
theorem dX4_steps_187 : decode cX4_steps 187 = .ok (.bipush 17, 2) := by decide +kernel
theorem dX4_steps_189 : decode cX4_steps 189 = .ok (.dup2, 1) := by decide +kernel
theorem dX4_steps_190 : decode cX4_steps 190 = .ok (.iaload, 1) := by decide +kernel
theorem dX4_steps_191 : decode cX4_steps 191 = .ok (.iconst 1, 1) := by decide +kernel
theorem dX4_steps_192 : decode cX4_steps 192 = .ok (.iadd, 1) := by decide +kernel
theorem dX4_steps_193 : decode cX4_steps 193 = .ok (.iastore, 1) := by decide +kernel
theorem dX4_steps_194 : decode cX4_steps 194 = .ok (.iconst 0, 1) := by decide +kernel
theorem dX4_steps_195 : decode cX4_steps 195 = .ok (.ireturn, 1) := by decide +kernel
theorem dX4_moves_0 : decode cX4_moves 0 = .ok (.aload_n 0, 1) := by decide +kernel
theorem dX4_moves_1 : decode cX4_moves 1 = .ok (.iload_n 1, 1) := by decide +kernel
theorem dX4_moves_2 : decode cX4_moves 2 = .ok (.invokevirtual 74, 3) := by decide +kernel
theorem dX4_moves_5 : decode cX4_moves 5 = .ok (.ifCond .eq 5, 3) := by decide +kernel
theorem dX4_moves_8 : decode cX4_moves 8 = .ok (.iconst 1, 1) := by decide +kernel
theorem dX4_moves_9 : decode cX4_moves 9 = .ok (.ireturn, 1) := by decide +kernel
theorem dX4_moves_10 : decode cX4_moves 10 = .ok (.aload_n 0, 1) := by decide +kernel
theorem dX4_moves_11 : decode cX4_moves 11 = .ok (.iload_n 1, 1) := by decide +kernel
theorem dX4_moves_12 : decode cX4_moves 12 = .ok (.iconst 4, 1) := by decide +kernel
theorem dX4_moves_13 : decode cX4_moves 13 = .ok (.invokevirtual 71, 3) := by decide +kernel
theorem dX4_moves_16 : decode cX4_moves 16 = .ok (.iload_n 2, 1) := by decide +kernel
theorem dX4_moves_17 : decode cX4_moves 17 = .ok (.if_icmp .ne 5, 3) := by decide +kernel
theorem dX4_moves_20 : decode cX4_moves 20 = .ok (.iconst 2, 1) := by decide +kernel
theorem dX4_moves_21 : decode cX4_moves 21 = .ok (.ireturn, 1) := by decide +kernel
theorem dX4_moves_22 : decode cX4_moves 22 = .ok (.iload_n 2, 1) := by decide +kernel
theorem dX4_moves_23 : decode cX4_moves 23 = .ok (.iconst (-1), 1) := by decide +kernel
theorem dX4_moves_24 : decode cX4_moves 24 = .ok (.if_icmp .ne 7, 3) := by decide +kernel
theorem dX4_moves_27 : decode cX4_moves 27 = .ok (.iconst (-1), 1) := by decide +kernel
theorem dX4_moves_28 : decode cX4_moves 28 = .ok (.goto 14, 3) := by decide +kernel
theorem dX4_moves_31 : decode cX4_moves 31 = .ok (.aload_n 0, 1) := by decide +kernel
theorem dX4_moves_32 : decode cX4_moves 32 = .ok (.iload_n 2, 1) := by decide +kernel
theorem dX4_moves_33 : decode cX4_moves 33 = .ok (.aload_n 0, 1) := by decide +kernel
theorem dX4_moves_34 : decode cX4_moves 34 = .ok (.iload_n 1, 1) := by decide +kernel
theorem dX4_moves_35 : decode cX4_moves 35 = .ok (.iconst 0, 1) := by decide +kernel
theorem dX4_moves_36 : decode cX4_moves 36 = .ok (.invokevirtual 71, 3) := by decide +kernel
theorem dX4_moves_39 : decode cX4_moves 39 = .ok (.invokevirtual 100, 3) := by decide +kernel
theorem dX4_moves_42 : decode cX4_moves 42 = .ok (.istore_n 3, 1) := by decide +kernel
theorem dX4_moves_43 : decode cX4_moves 43 = .ok (.iload_n 2, 1) := by decide +kernel
theorem dX4_moves_44 : decode cX4_moves 44 = .ok (.iconst (-1), 1) := by decide +kernel
theorem dX4_moves_45 : decode cX4_moves 45 = .ok (.if_icmp .eq 12, 3) := by decide +kernel
theorem dX4_moves_48 : decode cX4_moves 48 = .ok (.iload_n 3, 1) := by decide +kernel
theorem dX4_moves_49 : decode cX4_moves 49 = .ok (.iconst (-1), 1) := by decide +kernel
theorem dX4_moves_50 : decode cX4_moves 50 = .ok (.if_icmp .ne 7, 3) := by decide +kernel
theorem dX4_moves_53 : decode cX4_moves 53 = .ok (.iconst 3, 1) := by decide +kernel
theorem dX4_moves_54 : decode cX4_moves 54 = .ok (.goto 16, 3) := by decide +kernel
theorem dX4_moves_57 : decode cX4_moves 57 = .ok (.aload_n 0, 1) := by decide +kernel
theorem dX4_moves_58 : decode cX4_moves 58 = .ok (.iload_n 1, 1) := by decide +kernel
theorem dX4_moves_59 : decode cX4_moves 59 = .ok (.iload_n 2, 1) := by decide +kernel
theorem dX4_moves_60 : decode cX4_moves 60 = .ok (.iload_n 3, 1) := by decide +kernel
theorem dX4_moves_61 : decode cX4_moves 61 = .ok (.aload_n 0, 1) := by decide +kernel
theorem dX4_moves_62 : decode cX4_moves 62 = .ok (.iload_n 1, 1) := by decide +kernel
theorem dX4_moves_63 : decode cX4_moves 63 = .ok (.iconst 2, 1) := by decide +kernel
theorem dX4_moves_64 : decode cX4_moves 64 = .ok (.invokevirtual 71, 3) := by decide +kernel
theorem dX4_moves_67 : decode cX4_moves 67 = .ok (.invokevirtual 132, 3) := by decide +kernel
theorem dX4_moves_70 : decode cX4_moves 70 = .ok (.ireturn, 1) := by decide +kernel
theorem dX4_changes_0 : decode cX4_changes 0 = .ok (.aload_n 0, 1) := by decide +kernel
theorem dX4_changes_1 : decode cX4_changes 1 = .ok (.iload_n 1, 1) := by decide +kernel
theorem dX4_changes_2 : decode cX4_changes 2 = .ok (.invokevirtual 74, 3) := by decide +kernel
theorem dX4_changes_5 : decode cX4_changes 5 = .ok (.ifCond .eq 7, 3) := by decide +kernel
theorem dX4_changes_8 : decode cX4_changes 8 = .ok (.iconst 1, 1) := by decide +kernel
theorem dX4_changes_9 : decode cX4_changes 9 = .ok (.goto 35, 3) := by decide +kernel
theorem dX4_changes_12 : decode cX4_changes 12 = .ok (.aload_n 0, 1) := by decide +kernel
theorem dX4_changes_13 : decode cX4_changes 13 = .ok (.iload_n 1, 1) := by decide +kernel
theorem dX4_changes_14 : decode cX4_changes 14 = .ok (.iconst 2, 1) := by decide +kernel
theorem dX4_changes_15 : decode cX4_changes 15 = .ok (.invokevirtual 71, 3) := by decide +kernel
theorem dX4_changes_18 : decode cX4_changes 18 = .ok (.iload_n 2, 1) := by decide +kernel
theorem dX4_changes_19 : decode cX4_changes 19 = .ok (.if_icmp .ne 7, 3) := by decide +kernel
theorem dX4_changes_22 : decode cX4_changes 22 = .ok (.iconst 2, 1) := by decide +kernel
theorem dX4_changes_23 : decode cX4_changes 23 = .ok (.goto 21, 3) := by decide +kernel
theorem dX4_changes_26 : decode cX4_changes 26 = .ok (.aload_n 0, 1) := by decide +kernel
theorem dX4_changes_27 : decode cX4_changes 27 = .ok (.iload_n 1, 1) := by decide +kernel
theorem dX4_changes_28 : decode cX4_changes 28 = .ok (.aload_n 0, 1) := by decide +kernel
theorem dX4_changes_29 : decode cX4_changes 29 = .ok (.iload_n 1, 1) := by decide +kernel
theorem dX4_changes_30 : decode cX4_changes 30 = .ok (.iconst 4, 1) := by decide +kernel
theorem dX4_changes_31 : decode cX4_changes 31 = .ok (.invokevirtual 71, 3) := by decide +kernel
theorem dX4_changes_34 : decode cX4_changes 34 = .ok (.aload_n 0, 1) := by decide +kernel
theorem dX4_changes_35 : decode cX4_changes 35 = .ok (.iload_n 1, 1) := by decide +kernel
theorem dX4_changes_36 : decode cX4_changes 36 = .ok (.iconst 5, 1) := by decide +kernel
theorem dX4_changes_37 : decode cX4_changes 37 = .ok (.invokevirtual 71, 3) := by decide +kernel
theorem dX4_changes_40 : decode cX4_changes 40 = .ok (.iload_n 2, 1) := by decide +kernel
theorem dX4_changes_41 : decode cX4_changes 41 = .ok (.invokevirtual 132, 3) := by decide +kernel
theorem dX4_changes_44 : decode cX4_changes 44 = .ok (.ireturn, 1) := by decide +kernel
theorem dX4_backs_0 : decode cX4_backs 0 = .ok (.aload_n 0, 1) := by decide +kernel
theorem dX4_backs_1 : decode cX4_backs 1 = .ok (.getfield 7, 3) := by decide +kernel
theorem dX4_backs_4 : decode cX4_backs 4 = .ok (.bipush 16, 2) := by decide +kernel
theorem dX4_backs_6 : decode cX4_backs 6 = .ok (.iaload, 1) := by decide +kernel
theorem dX4_backs_7 : decode cX4_backs 7 = .ok (.ifCond .ne 5, 3) := by decide +kernel
theorem dX4_backs_10 : decode cX4_backs 10 = .ok (.iconst 2, 1) := by decide +kernel
theorem dX4_backs_11 : decode cX4_backs 11 = .ok (.ireturn, 1) := by decide +kernel
theorem dX4_backs_12 : decode cX4_backs 12 = .ok (.sipush 139, 3) := by decide +kernel
theorem dX4_backs_15 : decode cX4_backs 15 = .ok (.iconst 4, 1) := by decide +kernel
theorem dX4_backs_16 : decode cX4_backs 16 = .ok (.aload_n 0, 1) := by decide +kernel
theorem dX4_backs_17 : decode cX4_backs 17 = .ok (.getfield 7, 3) := by decide +kernel
theorem dX4_backs_20 : decode cX4_backs 20 = .ok (.bipush 16, 2) := by decide +kernel
theorem dX4_backs_22 : decode cX4_backs 22 = .ok (.iaload, 1) := by decide +kernel
theorem dX4_backs_23 : decode cX4_backs 23 = .ok (.iconst 1, 1) := by decide +kernel
theorem dX4_backs_24 : decode cX4_backs 24 = .ok (.isub, 1) := by decide +kernel
theorem dX4_backs_25 : decode cX4_backs 25 = .ok (.imul, 1) := by decide +kernel
theorem dX4_backs_26 : decode cX4_backs 26 = .ok (.iadd, 1) := by decide +kernel
theorem dX4_backs_27 : decode cX4_backs 27 = .ok (.istore_n 1, 1) := by decide +kernel
theorem dX4_backs_28 : decode cX4_backs 28 = .ok (.aload_n 0, 1) := by decide +kernel
theorem dX4_backs_29 : decode cX4_backs 29 = .ok (.getfield 7, 3) := by decide +kernel
theorem dX4_backs_32 : decode cX4_backs 32 = .ok (.iload_n 1, 1) := by decide +kernel
theorem dX4_backs_33 : decode cX4_backs 33 = .ok (.iaload, 1) := by decide +kernel
theorem dX4_backs_34 : decode cX4_backs 34 = .ok (.istore_n 2, 1) := by decide +kernel
theorem dX4_backs_35 : decode cX4_backs 35 = .ok (.aload_n 0, 1) := by decide +kernel
theorem dX4_backs_36 : decode cX4_backs 36 = .ok (.iload_n 2, 1) := by decide +kernel
theorem dX4_backs_37 : decode cX4_backs 37 = .ok (.invokevirtual 74, 3) := by decide +kernel
theorem dX4_backs_40 : decode cX4_backs 40 = .ok (.ifCond .eq 5, 3) := by decide +kernel
theorem dX4_backs_43 : decode cX4_backs 43 = .ok (.iconst 1, 1) := by decide +kernel
theorem dX4_backs_44 : decode cX4_backs 44 = .ok (.ireturn, 1) := by decide +kernel
theorem dX4_backs_45 : decode cX4_backs 45 = .ok (.aload_n 0, 1) := by decide +kernel
theorem dX4_backs_46 : decode cX4_backs 46 = .ok (.getfield 7, 3) := by decide +kernel
theorem dX4_backs_49 : decode cX4_backs 49 = .ok (.iload_n 1, 1) := by decide +kernel
theorem dX4_backs_50 : decode cX4_backs 50 = .ok (.iconst 1, 1) := by decide +kernel
theorem dX4_backs_51 : decode cX4_backs 51 = .ok (.iadd, 1) := by decide +kernel
theorem dX4_backs_52 : decode cX4_backs 52 = .ok (.iaload, 1) := by decide +kernel
theorem dX4_backs_53 : decode cX4_backs 53 = .ok (.iconst (-1), 1) := by decide +kernel
theorem dX4_backs_54 : decode cX4_backs 54 = .ok (.if_icmp .eq 35, 3) := by decide +kernel
theorem dX4_backs_57 : decode cX4_backs 57 = .ok (.aload_n 0, 1) := by decide +kernel
theorem dX4_backs_58 : decode cX4_backs 58 = .ok (.aload_n 0, 1) := by decide +kernel
theorem dX4_backs_59 : decode cX4_backs 59 = .ok (.getfield 7, 3) := by decide +kernel
theorem dX4_backs_62 : decode cX4_backs 62 = .ok (.iload_n 1, 1) := by decide +kernel
theorem dX4_backs_63 : decode cX4_backs 63 = .ok (.iconst 1, 1) := by decide +kernel
theorem dX4_backs_64 : decode cX4_backs 64 = .ok (.iadd, 1) := by decide +kernel
theorem dX4_backs_65 : decode cX4_backs 65 = .ok (.iaload, 1) := by decide +kernel
theorem dX4_backs_66 : decode cX4_backs 66 = .ok (.aload_n 0, 1) := by decide +kernel
theorem dX4_backs_67 : decode cX4_backs 67 = .ok (.getfield 7, 3) := by decide +kernel
theorem dX4_backs_70 : decode cX4_backs 70 = .ok (.iload_n 1, 1) := by decide +kernel
theorem dX4_backs_71 : decode cX4_backs 71 = .ok (.iconst 2, 1) := by decide +kernel
theorem dX4_backs_72 : decode cX4_backs 72 = .ok (.iadd, 1) := by decide +kernel
theorem dX4_backs_73 : decode cX4_backs 73 = .ok (.iaload, 1) := by decide +kernel
theorem dX4_backs_74 : decode cX4_backs 74 = .ok (.aload_n 0, 1) := by decide +kernel
theorem dX4_backs_75 : decode cX4_backs 75 = .ok (.iload_n 2, 1) := by decide +kernel
theorem dX4_backs_76 : decode cX4_backs 76 = .ok (.iconst 0, 1) := by decide +kernel
theorem dX4_backs_77 : decode cX4_backs 77 = .ok (.invokevirtual 71, 3) := by decide +kernel
theorem dX4_backs_80 : decode cX4_backs 80 = .ok (.iload_n 2, 1) := by decide +kernel
theorem dX4_backs_81 : decode cX4_backs 81 = .ok (.invokevirtual 87, 3) := by decide +kernel
theorem dX4_backs_84 : decode cX4_backs 84 = .ok (.ifCond .ne 5, 3) := by decide +kernel
theorem dX4_backs_87 : decode cX4_backs 87 = .ok (.iconst 3, 1) := by decide +kernel
theorem dX4_backs_88 : decode cX4_backs 88 = .ok (.ireturn, 1) := by decide +kernel
theorem dX4_backs_89 : decode cX4_backs 89 = .ok (.aload_n 0, 1) := by decide +kernel
theorem dX4_backs_90 : decode cX4_backs 90 = .ok (.iload_n 2, 1) := by decide +kernel
theorem dX4_backs_91 : decode cX4_backs 91 = .ok (.iconst 4, 1) := by decide +kernel
theorem dX4_backs_92 : decode cX4_backs 92 = .ok (.invokevirtual 71, 3) := by decide +kernel
theorem dX4_backs_95 : decode cX4_backs 95 = .ok (.istore_n 3, 1) := by decide +kernel
theorem dX4_backs_96 : decode cX4_backs 96 = .ok (.aload_n 0, 1) := by decide +kernel
theorem dX4_backs_97 : decode cX4_backs 97 = .ok (.iload_n 2, 1) := by decide +kernel
theorem dX4_backs_98 : decode cX4_backs 98 = .ok (.iconst 5, 1) := by decide +kernel
theorem dX4_backs_99 : decode cX4_backs 99 = .ok (.invokevirtual 71, 3) := by decide +kernel
theorem dX4_backs_102 : decode cX4_backs 102 = .ok (.istore 4, 2) := by decide +kernel
theorem dX4_backs_104 : decode cX4_backs 104 = .ok (.aload_n 0, 1) := by decide +kernel
theorem dX4_backs_105 : decode cX4_backs 105 = .ok (.iload_n 2, 1) := by decide +kernel
theorem dX4_backs_106 : decode cX4_backs 106 = .ok (.iconst 2, 1) := by decide +kernel
theorem dX4_backs_107 : decode cX4_backs 107 = .ok (.invokevirtual 71, 3) := by decide +kernel
theorem dX4_backs_110 : decode cX4_backs 110 = .ok (.istore 5, 2) := by decide +kernel
theorem dX4_backs_112 : decode cX4_backs 112 = .ok (.aload_n 0, 1) := by decide +kernel
theorem dX4_backs_113 : decode cX4_backs 113 = .ok (.iload_n 2, 1) := by decide +kernel
theorem dX4_backs_114 : decode cX4_backs 114 = .ok (.aload_n 0, 1) := by decide +kernel
theorem dX4_backs_115 : decode cX4_backs 115 = .ok (.getfield 7, 3) := by decide +kernel
theorem dX4_backs_118 : decode cX4_backs 118 = .ok (.iload_n 1, 1) := by decide +kernel
theorem dX4_backs_119 : decode cX4_backs 119 = .ok (.iconst 1, 1) := by decide +kernel
theorem dX4_backs_120 : decode cX4_backs 120 = .ok (.iadd, 1) := by decide +kernel
theorem dX4_backs_121 : decode cX4_backs 121 = .ok (.iaload, 1) := by decide +kernel
theorem dX4_backs_122 : decode cX4_backs 122 = .ok (.aload_n 0, 1) := by decide +kernel
theorem dX4_backs_123 : decode cX4_backs 123 = .ok (.getfield 7, 3) := by decide +kernel
theorem dX4_backs_126 : decode cX4_backs 126 = .ok (.iload_n 1, 1) := by decide +kernel
theorem dX4_backs_127 : decode cX4_backs 127 = .ok (.iconst 2, 1) := by decide +kernel
theorem dX4_backs_128 : decode cX4_backs 128 = .ok (.iadd, 1) := by decide +kernel
theorem dX4_backs_129 : decode cX4_backs 129 = .ok (.iaload, 1) := by decide +kernel
theorem dX4_backs_130 : decode cX4_backs 130 = .ok (.aload_n 0, 1) := by decide +kernel
theorem dX4_backs_131 : decode cX4_backs 131 = .ok (.getfield 7, 3) := by decide +kernel
theorem dX4_backs_134 : decode cX4_backs 134 = .ok (.iload_n 1, 1) := by decide +kernel
theorem dX4_backs_135 : decode cX4_backs 135 = .ok (.iconst 3, 1) := by decide +kernel
theorem dX4_backs_136 : decode cX4_backs 136 = .ok (.iadd, 1) := by decide +kernel
theorem dX4_backs_137 : decode cX4_backs 137 = .ok (.iaload, 1) := by decide +kernel
theorem dX4_backs_138 : decode cX4_backs 138 = .ok (.invokevirtual 128, 3) := by decide +kernel
theorem dX4_backs_141 : decode cX4_backs 141 = .ok (.aload_n 0, 1) := by decide +kernel
theorem dX4_backs_142 : decode cX4_backs 142 = .ok (.invokevirtual 122, 3) := by decide +kernel
theorem dX4_backs_145 : decode cX4_backs 145 = .ok (.istore 6, 2) := by decide +kernel
theorem dX4_backs_147 : decode cX4_backs 147 = .ok (.iload 6, 2) := by decide +kernel
theorem dX4_backs_149 : decode cX4_backs 149 = .ok (.ifCond .le 16, 3) := by decide +kernel
theorem dX4_backs_152 : decode cX4_backs 152 = .ok (.aload_n 0, 1) := by decide +kernel
theorem dX4_backs_153 : decode cX4_backs 153 = .ok (.iload_n 2, 1) := by decide +kernel
theorem dX4_backs_154 : decode cX4_backs 154 = .ok (.iload_n 3, 1) := by decide +kernel
theorem dX4_backs_155 : decode cX4_backs 155 = .ok (.iload 4, 2) := by decide +kernel
theorem dX4_backs_157 : decode cX4_backs 157 = .ok (.iload 5, 2) := by decide +kernel
theorem dX4_backs_159 : decode cX4_backs 159 = .ok (.invokevirtual 128, 3) := by decide +kernel
theorem dX4_backs_162 : decode cX4_backs 162 = .ok (.iload 6, 2) := by decide +kernel
theorem dX4_backs_164 : decode cX4_backs 164 = .ok (.ireturn, 1) := by decide +kernel
theorem dX4_backs_165 : decode cX4_backs 165 = .ok (.aload_n 0, 1) := by decide +kernel
theorem dX4_backs_166 : decode cX4_backs 166 = .ok (.getfield 7, 3) := by decide +kernel
theorem dX4_backs_169 : decode cX4_backs 169 = .ok (.bipush 16, 2) := by decide +kernel
theorem dX4_backs_171 : decode cX4_backs 171 = .ok (.dup2, 1) := by decide +kernel
theorem dX4_backs_172 : decode cX4_backs 172 = .ok (.iaload, 1) := by decide +kernel
theorem dX4_backs_173 : decode cX4_backs 173 = .ok (.iconst 1, 1) := by decide +kernel
theorem dX4_backs_174 : decode cX4_backs 174 = .ok (.isub, 1) := by decide +kernel
theorem dX4_backs_175 : decode cX4_backs 175 = .ok (.iastore, 1) := by decide +kernel
theorem dX4_backs_176 : decode cX4_backs 176 = .ok (.aload_n 0, 1) := by decide +kernel
theorem dX4_backs_177 : decode cX4_backs 177 = .ok (.getfield 7, 3) := by decide +kernel
theorem dX4_backs_180 : decode cX4_backs 180 = .ok (.bipush 18, 2) := by decide +kernel
theorem dX4_backs_182 : decode cX4_backs 182 = .ok (.dup2, 1) := by decide +kernel
theorem dX4_backs_183 : decode cX4_backs 183 = .ok (.iaload, 1) := by decide +kernel
theorem dX4_backs_184 : decode cX4_backs 184 = .ok (.iconst 1, 1) := by decide +kernel
theorem dX4_backs_185 : decode cX4_backs 185 = .ok (.iadd, 1) := by decide +kernel
theorem dX4_backs_186 : decode cX4_backs 186 = .ok (.iastore, 1) := by decide +kernel
theorem dX4_backs_187 : decode cX4_backs 187 = .ok (.iconst 0, 1) := by decide +kernel
theorem dX4_backs_188 : decode cX4_backs 188 = .ok (.ireturn, 1) := by decide +kernel
theorem dX4_isPlace_0 : decode cX4_isPlace 0 = .ok (.iload_n 0, 1) := by decide +kernel
theorem dX4_isPlace_1 : decode cX4_isPlace 1 = .ok (.iconst (-1), 1) := by decide +kernel
theorem dX4_isPlace_2 : decode cX4_isPlace 2 = .ok (.iconst 5, 1) := by decide +kernel
theorem dX4_isPlace_3 : decode cX4_isPlace 3 = .ok (.invokestatic 43, 3) := by decide +kernel
theorem dX4_isPlace_6 : decode cX4_isPlace 6 = .ok (.ireturn, 1) := by decide +kernel
theorem dX4_ends_0 : decode cX4_ends 0 = .ok (.iload_n 1, 1) := by decide +kernel
theorem dX4_ends_1 : decode cX4_ends 1 = .ok (.ifCond .ne 11, 3) := by decide +kernel
theorem dX4_ends_4 : decode cX4_ends 4 = .ok (.aload_n 0, 1) := by decide +kernel
theorem dX4_ends_5 : decode cX4_ends 5 = .ok (.aload_n 0, 1) := by decide +kernel
theorem dX4_ends_6 : decode cX4_ends 6 = .ok (.getfield 16, 3) := by decide +kernel
theorem dX4_ends_9 : decode cX4_ends 9 = .ok (.invokevirtual 29, 3) := by decide +kernel
theorem dX4_ends_12 : decode cX4_ends 12 = .ok (.iload_n 1, 1) := by decide +kernel
theorem dX4_ends_13 : decode cX4_ends 13 = .ok (.ireturn, 1) := by decide +kernel
theorem dX4_move_0 : decode cX4_move 0 = .ok (.aload_n 0, 1) := by decide +kernel
theorem dX4_move_1 : decode cX4_move 1 = .ok (.aload_n 0, 1) := by decide +kernel
theorem dX4_move_2 : decode cX4_move 2 = .ok (.iload_n 1, 1) := by decide +kernel
theorem dX4_move_3 : decode cX4_move 3 = .ok (.invokevirtual 57, 3) := by decide +kernel
theorem dX4_move_6 : decode cX4_move 6 = .ok (.ifCond .ne 7, 3) := by decide +kernel
theorem dX4_move_9 : decode cX4_move 9 = .ok (.iconst 1, 1) := by decide +kernel
theorem dX4_move_10 : decode cX4_move 10 = .ok (.goto 15, 3) := by decide +kernel
theorem dX4_move_13 : decode cX4_move 13 = .ok (.iload_n 2, 1) := by decide +kernel
theorem dX4_move_14 : decode cX4_move 14 = .ok (.invokestatic 136, 3) := by decide +kernel
theorem dX4_move_17 : decode cX4_move 17 = .ok (.ifCond .eq 7, 3) := by decide +kernel
theorem dX4_move_20 : decode cX4_move 20 = .ok (.iconst 0, 1) := by decide +kernel
theorem dX4_move_21 : decode cX4_move 21 = .ok (.goto 4, 3) := by decide +kernel
theorem dX4_move_24 : decode cX4_move 24 = .ok (.iconst 2, 1) := by decide +kernel
theorem dX4_move_25 : decode cX4_move 25 = .ok (.invokevirtual 36, 3) := by decide +kernel
theorem dX4_move_28 : decode cX4_move 28 = .ok (.ifCond .eq 5, 3) := by decide +kernel
theorem dX4_move_31 : decode cX4_move 31 = .ok (.iconst 0, 1) := by decide +kernel
theorem dX4_move_32 : decode cX4_move 32 = .ok (.ireturn, 1) := by decide +kernel
theorem dX4_move_33 : decode cX4_move 33 = .ok (.aload_n 0, 1) := by decide +kernel
theorem dX4_move_34 : decode cX4_move 34 = .ok (.getfield 16, 3) := by decide +kernel
theorem dX4_move_37 : decode cX4_move 37 = .ok (.aload_n 0, 1) := by decide +kernel
theorem dX4_move_38 : decode cX4_move 38 = .ok (.getfield 7, 3) := by decide +kernel
theorem dX4_move_41 : decode cX4_move 41 = .ok (.invokestatic 139, 3) := by decide +kernel
theorem dX4_move_44 : decode cX4_move 44 = .ok (.aload_n 0, 1) := by decide +kernel
theorem dX4_move_45 : decode cX4_move 45 = .ok (.aload_n 0, 1) := by decide +kernel
theorem dX4_move_46 : decode cX4_move 46 = .ok (.iload_n 1, 1) := by decide +kernel
theorem dX4_move_47 : decode cX4_move 47 = .ok (.iload_n 2, 1) := by decide +kernel
theorem dX4_move_48 : decode cX4_move 48 = .ok (.invokevirtual 143, 3) := by decide +kernel
theorem dX4_move_51 : decode cX4_move 51 = .ok (.invokevirtual 146, 3) := by decide +kernel
theorem dX4_move_54 : decode cX4_move 54 = .ok (.ireturn, 1) := by decide +kernel
theorem dX4_change_0 : decode cX4_change 0 = .ok (.aload_n 0, 1) := by decide +kernel
theorem dX4_change_1 : decode cX4_change 1 = .ok (.aload_n 0, 1) := by decide +kernel
theorem dX4_change_2 : decode cX4_change 2 = .ok (.iload_n 1, 1) := by decide +kernel
theorem dX4_change_3 : decode cX4_change 3 = .ok (.invokevirtual 57, 3) := by decide +kernel
theorem dX4_change_6 : decode cX4_change 6 = .ok (.ifCond .ne 7, 3) := by decide +kernel
theorem dX4_change_9 : decode cX4_change 9 = .ok (.iconst 1, 1) := by decide +kernel
theorem dX4_change_10 : decode cX4_change 10 = .ok (.goto 17, 3) := by decide +kernel
theorem dX4_change_13 : decode cX4_change 13 = .ok (.iload_n 2, 1) := by decide +kernel
theorem dX4_change_14 : decode cX4_change 14 = .ok (.iconst 0, 1) := by decide +kernel
theorem dX4_change_15 : decode cX4_change 15 = .ok (.iconst 2, 1) := by decide +kernel
theorem dX4_change_16 : decode cX4_change 16 = .ok (.invokestatic 43, 3) := by decide +kernel
theorem dX4_change_19 : decode cX4_change 19 = .ok (.ifCond .eq 7, 3) := by decide +kernel
theorem dX4_change_22 : decode cX4_change 22 = .ok (.iconst 0, 1) := by decide +kernel
theorem dX4_change_23 : decode cX4_change 23 = .ok (.goto 4, 3) := by decide +kernel
theorem dX4_change_26 : decode cX4_change 26 = .ok (.iconst 2, 1) := by decide +kernel
theorem dX4_change_27 : decode cX4_change 27 = .ok (.invokevirtual 36, 3) := by decide +kernel
theorem dX4_change_30 : decode cX4_change 30 = .ok (.ifCond .eq 5, 3) := by decide +kernel
theorem dX4_change_33 : decode cX4_change 33 = .ok (.iconst 0, 1) := by decide +kernel
theorem dX4_change_34 : decode cX4_change 34 = .ok (.ireturn, 1) := by decide +kernel
theorem dX4_change_35 : decode cX4_change 35 = .ok (.aload_n 0, 1) := by decide +kernel
theorem dX4_change_36 : decode cX4_change 36 = .ok (.getfield 16, 3) := by decide +kernel
theorem dX4_change_39 : decode cX4_change 39 = .ok (.aload_n 0, 1) := by decide +kernel
theorem dX4_change_40 : decode cX4_change 40 = .ok (.getfield 7, 3) := by decide +kernel
theorem dX4_change_43 : decode cX4_change 43 = .ok (.invokestatic 139, 3) := by decide +kernel
theorem dX4_change_46 : decode cX4_change 46 = .ok (.aload_n 0, 1) := by decide +kernel
theorem dX4_change_47 : decode cX4_change 47 = .ok (.aload_n 0, 1) := by decide +kernel
theorem dX4_change_48 : decode cX4_change 48 = .ok (.iload_n 1, 1) := by decide +kernel
theorem dX4_change_49 : decode cX4_change 49 = .ok (.iload_n 2, 1) := by decide +kernel
theorem dX4_change_50 : decode cX4_change 50 = .ok (.invokevirtual 149, 3) := by decide +kernel
theorem dX4_change_53 : decode cX4_change 53 = .ok (.invokevirtual 146, 3) := by decide +kernel
theorem dX4_change_56 : decode cX4_change 56 = .ok (.ireturn, 1) := by decide +kernel
theorem dX4_backOut_0 : decode cX4_backOut 0 = .ok (.aload_n 0, 1) := by decide +kernel
theorem dX4_backOut_1 : decode cX4_backOut 1 = .ok (.iconst 0, 1) := by decide +kernel
theorem dX4_backOut_2 : decode cX4_backOut 2 = .ok (.putfield 25, 3) := by decide +kernel
theorem dX4_backOut_5 : decode cX4_backOut 5 = .ok (.aload_n 0, 1) := by decide +kernel
theorem dX4_backOut_6 : decode cX4_backOut 6 = .ok (.getfield 16, 3) := by decide +kernel
theorem dX4_backOut_9 : decode cX4_backOut 9 = .ok (.aload_n 0, 1) := by decide +kernel
theorem dX4_backOut_10 : decode cX4_backOut 10 = .ok (.getfield 7, 3) := by decide +kernel
theorem dX4_backOut_13 : decode cX4_backOut 13 = .ok (.invokestatic 139, 3) := by decide +kernel
theorem dX4_backOut_16 : decode cX4_backOut 16 = .ok (.aload_n 0, 1) := by decide +kernel
theorem dX4_backOut_17 : decode cX4_backOut 17 = .ok (.aload_n 0, 1) := by decide +kernel
theorem dX4_backOut_18 : decode cX4_backOut 18 = .ok (.invokevirtual 152, 3) := by decide +kernel
theorem dX4_backOut_21 : decode cX4_backOut 21 = .ok (.invokevirtual 146, 3) := by decide +kernel
theorem dX4_backOut_24 : decode cX4_backOut 24 = .ok (.ireturn, 1) := by decide +kernel
theorem dX4_tellPile_0 : decode cX4_tellPile 0 = .ok (.aload_n 0, 1) := by decide +kernel
theorem dX4_tellPile_1 : decode cX4_tellPile 1 = .ok (.getfield 7, 3) := by decide +kernel
theorem dX4_tellPile_4 : decode cX4_tellPile 4 = .ok (.sipush 139, 3) := by decide +kernel
theorem dX4_tellPile_7 : decode cX4_tellPile 7 = .ok (.iconst 4, 1) := by decide +kernel
theorem dX4_tellPile_8 : decode cX4_tellPile 8 = .ok (.aload_n 0, 1) := by decide +kernel
theorem dX4_tellPile_9 : decode cX4_tellPile 9 = .ok (.getfield 7, 3) := by decide +kernel
theorem dX4_tellPile_12 : decode cX4_tellPile 12 = .ok (.bipush 16, 2) := by decide +kernel
theorem dX4_tellPile_14 : decode cX4_tellPile 14 = .ok (.iaload, 1) := by decide +kernel
theorem dX4_tellPile_15 : decode cX4_tellPile 15 = .ok (.iconst 1, 1) := by decide +kernel
theorem dX4_tellPile_16 : decode cX4_tellPile 16 = .ok (.isub, 1) := by decide +kernel
theorem dX4_tellPile_17 : decode cX4_tellPile 17 = .ok (.iload_n 1, 1) := by decide +kernel
theorem dX4_tellPile_18 : decode cX4_tellPile 18 = .ok (.isub, 1) := by decide +kernel
theorem dX4_tellPile_19 : decode cX4_tellPile 19 = .ok (.imul, 1) := by decide +kernel
theorem dX4_tellPile_20 : decode cX4_tellPile 20 = .ok (.iadd, 1) := by decide +kernel
theorem dX4_tellPile_21 : decode cX4_tellPile 21 = .ok (.iload_n 2, 1) := by decide +kernel
theorem dX4_tellPile_22 : decode cX4_tellPile 22 = .ok (.iadd, 1) := by decide +kernel
theorem dX4_tellPile_23 : decode cX4_tellPile 23 = .ok (.iaload, 1) := by decide +kernel
theorem dX4_tellPile_24 : decode cX4_tellPile 24 = .ok (.ireturn, 1) := by decide +kernel
theorem dX4_pile_0 : decode cX4_pile 0 = .ok (.aload_n 0, 1) := by decide +kernel
theorem dX4_pile_1 : decode cX4_pile 1 = .ok (.iload_n 1, 1) := by decide +kernel
theorem dX4_pile_2 : decode cX4_pile 2 = .ok (.ifCond .ge 7, 3) := by decide +kernel
theorem dX4_pile_5 : decode cX4_pile 5 = .ok (.iconst 1, 1) := by decide +kernel
theorem dX4_pile_6 : decode cX4_pile 6 = .ok (.goto 17, 3) := by decide +kernel
theorem dX4_pile_9 : decode cX4_pile 9 = .ok (.iload_n 2, 1) := by decide +kernel
theorem dX4_pile_10 : decode cX4_pile 10 = .ok (.iconst 0, 1) := by decide +kernel
theorem dX4_pile_11 : decode cX4_pile 11 = .ok (.iconst 3, 1) := by decide +kernel
theorem dX4_pile_12 : decode cX4_pile 12 = .ok (.invokestatic 43, 3) := by decide +kernel
theorem dX4_pile_15 : decode cX4_pile 15 = .ok (.ifCond .eq 7, 3) := by decide +kernel
theorem dX4_pile_18 : decode cX4_pile 18 = .ok (.iconst 0, 1) := by decide +kernel
theorem dX4_pile_19 : decode cX4_pile 19 = .ok (.goto 4, 3) := by decide +kernel
theorem dX4_pile_22 : decode cX4_pile 22 = .ok (.iconst 2, 1) := by decide +kernel
theorem dX4_pile_23 : decode cX4_pile 23 = .ok (.invokevirtual 36, 3) := by decide +kernel
theorem dX4_pile_26 : decode cX4_pile 26 = .ok (.ifCond .eq 5, 3) := by decide +kernel
theorem dX4_pile_29 : decode cX4_pile 29 = .ok (.iconst 0, 1) := by decide +kernel
theorem dX4_pile_30 : decode cX4_pile 30 = .ok (.ireturn, 1) := by decide +kernel
theorem dX4_pile_31 : decode cX4_pile 31 = .ok (.iload_n 1, 1) := by decide +kernel
theorem dX4_pile_32 : decode cX4_pile 32 = .ok (.aload_n 0, 1) := by decide +kernel
theorem dX4_pile_33 : decode cX4_pile 33 = .ok (.getfield 7, 3) := by decide +kernel
theorem dX4_pile_36 : decode cX4_pile 36 = .ok (.bipush 16, 2) := by decide +kernel
theorem dX4_pile_38 : decode cX4_pile 38 = .ok (.iaload, 1) := by decide +kernel
theorem dX4_pile_39 : decode cX4_pile 39 = .ok (.if_icmp .lt 7, 3) := by decide +kernel
theorem dX4_pile_42 : decode cX4_pile 42 = .ok (.iconst (-1), 1) := by decide +kernel
theorem dX4_pile_43 : decode cX4_pile 43 = .ok (.goto 9, 3) := by decide +kernel
theorem dX4_pile_46 : decode cX4_pile 46 = .ok (.aload_n 0, 1) := by decide +kernel
theorem dX4_pile_47 : decode cX4_pile 47 = .ok (.iload_n 1, 1) := by decide +kernel
theorem dX4_pile_48 : decode cX4_pile 48 = .ok (.iload_n 2, 1) := by decide +kernel
theorem dX4_pile_49 : decode cX4_pile 49 = .ok (.invokevirtual 155, 3) := by decide +kernel
theorem dX4_pile_52 : decode cX4_pile 52 = .ok (.ireturn, 1) := by decide +kernel
theorem dX4_mayMove_0 : decode cX4_mayMove 0 = .ok (.aload_n 0, 1) := by decide +kernel
theorem dX4_mayMove_1 : decode cX4_mayMove 1 = .ok (.aload_n 0, 1) := by decide +kernel
theorem dX4_mayMove_2 : decode cX4_mayMove 2 = .ok (.iload_n 1, 1) := by decide +kernel
theorem dX4_mayMove_3 : decode cX4_mayMove 3 = .ok (.invokevirtual 57, 3) := by decide +kernel
theorem dX4_mayMove_6 : decode cX4_mayMove 6 = .ok (.ifCond .ne 7, 3) := by decide +kernel
theorem dX4_mayMove_9 : decode cX4_mayMove 9 = .ok (.iconst 1, 1) := by decide +kernel
theorem dX4_mayMove_10 : decode cX4_mayMove 10 = .ok (.goto 15, 3) := by decide +kernel
theorem dX4_mayMove_13 : decode cX4_mayMove 13 = .ok (.iload_n 2, 1) := by decide +kernel
theorem dX4_mayMove_14 : decode cX4_mayMove 14 = .ok (.invokestatic 136, 3) := by decide +kernel
theorem dX4_mayMove_17 : decode cX4_mayMove 17 = .ok (.ifCond .eq 7, 3) := by decide +kernel
theorem dX4_mayMove_20 : decode cX4_mayMove 20 = .ok (.iconst 0, 1) := by decide +kernel
theorem dX4_mayMove_21 : decode cX4_mayMove 21 = .ok (.goto 4, 3) := by decide +kernel
theorem dX4_mayMove_24 : decode cX4_mayMove 24 = .ok (.iconst 2, 1) := by decide +kernel
theorem dX4_mayMove_25 : decode cX4_mayMove 25 = .ok (.invokevirtual 36, 3) := by decide +kernel
theorem dX4_mayMove_28 : decode cX4_mayMove 28 = .ok (.ifCond .eq 5, 3) := by decide +kernel
theorem dX4_mayMove_31 : decode cX4_mayMove 31 = .ok (.iconst 0, 1) := by decide +kernel
theorem dX4_mayMove_32 : decode cX4_mayMove 32 = .ok (.ireturn, 1) := by decide +kernel
theorem dX4_mayMove_33 : decode cX4_mayMove 33 = .ok (.aload_n 0, 1) := by decide +kernel
theorem dX4_mayMove_34 : decode cX4_mayMove 34 = .ok (.getfield 19, 3) := by decide +kernel
theorem dX4_mayMove_37 : decode cX4_mayMove 37 = .ok (.aload_n 0, 1) := by decide +kernel
theorem dX4_mayMove_38 : decode cX4_mayMove 38 = .ok (.getfield 7, 3) := by decide +kernel
theorem dX4_mayMove_41 : decode cX4_mayMove 41 = .ok (.invokestatic 139, 3) := by decide +kernel
theorem dX4_mayMove_44 : decode cX4_mayMove 44 = .ok (.aload_n 0, 1) := by decide +kernel
theorem dX4_mayMove_45 : decode cX4_mayMove 45 = .ok (.iload_n 1, 1) := by decide +kernel
theorem dX4_mayMove_46 : decode cX4_mayMove 46 = .ok (.iload_n 2, 1) := by decide +kernel
theorem dX4_mayMove_47 : decode cX4_mayMove 47 = .ok (.invokevirtual 143, 3) := by decide +kernel
theorem dX4_mayMove_50 : decode cX4_mayMove 50 = .ok (.istore_n 3, 1) := by decide +kernel
theorem dX4_mayMove_51 : decode cX4_mayMove 51 = .ok (.aload_n 0, 1) := by decide +kernel
theorem dX4_mayMove_52 : decode cX4_mayMove 52 = .ok (.getfield 7, 3) := by decide +kernel
theorem dX4_mayMove_55 : decode cX4_mayMove 55 = .ok (.aload_n 0, 1) := by decide +kernel
theorem dX4_mayMove_56 : decode cX4_mayMove 56 = .ok (.getfield 19, 3) := by decide +kernel
theorem dX4_mayMove_59 : decode cX4_mayMove 59 = .ok (.invokestatic 139, 3) := by decide +kernel
theorem dX4_mayMove_62 : decode cX4_mayMove 62 = .ok (.iload_n 3, 1) := by decide +kernel
theorem dX4_mayMove_63 : decode cX4_mayMove 63 = .ok (.ireturn, 1) := by decide +kernel
theorem dX4_fullest_0 : decode cX4_fullest 0 = .ok (.iconst 0, 1) := by decide +kernel
theorem dX4_fullest_1 : decode cX4_fullest 1 = .ok (.istore_n 1, 1) := by decide +kernel
theorem dX4_fullest_2 : decode cX4_fullest 2 = .ok (.iconst 0, 1) := by decide +kernel
theorem dX4_fullest_3 : decode cX4_fullest 3 = .ok (.istore_n 2, 1) := by decide +kernel
theorem dX4_fullest_4 : decode cX4_fullest 4 = .ok (.iload_n 2, 1) := by decide +kernel
theorem dX4_fullest_5 : decode cX4_fullest 5 = .ok (.bipush 6, 2) := by decide +kernel
theorem dX4_fullest_7 : decode cX4_fullest 7 = .ok (.if_icmp .ge 27, 3) := by decide +kernel
theorem dX4_fullest_10 : decode cX4_fullest 10 = .ok (.aload_n 0, 1) := by decide +kernel
theorem dX4_fullest_11 : decode cX4_fullest 11 = .ok (.iload_n 2, 1) := by decide +kernel
theorem dX4_fullest_12 : decode cX4_fullest 12 = .ok (.iconst (-1), 1) := by decide +kernel
theorem dX4_fullest_13 : decode cX4_fullest 13 = .ok (.invokevirtual 91, 3) := by decide +kernel
theorem dX4_fullest_16 : decode cX4_fullest 16 = .ok (.istore_n 3, 1) := by decide +kernel
theorem dX4_fullest_17 : decode cX4_fullest 17 = .ok (.iload_n 3, 1) := by decide +kernel
theorem dX4_fullest_18 : decode cX4_fullest 18 = .ok (.iload_n 1, 1) := by decide +kernel
theorem dX4_fullest_19 : decode cX4_fullest 19 = .ok (.if_icmp .le 7, 3) := by decide +kernel
theorem dX4_fullest_22 : decode cX4_fullest 22 = .ok (.iload_n 3, 1) := by decide +kernel
theorem dX4_fullest_23 : decode cX4_fullest 23 = .ok (.goto 4, 3) := by decide +kernel
theorem dX4_fullest_26 : decode cX4_fullest 26 = .ok (.iload_n 1, 1) := by decide +kernel
theorem dX4_fullest_27 : decode cX4_fullest 27 = .ok (.istore_n 1, 1) := by decide +kernel
theorem dX4_fullest_28 : decode cX4_fullest 28 = .ok (.iinc 2 1, 3) := by decide +kernel
theorem dX4_fullest_31 : decode cX4_fullest 31 = .ok (.goto (-27), 3) := by decide +kernel
theorem dX4_fullest_34 : decode cX4_fullest 34 = .ok (.iload_n 1, 1) := by decide +kernel
theorem dX4_fullest_35 : decode cX4_fullest 35 = .ok (.ireturn, 1) := by decide +kernel
theorem dX4_bestRack_0 : decode cX4_bestRack 0 = .ok (.aload_n 0, 1) := by decide +kernel
theorem dX4_bestRack_1 : decode cX4_bestRack 1 = .ok (.aload_n 0, 1) := by decide +kernel
theorem dX4_bestRack_2 : decode cX4_bestRack 2 = .ok (.iload_n 1, 1) := by decide +kernel
theorem dX4_bestRack_3 : decode cX4_bestRack 3 = .ok (.invokevirtual 57, 3) := by decide +kernel
theorem dX4_bestRack_6 : decode cX4_bestRack 6 = .ok (.ifCond .eq 7, 3) := by decide +kernel
theorem dX4_bestRack_9 : decode cX4_bestRack 9 = .ok (.iconst 0, 1) := by decide +kernel
theorem dX4_bestRack_10 : decode cX4_bestRack 10 = .ok (.goto 4, 3) := by decide +kernel
theorem dX4_bestRack_13 : decode cX4_bestRack 13 = .ok (.iconst 1, 1) := by decide +kernel
theorem dX4_bestRack_14 : decode cX4_bestRack 14 = .ok (.invokevirtual 36, 3) := by decide +kernel
theorem dX4_bestRack_17 : decode cX4_bestRack 17 = .ok (.ifCond .eq 5, 3) := by decide +kernel
theorem dX4_bestRack_20 : decode cX4_bestRack 20 = .ok (.iconst 0, 1) := by decide +kernel
theorem dX4_bestRack_21 : decode cX4_bestRack 21 = .ok (.ireturn, 1) := by decide +kernel
theorem dX4_bestRack_22 : decode cX4_bestRack 22 = .ok (.iconst (-1), 1) := by decide +kernel
theorem dX4_bestRack_23 : decode cX4_bestRack 23 = .ok (.istore_n 2, 1) := by decide +kernel
theorem dX4_bestRack_24 : decode cX4_bestRack 24 = .ok (.iconst 0, 1) := by decide +kernel
theorem dX4_bestRack_25 : decode cX4_bestRack 25 = .ok (.istore_n 3, 1) := by decide +kernel
theorem dX4_bestRack_26 : decode cX4_bestRack 26 = .ok (.aload_n 0, 1) := by decide +kernel
theorem dX4_bestRack_27 : decode cX4_bestRack 27 = .ok (.getfield 19, 3) := by decide +kernel
theorem dX4_bestRack_30 : decode cX4_bestRack 30 = .ok (.aload_n 0, 1) := by decide +kernel
theorem dX4_bestRack_31 : decode cX4_bestRack 31 = .ok (.getfield 7, 3) := by decide +kernel
theorem dX4_bestRack_34 : decode cX4_bestRack 34 = .ok (.invokestatic 139, 3) := by decide +kernel
theorem dX4_bestRack_37 : decode cX4_bestRack 37 = .ok (.iconst 0, 1) := by decide +kernel
theorem dX4_bestRack_38 : decode cX4_bestRack 38 = .ok (.istore 4, 2) := by decide +kernel
theorem dX4_bestRack_40 : decode cX4_bestRack 40 = .ok (.iload 4, 2) := by decide +kernel
theorem dX4_bestRack_42 : decode cX4_bestRack 42 = .ok (.bipush 6, 2) := by decide +kernel
theorem dX4_bestRack_44 : decode cX4_bestRack 44 = .ok (.if_icmp .ge 65, 3) := by decide +kernel
theorem dX4_bestRack_47 : decode cX4_bestRack 47 = .ok (.aload_n 0, 1) := by decide +kernel
theorem dX4_bestRack_48 : decode cX4_bestRack 48 = .ok (.iload_n 1, 1) := by decide +kernel
theorem dX4_bestRack_49 : decode cX4_bestRack 49 = .ok (.iload 4, 2) := by decide +kernel
theorem dX4_bestRack_51 : decode cX4_bestRack 51 = .ok (.invokevirtual 143, 3) := by decide +kernel
theorem dX4_bestRack_54 : decode cX4_bestRack 54 = .ok (.ifCond .ne 7, 3) := by decide +kernel
theorem dX4_bestRack_57 : decode cX4_bestRack 57 = .ok (.iconst 1, 1) := by decide +kernel
theorem dX4_bestRack_58 : decode cX4_bestRack 58 = .ok (.goto 4, 3) := by decide +kernel
theorem dX4_bestRack_61 : decode cX4_bestRack 61 = .ok (.iconst 0, 1) := by decide +kernel
theorem dX4_bestRack_62 : decode cX4_bestRack 62 = .ok (.istore 5, 2) := by decide +kernel
theorem dX4_bestRack_64 : decode cX4_bestRack 64 = .ok (.aload_n 0, 1) := by decide +kernel
theorem dX4_bestRack_65 : decode cX4_bestRack 65 = .ok (.invokevirtual 158, 3) := by decide +kernel
theorem dX4_bestRack_68 : decode cX4_bestRack 68 = .ok (.istore 6, 2) := by decide +kernel
theorem dX4_bestRack_70 : decode cX4_bestRack 70 = .ok (.aload_n 0, 1) := by decide +kernel
theorem dX4_bestRack_71 : decode cX4_bestRack 71 = .ok (.getfield 7, 3) := by decide +kernel
theorem dX4_bestRack_74 : decode cX4_bestRack 74 = .ok (.aload_n 0, 1) := by decide +kernel
theorem dX4_bestRack_75 : decode cX4_bestRack 75 = .ok (.getfield 19, 3) := by decide +kernel
theorem dX4_bestRack_78 : decode cX4_bestRack 78 = .ok (.invokestatic 139, 3) := by decide +kernel
theorem dX4_bestRack_81 : decode cX4_bestRack 81 = .ok (.iload 5, 2) := by decide +kernel
theorem dX4_bestRack_83 : decode cX4_bestRack 83 = .ok (.ifCond .eq 20, 3) := by decide +kernel
theorem dX4_bestRack_86 : decode cX4_bestRack 86 = .ok (.iload_n 2, 1) := by decide +kernel
theorem dX4_bestRack_87 : decode cX4_bestRack 87 = .ok (.iconst (-1), 1) := by decide +kernel
theorem dX4_bestRack_88 : decode cX4_bestRack 88 = .ok (.if_icmp .eq 9, 3) := by decide +kernel
theorem dX4_bestRack_91 : decode cX4_bestRack 91 = .ok (.iload 6, 2) := by decide +kernel
theorem dX4_bestRack_93 : decode cX4_bestRack 93 = .ok (.iload_n 3, 1) := by decide +kernel
theorem dX4_bestRack_94 : decode cX4_bestRack 94 = .ok (.if_icmp .ge 9, 3) := by decide +kernel
theorem dX4_bestRack_97 : decode cX4_bestRack 97 = .ok (.iload 4, 2) := by decide +kernel
theorem dX4_bestRack_99 : decode cX4_bestRack 99 = .ok (.istore_n 2, 1) := by decide +kernel
theorem dX4_bestRack_100 : decode cX4_bestRack 100 = .ok (.iload 6, 2) := by decide +kernel
theorem dX4_bestRack_102 : decode cX4_bestRack 102 = .ok (.istore_n 3, 1) := by decide +kernel
theorem dX4_bestRack_103 : decode cX4_bestRack 103 = .ok (.iinc 4 1, 3) := by decide +kernel
theorem dX4_bestRack_106 : decode cX4_bestRack 106 = .ok (.goto (-66), 3) := by decide +kernel
theorem dX4_bestRack_109 : decode cX4_bestRack 109 = .ok (.iload_n 2, 1) := by decide +kernel
theorem dX4_bestRack_110 : decode cX4_bestRack 110 = .ok (.ireturn, 1) := by decide +kernel
theorem dX4_bestChange_0 : decode cX4_bestChange 0 = .ok (.aload_n 0, 1) := by decide +kernel
theorem dX4_bestChange_1 : decode cX4_bestChange 1 = .ok (.iconst 0, 1) := by decide +kernel
theorem dX4_bestChange_2 : decode cX4_bestChange 2 = .ok (.putfield 25, 3) := by decide +kernel
theorem dX4_bestChange_5 : decode cX4_bestChange 5 = .ok (.iconst (-1), 1) := by decide +kernel
theorem dX4_bestChange_6 : decode cX4_bestChange 6 = .ok (.istore_n 1, 1) := by decide +kernel
theorem dX4_bestChange_7 : decode cX4_bestChange 7 = .ok (.aload_n 0, 1) := by decide +kernel
theorem dX4_bestChange_8 : decode cX4_bestChange 8 = .ok (.invokevirtual 115, 3) := by decide +kernel
theorem dX4_bestChange_11 : decode cX4_bestChange 11 = .ok (.istore_n 2, 1) := by decide +kernel
theorem dX4_bestChange_12 : decode cX4_bestChange 12 = .ok (.aload_n 0, 1) := by decide +kernel
theorem dX4_bestChange_13 : decode cX4_bestChange 13 = .ok (.getfield 19, 3) := by decide +kernel
theorem dX4_bestChange_16 : decode cX4_bestChange 16 = .ok (.aload_n 0, 1) := by decide +kernel
theorem dX4_bestChange_17 : decode cX4_bestChange 17 = .ok (.getfield 7, 3) := by decide +kernel
theorem dX4_bestChange_20 : decode cX4_bestChange 20 = .ok (.invokestatic 139, 3) := by decide +kernel
theorem dX4_bestChange_23 : decode cX4_bestChange 23 = .ok (.iconst 0, 1) := by decide +kernel
theorem dX4_bestChange_24 : decode cX4_bestChange 24 = .ok (.istore_n 3, 1) := by decide +kernel
theorem dX4_bestChange_25 : decode cX4_bestChange 25 = .ok (.iload_n 3, 1) := by decide +kernel
theorem dX4_bestChange_26 : decode cX4_bestChange 26 = .ok (.iconst 3, 1) := by decide +kernel
theorem dX4_bestChange_27 : decode cX4_bestChange 27 = .ok (.aload_n 0, 1) := by decide +kernel
theorem dX4_bestChange_28 : decode cX4_bestChange 28 = .ok (.getfield 7, 3) := by decide +kernel
theorem dX4_bestChange_31 : decode cX4_bestChange 31 = .ok (.bipush 13, 2) := by decide +kernel
theorem dX4_bestChange_33 : decode cX4_bestChange 33 = .ok (.iaload, 1) := by decide +kernel
theorem dX4_bestChange_34 : decode cX4_bestChange 34 = .ok (.imul, 1) := by decide +kernel
theorem dX4_bestChange_35 : decode cX4_bestChange 35 = .ok (.if_icmp .ge 62, 3) := by decide +kernel
theorem dX4_bestChange_38 : decode cX4_bestChange 38 = .ok (.aload_n 0, 1) := by decide +kernel
theorem dX4_bestChange_39 : decode cX4_bestChange 39 = .ok (.iload_n 3, 1) := by decide +kernel
theorem dX4_bestChange_40 : decode cX4_bestChange 40 = .ok (.iconst 3, 1) := by decide +kernel
theorem dX4_bestChange_41 : decode cX4_bestChange 41 = .ok (.idiv, 1) := by decide +kernel
theorem dX4_bestChange_42 : decode cX4_bestChange 42 = .ok (.iload_n 3, 1) := by decide +kernel
theorem dX4_bestChange_43 : decode cX4_bestChange 43 = .ok (.iconst 3, 1) := by decide +kernel
theorem dX4_bestChange_44 : decode cX4_bestChange 44 = .ok (.irem, 1) := by decide +kernel
theorem dX4_bestChange_45 : decode cX4_bestChange 45 = .ok (.invokevirtual 149, 3) := by decide +kernel
theorem dX4_bestChange_48 : decode cX4_bestChange 48 = .ok (.ifCond .ne 7, 3) := by decide +kernel
theorem dX4_bestChange_51 : decode cX4_bestChange 51 = .ok (.iconst 1, 1) := by decide +kernel
theorem dX4_bestChange_52 : decode cX4_bestChange 52 = .ok (.goto 4, 3) := by decide +kernel
theorem dX4_bestChange_55 : decode cX4_bestChange 55 = .ok (.iconst 0, 1) := by decide +kernel
theorem dX4_bestChange_56 : decode cX4_bestChange 56 = .ok (.istore 4, 2) := by decide +kernel
theorem dX4_bestChange_58 : decode cX4_bestChange 58 = .ok (.aload_n 0, 1) := by decide +kernel
theorem dX4_bestChange_59 : decode cX4_bestChange 59 = .ok (.invokevirtual 115, 3) := by decide +kernel
theorem dX4_bestChange_62 : decode cX4_bestChange 62 = .ok (.istore 5, 2) := by decide +kernel
theorem dX4_bestChange_64 : decode cX4_bestChange 64 = .ok (.aload_n 0, 1) := by decide +kernel
theorem dX4_bestChange_65 : decode cX4_bestChange 65 = .ok (.getfield 7, 3) := by decide +kernel
theorem dX4_bestChange_68 : decode cX4_bestChange 68 = .ok (.aload_n 0, 1) := by decide +kernel
theorem dX4_bestChange_69 : decode cX4_bestChange 69 = .ok (.getfield 19, 3) := by decide +kernel
theorem dX4_bestChange_72 : decode cX4_bestChange 72 = .ok (.invokestatic 139, 3) := by decide +kernel
theorem dX4_bestChange_75 : decode cX4_bestChange 75 = .ok (.iload 4, 2) := by decide +kernel
theorem dX4_bestChange_77 : decode cX4_bestChange 77 = .ok (.ifCond .eq 14, 3) := by decide +kernel
theorem dX4_bestChange_80 : decode cX4_bestChange 80 = .ok (.iload 5, 2) := by decide +kernel
theorem dX4_bestChange_82 : decode cX4_bestChange 82 = .ok (.iload_n 2, 1) := by decide +kernel
theorem dX4_bestChange_83 : decode cX4_bestChange 83 = .ok (.if_icmp .ge 8, 3) := by decide +kernel
theorem dX4_bestChange_86 : decode cX4_bestChange 86 = .ok (.iload_n 3, 1) := by decide +kernel
theorem dX4_bestChange_87 : decode cX4_bestChange 87 = .ok (.istore_n 1, 1) := by decide +kernel
theorem dX4_bestChange_88 : decode cX4_bestChange 88 = .ok (.iload 5, 2) := by decide +kernel
theorem dX4_bestChange_90 : decode cX4_bestChange 90 = .ok (.istore_n 2, 1) := by decide +kernel
theorem dX4_bestChange_91 : decode cX4_bestChange 91 = .ok (.iinc 3 1, 3) := by decide +kernel
theorem dX4_bestChange_94 : decode cX4_bestChange 94 = .ok (.goto (-69), 3) := by decide +kernel
theorem dX4_bestChange_97 : decode cX4_bestChange 97 = .ok (.iload_n 1, 1) := by decide +kernel
theorem dX4_bestChange_98 : decode cX4_bestChange 98 = .ok (.ireturn, 1) := by decide +kernel
theorem dX4_backable_0 : decode cX4_backable 0 = .ok (.aload_n 0, 1) := by decide +kernel
theorem dX4_backable_1 : decode cX4_backable 1 = .ok (.iconst 0, 1) := by decide +kernel
theorem dX4_backable_2 : decode cX4_backable 2 = .ok (.putfield 25, 3) := by decide +kernel
theorem dX4_backable_5 : decode cX4_backable 5 = .ok (.aload_n 0, 1) := by decide +kernel
theorem dX4_backable_6 : decode cX4_backable 6 = .ok (.getfield 19, 3) := by decide +kernel
theorem dX4_backable_9 : decode cX4_backable 9 = .ok (.aload_n 0, 1) := by decide +kernel
theorem dX4_backable_10 : decode cX4_backable 10 = .ok (.getfield 7, 3) := by decide +kernel
theorem dX4_backable_13 : decode cX4_backable 13 = .ok (.invokestatic 139, 3) := by decide +kernel
theorem dX4_backable_16 : decode cX4_backable 16 = .ok (.iconst 0, 1) := by decide +kernel
theorem dX4_backable_17 : decode cX4_backable 17 = .ok (.istore_n 1, 1) := by decide +kernel
theorem dX4_backable_18 : decode cX4_backable 18 = .ok (.aload_n 0, 1) := by decide +kernel
theorem dX4_backable_19 : decode cX4_backable 19 = .ok (.invokevirtual 152, 3) := by decide +kernel
theorem dX4_backable_22 : decode cX4_backable 22 = .ok (.ifCond .ne 9, 3) := by decide +kernel
theorem dX4_backable_25 : decode cX4_backable 25 = .ok (.iinc 1 1, 3) := by decide +kernel
theorem dX4_backable_28 : decode cX4_backable 28 = .ok (.goto (-10), 3) := by decide +kernel
theorem dX4_backable_31 : decode cX4_backable 31 = .ok (.aload_n 0, 1) := by decide +kernel
theorem dX4_backable_32 : decode cX4_backable 32 = .ok (.getfield 7, 3) := by decide +kernel
theorem dX4_backable_35 : decode cX4_backable 35 = .ok (.aload_n 0, 1) := by decide +kernel
theorem dX4_backable_36 : decode cX4_backable 36 = .ok (.getfield 19, 3) := by decide +kernel
theorem dX4_backable_39 : decode cX4_backable 39 = .ok (.invokestatic 139, 3) := by decide +kernel
theorem dX4_backable_42 : decode cX4_backable 42 = .ok (.iload_n 1, 1) := by decide +kernel
theorem dX4_backable_43 : decode cX4_backable 43 = .ok (.ireturn, 1) := by decide +kernel
theorem dX4_taken_0 : decode cX4_taken 0 = .ok (.aload_n 0, 1) := by decide +kernel
theorem dX4_taken_1 : decode cX4_taken 1 = .ok (.iconst 0, 1) := by decide +kernel
theorem dX4_taken_2 : decode cX4_taken 2 = .ok (.putfield 25, 3) := by decide +kernel
theorem dX4_taken_5 : decode cX4_taken 5 = .ok (.iconst 0, 1) := by decide +kernel
theorem dX4_taken_6 : decode cX4_taken 6 = .ok (.istore_n 1, 1) := by decide +kernel
theorem dX4_taken_7 : decode cX4_taken 7 = .ok (.iconst 0, 1) := by decide +kernel
theorem dX4_taken_8 : decode cX4_taken 8 = .ok (.istore_n 2, 1) := by decide +kernel
theorem dX4_taken_9 : decode cX4_taken 9 = .ok (.iload_n 2, 1) := by decide +kernel
theorem dX4_taken_10 : decode cX4_taken 10 = .ok (.bipush 6, 2) := by decide +kernel
theorem dX4_taken_12 : decode cX4_taken 12 = .ok (.if_icmp .ge 17, 3) := by decide +kernel
theorem dX4_taken_15 : decode cX4_taken 15 = .ok (.iload_n 1, 1) := by decide +kernel
theorem dX4_taken_16 : decode cX4_taken 16 = .ok (.aload_n 0, 1) := by decide +kernel
theorem dX4_taken_17 : decode cX4_taken 17 = .ok (.iload_n 2, 1) := by decide +kernel
theorem dX4_taken_18 : decode cX4_taken 18 = .ok (.invokevirtual 97, 3) := by decide +kernel
theorem dX4_taken_21 : decode cX4_taken 21 = .ok (.iadd, 1) := by decide +kernel
theorem dX4_taken_22 : decode cX4_taken 22 = .ok (.istore_n 1, 1) := by decide +kernel
theorem dX4_taken_23 : decode cX4_taken 23 = .ok (.iinc 2 1, 3) := by decide +kernel
theorem dX4_taken_26 : decode cX4_taken 26 = .ok (.goto (-17), 3) := by decide +kernel
theorem dX4_taken_29 : decode cX4_taken 29 = .ok (.bipush 60, 2) := by decide +kernel
theorem dX4_taken_31 : decode cX4_taken 31 = .ok (.iload_n 1, 1) := by decide +kernel
theorem dX4_taken_32 : decode cX4_taken 32 = .ok (.isub, 1) := by decide +kernel
theorem dX4_taken_33 : decode cX4_taken 33 = .ok (.i2d, 1) := by decide +kernel
theorem dX4_taken_34 : decode cX4_taken 34 = .ok (.ldc2_w 161, 3) := by decide +kernel
theorem dX4_taken_37 : decode cX4_taken 37 = .ok (.ddiv, 1) := by decide +kernel
theorem dX4_taken_38 : decode cX4_taken 38 = .ok (.dreturn, 1) := by decide +kernel
theorem dX4_append_0 : decode cX4_append 0 = .ok (.aload_n 0, 1) := by decide +kernel
theorem dX4_append_1 : decode cX4_append 1 = .ok (.iload_n 1, 1) := by decide +kernel
theorem dX4_append_2 : decode cX4_append 2 = .ok (.iconst 0, 1) := by decide +kernel
theorem dX4_append_3 : decode cX4_append 3 = .ok (.bipush 127, 2) := by decide +kernel
theorem dX4_append_5 : decode cX4_append 5 = .ok (.invokestatic 43, 3) := by decide +kernel
theorem dX4_append_8 : decode cX4_append 8 = .ok (.ifCond .ne 7, 3) := by decide +kernel
theorem dX4_append_11 : decode cX4_append 11 = .ok (.iconst 1, 1) := by decide +kernel
theorem dX4_append_12 : decode cX4_append 12 = .ok (.goto 17, 3) := by decide +kernel
theorem dX4_append_15 : decode cX4_append 15 = .ok (.aload_n 0, 1) := by decide +kernel
theorem dX4_append_16 : decode cX4_append 16 = .ok (.getfield 163, 3) := by decide +kernel
theorem dX4_append_19 : decode cX4_append 19 = .ok (.bipush 90, 2) := by decide +kernel
theorem dX4_append_21 : decode cX4_append 21 = .ok (.if_icmp .ne 7, 3) := by decide +kernel
theorem dX4_append_24 : decode cX4_append 24 = .ok (.iconst 2, 1) := by decide +kernel
theorem dX4_append_25 : decode cX4_append 25 = .ok (.goto 4, 3) := by decide +kernel
theorem dX4_append_28 : decode cX4_append 28 = .ok (.iconst 0, 1) := by decide +kernel
theorem dX4_append_29 : decode cX4_append 29 = .ok (.invokevirtual 36, 3) := by decide +kernel
theorem dX4_append_32 : decode cX4_append 32 = .ok (.ifCond .eq 5, 3) := by decide +kernel
theorem dX4_append_35 : decode cX4_append 35 = .ok (.iconst 0, 1) := by decide +kernel
theorem dX4_append_36 : decode cX4_append 36 = .ok (.ireturn, 1) := by decide +kernel
theorem dX4_append_37 : decode cX4_append 37 = .ok (.aload_n 0, 1) := by decide +kernel
theorem dX4_append_38 : decode cX4_append 38 = .ok (.getfield 22, 3) := by decide +kernel
theorem dX4_append_41 : decode cX4_append 41 = .ok (.aload_n 0, 1) := by decide +kernel
theorem dX4_append_42 : decode cX4_append 42 = .ok (.getfield 163, 3) := by decide +kernel
theorem dX4_append_45 : decode cX4_append 45 = .ok (.iload_n 1, 1) := by decide +kernel
theorem dX4_append_46 : decode cX4_append 46 = .ok (.iastore, 1) := by decide +kernel
theorem dX4_append_47 : decode cX4_append 47 = .ok (.aload_n 0, 1) := by decide +kernel
theorem dX4_append_48 : decode cX4_append 48 = .ok (.dup, 1) := by decide +kernel
theorem dX4_append_49 : decode cX4_append 49 = .ok (.getfield 163, 3) := by decide +kernel
theorem dX4_append_52 : decode cX4_append 52 = .ok (.iconst 1, 1) := by decide +kernel
theorem dX4_append_53 : decode cX4_append 53 = .ok (.iadd, 1) := by decide +kernel
theorem dX4_append_54 : decode cX4_append 54 = .ok (.putfield 163, 3) := by decide +kernel
theorem dX4_append_57 : decode cX4_append 57 = .ok (.aload_n 0, 1) := by decide +kernel
theorem dX4_append_58 : decode cX4_append 58 = .ok (.getfield 163, 3) := by decide +kernel
theorem dX4_append_61 : decode cX4_append 61 = .ok (.ireturn, 1) := by decide +kernel
theorem dX4_clearText_0 : decode cX4_clearText 0 = .ok (.aload_n 0, 1) := by decide +kernel
theorem dX4_clearText_1 : decode cX4_clearText 1 = .ok (.iconst 0, 1) := by decide +kernel
theorem dX4_clearText_2 : decode cX4_clearText 2 = .ok (.putfield 25, 3) := by decide +kernel
theorem dX4_clearText_5 : decode cX4_clearText 5 = .ok (.aload_n 0, 1) := by decide +kernel
theorem dX4_clearText_6 : decode cX4_clearText 6 = .ok (.getfield 163, 3) := by decide +kernel
theorem dX4_clearText_9 : decode cX4_clearText 9 = .ok (.istore_n 1, 1) := by decide +kernel
theorem dX4_clearText_10 : decode cX4_clearText 10 = .ok (.aload_n 0, 1) := by decide +kernel
theorem dX4_clearText_11 : decode cX4_clearText 11 = .ok (.iconst 0, 1) := by decide +kernel
theorem dX4_clearText_12 : decode cX4_clearText 12 = .ok (.putfield 163, 3) := by decide +kernel
theorem dX4_clearText_15 : decode cX4_clearText 15 = .ok (.iload_n 1, 1) := by decide +kernel
theorem dX4_clearText_16 : decode cX4_clearText 16 = .ok (.ireturn, 1) := by decide +kernel
theorem dX4_isAt_0 : decode cX4_isAt 0 = .ok (.aload_n 0, 1) := by decide +kernel
theorem dX4_isAt_1 : decode cX4_isAt 1 = .ok (.getfield 166, 3) := by decide +kernel
theorem dX4_isAt_4 : decode cX4_isAt 4 = .ok (.aload_n 0, 1) := by decide +kernel
theorem dX4_isAt_5 : decode cX4_isAt 5 = .ok (.getfield 163, 3) := by decide +kernel
theorem dX4_isAt_8 : decode cX4_isAt 8 = .ok (.if_icmp .ge 24, 3) := by decide +kernel
theorem dX4_isAt_11 : decode cX4_isAt 11 = .ok (.aload_n 0, 1) := by decide +kernel
theorem dX4_isAt_12 : decode cX4_isAt 12 = .ok (.getfield 22, 3) := by decide +kernel
theorem dX4_isAt_15 : decode cX4_isAt 15 = .ok (.aload_n 0, 1) := by decide +kernel
theorem dX4_isAt_16 : decode cX4_isAt 16 = .ok (.getfield 166, 3) := by decide +kernel
theorem dX4_isAt_19 : decode cX4_isAt 19 = .ok (.iaload, 1) := by decide +kernel
theorem dX4_isAt_20 : decode cX4_isAt 20 = .ok (.iload_n 1, 1) := by decide +kernel
theorem dX4_isAt_21 : decode cX4_isAt 21 = .ok (.iload_n 2, 1) := by decide +kernel
theorem dX4_isAt_22 : decode cX4_isAt 22 = .ok (.invokestatic 43, 3) := by decide +kernel
theorem dX4_isAt_25 : decode cX4_isAt 25 = .ok (.ifCond .eq 7, 3) := by decide +kernel
theorem dX4_isAt_28 : decode cX4_isAt 28 = .ok (.iconst 1, 1) := by decide +kernel
theorem dX4_isAt_29 : decode cX4_isAt 29 = .ok (.goto 4, 3) := by decide +kernel
theorem dX4_isAt_32 : decode cX4_isAt 32 = .ok (.iconst 0, 1) := by decide +kernel
theorem dX4_isAt_33 : decode cX4_isAt 33 = .ok (.ireturn, 1) := by decide +kernel
theorem dX4_takes_0 : decode cX4_takes 0 = .ok (.aload_n 0, 1) := by decide +kernel
theorem dX4_takes_1 : decode cX4_takes 1 = .ok (.iload_n 1, 1) := by decide +kernel
theorem dX4_takes_2 : decode cX4_takes 2 = .ok (.iload_n 1, 1) := by decide +kernel
theorem dX4_takes_3 : decode cX4_takes 3 = .ok (.invokevirtual 169, 3) := by decide +kernel
theorem dX4_takes_6 : decode cX4_takes 6 = .ok (.istore_n 2, 1) := by decide +kernel
theorem dX4_takes_7 : decode cX4_takes 7 = .ok (.aload_n 0, 1) := by decide +kernel
theorem dX4_takes_8 : decode cX4_takes 8 = .ok (.dup, 1) := by decide +kernel
theorem dX4_takes_9 : decode cX4_takes 9 = .ok (.getfield 166, 3) := by decide +kernel
theorem dX4_takes_12 : decode cX4_takes 12 = .ok (.iload_n 2, 1) := by decide +kernel
theorem dX4_takes_13 : decode cX4_takes 13 = .ok (.ifCond .eq 7, 3) := by decide +kernel
theorem dX4_takes_16 : decode cX4_takes 16 = .ok (.iconst 1, 1) := by decide +kernel
theorem dX4_takes_17 : decode cX4_takes 17 = .ok (.goto 4, 3) := by decide +kernel
theorem dX4_takes_20 : decode cX4_takes 20 = .ok (.iconst 0, 1) := by decide +kernel
theorem dX4_takes_21 : decode cX4_takes 21 = .ok (.iadd, 1) := by decide +kernel
theorem dX4_takes_22 : decode cX4_takes 22 = .ok (.putfield 166, 3) := by decide +kernel
theorem dX4_takes_25 : decode cX4_takes 25 = .ok (.iload_n 2, 1) := by decide +kernel
theorem dX4_takes_26 : decode cX4_takes 26 = .ok (.ireturn, 1) := by decide +kernel
theorem dX4_takesMachine_0 : decode cX4_takesMachine 0 = .ok (.aload_n 0, 1) := by decide +kernel
theorem dX4_takesMachine_1 : decode cX4_takesMachine 1 = .ok (.getfield 166, 3) := by decide +kernel
theorem dX4_takesMachine_4 : decode cX4_takesMachine 4 = .ok (.istore_n 1, 1) := by decide +kernel
theorem dX4_takesMachine_5 : decode cX4_takesMachine 5 = .ok (.aload_n 0, 1) := by decide +kernel
theorem dX4_takesMachine_6 : decode cX4_takesMachine 6 = .ok (.iconst 0, 1) := by decide +kernel
theorem dX4_takesMachine_7 : decode cX4_takesMachine 7 = .ok (.putfield 173, 3) := by decide +kernel
theorem dX4_takesMachine_10 : decode cX4_takesMachine 10 = .ok (.aload_n 0, 1) := by decide +kernel
theorem dX4_takesMachine_11 : decode cX4_takesMachine 11 = .ok (.bipush 48, 2) := by decide +kernel
theorem dX4_takesMachine_13 : decode cX4_takesMachine 13 = .ok (.bipush 57, 2) := by decide +kernel
theorem dX4_takesMachine_15 : decode cX4_takesMachine 15 = .ok (.invokevirtual 169, 3) := by decide +kernel
theorem dX4_takesMachine_18 : decode cX4_takesMachine 18 = .ok (.ifCond .eq 50, 3) := by decide +kernel
theorem dX4_takesMachine_21 : decode cX4_takesMachine 21 = .ok (.aload_n 0, 1) := by decide +kernel
theorem dX4_takesMachine_22 : decode cX4_takesMachine 22 = .ok (.getfield 166, 3) := by decide +kernel
theorem dX4_takesMachine_25 : decode cX4_takesMachine 25 = .ok (.iload_n 1, 1) := by decide +kernel
theorem dX4_takesMachine_26 : decode cX4_takesMachine 26 = .ok (.iconst 2, 1) := by decide +kernel
theorem dX4_takesMachine_27 : decode cX4_takesMachine 27 = .ok (.iadd, 1) := by decide +kernel
theorem dX4_takesMachine_28 : decode cX4_takesMachine 28 = .ok (.if_icmp .ge 40, 3) := by decide +kernel
theorem dX4_takesMachine_31 : decode cX4_takesMachine 31 = .ok (.aload_n 0, 1) := by decide +kernel
theorem dX4_takesMachine_32 : decode cX4_takesMachine 32 = .ok (.bipush 10, 2) := by decide +kernel
theorem dX4_takesMachine_34 : decode cX4_takesMachine 34 = .ok (.aload_n 0, 1) := by decide +kernel
theorem dX4_takesMachine_35 : decode cX4_takesMachine 35 = .ok (.getfield 173, 3) := by decide +kernel
theorem dX4_takesMachine_38 : decode cX4_takesMachine 38 = .ok (.imul, 1) := by decide +kernel
theorem dX4_takesMachine_39 : decode cX4_takesMachine 39 = .ok (.aload_n 0, 1) := by decide +kernel
theorem dX4_takesMachine_40 : decode cX4_takesMachine 40 = .ok (.getfield 22, 3) := by decide +kernel
theorem dX4_takesMachine_43 : decode cX4_takesMachine 43 = .ok (.aload_n 0, 1) := by decide +kernel
theorem dX4_takesMachine_44 : decode cX4_takesMachine 44 = .ok (.getfield 166, 3) := by decide +kernel
theorem dX4_takesMachine_47 : decode cX4_takesMachine 47 = .ok (.iaload, 1) := by decide +kernel
theorem dX4_takesMachine_48 : decode cX4_takesMachine 48 = .ok (.iadd, 1) := by decide +kernel
theorem dX4_takesMachine_49 : decode cX4_takesMachine 49 = .ok (.bipush 48, 2) := by decide +kernel
theorem dX4_takesMachine_51 : decode cX4_takesMachine 51 = .ok (.isub, 1) := by decide +kernel
theorem dX4_takesMachine_52 : decode cX4_takesMachine 52 = .ok (.putfield 173, 3) := by decide +kernel
theorem dX4_takesMachine_55 : decode cX4_takesMachine 55 = .ok (.aload_n 0, 1) := by decide +kernel
theorem dX4_takesMachine_56 : decode cX4_takesMachine 56 = .ok (.dup, 1) := by decide +kernel
theorem dX4_takesMachine_57 : decode cX4_takesMachine 57 = .ok (.getfield 166, 3) := by decide +kernel
theorem dX4_takesMachine_60 : decode cX4_takesMachine 60 = .ok (.iconst 1, 1) := by decide +kernel
theorem dX4_takesMachine_61 : decode cX4_takesMachine 61 = .ok (.iadd, 1) := by decide +kernel
theorem dX4_takesMachine_62 : decode cX4_takesMachine 62 = .ok (.putfield 166, 3) := by decide +kernel
theorem dX4_takesMachine_65 : decode cX4_takesMachine 65 = .ok (.goto (-55), 3) := by decide +kernel
theorem dX4_takesMachine_68 : decode cX4_takesMachine 68 = .ok (.aload_n 0, 1) := by decide +kernel
theorem dX4_takesMachine_69 : decode cX4_takesMachine 69 = .ok (.getfield 166, 3) := by decide +kernel
theorem dX4_takesMachine_72 : decode cX4_takesMachine 72 = .ok (.iload_n 1, 1) := by decide +kernel
theorem dX4_takesMachine_73 : decode cX4_takesMachine 73 = .ok (.if_icmp .eq 14, 3) := by decide +kernel
theorem dX4_takesMachine_76 : decode cX4_takesMachine 76 = .ok (.aload_n 0, 1) := by decide +kernel
theorem dX4_takesMachine_77 : decode cX4_takesMachine 77 = .ok (.bipush 48, 2) := by decide +kernel
theorem dX4_takesMachine_79 : decode cX4_takesMachine 79 = .ok (.bipush 57, 2) := by decide +kernel
theorem dX4_takesMachine_81 : decode cX4_takesMachine 81 = .ok (.invokevirtual 169, 3) := by decide +kernel
theorem dX4_takesMachine_84 : decode cX4_takesMachine 84 = .ok (.ifCond .eq 5, 3) := by decide +kernel
theorem dX4_takesMachine_87 : decode cX4_takesMachine 87 = .ok (.iconst 0, 1) := by decide +kernel
theorem dX4_takesMachine_88 : decode cX4_takesMachine 88 = .ok (.ireturn, 1) := by decide +kernel
theorem dX4_takesMachine_89 : decode cX4_takesMachine 89 = .ok (.aload_n 0, 1) := by decide +kernel
theorem dX4_takesMachine_90 : decode cX4_takesMachine 90 = .ok (.aload_n 0, 1) := by decide +kernel
theorem dX4_takesMachine_91 : decode cX4_takesMachine 91 = .ok (.getfield 173, 3) := by decide +kernel
theorem dX4_takesMachine_94 : decode cX4_takesMachine 94 = .ok (.invokevirtual 57, 3) := by decide +kernel
theorem dX4_takesMachine_97 : decode cX4_takesMachine 97 = .ok (.istore_n 2, 1) := by decide +kernel
theorem dX4_takesMachine_98 : decode cX4_takesMachine 98 = .ok (.aload_n 0, 1) := by decide +kernel
theorem dX4_takesMachine_99 : decode cX4_takesMachine 99 = .ok (.iload_n 2, 1) := by decide +kernel
theorem dX4_takesMachine_100 : decode cX4_takesMachine 100 = .ok (.ifCond .eq 10, 3) := by decide +kernel
theorem dX4_takesMachine_103 : decode cX4_takesMachine 103 = .ok (.aload_n 0, 1) := by decide +kernel
theorem dX4_takesMachine_104 : decode cX4_takesMachine 104 = .ok (.getfield 166, 3) := by decide +kernel
theorem dX4_takesMachine_107 : decode cX4_takesMachine 107 = .ok (.goto 4, 3) := by decide +kernel
theorem dX4_takesMachine_110 : decode cX4_takesMachine 110 = .ok (.iload_n 1, 1) := by decide +kernel
theorem dX4_takesMachine_111 : decode cX4_takesMachine 111 = .ok (.putfield 166, 3) := by decide +kernel
theorem dX4_takesMachine_114 : decode cX4_takesMachine 114 = .ok (.iload_n 2, 1) := by decide +kernel
theorem dX4_takesMachine_115 : decode cX4_takesMachine 115 = .ok (.ireturn, 1) := by decide +kernel
theorem dX4_reads_0 : decode cX4_reads 0 = .ok (.aload_n 0, 1) := by decide +kernel
theorem dX4_reads_1 : decode cX4_reads 1 = .ok (.bipush 104, 2) := by decide +kernel
theorem dX4_reads_3 : decode cX4_reads 3 = .ok (.invokevirtual 176, 3) := by decide +kernel
theorem dX4_reads_6 : decode cX4_reads 6 = .ok (.ifCond .eq 15, 3) := by decide +kernel
theorem dX4_reads_9 : decode cX4_reads 9 = .ok (.aload_n 0, 1) := by decide +kernel
theorem dX4_reads_10 : decode cX4_reads 10 = .ok (.iconst 0, 1) := by decide +kernel
theorem dX4_reads_11 : decode cX4_reads 11 = .ok (.putfield 179, 3) := by decide +kernel
theorem dX4_reads_14 : decode cX4_reads 14 = .ok (.aload_n 0, 1) := by decide +kernel
theorem dX4_reads_15 : decode cX4_reads 15 = .ok (.bipush 59, 2) := by decide +kernel
theorem dX4_reads_17 : decode cX4_reads 17 = .ok (.invokevirtual 176, 3) := by decide +kernel
theorem dX4_reads_20 : decode cX4_reads 20 = .ok (.ireturn, 1) := by decide +kernel
theorem dX4_reads_21 : decode cX4_reads 21 = .ok (.aload_n 0, 1) := by decide +kernel
theorem dX4_reads_22 : decode cX4_reads 22 = .ok (.aload_n 0, 1) := by decide +kernel
theorem dX4_reads_23 : decode cX4_reads 23 = .ok (.bipush 109, 2) := by decide +kernel
theorem dX4_reads_25 : decode cX4_reads 25 = .ok (.bipush 109, 2) := by decide +kernel
theorem dX4_reads_27 : decode cX4_reads 27 = .ok (.invokevirtual 169, 3) := by decide +kernel
theorem dX4_reads_30 : decode cX4_reads 30 = .ok (.ifCond .eq 7, 3) := by decide +kernel
theorem dX4_reads_33 : decode cX4_reads 33 = .ok (.iconst 1, 1) := by decide +kernel
theorem dX4_reads_34 : decode cX4_reads 34 = .ok (.goto 4, 3) := by decide +kernel
theorem dX4_reads_37 : decode cX4_reads 37 = .ok (.iconst 2, 1) := by decide +kernel
theorem dX4_reads_38 : decode cX4_reads 38 = .ok (.putfield 179, 3) := by decide +kernel
theorem dX4_reads_41 : decode cX4_reads 41 = .ok (.aload_n 0, 1) := by decide +kernel
theorem dX4_reads_42 : decode cX4_reads 42 = .ok (.bipush 109, 2) := by decide +kernel
theorem dX4_reads_44 : decode cX4_reads 44 = .ok (.invokevirtual 176, 3) := by decide +kernel
theorem dX4_reads_47 : decode cX4_reads 47 = .ok (.ifCond .ne 12, 3) := by decide +kernel
theorem dX4_reads_50 : decode cX4_reads 50 = .ok (.aload_n 0, 1) := by decide +kernel
theorem dX4_reads_51 : decode cX4_reads 51 = .ok (.bipush 112, 2) := by decide +kernel
theorem dX4_reads_53 : decode cX4_reads 53 = .ok (.invokevirtual 176, 3) := by decide +kernel
theorem dX4_reads_56 : decode cX4_reads 56 = .ok (.ifCond .eq 19, 3) := by decide +kernel
theorem dX4_reads_59 : decode cX4_reads 59 = .ok (.aload_n 0, 1) := by decide +kernel
theorem dX4_reads_60 : decode cX4_reads 60 = .ok (.invokevirtual 182, 3) := by decide +kernel
theorem dX4_reads_63 : decode cX4_reads 63 = .ok (.ifCond .eq 12, 3) := by decide +kernel
theorem dX4_reads_66 : decode cX4_reads 66 = .ok (.aload_n 0, 1) := by decide +kernel
theorem dX4_reads_67 : decode cX4_reads 67 = .ok (.bipush 62, 2) := by decide +kernel
theorem dX4_reads_69 : decode cX4_reads 69 = .ok (.invokevirtual 176, 3) := by decide +kernel
theorem dX4_reads_72 : decode cX4_reads 72 = .ok (.ifCond .ne 5, 3) := by decide +kernel
theorem dX4_reads_75 : decode cX4_reads 75 = .ok (.iconst 0, 1) := by decide +kernel
theorem dX4_reads_76 : decode cX4_reads 76 = .ok (.ireturn, 1) := by decide +kernel
theorem dX4_reads_77 : decode cX4_reads 77 = .ok (.aload_n 0, 1) := by decide +kernel
theorem dX4_reads_78 : decode cX4_reads 78 = .ok (.getfield 179, 3) := by decide +kernel
theorem dX4_reads_81 : decode cX4_reads 81 = .ok (.iconst 1, 1) := by decide +kernel
theorem dX4_reads_82 : decode cX4_reads 82 = .ok (.if_icmp .ne 24, 3) := by decide +kernel
theorem dX4_reads_85 : decode cX4_reads 85 = .ok (.aload_n 0, 1) := by decide +kernel
theorem dX4_reads_86 : decode cX4_reads 86 = .ok (.bipush 115, 2) := by decide +kernel
theorem dX4_reads_88 : decode cX4_reads 88 = .ok (.invokevirtual 176, 3) := by decide +kernel
theorem dX4_reads_91 : decode cX4_reads 91 = .ok (.ifCond .eq 15, 3) := by decide +kernel
theorem dX4_reads_94 : decode cX4_reads 94 = .ok (.aload_n 0, 1) := by decide +kernel
theorem dX4_reads_95 : decode cX4_reads 95 = .ok (.iconst (-1), 1) := by decide +kernel
theorem dX4_reads_96 : decode cX4_reads 96 = .ok (.putfield 186, 3) := by decide +kernel
theorem dX4_reads_99 : decode cX4_reads 99 = .ok (.aload_n 0, 1) := by decide +kernel
theorem dX4_reads_100 : decode cX4_reads 100 = .ok (.bipush 59, 2) := by decide +kernel
theorem dX4_reads_102 : decode cX4_reads 102 = .ok (.invokevirtual 176, 3) := by decide +kernel
theorem dX4_reads_105 : decode cX4_reads 105 = .ok (.ireturn, 1) := by decide +kernel
theorem dX4_reads_106 : decode cX4_reads 106 = .ok (.aload_n 0, 1) := by decide +kernel
theorem dX4_reads_107 : decode cX4_reads 107 = .ok (.bipush 48, 2) := by decide +kernel
theorem dX4_reads_109 : decode cX4_reads 109 = .ok (.aload_n 0, 1) := by decide +kernel
theorem dX4_reads_110 : decode cX4_reads 110 = .ok (.getfield 179, 3) := by decide +kernel
theorem dX4_reads_113 : decode cX4_reads 113 = .ok (.iconst 1, 1) := by decide +kernel
theorem dX4_reads_114 : decode cX4_reads 114 = .ok (.if_icmp .ne 8, 3) := by decide +kernel
theorem dX4_reads_117 : decode cX4_reads 117 = .ok (.bipush 53, 2) := by decide +kernel
theorem dX4_reads_119 : decode cX4_reads 119 = .ok (.goto 5, 3) := by decide +kernel
theorem dX4_reads_122 : decode cX4_reads 122 = .ok (.bipush 50, 2) := by decide +kernel
theorem dX4_reads_124 : decode cX4_reads 124 = .ok (.invokevirtual 169, 3) := by decide +kernel
theorem dX4_reads_127 : decode cX4_reads 127 = .ok (.ifCond .ne 5, 3) := by decide +kernel
theorem dX4_reads_130 : decode cX4_reads 130 = .ok (.iconst 0, 1) := by decide +kernel
theorem dX4_reads_131 : decode cX4_reads 131 = .ok (.ireturn, 1) := by decide +kernel
theorem dX4_reads_132 : decode cX4_reads 132 = .ok (.aload_n 0, 1) := by decide +kernel
theorem dX4_reads_133 : decode cX4_reads 133 = .ok (.aload_n 0, 1) := by decide +kernel
theorem dX4_reads_134 : decode cX4_reads 134 = .ok (.getfield 22, 3) := by decide +kernel
theorem dX4_reads_137 : decode cX4_reads 137 = .ok (.aload_n 0, 1) := by decide +kernel
theorem dX4_reads_138 : decode cX4_reads 138 = .ok (.getfield 166, 3) := by decide +kernel
theorem dX4_reads_141 : decode cX4_reads 141 = .ok (.iaload, 1) := by decide +kernel
theorem dX4_reads_142 : decode cX4_reads 142 = .ok (.bipush 48, 2) := by decide +kernel
theorem dX4_reads_144 : decode cX4_reads 144 = .ok (.isub, 1) := by decide +kernel
theorem dX4_reads_145 : decode cX4_reads 145 = .ok (.putfield 186, 3) := by decide +kernel
theorem dX4_reads_148 : decode cX4_reads 148 = .ok (.aload_n 0, 1) := by decide +kernel
theorem dX4_reads_149 : decode cX4_reads 149 = .ok (.dup, 1) := by decide +kernel
theorem dX4_reads_150 : decode cX4_reads 150 = .ok (.getfield 166, 3) := by decide +kernel
theorem dX4_reads_153 : decode cX4_reads 153 = .ok (.iconst 1, 1) := by decide +kernel
theorem dX4_reads_154 : decode cX4_reads 154 = .ok (.iadd, 1) := by decide +kernel
theorem dX4_reads_155 : decode cX4_reads 155 = .ok (.putfield 166, 3) := by decide +kernel
theorem dX4_reads_158 : decode cX4_reads 158 = .ok (.aload_n 0, 1) := by decide +kernel
theorem dX4_reads_159 : decode cX4_reads 159 = .ok (.bipush 59, 2) := by decide +kernel
theorem dX4_reads_161 : decode cX4_reads 161 = .ok (.invokevirtual 176, 3) := by decide +kernel
theorem dX4_reads_164 : decode cX4_reads 164 = .ok (.ireturn, 1) := by decide +kernel
theorem dX4_plan_0 : decode cX4_plan 0 = .ok (.aload_n 0, 1) := by decide +kernel
theorem dX4_plan_1 : decode cX4_plan 1 = .ok (.iconst 0, 1) := by decide +kernel
theorem dX4_plan_2 : decode cX4_plan 2 = .ok (.putfield 25, 3) := by decide +kernel
theorem dX4_plan_5 : decode cX4_plan 5 = .ok (.aload_n 0, 1) := by decide +kernel
theorem dX4_plan_6 : decode cX4_plan 6 = .ok (.iconst 0, 1) := by decide +kernel
theorem dX4_plan_7 : decode cX4_plan 7 = .ok (.putfield 166, 3) := by decide +kernel
theorem dX4_plan_10 : decode cX4_plan 10 = .ok (.aload_n 0, 1) := by decide +kernel
theorem dX4_plan_11 : decode cX4_plan 11 = .ok (.getfield 166, 3) := by decide +kernel
theorem dX4_plan_14 : decode cX4_plan 14 = .ok (.aload_n 0, 1) := by decide +kernel
theorem dX4_plan_15 : decode cX4_plan 15 = .ok (.getfield 163, 3) := by decide +kernel
theorem dX4_plan_18 : decode cX4_plan 18 = .ok (.if_icmp .ge 18, 3) := by decide +kernel
theorem dX4_plan_21 : decode cX4_plan 21 = .ok (.aload_n 0, 1) := by decide +kernel
theorem dX4_plan_22 : decode cX4_plan 22 = .ok (.invokevirtual 189, 3) := by decide +kernel
theorem dX4_plan_25 : decode cX4_plan 25 = .ok (.ifCond .ne (-15), 3) := by decide +kernel
theorem dX4_plan_28 : decode cX4_plan 28 = .ok (.bipush (-10), 2) := by decide +kernel
theorem dX4_plan_30 : decode cX4_plan 30 = .ok (.aload_n 0, 1) := by decide +kernel
theorem dX4_plan_31 : decode cX4_plan 31 = .ok (.getfield 166, 3) := by decide +kernel
theorem dX4_plan_34 : decode cX4_plan 34 = .ok (.isub, 1) := by decide +kernel
theorem dX4_plan_35 : decode cX4_plan 35 = .ok (.ireturn, 1) := by decide +kernel
theorem dX4_plan_36 : decode cX4_plan 36 = .ok (.aload_n 0, 1) := by decide +kernel
theorem dX4_plan_37 : decode cX4_plan 37 = .ok (.getfield 16, 3) := by decide +kernel
theorem dX4_plan_40 : decode cX4_plan 40 = .ok (.aload_n 0, 1) := by decide +kernel
theorem dX4_plan_41 : decode cX4_plan 41 = .ok (.getfield 7, 3) := by decide +kernel
theorem dX4_plan_44 : decode cX4_plan 44 = .ok (.invokestatic 139, 3) := by decide +kernel
theorem dX4_plan_47 : decode cX4_plan 47 = .ok (.aload_n 0, 1) := by decide +kernel
theorem dX4_plan_48 : decode cX4_plan 48 = .ok (.iconst 0, 1) := by decide +kernel
theorem dX4_plan_49 : decode cX4_plan 49 = .ok (.putfield 166, 3) := by decide +kernel
theorem dX4_plan_52 : decode cX4_plan 52 = .ok (.iconst 0, 1) := by decide +kernel
theorem dX4_plan_53 : decode cX4_plan 53 = .ok (.istore_n 1, 1) := by decide +kernel
theorem dX4_plan_54 : decode cX4_plan 54 = .ok (.aload_n 0, 1) := by decide +kernel
theorem dX4_plan_55 : decode cX4_plan 55 = .ok (.getfield 166, 3) := by decide +kernel
theorem dX4_plan_58 : decode cX4_plan 58 = .ok (.aload_n 0, 1) := by decide +kernel
theorem dX4_plan_59 : decode cX4_plan 59 = .ok (.getfield 163, 3) := by decide +kernel
theorem dX4_plan_62 : decode cX4_plan 62 = .ok (.if_icmp .ge 136, 3) := by decide +kernel
theorem dX4_plan_65 : decode cX4_plan 65 = .ok (.aload_n 0, 1) := by decide +kernel
theorem dX4_plan_66 : decode cX4_plan 66 = .ok (.invokevirtual 189, 3) := by decide +kernel
theorem dX4_plan_69 : decode cX4_plan 69 = .ok (.istore_n 2, 1) := by decide +kernel
theorem dX4_plan_70 : decode cX4_plan 70 = .ok (.iconst 0, 1) := by decide +kernel
theorem dX4_plan_71 : decode cX4_plan 71 = .ok (.istore_n 3, 1) := by decide +kernel
theorem dX4_plan_72 : decode cX4_plan 72 = .ok (.aload_n 0, 1) := by decide +kernel
theorem dX4_plan_73 : decode cX4_plan 73 = .ok (.getfield 179, 3) := by decide +kernel
theorem dX4_plan_76 : decode cX4_plan 76 = .ok (.ifCond .ne 42, 3) := by decide +kernel
theorem dX4_plan_79 : decode cX4_plan 79 = .ok (.aload_n 0, 1) := by decide +kernel
theorem dX4_plan_80 : decode cX4_plan 80 = .ok (.getfield 7, 3) := by decide +kernel
theorem dX4_plan_83 : decode cX4_plan 83 = .ok (.bipush 12, 2) := by decide +kernel
theorem dX4_plan_85 : decode cX4_plan 85 = .ok (.dup2, 1) := by decide +kernel
theorem dX4_plan_86 : decode cX4_plan 86 = .ok (.iaload, 1) := by decide +kernel
theorem dX4_plan_87 : decode cX4_plan 87 = .ok (.iconst 1, 1) := by decide +kernel
theorem dX4_plan_88 : decode cX4_plan 88 = .ok (.iadd, 1) := by decide +kernel
theorem dX4_plan_89 : decode cX4_plan 89 = .ok (.iastore, 1) := by decide +kernel
theorem dX4_plan_90 : decode cX4_plan 90 = .ok (.aload_n 0, 1) := by decide +kernel
theorem dX4_plan_91 : decode cX4_plan 91 = .ok (.getfield 7, 3) := by decide +kernel
theorem dX4_plan_94 : decode cX4_plan 94 = .ok (.bipush 12, 2) := by decide +kernel
theorem dX4_plan_96 : decode cX4_plan 96 = .ok (.iaload, 1) := by decide +kernel
theorem dX4_plan_97 : decode cX4_plan 97 = .ok (.sipush 2000, 3) := by decide +kernel
theorem dX4_plan_100 : decode cX4_plan 100 = .ok (.if_icmp .le 54, 3) := by decide +kernel
theorem dX4_plan_103 : decode cX4_plan 103 = .ok (.aload_n 0, 1) := by decide +kernel
theorem dX4_plan_104 : decode cX4_plan 104 = .ok (.getfield 7, 3) := by decide +kernel
theorem dX4_plan_107 : decode cX4_plan 107 = .ok (.aload_n 0, 1) := by decide +kernel
theorem dX4_plan_108 : decode cX4_plan 108 = .ok (.getfield 16, 3) := by decide +kernel
theorem dX4_plan_111 : decode cX4_plan 111 = .ok (.invokestatic 139, 3) := by decide +kernel
theorem dX4_plan_114 : decode cX4_plan 114 = .ok (.sipush (-9999), 3) := by decide +kernel
theorem dX4_plan_117 : decode cX4_plan 117 = .ok (.ireturn, 1) := by decide +kernel
theorem dX4_plan_118 : decode cX4_plan 118 = .ok (.aload_n 0, 1) := by decide +kernel
theorem dX4_plan_119 : decode cX4_plan 119 = .ok (.getfield 179, 3) := by decide +kernel
theorem dX4_plan_122 : decode cX4_plan 122 = .ok (.iconst 1, 1) := by decide +kernel
theorem dX4_plan_123 : decode cX4_plan 123 = .ok (.if_icmp .ne 18, 3) := by decide +kernel
theorem dX4_plan_126 : decode cX4_plan 126 = .ok (.aload_n 0, 1) := by decide +kernel
theorem dX4_plan_127 : decode cX4_plan 127 = .ok (.aload_n 0, 1) := by decide +kernel
theorem dX4_plan_128 : decode cX4_plan 128 = .ok (.getfield 173, 3) := by decide +kernel
theorem dX4_plan_131 : decode cX4_plan 131 = .ok (.aload_n 0, 1) := by decide +kernel
theorem dX4_plan_132 : decode cX4_plan 132 = .ok (.getfield 186, 3) := by decide +kernel
theorem dX4_plan_135 : decode cX4_plan 135 = .ok (.invokevirtual 143, 3) := by decide +kernel
theorem dX4_plan_138 : decode cX4_plan 138 = .ok (.goto 15, 3) := by decide +kernel
theorem dX4_plan_141 : decode cX4_plan 141 = .ok (.aload_n 0, 1) := by decide +kernel
theorem dX4_plan_142 : decode cX4_plan 142 = .ok (.aload_n 0, 1) := by decide +kernel
theorem dX4_plan_143 : decode cX4_plan 143 = .ok (.getfield 173, 3) := by decide +kernel
theorem dX4_plan_146 : decode cX4_plan 146 = .ok (.aload_n 0, 1) := by decide +kernel
theorem dX4_plan_147 : decode cX4_plan 147 = .ok (.getfield 186, 3) := by decide +kernel
theorem dX4_plan_150 : decode cX4_plan 150 = .ok (.invokevirtual 149, 3) := by decide +kernel
theorem dX4_plan_153 : decode cX4_plan 153 = .ok (.istore_n 3, 1) := by decide +kernel
theorem dX4_plan_154 : decode cX4_plan 154 = .ok (.iload_n 3, 1) := by decide +kernel
theorem dX4_plan_155 : decode cX4_plan 155 = .ok (.ifCond .le 25, 3) := by decide +kernel
theorem dX4_plan_158 : decode cX4_plan 158 = .ok (.aload_n 0, 1) := by decide +kernel
theorem dX4_plan_159 : decode cX4_plan 159 = .ok (.getfield 7, 3) := by decide +kernel
theorem dX4_plan_162 : decode cX4_plan 162 = .ok (.aload_n 0, 1) := by decide +kernel
theorem dX4_plan_163 : decode cX4_plan 163 = .ok (.getfield 16, 3) := by decide +kernel
theorem dX4_plan_166 : decode cX4_plan 166 = .ok (.invokestatic 139, 3) := by decide +kernel
theorem dX4_plan_169 : decode cX4_plan 169 = .ok (.sipush (-1000), 3) := by decide +kernel
theorem dX4_plan_172 : decode cX4_plan 172 = .ok (.bipush 10, 2) := by decide +kernel
theorem dX4_plan_174 : decode cX4_plan 174 = .ok (.iload_n 1, 1) := by decide +kernel
theorem dX4_plan_175 : decode cX4_plan 175 = .ok (.imul, 1) := by decide +kernel
theorem dX4_plan_176 : decode cX4_plan 176 = .ok (.isub, 1) := by decide +kernel
theorem dX4_plan_177 : decode cX4_plan 177 = .ok (.iload_n 3, 1) := by decide +kernel
theorem dX4_plan_178 : decode cX4_plan 178 = .ok (.isub, 1) := by decide +kernel
theorem dX4_plan_179 : decode cX4_plan 179 = .ok (.ireturn, 1) := by decide +kernel
theorem dX4_plan_180 : decode cX4_plan 180 = .ok (.iload_n 1, 1) := by decide +kernel
theorem dX4_plan_181 : decode cX4_plan 181 = .ok (.aload_n 0, 1) := by decide +kernel
theorem dX4_plan_182 : decode cX4_plan 182 = .ok (.getfield 179, 3) := by decide +kernel
theorem dX4_plan_185 : decode cX4_plan 185 = .ok (.ifCond .ne 7, 3) := by decide +kernel
theorem dX4_plan_188 : decode cX4_plan 188 = .ok (.iconst 0, 1) := by decide +kernel
theorem dX4_plan_189 : decode cX4_plan 189 = .ok (.goto 4, 3) := by decide +kernel
theorem dX4_plan_192 : decode cX4_plan 192 = .ok (.iconst 1, 1) := by decide +kernel
theorem dX4_plan_193 : decode cX4_plan 193 = .ok (.iadd, 1) := by decide +kernel
theorem dX4_plan_194 : decode cX4_plan 194 = .ok (.istore_n 1, 1) := by decide +kernel
theorem dX4_plan_195 : decode cX4_plan 195 = .ok (.goto (-141), 3) := by decide +kernel
theorem dX4_plan_198 : decode cX4_plan 198 = .ok (.aload_n 0, 1) := by decide +kernel
theorem dX4_plan_199 : decode cX4_plan 199 = .ok (.iconst 0, 1) := by decide +kernel
theorem dX4_plan_200 : decode cX4_plan 200 = .ok (.invokevirtual 146, 3) := by decide +kernel
theorem dX4_plan_203 : decode cX4_plan 203 = .ok (.iload_n 1, 1) := by decide +kernel
theorem dX4_plan_204 : decode cX4_plan 204 = .ok (.iadd, 1) := by decide +kernel
theorem dX4_plan_205 : decode cX4_plan 205 = .ok (.ireturn, 1) := by decide +kernel
theorem dX4_mix_0 : decode cX4_mix 0 = .ok (.aload_n 0, 1) := by decide +kernel
theorem dX4_mix_1 : decode cX4_mix 1 = .ok (.ldc2_w 192, 3) := by decide +kernel
theorem dX4_mix_4 : decode cX4_mix 4 = .ok (.aload_n 0, 1) := by decide +kernel
theorem dX4_mix_5 : decode cX4_mix 5 = .ok (.getfield 194, 3) := by decide +kernel
theorem dX4_mix_8 : decode cX4_mix 8 = .ok (.lmul, 1) := by decide +kernel
theorem dX4_mix_9 : decode cX4_mix 9 = .ok (.iload_n 1, 1) := by decide +kernel
theorem dX4_mix_10 : decode cX4_mix 10 = .ok (.i2l, 1) := by decide +kernel
theorem dX4_mix_11 : decode cX4_mix 11 = .ok (.ladd, 1) := by decide +kernel
theorem dX4_mix_12 : decode cX4_mix 12 = .ok (.putfield 194, 3) := by decide +kernel
theorem dX4_mix_15 : decode cX4_mix 15 = .ok (.return_, 1) := by decide +kernel
theorem dX4_mixRoom_0 : decode cX4_mixRoom 0 = .ok (.iconst 0, 1) := by decide +kernel
theorem dX4_mixRoom_1 : decode cX4_mixRoom 1 = .ok (.istore_n 1, 1) := by decide +kernel
theorem dX4_mixRoom_2 : decode cX4_mixRoom 2 = .ok (.iload_n 1, 1) := by decide +kernel
theorem dX4_mixRoom_3 : decode cX4_mixRoom 3 = .ok (.bipush 6, 2) := by decide +kernel
theorem dX4_mixRoom_5 : decode cX4_mixRoom 5 = .ok (.if_icmp .ge 57, 3) := by decide +kernel
theorem dX4_mixRoom_8 : decode cX4_mixRoom 8 = .ok (.iconst 0, 1) := by decide +kernel
theorem dX4_mixRoom_9 : decode cX4_mixRoom 9 = .ok (.istore_n 2, 1) := by decide +kernel
theorem dX4_mixRoom_10 : decode cX4_mixRoom 10 = .ok (.iload_n 2, 1) := by decide +kernel
theorem dX4_mixRoom_11 : decode cX4_mixRoom 11 = .ok (.bipush 8, 2) := by decide +kernel
theorem dX4_mixRoom_13 : decode cX4_mixRoom 13 = .ok (.if_icmp .ge 19, 3) := by decide +kernel
theorem dX4_mixRoom_16 : decode cX4_mixRoom 16 = .ok (.aload_n 0, 1) := by decide +kernel
theorem dX4_mixRoom_17 : decode cX4_mixRoom 17 = .ok (.aload_n 0, 1) := by decide +kernel
theorem dX4_mixRoom_18 : decode cX4_mixRoom 18 = .ok (.iload_n 1, 1) := by decide +kernel
theorem dX4_mixRoom_19 : decode cX4_mixRoom 19 = .ok (.iload_n 2, 1) := by decide +kernel
theorem dX4_mixRoom_20 : decode cX4_mixRoom 20 = .ok (.invokevirtual 103, 3) := by decide +kernel
theorem dX4_mixRoom_23 : decode cX4_mixRoom 23 = .ok (.invokevirtual 198, 3) := by decide +kernel
theorem dX4_mixRoom_26 : decode cX4_mixRoom 26 = .ok (.iinc 2 1, 3) := by decide +kernel
theorem dX4_mixRoom_29 : decode cX4_mixRoom 29 = .ok (.goto (-19), 3) := by decide +kernel
theorem dX4_mixRoom_32 : decode cX4_mixRoom 32 = .ok (.iconst 0, 1) := by decide +kernel
theorem dX4_mixRoom_33 : decode cX4_mixRoom 33 = .ok (.istore_n 2, 1) := by decide +kernel
theorem dX4_mixRoom_34 : decode cX4_mixRoom 34 = .ok (.iload_n 2, 1) := by decide +kernel
theorem dX4_mixRoom_35 : decode cX4_mixRoom 35 = .ok (.bipush 10, 2) := by decide +kernel
theorem dX4_mixRoom_37 : decode cX4_mixRoom 37 = .ok (.if_icmp .ge 19, 3) := by decide +kernel
theorem dX4_mixRoom_40 : decode cX4_mixRoom 40 = .ok (.aload_n 0, 1) := by decide +kernel
theorem dX4_mixRoom_41 : decode cX4_mixRoom 41 = .ok (.aload_n 0, 1) := by decide +kernel
theorem dX4_mixRoom_42 : decode cX4_mixRoom 42 = .ok (.iload_n 1, 1) := by decide +kernel
theorem dX4_mixRoom_43 : decode cX4_mixRoom 43 = .ok (.iload_n 2, 1) := by decide +kernel
theorem dX4_mixRoom_44 : decode cX4_mixRoom 44 = .ok (.invokevirtual 84, 3) := by decide +kernel
theorem dX4_mixRoom_47 : decode cX4_mixRoom 47 = .ok (.invokevirtual 198, 3) := by decide +kernel
theorem dX4_mixRoom_50 : decode cX4_mixRoom 50 = .ok (.iinc 2 1, 3) := by decide +kernel
theorem dX4_mixRoom_53 : decode cX4_mixRoom 53 = .ok (.goto (-19), 3) := by decide +kernel
theorem dX4_mixRoom_56 : decode cX4_mixRoom 56 = .ok (.iinc 1 1, 3) := by decide +kernel
theorem dX4_mixRoom_59 : decode cX4_mixRoom 59 = .ok (.goto (-57), 3) := by decide +kernel
theorem dX4_mixRoom_62 : decode cX4_mixRoom 62 = .ok (.iconst 0, 1) := by decide +kernel
theorem dX4_mixRoom_63 : decode cX4_mixRoom 63 = .ok (.istore_n 1, 1) := by decide +kernel
theorem dX4_mixRoom_64 : decode cX4_mixRoom 64 = .ok (.iload_n 1, 1) := by decide +kernel
theorem dX4_mixRoom_65 : decode cX4_mixRoom 65 = .ok (.iconst 5, 1) := by decide +kernel
theorem dX4_mixRoom_66 : decode cX4_mixRoom 66 = .ok (.if_icmp .ge 18, 3) := by decide +kernel
theorem dX4_mixRoom_69 : decode cX4_mixRoom 69 = .ok (.aload_n 0, 1) := by decide +kernel
theorem dX4_mixRoom_70 : decode cX4_mixRoom 70 = .ok (.aload_n 0, 1) := by decide +kernel
theorem dX4_mixRoom_71 : decode cX4_mixRoom 71 = .ok (.iload_n 1, 1) := by decide +kernel
theorem dX4_mixRoom_72 : decode cX4_mixRoom 72 = .ok (.invokevirtual 112, 3) := by decide +kernel
theorem dX4_mixRoom_75 : decode cX4_mixRoom 75 = .ok (.invokevirtual 198, 3) := by decide +kernel
theorem dX4_mixRoom_78 : decode cX4_mixRoom 78 = .ok (.iinc 1 1, 3) := by decide +kernel
theorem dX4_mixRoom_81 : decode cX4_mixRoom 81 = .ok (.goto (-17), 3) := by decide +kernel
theorem dX4_mixRoom_84 : decode cX4_mixRoom 84 = .ok (.return_, 1) := by decide +kernel
theorem dX4_digest_0 : decode cX4_digest 0 = .ok (.aload_n 0, 1) := by decide +kernel
theorem dX4_digest_1 : decode cX4_digest 1 = .ok (.iconst 0, 1) := by decide +kernel
theorem dX4_digest_2 : decode cX4_digest 2 = .ok (.putfield 25, 3) := by decide +kernel
theorem dX4_digest_5 : decode cX4_digest 5 = .ok (.aload_n 0, 1) := by decide +kernel
theorem dX4_digest_6 : decode cX4_digest 6 = .ok (.ldc2_w 202, 3) := by decide +kernel
theorem dX4_digest_9 : decode cX4_digest 9 = .ok (.putfield 194, 3) := by decide +kernel
theorem dX4_digest_12 : decode cX4_digest 12 = .ok (.aload_n 0, 1) := by decide +kernel
theorem dX4_digest_13 : decode cX4_digest 13 = .ok (.aload_n 0, 1) := by decide +kernel
theorem dX4_digest_14 : decode cX4_digest 14 = .ok (.getfield 163, 3) := by decide +kernel
theorem dX4_digest_17 : decode cX4_digest 17 = .ok (.invokevirtual 198, 3) := by decide +kernel
theorem dX4_digest_20 : decode cX4_digest 20 = .ok (.iconst 0, 1) := by decide +kernel
theorem dX4_digest_21 : decode cX4_digest 21 = .ok (.istore_n 1, 1) := by decide +kernel
theorem dX4_digest_22 : decode cX4_digest 22 = .ok (.iload_n 1, 1) := by decide +kernel
theorem dX4_digest_23 : decode cX4_digest 23 = .ok (.bipush 14, 2) := by decide +kernel
theorem dX4_digest_25 : decode cX4_digest 25 = .ok (.if_icmp .ge 18, 3) := by decide +kernel
theorem dX4_digest_28 : decode cX4_digest 28 = .ok (.aload_n 0, 1) := by decide +kernel
theorem dX4_digest_29 : decode cX4_digest 29 = .ok (.aload_n 0, 1) := by decide +kernel
theorem dX4_digest_30 : decode cX4_digest 30 = .ok (.iload_n 1, 1) := by decide +kernel
theorem dX4_digest_31 : decode cX4_digest 31 = .ok (.invokevirtual 125, 3) := by decide +kernel
theorem dX4_digest_34 : decode cX4_digest 34 = .ok (.invokevirtual 198, 3) := by decide +kernel
theorem dX4_digest_37 : decode cX4_digest 37 = .ok (.iinc 1 1, 3) := by decide +kernel
theorem dX4_digest_40 : decode cX4_digest 40 = .ok (.goto (-18), 3) := by decide +kernel
theorem dX4_digest_43 : decode cX4_digest 43 = .ok (.aload_n 0, 1) := by decide +kernel
theorem dX4_digest_44 : decode cX4_digest 44 = .ok (.invokevirtual 204, 3) := by decide +kernel
theorem dX4_digest_47 : decode cX4_digest 47 = .ok (.iconst 0, 1) := by decide +kernel
theorem dX4_digest_48 : decode cX4_digest 48 = .ok (.istore_n 1, 1) := by decide +kernel
theorem dX4_digest_49 : decode cX4_digest 49 = .ok (.iload_n 1, 1) := by decide +kernel
theorem dX4_digest_50 : decode cX4_digest 50 = .ok (.bipush 8, 2) := by decide +kernel
theorem dX4_digest_52 : decode cX4_digest 52 = .ok (.aload_n 0, 1) := by decide +kernel
theorem dX4_digest_53 : decode cX4_digest 53 = .ok (.getfield 7, 3) := by decide +kernel
theorem dX4_digest_56 : decode cX4_digest 56 = .ok (.bipush 13, 2) := by decide +kernel
theorem dX4_digest_58 : decode cX4_digest 58 = .ok (.iaload, 1) := by decide +kernel
theorem dX4_digest_59 : decode cX4_digest 59 = .ok (.imul, 1) := by decide +kernel
theorem dX4_digest_60 : decode cX4_digest 60 = .ok (.if_icmp .ge 25, 3) := by decide +kernel
theorem dX4_digest_63 : decode cX4_digest 63 = .ok (.aload_n 0, 1) := by decide +kernel
theorem dX4_digest_64 : decode cX4_digest 64 = .ok (.aload_n 0, 1) := by decide +kernel
theorem dX4_digest_65 : decode cX4_digest 65 = .ok (.iload_n 1, 1) := by decide +kernel
theorem dX4_digest_66 : decode cX4_digest 66 = .ok (.bipush 8, 2) := by decide +kernel
theorem dX4_digest_68 : decode cX4_digest 68 = .ok (.idiv, 1) := by decide +kernel
theorem dX4_digest_69 : decode cX4_digest 69 = .ok (.iload_n 1, 1) := by decide +kernel
theorem dX4_digest_70 : decode cX4_digest 70 = .ok (.bipush 8, 2) := by decide +kernel
theorem dX4_digest_72 : decode cX4_digest 72 = .ok (.irem, 1) := by decide +kernel
theorem dX4_digest_73 : decode cX4_digest 73 = .ok (.invokevirtual 81, 3) := by decide +kernel
theorem dX4_digest_76 : decode cX4_digest 76 = .ok (.invokevirtual 198, 3) := by decide +kernel
theorem dX4_digest_79 : decode cX4_digest 79 = .ok (.iinc 1 1, 3) := by decide +kernel
theorem dX4_digest_82 : decode cX4_digest 82 = .ok (.goto (-33), 3) := by decide +kernel
theorem dX4_digest_85 : decode cX4_digest 85 = .ok (.iconst 0, 1) := by decide +kernel
theorem dX4_digest_86 : decode cX4_digest 86 = .ok (.istore_n 1, 1) := by decide +kernel
theorem dX4_digest_87 : decode cX4_digest 87 = .ok (.iload_n 1, 1) := by decide +kernel
theorem dX4_digest_88 : decode cX4_digest 88 = .ok (.iconst 4, 1) := by decide +kernel
theorem dX4_digest_89 : decode cX4_digest 89 = .ok (.aload_n 0, 1) := by decide +kernel
theorem dX4_digest_90 : decode cX4_digest 90 = .ok (.getfield 7, 3) := by decide +kernel
theorem dX4_digest_93 : decode cX4_digest 93 = .ok (.bipush 14, 2) := by decide +kernel
theorem dX4_digest_95 : decode cX4_digest 95 = .ok (.iaload, 1) := by decide +kernel
theorem dX4_digest_96 : decode cX4_digest 96 = .ok (.imul, 1) := by decide +kernel
theorem dX4_digest_97 : decode cX4_digest 97 = .ok (.if_icmp .ge 23, 3) := by decide +kernel
theorem dX4_digest_100 : decode cX4_digest 100 = .ok (.aload_n 0, 1) := by decide +kernel
theorem dX4_digest_101 : decode cX4_digest 101 = .ok (.aload_n 0, 1) := by decide +kernel
theorem dX4_digest_102 : decode cX4_digest 102 = .ok (.iload_n 1, 1) := by decide +kernel
theorem dX4_digest_103 : decode cX4_digest 103 = .ok (.iconst 4, 1) := by decide +kernel
theorem dX4_digest_104 : decode cX4_digest 104 = .ok (.idiv, 1) := by decide +kernel
theorem dX4_digest_105 : decode cX4_digest 105 = .ok (.iload_n 1, 1) := by decide +kernel
theorem dX4_digest_106 : decode cX4_digest 106 = .ok (.iconst 4, 1) := by decide +kernel
theorem dX4_digest_107 : decode cX4_digest 107 = .ok (.irem, 1) := by decide +kernel
theorem dX4_digest_108 : decode cX4_digest 108 = .ok (.invokevirtual 109, 3) := by decide +kernel
theorem dX4_digest_111 : decode cX4_digest 111 = .ok (.invokevirtual 198, 3) := by decide +kernel
theorem dX4_digest_114 : decode cX4_digest 114 = .ok (.iinc 1 1, 3) := by decide +kernel
theorem dX4_digest_117 : decode cX4_digest 117 = .ok (.goto (-30), 3) := by decide +kernel
theorem dX4_digest_120 : decode cX4_digest 120 = .ok (.iconst 0, 1) := by decide +kernel
theorem dX4_digest_121 : decode cX4_digest 121 = .ok (.istore_n 1, 1) := by decide +kernel
theorem dX4_digest_122 : decode cX4_digest 122 = .ok (.iload_n 1, 1) := by decide +kernel
theorem dX4_digest_123 : decode cX4_digest 123 = .ok (.iconst 4, 1) := by decide +kernel
theorem dX4_digest_124 : decode cX4_digest 124 = .ok (.aload_n 0, 1) := by decide +kernel
theorem dX4_digest_125 : decode cX4_digest 125 = .ok (.getfield 7, 3) := by decide +kernel
theorem dX4_digest_128 : decode cX4_digest 128 = .ok (.bipush 16, 2) := by decide +kernel
theorem dX4_digest_130 : decode cX4_digest 130 = .ok (.iaload, 1) := by decide +kernel
theorem dX4_digest_131 : decode cX4_digest 131 = .ok (.imul, 1) := by decide +kernel
theorem dX4_digest_132 : decode cX4_digest 132 = .ok (.if_icmp .ge 23, 3) := by decide +kernel
theorem dX4_digest_135 : decode cX4_digest 135 = .ok (.aload_n 0, 1) := by decide +kernel
theorem dX4_digest_136 : decode cX4_digest 136 = .ok (.aload_n 0, 1) := by decide +kernel
theorem dX4_digest_137 : decode cX4_digest 137 = .ok (.iload_n 1, 1) := by decide +kernel
theorem dX4_digest_138 : decode cX4_digest 138 = .ok (.iconst 4, 1) := by decide +kernel
theorem dX4_digest_139 : decode cX4_digest 139 = .ok (.idiv, 1) := by decide +kernel
theorem dX4_digest_140 : decode cX4_digest 140 = .ok (.iload_n 1, 1) := by decide +kernel
theorem dX4_digest_141 : decode cX4_digest 141 = .ok (.iconst 4, 1) := by decide +kernel
theorem dX4_digest_142 : decode cX4_digest 142 = .ok (.irem, 1) := by decide +kernel
theorem dX4_digest_143 : decode cX4_digest 143 = .ok (.invokevirtual 155, 3) := by decide +kernel
theorem dX4_digest_146 : decode cX4_digest 146 = .ok (.invokevirtual 198, 3) := by decide +kernel
theorem dX4_digest_149 : decode cX4_digest 149 = .ok (.iinc 1 1, 3) := by decide +kernel
theorem dX4_digest_152 : decode cX4_digest 152 = .ok (.goto (-30), 3) := by decide +kernel
theorem dX4_digest_155 : decode cX4_digest 155 = .ok (.aload_n 0, 1) := by decide +kernel
theorem dX4_digest_156 : decode cX4_digest 156 = .ok (.aload_n 0, 1) := by decide +kernel
theorem dX4_digest_157 : decode cX4_digest 157 = .ok (.getfield 33, 3) := by decide +kernel
theorem dX4_digest_160 : decode cX4_digest 160 = .ok (.invokevirtual 198, 3) := by decide +kernel
theorem dX4_digest_163 : decode cX4_digest 163 = .ok (.aload_n 0, 1) := by decide +kernel
theorem dX4_digest_164 : decode cX4_digest 164 = .ok (.getfield 194, 3) := by decide +kernel
theorem dX4_digest_167 : decode cX4_digest 167 = .ok (.lreturn, 1) := by decide +kernel
end
section
theorem dL_setLimit_0 : decode cL_setLimit 0 = .ok (.aload_n 3, 1) := by decide +kernel
theorem dL_setLimit_1 : decode cL_setLimit 1 = .ok (.iconst 0, 1) := by decide +kernel
theorem dL_setLimit_2 : decode cL_setLimit 2 = .ok (.aload_n 0, 1) := by decide +kernel
theorem dL_setLimit_3 : decode cL_setLimit 3 = .ok (.iload_n 1, 1) := by decide +kernel
theorem dL_setLimit_4 : decode cL_setLimit 4 = .ok (.iload_n 2, 1) := by decide +kernel
theorem dL_setLimit_5 : decode cL_setLimit 5 = .ok (.invokevirtual 7, 3) := by decide +kernel
theorem dL_setLimit_8 : decode cL_setLimit 8 = .ok (.i2l, 1) := by decide +kernel
theorem dL_setLimit_9 : decode cL_setLimit 9 = .ok (.lastore, 1) := by decide +kernel
theorem dL_setLimit_10 : decode cL_setLimit 10 = .ok (.goto 11, 3) := by decide +kernel
theorem dL_setLimit_13 : decode cL_setLimit 13 = .ok (.astore 4, 2) := by decide +kernel
theorem dL_setLimit_15 : decode cL_setLimit 15 = .ok (.iconst 1, 1) := by decide +kernel
theorem dL_setLimit_16 : decode cL_setLimit 16 = .ok (.ireturn, 1) := by decide +kernel
theorem dL_setLimit_17 : decode cL_setLimit 17 = .ok (.astore 4, 2) := by decide +kernel
theorem dL_setLimit_19 : decode cL_setLimit 19 = .ok (.iconst 2, 1) := by decide +kernel
theorem dL_setLimit_20 : decode cL_setLimit 20 = .ok (.ireturn, 1) := by decide +kernel
theorem dL_setLimit_21 : decode cL_setLimit 21 = .ok (.iconst 0, 1) := by decide +kernel
theorem dL_setLimit_22 : decode cL_setLimit 22 = .ok (.ireturn, 1) := by decide +kernel
theorem dL_setTray_0 : decode cL_setTray 0 = .ok (.aload_n 3, 1) := by decide +kernel
theorem dL_setTray_1 : decode cL_setTray 1 = .ok (.iconst 0, 1) := by decide +kernel
theorem dL_setTray_2 : decode cL_setTray 2 = .ok (.aload_n 0, 1) := by decide +kernel
theorem dL_setTray_3 : decode cL_setTray 3 = .ok (.iload_n 1, 1) := by decide +kernel
theorem dL_setTray_4 : decode cL_setTray 4 = .ok (.iload_n 2, 1) := by decide +kernel
theorem dL_setTray_5 : decode cL_setTray 5 = .ok (.invokevirtual 17, 3) := by decide +kernel
theorem dL_setTray_8 : decode cL_setTray 8 = .ok (.i2l, 1) := by decide +kernel
theorem dL_setTray_9 : decode cL_setTray 9 = .ok (.lastore, 1) := by decide +kernel
theorem dL_setTray_10 : decode cL_setTray 10 = .ok (.goto 11, 3) := by decide +kernel
theorem dL_setTray_13 : decode cL_setTray 13 = .ok (.astore 4, 2) := by decide +kernel
theorem dL_setTray_15 : decode cL_setTray 15 = .ok (.iconst 1, 1) := by decide +kernel
theorem dL_setTray_16 : decode cL_setTray 16 = .ok (.ireturn, 1) := by decide +kernel
theorem dL_setTray_17 : decode cL_setTray 17 = .ok (.astore 4, 2) := by decide +kernel
theorem dL_setTray_19 : decode cL_setTray 19 = .ok (.iconst 2, 1) := by decide +kernel
theorem dL_setTray_20 : decode cL_setTray 20 = .ok (.ireturn, 1) := by decide +kernel
theorem dL_setTray_21 : decode cL_setTray 21 = .ok (.iconst 0, 1) := by decide +kernel
theorem dL_setTray_22 : decode cL_setTray 22 = .ok (.ireturn, 1) := by decide +kernel
theorem dL_setLevel_0 : decode cL_setLevel 0 = .ok (.aload_n 2, 1) := by decide +kernel
theorem dL_setLevel_1 : decode cL_setLevel 1 = .ok (.iconst 0, 1) := by decide +kernel
theorem dL_setLevel_2 : decode cL_setLevel 2 = .ok (.aload_n 0, 1) := by decide +kernel
theorem dL_setLevel_3 : decode cL_setLevel 3 = .ok (.iload_n 1, 1) := by decide +kernel
theorem dL_setLevel_4 : decode cL_setLevel 4 = .ok (.invokevirtual 20, 3) := by decide +kernel
theorem dL_setLevel_7 : decode cL_setLevel 7 = .ok (.i2l, 1) := by decide +kernel
theorem dL_setLevel_8 : decode cL_setLevel 8 = .ok (.lastore, 1) := by decide +kernel
theorem dL_setLevel_9 : decode cL_setLevel 9 = .ok (.goto 6, 3) := by decide +kernel
theorem dL_setLevel_12 : decode cL_setLevel 12 = .ok (.astore_n 3, 1) := by decide +kernel
theorem dL_setLevel_13 : decode cL_setLevel 13 = .ok (.iconst 1, 1) := by decide +kernel
theorem dL_setLevel_14 : decode cL_setLevel 14 = .ok (.ireturn, 1) := by decide +kernel
theorem dL_setLevel_15 : decode cL_setLevel 15 = .ok (.iconst 0, 1) := by decide +kernel
theorem dL_setLevel_16 : decode cL_setLevel 16 = .ok (.ireturn, 1) := by decide +kernel
theorem dL_addMachine_0 : decode cL_addMachine 0 = .ok (.aload 5, 2) := by decide +kernel
theorem dL_addMachine_2 : decode cL_addMachine 2 = .ok (.iconst 0, 1) := by decide +kernel
theorem dL_addMachine_3 : decode cL_addMachine 3 = .ok (.aload_n 0, 1) := by decide +kernel
theorem dL_addMachine_4 : decode cL_addMachine 4 = .ok (.iload_n 1, 1) := by decide +kernel
theorem dL_addMachine_5 : decode cL_addMachine 5 = .ok (.iload_n 2, 1) := by decide +kernel
theorem dL_addMachine_6 : decode cL_addMachine 6 = .ok (.iload_n 3, 1) := by decide +kernel
theorem dL_addMachine_7 : decode cL_addMachine 7 = .ok (.iload 4, 2) := by decide +kernel
theorem dL_addMachine_9 : decode cL_addMachine 9 = .ok (.invokevirtual 24, 3) := by decide +kernel
theorem dL_addMachine_12 : decode cL_addMachine 12 = .ok (.i2l, 1) := by decide +kernel
theorem dL_addMachine_13 : decode cL_addMachine 13 = .ok (.lastore, 1) := by decide +kernel
theorem dL_addMachine_14 : decode cL_addMachine 14 = .ok (.goto 11, 3) := by decide +kernel
theorem dL_addMachine_17 : decode cL_addMachine 17 = .ok (.astore 6, 2) := by decide +kernel
theorem dL_addMachine_19 : decode cL_addMachine 19 = .ok (.iconst 1, 1) := by decide +kernel
theorem dL_addMachine_20 : decode cL_addMachine 20 = .ok (.ireturn, 1) := by decide +kernel
theorem dL_addMachine_21 : decode cL_addMachine 21 = .ok (.astore 6, 2) := by decide +kernel
theorem dL_addMachine_23 : decode cL_addMachine 23 = .ok (.iconst 2, 1) := by decide +kernel
theorem dL_addMachine_24 : decode cL_addMachine 24 = .ok (.ireturn, 1) := by decide +kernel
theorem dL_addMachine_25 : decode cL_addMachine 25 = .ok (.iconst 0, 1) := by decide +kernel
theorem dL_addMachine_26 : decode cL_addMachine 26 = .ok (.ireturn, 1) := by decide +kernel
theorem dL_addCable_0 : decode cL_addCable 0 = .ok (.aload 4, 2) := by decide +kernel
theorem dL_addCable_2 : decode cL_addCable 2 = .ok (.iconst 0, 1) := by decide +kernel
theorem dL_addCable_3 : decode cL_addCable 3 = .ok (.aload_n 0, 1) := by decide +kernel
theorem dL_addCable_4 : decode cL_addCable 4 = .ok (.iload_n 1, 1) := by decide +kernel
theorem dL_addCable_5 : decode cL_addCable 5 = .ok (.iload_n 2, 1) := by decide +kernel
theorem dL_addCable_6 : decode cL_addCable 6 = .ok (.iload_n 3, 1) := by decide +kernel
theorem dL_addCable_7 : decode cL_addCable 7 = .ok (.invokevirtual 30, 3) := by decide +kernel
theorem dL_addCable_10 : decode cL_addCable 10 = .ok (.i2l, 1) := by decide +kernel
theorem dL_addCable_11 : decode cL_addCable 11 = .ok (.lastore, 1) := by decide +kernel
theorem dL_addCable_12 : decode cL_addCable 12 = .ok (.goto 15, 3) := by decide +kernel
theorem dL_addCable_15 : decode cL_addCable 15 = .ok (.astore 5, 2) := by decide +kernel
theorem dL_addCable_17 : decode cL_addCable 17 = .ok (.iconst 1, 1) := by decide +kernel
theorem dL_addCable_18 : decode cL_addCable 18 = .ok (.ireturn, 1) := by decide +kernel
theorem dL_addCable_19 : decode cL_addCable 19 = .ok (.astore 5, 2) := by decide +kernel
theorem dL_addCable_21 : decode cL_addCable 21 = .ok (.iconst 2, 1) := by decide +kernel
theorem dL_addCable_22 : decode cL_addCable 22 = .ok (.ireturn, 1) := by decide +kernel
theorem dL_addCable_23 : decode cL_addCable 23 = .ok (.astore 5, 2) := by decide +kernel
theorem dL_addCable_25 : decode cL_addCable 25 = .ok (.iconst 3, 1) := by decide +kernel
theorem dL_addCable_26 : decode cL_addCable 26 = .ok (.ireturn, 1) := by decide +kernel
theorem dL_addCable_27 : decode cL_addCable 27 = .ok (.iconst 0, 1) := by decide +kernel
theorem dL_addCable_28 : decode cL_addCable 28 = .ok (.ireturn, 1) := by decide +kernel
theorem dL_removeCable_0 : decode cL_removeCable 0 = .ok (.aload_n 2, 1) := by decide +kernel
theorem dL_removeCable_1 : decode cL_removeCable 1 = .ok (.iconst 0, 1) := by decide +kernel
theorem dL_removeCable_2 : decode cL_removeCable 2 = .ok (.aload_n 0, 1) := by decide +kernel
theorem dL_removeCable_3 : decode cL_removeCable 3 = .ok (.iload_n 1, 1) := by decide +kernel
theorem dL_removeCable_4 : decode cL_removeCable 4 = .ok (.invokevirtual 34, 3) := by decide +kernel
theorem dL_removeCable_7 : decode cL_removeCable 7 = .ok (.i2l, 1) := by decide +kernel
theorem dL_removeCable_8 : decode cL_removeCable 8 = .ok (.lastore, 1) := by decide +kernel
theorem dL_removeCable_9 : decode cL_removeCable 9 = .ok (.goto 6, 3) := by decide +kernel
theorem dL_removeCable_12 : decode cL_removeCable 12 = .ok (.astore_n 3, 1) := by decide +kernel
theorem dL_removeCable_13 : decode cL_removeCable 13 = .ok (.iconst 1, 1) := by decide +kernel
theorem dL_removeCable_14 : decode cL_removeCable 14 = .ok (.ireturn, 1) := by decide +kernel
theorem dL_removeCable_15 : decode cL_removeCable 15 = .ok (.iconst 0, 1) := by decide +kernel
theorem dL_removeCable_16 : decode cL_removeCable 16 = .ok (.ireturn, 1) := by decide +kernel
theorem dL_addFreeze_0 : decode cL_addFreeze 0 = .ok (.aload 4, 2) := by decide +kernel
theorem dL_addFreeze_2 : decode cL_addFreeze 2 = .ok (.iconst 0, 1) := by decide +kernel
theorem dL_addFreeze_3 : decode cL_addFreeze 3 = .ok (.aload_n 0, 1) := by decide +kernel
theorem dL_addFreeze_4 : decode cL_addFreeze 4 = .ok (.iload_n 1, 1) := by decide +kernel
theorem dL_addFreeze_5 : decode cL_addFreeze 5 = .ok (.iload_n 2, 1) := by decide +kernel
theorem dL_addFreeze_6 : decode cL_addFreeze 6 = .ok (.iload_n 3, 1) := by decide +kernel
theorem dL_addFreeze_7 : decode cL_addFreeze 7 = .ok (.invokevirtual 37, 3) := by decide +kernel
theorem dL_addFreeze_10 : decode cL_addFreeze 10 = .ok (.i2l, 1) := by decide +kernel
theorem dL_addFreeze_11 : decode cL_addFreeze 11 = .ok (.lastore, 1) := by decide +kernel
theorem dL_addFreeze_12 : decode cL_addFreeze 12 = .ok (.goto 11, 3) := by decide +kernel
theorem dL_addFreeze_15 : decode cL_addFreeze 15 = .ok (.astore 5, 2) := by decide +kernel
theorem dL_addFreeze_17 : decode cL_addFreeze 17 = .ok (.iconst 1, 1) := by decide +kernel
theorem dL_addFreeze_18 : decode cL_addFreeze 18 = .ok (.ireturn, 1) := by decide +kernel
theorem dL_addFreeze_19 : decode cL_addFreeze 19 = .ok (.astore 5, 2) := by decide +kernel
theorem dL_addFreeze_21 : decode cL_addFreeze 21 = .ok (.iconst 2, 1) := by decide +kernel
theorem dL_addFreeze_22 : decode cL_addFreeze 22 = .ok (.ireturn, 1) := by decide +kernel
theorem dL_addFreeze_23 : decode cL_addFreeze 23 = .ok (.iconst 0, 1) := by decide +kernel
theorem dL_addFreeze_24 : decode cL_addFreeze 24 = .ok (.ireturn, 1) := by decide +kernel
theorem dL_removeFreeze_0 : decode cL_removeFreeze 0 = .ok (.aload_n 2, 1) := by decide +kernel
theorem dL_removeFreeze_1 : decode cL_removeFreeze 1 = .ok (.iconst 0, 1) := by decide +kernel
theorem dL_removeFreeze_2 : decode cL_removeFreeze 2 = .ok (.aload_n 0, 1) := by decide +kernel
theorem dL_removeFreeze_3 : decode cL_removeFreeze 3 = .ok (.iload_n 1, 1) := by decide +kernel
theorem dL_removeFreeze_4 : decode cL_removeFreeze 4 = .ok (.invokevirtual 40, 3) := by decide +kernel
theorem dL_removeFreeze_7 : decode cL_removeFreeze 7 = .ok (.i2l, 1) := by decide +kernel
theorem dL_removeFreeze_8 : decode cL_removeFreeze 8 = .ok (.lastore, 1) := by decide +kernel
theorem dL_removeFreeze_9 : decode cL_removeFreeze 9 = .ok (.goto 6, 3) := by decide +kernel
theorem dL_removeFreeze_12 : decode cL_removeFreeze 12 = .ok (.astore_n 3, 1) := by decide +kernel
theorem dL_removeFreeze_13 : decode cL_removeFreeze 13 = .ok (.iconst 1, 1) := by decide +kernel
theorem dL_removeFreeze_14 : decode cL_removeFreeze 14 = .ok (.ireturn, 1) := by decide +kernel
theorem dL_removeFreeze_15 : decode cL_removeFreeze 15 = .ok (.iconst 0, 1) := by decide +kernel
theorem dL_removeFreeze_16 : decode cL_removeFreeze 16 = .ok (.ireturn, 1) := by decide +kernel
theorem dL_pass_0 : decode cL_pass 0 = .ok (.aload_n 2, 1) := by decide +kernel
theorem dL_pass_1 : decode cL_pass 1 = .ok (.iconst 0, 1) := by decide +kernel
theorem dL_pass_2 : decode cL_pass 2 = .ok (.aload_n 0, 1) := by decide +kernel
theorem dL_pass_3 : decode cL_pass 3 = .ok (.iload_n 1, 1) := by decide +kernel
theorem dL_pass_4 : decode cL_pass 4 = .ok (.invokevirtual 43, 3) := by decide +kernel
theorem dL_pass_7 : decode cL_pass 7 = .ok (.i2l, 1) := by decide +kernel
theorem dL_pass_8 : decode cL_pass 8 = .ok (.lastore, 1) := by decide +kernel
theorem dL_pass_9 : decode cL_pass 9 = .ok (.goto 9, 3) := by decide +kernel
theorem dL_pass_12 : decode cL_pass 12 = .ok (.astore_n 3, 1) := by decide +kernel
theorem dL_pass_13 : decode cL_pass 13 = .ok (.iconst 1, 1) := by decide +kernel
theorem dL_pass_14 : decode cL_pass 14 = .ok (.ireturn, 1) := by decide +kernel
theorem dL_pass_15 : decode cL_pass 15 = .ok (.astore_n 3, 1) := by decide +kernel
theorem dL_pass_16 : decode cL_pass 16 = .ok (.iconst 2, 1) := by decide +kernel
theorem dL_pass_17 : decode cL_pass 17 = .ok (.ireturn, 1) := by decide +kernel
theorem dL_pass_18 : decode cL_pass 18 = .ok (.iconst 0, 1) := by decide +kernel
theorem dL_pass_19 : decode cL_pass 19 = .ok (.ireturn, 1) := by decide +kernel
theorem dL_machine_0 : decode cL_machine 0 = .ok (.aload_n 3, 1) := by decide +kernel
theorem dL_machine_1 : decode cL_machine 1 = .ok (.iconst 0, 1) := by decide +kernel
theorem dL_machine_2 : decode cL_machine 2 = .ok (.aload_n 0, 1) := by decide +kernel
theorem dL_machine_3 : decode cL_machine 3 = .ok (.iload_n 1, 1) := by decide +kernel
theorem dL_machine_4 : decode cL_machine 4 = .ok (.iload_n 2, 1) := by decide +kernel
theorem dL_machine_5 : decode cL_machine 5 = .ok (.invokevirtual 46, 3) := by decide +kernel
theorem dL_machine_8 : decode cL_machine 8 = .ok (.i2l, 1) := by decide +kernel
theorem dL_machine_9 : decode cL_machine 9 = .ok (.lastore, 1) := by decide +kernel
theorem dL_machine_10 : decode cL_machine 10 = .ok (.goto 11, 3) := by decide +kernel
theorem dL_machine_13 : decode cL_machine 13 = .ok (.astore 4, 2) := by decide +kernel
theorem dL_machine_15 : decode cL_machine 15 = .ok (.iconst 1, 1) := by decide +kernel
theorem dL_machine_16 : decode cL_machine 16 = .ok (.ireturn, 1) := by decide +kernel
theorem dL_machine_17 : decode cL_machine 17 = .ok (.astore 4, 2) := by decide +kernel
theorem dL_machine_19 : decode cL_machine 19 = .ok (.iconst 2, 1) := by decide +kernel
theorem dL_machine_20 : decode cL_machine 20 = .ok (.ireturn, 1) := by decide +kernel
theorem dL_machine_21 : decode cL_machine 21 = .ok (.iconst 0, 1) := by decide +kernel
theorem dL_machine_22 : decode cL_machine 22 = .ok (.ireturn, 1) := by decide +kernel
theorem dL_rack_0 : decode cL_rack 0 = .ok (.aload_n 3, 1) := by decide +kernel
theorem dL_rack_1 : decode cL_rack 1 = .ok (.iconst 0, 1) := by decide +kernel
theorem dL_rack_2 : decode cL_rack 2 = .ok (.aload_n 0, 1) := by decide +kernel
theorem dL_rack_3 : decode cL_rack 3 = .ok (.iload_n 1, 1) := by decide +kernel
theorem dL_rack_4 : decode cL_rack 4 = .ok (.iload_n 2, 1) := by decide +kernel
theorem dL_rack_5 : decode cL_rack 5 = .ok (.invokevirtual 49, 3) := by decide +kernel
theorem dL_rack_8 : decode cL_rack 8 = .ok (.i2l, 1) := by decide +kernel
theorem dL_rack_9 : decode cL_rack 9 = .ok (.lastore, 1) := by decide +kernel
theorem dL_rack_10 : decode cL_rack 10 = .ok (.goto 11, 3) := by decide +kernel
theorem dL_rack_13 : decode cL_rack 13 = .ok (.astore 4, 2) := by decide +kernel
theorem dL_rack_15 : decode cL_rack 15 = .ok (.iconst 1, 1) := by decide +kernel
theorem dL_rack_16 : decode cL_rack 16 = .ok (.ireturn, 1) := by decide +kernel
theorem dL_rack_17 : decode cL_rack 17 = .ok (.astore 4, 2) := by decide +kernel
theorem dL_rack_19 : decode cL_rack 19 = .ok (.iconst 2, 1) := by decide +kernel
theorem dL_rack_20 : decode cL_rack 20 = .ok (.ireturn, 1) := by decide +kernel
theorem dL_rack_21 : decode cL_rack 21 = .ok (.iconst 0, 1) := by decide +kernel
theorem dL_rack_22 : decode cL_rack 22 = .ok (.ireturn, 1) := by decide +kernel
theorem dL_slot_0 : decode cL_slot 0 = .ok (.aload_n 3, 1) := by decide +kernel
theorem dL_slot_1 : decode cL_slot 1 = .ok (.iconst 0, 1) := by decide +kernel
theorem dL_slot_2 : decode cL_slot 2 = .ok (.aload_n 0, 1) := by decide +kernel
theorem dL_slot_3 : decode cL_slot 3 = .ok (.iload_n 1, 1) := by decide +kernel
theorem dL_slot_4 : decode cL_slot 4 = .ok (.iload_n 2, 1) := by decide +kernel
theorem dL_slot_5 : decode cL_slot 5 = .ok (.invokevirtual 52, 3) := by decide +kernel
theorem dL_slot_8 : decode cL_slot 8 = .ok (.i2l, 1) := by decide +kernel
theorem dL_slot_9 : decode cL_slot 9 = .ok (.lastore, 1) := by decide +kernel
theorem dL_slot_10 : decode cL_slot 10 = .ok (.goto 7, 3) := by decide +kernel
theorem dL_slot_13 : decode cL_slot 13 = .ok (.astore 4, 2) := by decide +kernel
theorem dL_slot_15 : decode cL_slot 15 = .ok (.iconst 1, 1) := by decide +kernel
theorem dL_slot_16 : decode cL_slot 16 = .ok (.ireturn, 1) := by decide +kernel
theorem dL_slot_17 : decode cL_slot 17 = .ok (.iconst 0, 1) := by decide +kernel
theorem dL_slot_18 : decode cL_slot 18 = .ok (.ireturn, 1) := by decide +kernel
theorem dL_cable_0 : decode cL_cable 0 = .ok (.aload_n 3, 1) := by decide +kernel
theorem dL_cable_1 : decode cL_cable 1 = .ok (.iconst 0, 1) := by decide +kernel
theorem dL_cable_2 : decode cL_cable 2 = .ok (.aload_n 0, 1) := by decide +kernel
theorem dL_cable_3 : decode cL_cable 3 = .ok (.iload_n 1, 1) := by decide +kernel
theorem dL_cable_4 : decode cL_cable 4 = .ok (.iload_n 2, 1) := by decide +kernel
theorem dL_cable_5 : decode cL_cable 5 = .ok (.invokevirtual 55, 3) := by decide +kernel
theorem dL_cable_8 : decode cL_cable 8 = .ok (.i2l, 1) := by decide +kernel
theorem dL_cable_9 : decode cL_cable 9 = .ok (.lastore, 1) := by decide +kernel
theorem dL_cable_10 : decode cL_cable 10 = .ok (.goto 11, 3) := by decide +kernel
theorem dL_cable_13 : decode cL_cable 13 = .ok (.astore 4, 2) := by decide +kernel
theorem dL_cable_15 : decode cL_cable 15 = .ok (.iconst 1, 1) := by decide +kernel
theorem dL_cable_16 : decode cL_cable 16 = .ok (.ireturn, 1) := by decide +kernel
theorem dL_cable_17 : decode cL_cable 17 = .ok (.astore 4, 2) := by decide +kernel
theorem dL_cable_19 : decode cL_cable 19 = .ok (.iconst 2, 1) := by decide +kernel
theorem dL_cable_20 : decode cL_cable 20 = .ok (.ireturn, 1) := by decide +kernel
theorem dL_cable_21 : decode cL_cable 21 = .ok (.iconst 0, 1) := by decide +kernel
theorem dL_cable_22 : decode cL_cable 22 = .ok (.ireturn, 1) := by decide +kernel
theorem dL_tray_0 : decode cL_tray 0 = .ok (.aload_n 2, 1) := by decide +kernel
theorem dL_tray_1 : decode cL_tray 1 = .ok (.iconst 0, 1) := by decide +kernel
theorem dL_tray_2 : decode cL_tray 2 = .ok (.aload_n 0, 1) := by decide +kernel
theorem dL_tray_3 : decode cL_tray 3 = .ok (.iload_n 1, 1) := by decide +kernel
theorem dL_tray_4 : decode cL_tray 4 = .ok (.invokevirtual 58, 3) := by decide +kernel
theorem dL_tray_7 : decode cL_tray 7 = .ok (.i2l, 1) := by decide +kernel
theorem dL_tray_8 : decode cL_tray 8 = .ok (.lastore, 1) := by decide +kernel
theorem dL_tray_9 : decode cL_tray 9 = .ok (.goto 6, 3) := by decide +kernel
theorem dL_tray_12 : decode cL_tray 12 = .ok (.astore_n 3, 1) := by decide +kernel
theorem dL_tray_13 : decode cL_tray 13 = .ok (.iconst 1, 1) := by decide +kernel
theorem dL_tray_14 : decode cL_tray 14 = .ok (.ireturn, 1) := by decide +kernel
theorem dL_tray_15 : decode cL_tray 15 = .ok (.iconst 0, 1) := by decide +kernel
theorem dL_tray_16 : decode cL_tray 16 = .ok (.ireturn, 1) := by decide +kernel
theorem dL_value_0 : decode cL_value 0 = .ok (.aload_n 2, 1) := by decide +kernel
theorem dL_value_1 : decode cL_value 1 = .ok (.iconst 0, 1) := by decide +kernel
theorem dL_value_2 : decode cL_value 2 = .ok (.aload_n 0, 1) := by decide +kernel
theorem dL_value_3 : decode cL_value 3 = .ok (.iload_n 1, 1) := by decide +kernel
theorem dL_value_4 : decode cL_value 4 = .ok (.invokevirtual 61, 3) := by decide +kernel
theorem dL_value_7 : decode cL_value 7 = .ok (.i2l, 1) := by decide +kernel
theorem dL_value_8 : decode cL_value 8 = .ok (.lastore, 1) := by decide +kernel
theorem dL_value_9 : decode cL_value 9 = .ok (.goto 6, 3) := by decide +kernel
theorem dL_value_12 : decode cL_value 12 = .ok (.astore_n 3, 1) := by decide +kernel
theorem dL_value_13 : decode cL_value 13 = .ok (.iconst 1, 1) := by decide +kernel
theorem dL_value_14 : decode cL_value 14 = .ok (.ireturn, 1) := by decide +kernel
theorem dL_value_15 : decode cL_value 15 = .ok (.iconst 0, 1) := by decide +kernel
theorem dL_value_16 : decode cL_value 16 = .ok (.ireturn, 1) := by decide +kernel
theorem dL_move_0 : decode cL_move 0 = .ok (.aload_n 3, 1) := by decide +kernel
theorem dL_move_1 : decode cL_move 1 = .ok (.iconst 0, 1) := by decide +kernel
theorem dL_move_2 : decode cL_move 2 = .ok (.aload_n 0, 1) := by decide +kernel
theorem dL_move_3 : decode cL_move 3 = .ok (.iload_n 1, 1) := by decide +kernel
theorem dL_move_4 : decode cL_move 4 = .ok (.iload_n 2, 1) := by decide +kernel
theorem dL_move_5 : decode cL_move 5 = .ok (.invokevirtual 64, 3) := by decide +kernel
theorem dL_move_8 : decode cL_move 8 = .ok (.i2l, 1) := by decide +kernel
theorem dL_move_9 : decode cL_move 9 = .ok (.lastore, 1) := by decide +kernel
theorem dL_move_10 : decode cL_move 10 = .ok (.goto 11, 3) := by decide +kernel
theorem dL_move_13 : decode cL_move 13 = .ok (.astore 4, 2) := by decide +kernel
theorem dL_move_15 : decode cL_move 15 = .ok (.iconst 1, 1) := by decide +kernel
theorem dL_move_16 : decode cL_move 16 = .ok (.ireturn, 1) := by decide +kernel
theorem dL_move_17 : decode cL_move 17 = .ok (.astore 4, 2) := by decide +kernel
theorem dL_move_19 : decode cL_move 19 = .ok (.iconst 2, 1) := by decide +kernel
theorem dL_move_20 : decode cL_move 20 = .ok (.ireturn, 1) := by decide +kernel
theorem dL_move_21 : decode cL_move 21 = .ok (.iconst 0, 1) := by decide +kernel
theorem dL_move_22 : decode cL_move 22 = .ok (.ireturn, 1) := by decide +kernel
theorem dL_change_0 : decode cL_change 0 = .ok (.aload_n 3, 1) := by decide +kernel
theorem dL_change_1 : decode cL_change 1 = .ok (.iconst 0, 1) := by decide +kernel
theorem dL_change_2 : decode cL_change 2 = .ok (.aload_n 0, 1) := by decide +kernel
theorem dL_change_3 : decode cL_change 3 = .ok (.iload_n 1, 1) := by decide +kernel
theorem dL_change_4 : decode cL_change 4 = .ok (.iload_n 2, 1) := by decide +kernel
theorem dL_change_5 : decode cL_change 5 = .ok (.invokevirtual 67, 3) := by decide +kernel
theorem dL_change_8 : decode cL_change 8 = .ok (.i2l, 1) := by decide +kernel
theorem dL_change_9 : decode cL_change 9 = .ok (.lastore, 1) := by decide +kernel
theorem dL_change_10 : decode cL_change 10 = .ok (.goto 11, 3) := by decide +kernel
theorem dL_change_13 : decode cL_change 13 = .ok (.astore 4, 2) := by decide +kernel
theorem dL_change_15 : decode cL_change 15 = .ok (.iconst 1, 1) := by decide +kernel
theorem dL_change_16 : decode cL_change 16 = .ok (.ireturn, 1) := by decide +kernel
theorem dL_change_17 : decode cL_change 17 = .ok (.astore 4, 2) := by decide +kernel
theorem dL_change_19 : decode cL_change 19 = .ok (.iconst 2, 1) := by decide +kernel
theorem dL_change_20 : decode cL_change 20 = .ok (.ireturn, 1) := by decide +kernel
theorem dL_change_21 : decode cL_change 21 = .ok (.iconst 0, 1) := by decide +kernel
theorem dL_change_22 : decode cL_change 22 = .ok (.ireturn, 1) := by decide +kernel
theorem dL_pile_0 : decode cL_pile 0 = .ok (.aload_n 3, 1) := by decide +kernel
theorem dL_pile_1 : decode cL_pile 1 = .ok (.iconst 0, 1) := by decide +kernel
theorem dL_pile_2 : decode cL_pile 2 = .ok (.aload_n 0, 1) := by decide +kernel
theorem dL_pile_3 : decode cL_pile 3 = .ok (.iload_n 1, 1) := by decide +kernel
theorem dL_pile_4 : decode cL_pile 4 = .ok (.iload_n 2, 1) := by decide +kernel
theorem dL_pile_5 : decode cL_pile 5 = .ok (.invokevirtual 70, 3) := by decide +kernel
theorem dL_pile_8 : decode cL_pile 8 = .ok (.i2l, 1) := by decide +kernel
theorem dL_pile_9 : decode cL_pile 9 = .ok (.lastore, 1) := by decide +kernel
theorem dL_pile_10 : decode cL_pile 10 = .ok (.goto 11, 3) := by decide +kernel
theorem dL_pile_13 : decode cL_pile 13 = .ok (.astore 4, 2) := by decide +kernel
theorem dL_pile_15 : decode cL_pile 15 = .ok (.iconst 1, 1) := by decide +kernel
theorem dL_pile_16 : decode cL_pile 16 = .ok (.ireturn, 1) := by decide +kernel
theorem dL_pile_17 : decode cL_pile 17 = .ok (.astore 4, 2) := by decide +kernel
theorem dL_pile_19 : decode cL_pile 19 = .ok (.iconst 2, 1) := by decide +kernel
theorem dL_pile_20 : decode cL_pile 20 = .ok (.ireturn, 1) := by decide +kernel
theorem dL_pile_21 : decode cL_pile 21 = .ok (.iconst 0, 1) := by decide +kernel
theorem dL_pile_22 : decode cL_pile 22 = .ok (.ireturn, 1) := by decide +kernel
theorem dL_mayMove_0 : decode cL_mayMove 0 = .ok (.aload_n 3, 1) := by decide +kernel
theorem dL_mayMove_1 : decode cL_mayMove 1 = .ok (.iconst 0, 1) := by decide +kernel
theorem dL_mayMove_2 : decode cL_mayMove 2 = .ok (.aload_n 0, 1) := by decide +kernel
theorem dL_mayMove_3 : decode cL_mayMove 3 = .ok (.iload_n 1, 1) := by decide +kernel
theorem dL_mayMove_4 : decode cL_mayMove 4 = .ok (.iload_n 2, 1) := by decide +kernel
theorem dL_mayMove_5 : decode cL_mayMove 5 = .ok (.invokevirtual 73, 3) := by decide +kernel
theorem dL_mayMove_8 : decode cL_mayMove 8 = .ok (.i2l, 1) := by decide +kernel
theorem dL_mayMove_9 : decode cL_mayMove 9 = .ok (.lastore, 1) := by decide +kernel
theorem dL_mayMove_10 : decode cL_mayMove 10 = .ok (.goto 11, 3) := by decide +kernel
theorem dL_mayMove_13 : decode cL_mayMove 13 = .ok (.astore 4, 2) := by decide +kernel
theorem dL_mayMove_15 : decode cL_mayMove 15 = .ok (.iconst 1, 1) := by decide +kernel
theorem dL_mayMove_16 : decode cL_mayMove 16 = .ok (.ireturn, 1) := by decide +kernel
theorem dL_mayMove_17 : decode cL_mayMove 17 = .ok (.astore 4, 2) := by decide +kernel
theorem dL_mayMove_19 : decode cL_mayMove 19 = .ok (.iconst 2, 1) := by decide +kernel
theorem dL_mayMove_20 : decode cL_mayMove 20 = .ok (.ireturn, 1) := by decide +kernel
theorem dL_mayMove_21 : decode cL_mayMove 21 = .ok (.iconst 0, 1) := by decide +kernel
theorem dL_mayMove_22 : decode cL_mayMove 22 = .ok (.ireturn, 1) := by decide +kernel
theorem dL_bestRack_0 : decode cL_bestRack 0 = .ok (.aload_n 2, 1) := by decide +kernel
theorem dL_bestRack_1 : decode cL_bestRack 1 = .ok (.iconst 0, 1) := by decide +kernel
theorem dL_bestRack_2 : decode cL_bestRack 2 = .ok (.aload_n 0, 1) := by decide +kernel
theorem dL_bestRack_3 : decode cL_bestRack 3 = .ok (.iload_n 1, 1) := by decide +kernel
theorem dL_bestRack_4 : decode cL_bestRack 4 = .ok (.invokevirtual 76, 3) := by decide +kernel
theorem dL_bestRack_7 : decode cL_bestRack 7 = .ok (.i2l, 1) := by decide +kernel
theorem dL_bestRack_8 : decode cL_bestRack 8 = .ok (.lastore, 1) := by decide +kernel
theorem dL_bestRack_9 : decode cL_bestRack 9 = .ok (.goto 6, 3) := by decide +kernel
theorem dL_bestRack_12 : decode cL_bestRack 12 = .ok (.astore_n 3, 1) := by decide +kernel
theorem dL_bestRack_13 : decode cL_bestRack 13 = .ok (.iconst 1, 1) := by decide +kernel
theorem dL_bestRack_14 : decode cL_bestRack 14 = .ok (.ireturn, 1) := by decide +kernel
theorem dL_bestRack_15 : decode cL_bestRack 15 = .ok (.iconst 0, 1) := by decide +kernel
theorem dL_bestRack_16 : decode cL_bestRack 16 = .ok (.ireturn, 1) := by decide +kernel
theorem dL_append_0 : decode cL_append 0 = .ok (.aload_n 2, 1) := by decide +kernel
theorem dL_append_1 : decode cL_append 1 = .ok (.iconst 0, 1) := by decide +kernel
theorem dL_append_2 : decode cL_append 2 = .ok (.aload_n 0, 1) := by decide +kernel
theorem dL_append_3 : decode cL_append 3 = .ok (.iload_n 1, 1) := by decide +kernel
theorem dL_append_4 : decode cL_append 4 = .ok (.invokevirtual 79, 3) := by decide +kernel
theorem dL_append_7 : decode cL_append 7 = .ok (.i2l, 1) := by decide +kernel
theorem dL_append_8 : decode cL_append 8 = .ok (.lastore, 1) := by decide +kernel
theorem dL_append_9 : decode cL_append 9 = .ok (.goto 9, 3) := by decide +kernel
theorem dL_append_12 : decode cL_append 12 = .ok (.astore_n 3, 1) := by decide +kernel
theorem dL_append_13 : decode cL_append 13 = .ok (.iconst 1, 1) := by decide +kernel
theorem dL_append_14 : decode cL_append 14 = .ok (.ireturn, 1) := by decide +kernel
theorem dL_append_15 : decode cL_append 15 = .ok (.astore_n 3, 1) := by decide +kernel
theorem dL_append_16 : decode cL_append 16 = .ok (.iconst 2, 1) := by decide +kernel
theorem dL_append_17 : decode cL_append 17 = .ok (.ireturn, 1) := by decide +kernel
theorem dL_append_18 : decode cL_append 18 = .ok (.iconst 0, 1) := by decide +kernel
theorem dL_append_19 : decode cL_append 19 = .ok (.ireturn, 1) := by decide +kernel
theorem dL_undo_0 : decode cL_undo 0 = .ok (.aload_n 1, 1) := by decide +kernel
theorem dL_undo_1 : decode cL_undo 1 = .ok (.iconst 0, 1) := by decide +kernel
theorem dL_undo_2 : decode cL_undo 2 = .ok (.aload_n 0, 1) := by decide +kernel
theorem dL_undo_3 : decode cL_undo 3 = .ok (.invokevirtual 82, 3) := by decide +kernel
theorem dL_undo_6 : decode cL_undo 6 = .ok (.i2l, 1) := by decide +kernel
theorem dL_undo_7 : decode cL_undo 7 = .ok (.lastore, 1) := by decide +kernel
theorem dL_undo_8 : decode cL_undo 8 = .ok (.goto 6, 3) := by decide +kernel
theorem dL_undo_11 : decode cL_undo 11 = .ok (.astore_n 2, 1) := by decide +kernel
theorem dL_undo_12 : decode cL_undo 12 = .ok (.iconst 1, 1) := by decide +kernel
theorem dL_undo_13 : decode cL_undo 13 = .ok (.ireturn, 1) := by decide +kernel
theorem dL_undo_14 : decode cL_undo 14 = .ok (.iconst 0, 1) := by decide +kernel
theorem dL_undo_15 : decode cL_undo 15 = .ok (.ireturn, 1) := by decide +kernel
theorem dL_law_0 : decode cL_law 0 = .ok (.new 8, 3) := by decide +kernel
theorem dL_law_3 : decode cL_law 3 = .ok (.dup, 1) := by decide +kernel
theorem dL_law_4 : decode cL_law 4 = .ok (.invokespecial 86, 3) := by decide +kernel
theorem dL_law_7 : decode cL_law 7 = .ok (.astore_n 1, 1) := by decide +kernel
theorem dL_law_8 : decode cL_law 8 = .ok (.new 87, 3) := by decide +kernel
theorem dL_law_11 : decode cL_law 11 = .ok (.dup, 1) := by decide +kernel
theorem dL_law_12 : decode cL_law 12 = .ok (.invokespecial 89, 3) := by decide +kernel
theorem dL_law_15 : decode cL_law 15 = .ok (.astore_n 2, 1) := by decide +kernel
theorem dL_law_16 : decode cL_law 16 = .ok (.iconst 1, 1) := by decide +kernel
theorem dL_law_17 : decode cL_law 17 = .ok (.newarray .long, 2) := by decide +kernel
theorem dL_law_19 : decode cL_law 19 = .ok (.astore_n 3, 1) := by decide +kernel
theorem dL_law_20 : decode cL_law 20 = .ok (.iconst 0, 1) := by decide +kernel
theorem dL_law_21 : decode cL_law 21 = .ok (.istore 4, 2) := by decide +kernel
theorem dL_law_23 : decode cL_law 23 = .ok (.iload 4, 2) := by decide +kernel
theorem dL_law_25 : decode cL_law 25 = .ok (.aload_n 0, 1) := by decide +kernel
theorem dL_law_26 : decode cL_law 26 = .ok (.arraylength, 1) := by decide +kernel
theorem dL_law_27 : decode cL_law 27 = .ok (.iconst 5, 1) := by decide +kernel
theorem dL_law_28 : decode cL_law 28 = .ok (.isub, 1) := by decide +kernel
theorem dL_law_29 : decode cL_law 29 = .ok (.if_icmp .gt 1689, 3) := by decide +kernel
theorem dL_law_32 : decode cL_law 32 = .ok (.aload_n 0, 1) := by decide +kernel
theorem dL_law_33 : decode cL_law 33 = .ok (.iload 4, 2) := by decide +kernel
theorem dL_law_35 : decode cL_law 35 = .ok (.iaload, 1) := by decide +kernel
theorem dL_law_36 : decode cL_law 36 = .ok (.bipush 31, 2) := by decide +kernel
theorem dL_law_38 : decode cL_law 38 = .ok (.iand, 1) := by decide +kernel
theorem dL_law_39 : decode cL_law 39 = .ok (.tableswitch 1673 0 28 #[129, 197, 265, 321, 413, 493, 549, 629, 685, 741, 809, 877, 945, 1013, 1069, 1125, 1193, 1261, 1274, 1342, 1410, 1466, 1479, 1492, 1533, 1589, 1602, 1615, 1659], 129) := by decide +kernel
theorem dL_law_168 : decode cL_law 168 = .ok (.aload_n 1, 1) := by decide +kernel
theorem dL_law_169 : decode cL_law 169 = .ok (.aload_n 0, 1) := by decide +kernel
theorem dL_law_170 : decode cL_law 170 = .ok (.iload 4, 2) := by decide +kernel
theorem dL_law_172 : decode cL_law 172 = .ok (.iconst 1, 1) := by decide +kernel
theorem dL_law_173 : decode cL_law 173 = .ok (.iadd, 1) := by decide +kernel
theorem dL_law_174 : decode cL_law 174 = .ok (.iaload, 1) := by decide +kernel
theorem dL_law_175 : decode cL_law 175 = .ok (.aload_n 0, 1) := by decide +kernel
theorem dL_law_176 : decode cL_law 176 = .ok (.iload 4, 2) := by decide +kernel
theorem dL_law_178 : decode cL_law 178 = .ok (.iconst 2, 1) := by decide +kernel
theorem dL_law_179 : decode cL_law 179 = .ok (.iadd, 1) := by decide +kernel
theorem dL_law_180 : decode cL_law 180 = .ok (.iaload, 1) := by decide +kernel
theorem dL_law_181 : decode cL_law 181 = .ok (.aload_n 3, 1) := by decide +kernel
theorem dL_law_182 : decode cL_law 182 = .ok (.invokestatic 90, 3) := by decide +kernel
theorem dL_law_185 : decode cL_law 185 = .ok (.istore 5, 2) := by decide +kernel
theorem dL_law_187 : decode cL_law 187 = .ok (.aload_n 2, 1) := by decide +kernel
theorem dL_law_188 : decode cL_law 188 = .ok (.aload_n 0, 1) := by decide +kernel
theorem dL_law_189 : decode cL_law 189 = .ok (.iload 4, 2) := by decide +kernel
theorem dL_law_191 : decode cL_law 191 = .ok (.iconst 1, 1) := by decide +kernel
theorem dL_law_192 : decode cL_law 192 = .ok (.iadd, 1) := by decide +kernel
theorem dL_law_193 : decode cL_law 193 = .ok (.iaload, 1) := by decide +kernel
theorem dL_law_194 : decode cL_law 194 = .ok (.aload_n 0, 1) := by decide +kernel
theorem dL_law_195 : decode cL_law 195 = .ok (.iload 4, 2) := by decide +kernel
theorem dL_law_197 : decode cL_law 197 = .ok (.iconst 2, 1) := by decide +kernel
theorem dL_law_198 : decode cL_law 198 = .ok (.iadd, 1) := by decide +kernel
theorem dL_law_199 : decode cL_law 199 = .ok (.iaload, 1) := by decide +kernel
theorem dL_law_200 : decode cL_law 200 = .ok (.invokevirtual 95, 3) := by decide +kernel
theorem dL_law_203 : decode cL_law 203 = .ok (.istore 6, 2) := by decide +kernel
theorem dL_law_205 : decode cL_law 205 = .ok (.aload_n 2, 1) := by decide +kernel
theorem dL_law_206 : decode cL_law 206 = .ok (.invokevirtual 96, 3) := by decide +kernel
theorem dL_law_209 : decode cL_law 209 = .ok (.iload 5, 2) := by decide +kernel
theorem dL_law_211 : decode cL_law 211 = .ok (.if_icmp .eq 5, 3) := by decide +kernel
theorem dL_law_214 : decode cL_law 214 = .ok (.iconst 0, 1) := by decide +kernel
theorem dL_law_215 : decode cL_law 215 = .ok (.ireturn, 1) := by decide +kernel
theorem dL_law_216 : decode cL_law 216 = .ok (.iload 5, 2) := by decide +kernel
theorem dL_law_218 : decode cL_law 218 = .ok (.ifCond .ne 15, 3) := by decide +kernel
theorem dL_law_221 : decode cL_law 221 = .ok (.aload_n 3, 1) := by decide +kernel
theorem dL_law_222 : decode cL_law 222 = .ok (.iconst 0, 1) := by decide +kernel
theorem dL_law_223 : decode cL_law 223 = .ok (.laload, 1) := by decide +kernel
theorem dL_law_224 : decode cL_law 224 = .ok (.iload 6, 2) := by decide +kernel
theorem dL_law_226 : decode cL_law 226 = .ok (.i2l, 1) := by decide +kernel
theorem dL_law_227 : decode cL_law 227 = .ok (.lcmp, 1) := by decide +kernel
theorem dL_law_228 : decode cL_law 228 = .ok (.ifCond .eq 5, 3) := by decide +kernel
theorem dL_law_231 : decode cL_law 231 = .ok (.iconst 0, 1) := by decide +kernel
theorem dL_law_232 : decode cL_law 232 = .ok (.ireturn, 1) := by decide +kernel
theorem dL_law_233 : decode cL_law 233 = .ok (.goto 1479, 3) := by decide +kernel
theorem dL_law_236 : decode cL_law 236 = .ok (.aload_n 1, 1) := by decide +kernel
theorem dL_law_237 : decode cL_law 237 = .ok (.aload_n 0, 1) := by decide +kernel
theorem dL_law_238 : decode cL_law 238 = .ok (.iload 4, 2) := by decide +kernel
theorem dL_law_240 : decode cL_law 240 = .ok (.iconst 1, 1) := by decide +kernel
theorem dL_law_241 : decode cL_law 241 = .ok (.iadd, 1) := by decide +kernel
theorem dL_law_242 : decode cL_law 242 = .ok (.iaload, 1) := by decide +kernel
theorem dL_law_243 : decode cL_law 243 = .ok (.aload_n 0, 1) := by decide +kernel
theorem dL_law_244 : decode cL_law 244 = .ok (.iload 4, 2) := by decide +kernel
theorem dL_law_246 : decode cL_law 246 = .ok (.iconst 2, 1) := by decide +kernel
theorem dL_law_247 : decode cL_law 247 = .ok (.iadd, 1) := by decide +kernel
theorem dL_law_248 : decode cL_law 248 = .ok (.iaload, 1) := by decide +kernel
theorem dL_law_249 : decode cL_law 249 = .ok (.aload_n 3, 1) := by decide +kernel
theorem dL_law_250 : decode cL_law 250 = .ok (.invokestatic 99, 3) := by decide +kernel
theorem dL_law_253 : decode cL_law 253 = .ok (.istore 5, 2) := by decide +kernel
theorem dL_law_255 : decode cL_law 255 = .ok (.aload_n 2, 1) := by decide +kernel
theorem dL_law_256 : decode cL_law 256 = .ok (.aload_n 0, 1) := by decide +kernel
theorem dL_law_257 : decode cL_law 257 = .ok (.iload 4, 2) := by decide +kernel
theorem dL_law_259 : decode cL_law 259 = .ok (.iconst 1, 1) := by decide +kernel
theorem dL_law_260 : decode cL_law 260 = .ok (.iadd, 1) := by decide +kernel
theorem dL_law_261 : decode cL_law 261 = .ok (.iaload, 1) := by decide +kernel
theorem dL_law_262 : decode cL_law 262 = .ok (.aload_n 0, 1) := by decide +kernel
theorem dL_law_263 : decode cL_law 263 = .ok (.iload 4, 2) := by decide +kernel
theorem dL_law_265 : decode cL_law 265 = .ok (.iconst 2, 1) := by decide +kernel
theorem dL_law_266 : decode cL_law 266 = .ok (.iadd, 1) := by decide +kernel
theorem dL_law_267 : decode cL_law 267 = .ok (.iaload, 1) := by decide +kernel
theorem dL_law_268 : decode cL_law 268 = .ok (.invokevirtual 101, 3) := by decide +kernel
theorem dL_law_271 : decode cL_law 271 = .ok (.istore 6, 2) := by decide +kernel
theorem dL_law_273 : decode cL_law 273 = .ok (.aload_n 2, 1) := by decide +kernel
theorem dL_law_274 : decode cL_law 274 = .ok (.invokevirtual 96, 3) := by decide +kernel
theorem dL_law_277 : decode cL_law 277 = .ok (.iload 5, 2) := by decide +kernel
theorem dL_law_279 : decode cL_law 279 = .ok (.if_icmp .eq 5, 3) := by decide +kernel
theorem dL_law_282 : decode cL_law 282 = .ok (.iconst 0, 1) := by decide +kernel
theorem dL_law_283 : decode cL_law 283 = .ok (.ireturn, 1) := by decide +kernel
theorem dL_law_284 : decode cL_law 284 = .ok (.iload 5, 2) := by decide +kernel
theorem dL_law_286 : decode cL_law 286 = .ok (.ifCond .ne 15, 3) := by decide +kernel
theorem dL_law_289 : decode cL_law 289 = .ok (.aload_n 3, 1) := by decide +kernel
theorem dL_law_290 : decode cL_law 290 = .ok (.iconst 0, 1) := by decide +kernel
theorem dL_law_291 : decode cL_law 291 = .ok (.laload, 1) := by decide +kernel
theorem dL_law_292 : decode cL_law 292 = .ok (.iload 6, 2) := by decide +kernel
theorem dL_law_294 : decode cL_law 294 = .ok (.i2l, 1) := by decide +kernel
theorem dL_law_295 : decode cL_law 295 = .ok (.lcmp, 1) := by decide +kernel
theorem dL_law_296 : decode cL_law 296 = .ok (.ifCond .eq 5, 3) := by decide +kernel
theorem dL_law_299 : decode cL_law 299 = .ok (.iconst 0, 1) := by decide +kernel
theorem dL_law_300 : decode cL_law 300 = .ok (.ireturn, 1) := by decide +kernel
theorem dL_law_301 : decode cL_law 301 = .ok (.goto 1411, 3) := by decide +kernel
theorem dL_law_304 : decode cL_law 304 = .ok (.aload_n 1, 1) := by decide +kernel
theorem dL_law_305 : decode cL_law 305 = .ok (.aload_n 0, 1) := by decide +kernel
theorem dL_law_306 : decode cL_law 306 = .ok (.iload 4, 2) := by decide +kernel
theorem dL_law_308 : decode cL_law 308 = .ok (.iconst 1, 1) := by decide +kernel
theorem dL_law_309 : decode cL_law 309 = .ok (.iadd, 1) := by decide +kernel
theorem dL_law_310 : decode cL_law 310 = .ok (.iaload, 1) := by decide +kernel
theorem dL_law_311 : decode cL_law 311 = .ok (.aload_n 3, 1) := by decide +kernel
theorem dL_law_312 : decode cL_law 312 = .ok (.invokestatic 102, 3) := by decide +kernel
theorem dL_law_315 : decode cL_law 315 = .ok (.istore 5, 2) := by decide +kernel
theorem dL_law_317 : decode cL_law 317 = .ok (.aload_n 2, 1) := by decide +kernel
theorem dL_law_318 : decode cL_law 318 = .ok (.aload_n 0, 1) := by decide +kernel
theorem dL_law_319 : decode cL_law 319 = .ok (.iload 4, 2) := by decide +kernel
theorem dL_law_321 : decode cL_law 321 = .ok (.iconst 1, 1) := by decide +kernel
theorem dL_law_322 : decode cL_law 322 = .ok (.iadd, 1) := by decide +kernel
theorem dL_law_323 : decode cL_law 323 = .ok (.iaload, 1) := by decide +kernel
theorem dL_law_324 : decode cL_law 324 = .ok (.invokevirtual 105, 3) := by decide +kernel
theorem dL_law_327 : decode cL_law 327 = .ok (.istore 6, 2) := by decide +kernel
theorem dL_law_329 : decode cL_law 329 = .ok (.aload_n 2, 1) := by decide +kernel
theorem dL_law_330 : decode cL_law 330 = .ok (.invokevirtual 96, 3) := by decide +kernel
theorem dL_law_333 : decode cL_law 333 = .ok (.iload 5, 2) := by decide +kernel
theorem dL_law_335 : decode cL_law 335 = .ok (.if_icmp .eq 5, 3) := by decide +kernel
theorem dL_law_338 : decode cL_law 338 = .ok (.iconst 0, 1) := by decide +kernel
theorem dL_law_339 : decode cL_law 339 = .ok (.ireturn, 1) := by decide +kernel
theorem dL_law_340 : decode cL_law 340 = .ok (.iload 5, 2) := by decide +kernel
theorem dL_law_342 : decode cL_law 342 = .ok (.ifCond .ne 15, 3) := by decide +kernel
theorem dL_law_345 : decode cL_law 345 = .ok (.aload_n 3, 1) := by decide +kernel
theorem dL_law_346 : decode cL_law 346 = .ok (.iconst 0, 1) := by decide +kernel
theorem dL_law_347 : decode cL_law 347 = .ok (.laload, 1) := by decide +kernel
theorem dL_law_348 : decode cL_law 348 = .ok (.iload 6, 2) := by decide +kernel
theorem dL_law_350 : decode cL_law 350 = .ok (.i2l, 1) := by decide +kernel
theorem dL_law_351 : decode cL_law 351 = .ok (.lcmp, 1) := by decide +kernel
theorem dL_law_352 : decode cL_law 352 = .ok (.ifCond .eq 5, 3) := by decide +kernel
theorem dL_law_355 : decode cL_law 355 = .ok (.iconst 0, 1) := by decide +kernel
theorem dL_law_356 : decode cL_law 356 = .ok (.ireturn, 1) := by decide +kernel
theorem dL_law_357 : decode cL_law 357 = .ok (.goto 1355, 3) := by decide +kernel
theorem dL_law_360 : decode cL_law 360 = .ok (.aload_n 1, 1) := by decide +kernel
theorem dL_law_361 : decode cL_law 361 = .ok (.aload_n 0, 1) := by decide +kernel
theorem dL_law_362 : decode cL_law 362 = .ok (.iload 4, 2) := by decide +kernel
theorem dL_law_364 : decode cL_law 364 = .ok (.iconst 1, 1) := by decide +kernel
theorem dL_law_365 : decode cL_law 365 = .ok (.iadd, 1) := by decide +kernel
theorem dL_law_366 : decode cL_law 366 = .ok (.iaload, 1) := by decide +kernel
theorem dL_law_367 : decode cL_law 367 = .ok (.aload_n 0, 1) := by decide +kernel
theorem dL_law_368 : decode cL_law 368 = .ok (.iload 4, 2) := by decide +kernel
theorem dL_law_370 : decode cL_law 370 = .ok (.iconst 2, 1) := by decide +kernel
theorem dL_law_371 : decode cL_law 371 = .ok (.iadd, 1) := by decide +kernel
theorem dL_law_372 : decode cL_law 372 = .ok (.iaload, 1) := by decide +kernel
theorem dL_law_373 : decode cL_law 373 = .ok (.aload_n 0, 1) := by decide +kernel
theorem dL_law_374 : decode cL_law 374 = .ok (.iload 4, 2) := by decide +kernel
theorem dL_law_376 : decode cL_law 376 = .ok (.iconst 3, 1) := by decide +kernel
theorem dL_law_377 : decode cL_law 377 = .ok (.iadd, 1) := by decide +kernel
theorem dL_law_378 : decode cL_law 378 = .ok (.iaload, 1) := by decide +kernel
theorem dL_law_379 : decode cL_law 379 = .ok (.aload_n 0, 1) := by decide +kernel
theorem dL_law_380 : decode cL_law 380 = .ok (.iload 4, 2) := by decide +kernel
theorem dL_law_382 : decode cL_law 382 = .ok (.iconst 4, 1) := by decide +kernel
theorem dL_law_383 : decode cL_law 383 = .ok (.iadd, 1) := by decide +kernel
theorem dL_law_384 : decode cL_law 384 = .ok (.iaload, 1) := by decide +kernel
theorem dL_law_385 : decode cL_law 385 = .ok (.aload_n 3, 1) := by decide +kernel
theorem dL_law_386 : decode cL_law 386 = .ok (.invokestatic 106, 3) := by decide +kernel
theorem dL_law_389 : decode cL_law 389 = .ok (.istore 5, 2) := by decide +kernel
theorem dL_law_391 : decode cL_law 391 = .ok (.aload_n 2, 1) := by decide +kernel
theorem dL_law_392 : decode cL_law 392 = .ok (.aload_n 0, 1) := by decide +kernel
theorem dL_law_393 : decode cL_law 393 = .ok (.iload 4, 2) := by decide +kernel
theorem dL_law_395 : decode cL_law 395 = .ok (.iconst 1, 1) := by decide +kernel
theorem dL_law_396 : decode cL_law 396 = .ok (.iadd, 1) := by decide +kernel
theorem dL_law_397 : decode cL_law 397 = .ok (.iaload, 1) := by decide +kernel
theorem dL_law_398 : decode cL_law 398 = .ok (.aload_n 0, 1) := by decide +kernel
theorem dL_law_399 : decode cL_law 399 = .ok (.iload 4, 2) := by decide +kernel
theorem dL_law_401 : decode cL_law 401 = .ok (.iconst 2, 1) := by decide +kernel
theorem dL_law_402 : decode cL_law 402 = .ok (.iadd, 1) := by decide +kernel
theorem dL_law_403 : decode cL_law 403 = .ok (.iaload, 1) := by decide +kernel
theorem dL_law_404 : decode cL_law 404 = .ok (.aload_n 0, 1) := by decide +kernel
theorem dL_law_405 : decode cL_law 405 = .ok (.iload 4, 2) := by decide +kernel
theorem dL_law_407 : decode cL_law 407 = .ok (.iconst 3, 1) := by decide +kernel
theorem dL_law_408 : decode cL_law 408 = .ok (.iadd, 1) := by decide +kernel
theorem dL_law_409 : decode cL_law 409 = .ok (.iaload, 1) := by decide +kernel
theorem dL_law_410 : decode cL_law 410 = .ok (.aload_n 0, 1) := by decide +kernel
theorem dL_law_411 : decode cL_law 411 = .ok (.iload 4, 2) := by decide +kernel
theorem dL_law_413 : decode cL_law 413 = .ok (.iconst 4, 1) := by decide +kernel
theorem dL_law_414 : decode cL_law 414 = .ok (.iadd, 1) := by decide +kernel
theorem dL_law_415 : decode cL_law 415 = .ok (.iaload, 1) := by decide +kernel
theorem dL_law_416 : decode cL_law 416 = .ok (.invokevirtual 109, 3) := by decide +kernel
theorem dL_law_419 : decode cL_law 419 = .ok (.istore 6, 2) := by decide +kernel
theorem dL_law_421 : decode cL_law 421 = .ok (.aload_n 2, 1) := by decide +kernel
theorem dL_law_422 : decode cL_law 422 = .ok (.invokevirtual 96, 3) := by decide +kernel
theorem dL_law_425 : decode cL_law 425 = .ok (.iload 5, 2) := by decide +kernel
theorem dL_law_427 : decode cL_law 427 = .ok (.if_icmp .eq 5, 3) := by decide +kernel
theorem dL_law_430 : decode cL_law 430 = .ok (.iconst 0, 1) := by decide +kernel
theorem dL_law_431 : decode cL_law 431 = .ok (.ireturn, 1) := by decide +kernel
theorem dL_law_432 : decode cL_law 432 = .ok (.iload 5, 2) := by decide +kernel
theorem dL_law_434 : decode cL_law 434 = .ok (.ifCond .ne 15, 3) := by decide +kernel
theorem dL_law_437 : decode cL_law 437 = .ok (.aload_n 3, 1) := by decide +kernel
theorem dL_law_438 : decode cL_law 438 = .ok (.iconst 0, 1) := by decide +kernel
theorem dL_law_439 : decode cL_law 439 = .ok (.laload, 1) := by decide +kernel
theorem dL_law_440 : decode cL_law 440 = .ok (.iload 6, 2) := by decide +kernel
theorem dL_law_442 : decode cL_law 442 = .ok (.i2l, 1) := by decide +kernel
theorem dL_law_443 : decode cL_law 443 = .ok (.lcmp, 1) := by decide +kernel
theorem dL_law_444 : decode cL_law 444 = .ok (.ifCond .eq 5, 3) := by decide +kernel
theorem dL_law_447 : decode cL_law 447 = .ok (.iconst 0, 1) := by decide +kernel
theorem dL_law_448 : decode cL_law 448 = .ok (.ireturn, 1) := by decide +kernel
theorem dL_law_449 : decode cL_law 449 = .ok (.goto 1263, 3) := by decide +kernel
theorem dL_law_452 : decode cL_law 452 = .ok (.aload_n 1, 1) := by decide +kernel
theorem dL_law_453 : decode cL_law 453 = .ok (.aload_n 0, 1) := by decide +kernel
theorem dL_law_454 : decode cL_law 454 = .ok (.iload 4, 2) := by decide +kernel
theorem dL_law_456 : decode cL_law 456 = .ok (.iconst 1, 1) := by decide +kernel
theorem dL_law_457 : decode cL_law 457 = .ok (.iadd, 1) := by decide +kernel
theorem dL_law_458 : decode cL_law 458 = .ok (.iaload, 1) := by decide +kernel
theorem dL_law_459 : decode cL_law 459 = .ok (.aload_n 0, 1) := by decide +kernel
theorem dL_law_460 : decode cL_law 460 = .ok (.iload 4, 2) := by decide +kernel
theorem dL_law_462 : decode cL_law 462 = .ok (.iconst 2, 1) := by decide +kernel
theorem dL_law_463 : decode cL_law 463 = .ok (.iadd, 1) := by decide +kernel
theorem dL_law_464 : decode cL_law 464 = .ok (.iaload, 1) := by decide +kernel
theorem dL_law_465 : decode cL_law 465 = .ok (.aload_n 0, 1) := by decide +kernel
theorem dL_law_466 : decode cL_law 466 = .ok (.iload 4, 2) := by decide +kernel
theorem dL_law_468 : decode cL_law 468 = .ok (.iconst 3, 1) := by decide +kernel
theorem dL_law_469 : decode cL_law 469 = .ok (.iadd, 1) := by decide +kernel
theorem dL_law_470 : decode cL_law 470 = .ok (.iaload, 1) := by decide +kernel
theorem dL_law_471 : decode cL_law 471 = .ok (.aload_n 3, 1) := by decide +kernel
theorem dL_law_472 : decode cL_law 472 = .ok (.invokestatic 110, 3) := by decide +kernel
theorem dL_law_475 : decode cL_law 475 = .ok (.istore 5, 2) := by decide +kernel
theorem dL_law_477 : decode cL_law 477 = .ok (.aload_n 2, 1) := by decide +kernel
theorem dL_law_478 : decode cL_law 478 = .ok (.aload_n 0, 1) := by decide +kernel
theorem dL_law_479 : decode cL_law 479 = .ok (.iload 4, 2) := by decide +kernel
theorem dL_law_481 : decode cL_law 481 = .ok (.iconst 1, 1) := by decide +kernel
theorem dL_law_482 : decode cL_law 482 = .ok (.iadd, 1) := by decide +kernel
theorem dL_law_483 : decode cL_law 483 = .ok (.iaload, 1) := by decide +kernel
theorem dL_law_484 : decode cL_law 484 = .ok (.aload_n 0, 1) := by decide +kernel
theorem dL_law_485 : decode cL_law 485 = .ok (.iload 4, 2) := by decide +kernel
theorem dL_law_487 : decode cL_law 487 = .ok (.iconst 2, 1) := by decide +kernel
theorem dL_law_488 : decode cL_law 488 = .ok (.iadd, 1) := by decide +kernel
theorem dL_law_489 : decode cL_law 489 = .ok (.iaload, 1) := by decide +kernel
theorem dL_law_490 : decode cL_law 490 = .ok (.aload_n 0, 1) := by decide +kernel
theorem dL_law_491 : decode cL_law 491 = .ok (.iload 4, 2) := by decide +kernel
theorem dL_law_493 : decode cL_law 493 = .ok (.iconst 3, 1) := by decide +kernel
theorem dL_law_494 : decode cL_law 494 = .ok (.iadd, 1) := by decide +kernel
theorem dL_law_495 : decode cL_law 495 = .ok (.iaload, 1) := by decide +kernel
theorem dL_law_496 : decode cL_law 496 = .ok (.invokevirtual 113, 3) := by decide +kernel
theorem dL_law_499 : decode cL_law 499 = .ok (.istore 6, 2) := by decide +kernel
theorem dL_law_501 : decode cL_law 501 = .ok (.aload_n 2, 1) := by decide +kernel
theorem dL_law_502 : decode cL_law 502 = .ok (.invokevirtual 96, 3) := by decide +kernel
theorem dL_law_505 : decode cL_law 505 = .ok (.iload 5, 2) := by decide +kernel
theorem dL_law_507 : decode cL_law 507 = .ok (.if_icmp .eq 5, 3) := by decide +kernel
theorem dL_law_510 : decode cL_law 510 = .ok (.iconst 0, 1) := by decide +kernel
theorem dL_law_511 : decode cL_law 511 = .ok (.ireturn, 1) := by decide +kernel
theorem dL_law_512 : decode cL_law 512 = .ok (.iload 5, 2) := by decide +kernel
theorem dL_law_514 : decode cL_law 514 = .ok (.ifCond .ne 15, 3) := by decide +kernel
theorem dL_law_517 : decode cL_law 517 = .ok (.aload_n 3, 1) := by decide +kernel
theorem dL_law_518 : decode cL_law 518 = .ok (.iconst 0, 1) := by decide +kernel
theorem dL_law_519 : decode cL_law 519 = .ok (.laload, 1) := by decide +kernel
theorem dL_law_520 : decode cL_law 520 = .ok (.iload 6, 2) := by decide +kernel
theorem dL_law_522 : decode cL_law 522 = .ok (.i2l, 1) := by decide +kernel
theorem dL_law_523 : decode cL_law 523 = .ok (.lcmp, 1) := by decide +kernel
theorem dL_law_524 : decode cL_law 524 = .ok (.ifCond .eq 5, 3) := by decide +kernel
theorem dL_law_527 : decode cL_law 527 = .ok (.iconst 0, 1) := by decide +kernel
theorem dL_law_528 : decode cL_law 528 = .ok (.ireturn, 1) := by decide +kernel
theorem dL_law_529 : decode cL_law 529 = .ok (.goto 1183, 3) := by decide +kernel
theorem dL_law_532 : decode cL_law 532 = .ok (.aload_n 1, 1) := by decide +kernel
theorem dL_law_533 : decode cL_law 533 = .ok (.aload_n 0, 1) := by decide +kernel
theorem dL_law_534 : decode cL_law 534 = .ok (.iload 4, 2) := by decide +kernel
theorem dL_law_536 : decode cL_law 536 = .ok (.iconst 1, 1) := by decide +kernel
theorem dL_law_537 : decode cL_law 537 = .ok (.iadd, 1) := by decide +kernel
theorem dL_law_538 : decode cL_law 538 = .ok (.iaload, 1) := by decide +kernel
theorem dL_law_539 : decode cL_law 539 = .ok (.aload_n 3, 1) := by decide +kernel
theorem dL_law_540 : decode cL_law 540 = .ok (.invokestatic 114, 3) := by decide +kernel
theorem dL_law_543 : decode cL_law 543 = .ok (.istore 5, 2) := by decide +kernel
theorem dL_law_545 : decode cL_law 545 = .ok (.aload_n 2, 1) := by decide +kernel
theorem dL_law_546 : decode cL_law 546 = .ok (.aload_n 0, 1) := by decide +kernel
theorem dL_law_547 : decode cL_law 547 = .ok (.iload 4, 2) := by decide +kernel
theorem dL_law_549 : decode cL_law 549 = .ok (.iconst 1, 1) := by decide +kernel
theorem dL_law_550 : decode cL_law 550 = .ok (.iadd, 1) := by decide +kernel
theorem dL_law_551 : decode cL_law 551 = .ok (.iaload, 1) := by decide +kernel
theorem dL_law_552 : decode cL_law 552 = .ok (.invokevirtual 116, 3) := by decide +kernel
theorem dL_law_555 : decode cL_law 555 = .ok (.istore 6, 2) := by decide +kernel
theorem dL_law_557 : decode cL_law 557 = .ok (.aload_n 2, 1) := by decide +kernel
theorem dL_law_558 : decode cL_law 558 = .ok (.invokevirtual 96, 3) := by decide +kernel
theorem dL_law_561 : decode cL_law 561 = .ok (.iload 5, 2) := by decide +kernel
theorem dL_law_563 : decode cL_law 563 = .ok (.if_icmp .eq 5, 3) := by decide +kernel
theorem dL_law_566 : decode cL_law 566 = .ok (.iconst 0, 1) := by decide +kernel
theorem dL_law_567 : decode cL_law 567 = .ok (.ireturn, 1) := by decide +kernel
theorem dL_law_568 : decode cL_law 568 = .ok (.iload 5, 2) := by decide +kernel
theorem dL_law_570 : decode cL_law 570 = .ok (.ifCond .ne 15, 3) := by decide +kernel
theorem dL_law_573 : decode cL_law 573 = .ok (.aload_n 3, 1) := by decide +kernel
theorem dL_law_574 : decode cL_law 574 = .ok (.iconst 0, 1) := by decide +kernel
theorem dL_law_575 : decode cL_law 575 = .ok (.laload, 1) := by decide +kernel
theorem dL_law_576 : decode cL_law 576 = .ok (.iload 6, 2) := by decide +kernel
theorem dL_law_578 : decode cL_law 578 = .ok (.i2l, 1) := by decide +kernel
theorem dL_law_579 : decode cL_law 579 = .ok (.lcmp, 1) := by decide +kernel
theorem dL_law_580 : decode cL_law 580 = .ok (.ifCond .eq 5, 3) := by decide +kernel
theorem dL_law_583 : decode cL_law 583 = .ok (.iconst 0, 1) := by decide +kernel
theorem dL_law_584 : decode cL_law 584 = .ok (.ireturn, 1) := by decide +kernel
theorem dL_law_585 : decode cL_law 585 = .ok (.goto 1127, 3) := by decide +kernel
theorem dL_law_588 : decode cL_law 588 = .ok (.aload_n 1, 1) := by decide +kernel
theorem dL_law_589 : decode cL_law 589 = .ok (.aload_n 0, 1) := by decide +kernel
theorem dL_law_590 : decode cL_law 590 = .ok (.iload 4, 2) := by decide +kernel
theorem dL_law_592 : decode cL_law 592 = .ok (.iconst 1, 1) := by decide +kernel
theorem dL_law_593 : decode cL_law 593 = .ok (.iadd, 1) := by decide +kernel
theorem dL_law_594 : decode cL_law 594 = .ok (.iaload, 1) := by decide +kernel
theorem dL_law_595 : decode cL_law 595 = .ok (.aload_n 0, 1) := by decide +kernel
theorem dL_law_596 : decode cL_law 596 = .ok (.iload 4, 2) := by decide +kernel
theorem dL_law_598 : decode cL_law 598 = .ok (.iconst 2, 1) := by decide +kernel
theorem dL_law_599 : decode cL_law 599 = .ok (.iadd, 1) := by decide +kernel
theorem dL_law_600 : decode cL_law 600 = .ok (.iaload, 1) := by decide +kernel
theorem dL_law_601 : decode cL_law 601 = .ok (.aload_n 0, 1) := by decide +kernel
theorem dL_law_602 : decode cL_law 602 = .ok (.iload 4, 2) := by decide +kernel
theorem dL_law_604 : decode cL_law 604 = .ok (.iconst 3, 1) := by decide +kernel
theorem dL_law_605 : decode cL_law 605 = .ok (.iadd, 1) := by decide +kernel
theorem dL_law_606 : decode cL_law 606 = .ok (.iaload, 1) := by decide +kernel
theorem dL_law_607 : decode cL_law 607 = .ok (.aload_n 3, 1) := by decide +kernel
theorem dL_law_608 : decode cL_law 608 = .ok (.invokestatic 117, 3) := by decide +kernel
theorem dL_law_611 : decode cL_law 611 = .ok (.istore 5, 2) := by decide +kernel
theorem dL_law_613 : decode cL_law 613 = .ok (.aload_n 2, 1) := by decide +kernel
theorem dL_law_614 : decode cL_law 614 = .ok (.aload_n 0, 1) := by decide +kernel
theorem dL_law_615 : decode cL_law 615 = .ok (.iload 4, 2) := by decide +kernel
theorem dL_law_617 : decode cL_law 617 = .ok (.iconst 1, 1) := by decide +kernel
theorem dL_law_618 : decode cL_law 618 = .ok (.iadd, 1) := by decide +kernel
theorem dL_law_619 : decode cL_law 619 = .ok (.iaload, 1) := by decide +kernel
theorem dL_law_620 : decode cL_law 620 = .ok (.aload_n 0, 1) := by decide +kernel
theorem dL_law_621 : decode cL_law 621 = .ok (.iload 4, 2) := by decide +kernel
theorem dL_law_623 : decode cL_law 623 = .ok (.iconst 2, 1) := by decide +kernel
theorem dL_law_624 : decode cL_law 624 = .ok (.iadd, 1) := by decide +kernel
theorem dL_law_625 : decode cL_law 625 = .ok (.iaload, 1) := by decide +kernel
theorem dL_law_626 : decode cL_law 626 = .ok (.aload_n 0, 1) := by decide +kernel
theorem dL_law_627 : decode cL_law 627 = .ok (.iload 4, 2) := by decide +kernel
theorem dL_law_629 : decode cL_law 629 = .ok (.iconst 3, 1) := by decide +kernel
theorem dL_law_630 : decode cL_law 630 = .ok (.iadd, 1) := by decide +kernel
theorem dL_law_631 : decode cL_law 631 = .ok (.iaload, 1) := by decide +kernel
theorem dL_law_632 : decode cL_law 632 = .ok (.invokevirtual 119, 3) := by decide +kernel
theorem dL_law_635 : decode cL_law 635 = .ok (.istore 6, 2) := by decide +kernel
theorem dL_law_637 : decode cL_law 637 = .ok (.aload_n 2, 1) := by decide +kernel
theorem dL_law_638 : decode cL_law 638 = .ok (.invokevirtual 96, 3) := by decide +kernel
theorem dL_law_641 : decode cL_law 641 = .ok (.iload 5, 2) := by decide +kernel
theorem dL_law_643 : decode cL_law 643 = .ok (.if_icmp .eq 5, 3) := by decide +kernel
theorem dL_law_646 : decode cL_law 646 = .ok (.iconst 0, 1) := by decide +kernel
theorem dL_law_647 : decode cL_law 647 = .ok (.ireturn, 1) := by decide +kernel
theorem dL_law_648 : decode cL_law 648 = .ok (.iload 5, 2) := by decide +kernel
theorem dL_law_650 : decode cL_law 650 = .ok (.ifCond .ne 15, 3) := by decide +kernel
theorem dL_law_653 : decode cL_law 653 = .ok (.aload_n 3, 1) := by decide +kernel
theorem dL_law_654 : decode cL_law 654 = .ok (.iconst 0, 1) := by decide +kernel
theorem dL_law_655 : decode cL_law 655 = .ok (.laload, 1) := by decide +kernel
theorem dL_law_656 : decode cL_law 656 = .ok (.iload 6, 2) := by decide +kernel
theorem dL_law_658 : decode cL_law 658 = .ok (.i2l, 1) := by decide +kernel
theorem dL_law_659 : decode cL_law 659 = .ok (.lcmp, 1) := by decide +kernel
theorem dL_law_660 : decode cL_law 660 = .ok (.ifCond .eq 5, 3) := by decide +kernel
theorem dL_law_663 : decode cL_law 663 = .ok (.iconst 0, 1) := by decide +kernel
theorem dL_law_664 : decode cL_law 664 = .ok (.ireturn, 1) := by decide +kernel
theorem dL_law_665 : decode cL_law 665 = .ok (.goto 1047, 3) := by decide +kernel
theorem dL_law_668 : decode cL_law 668 = .ok (.aload_n 1, 1) := by decide +kernel
theorem dL_law_669 : decode cL_law 669 = .ok (.aload_n 0, 1) := by decide +kernel
theorem dL_law_670 : decode cL_law 670 = .ok (.iload 4, 2) := by decide +kernel
theorem dL_law_672 : decode cL_law 672 = .ok (.iconst 1, 1) := by decide +kernel
theorem dL_law_673 : decode cL_law 673 = .ok (.iadd, 1) := by decide +kernel
theorem dL_law_674 : decode cL_law 674 = .ok (.iaload, 1) := by decide +kernel
theorem dL_law_675 : decode cL_law 675 = .ok (.aload_n 3, 1) := by decide +kernel
theorem dL_law_676 : decode cL_law 676 = .ok (.invokestatic 120, 3) := by decide +kernel
theorem dL_law_679 : decode cL_law 679 = .ok (.istore 5, 2) := by decide +kernel
theorem dL_law_681 : decode cL_law 681 = .ok (.aload_n 2, 1) := by decide +kernel
theorem dL_law_682 : decode cL_law 682 = .ok (.aload_n 0, 1) := by decide +kernel
theorem dL_law_683 : decode cL_law 683 = .ok (.iload 4, 2) := by decide +kernel
theorem dL_law_685 : decode cL_law 685 = .ok (.iconst 1, 1) := by decide +kernel
theorem dL_law_686 : decode cL_law 686 = .ok (.iadd, 1) := by decide +kernel
theorem dL_law_687 : decode cL_law 687 = .ok (.iaload, 1) := by decide +kernel
theorem dL_law_688 : decode cL_law 688 = .ok (.invokevirtual 122, 3) := by decide +kernel
theorem dL_law_691 : decode cL_law 691 = .ok (.istore 6, 2) := by decide +kernel
theorem dL_law_693 : decode cL_law 693 = .ok (.aload_n 2, 1) := by decide +kernel
theorem dL_law_694 : decode cL_law 694 = .ok (.invokevirtual 96, 3) := by decide +kernel
theorem dL_law_697 : decode cL_law 697 = .ok (.iload 5, 2) := by decide +kernel
theorem dL_law_699 : decode cL_law 699 = .ok (.if_icmp .eq 5, 3) := by decide +kernel
theorem dL_law_702 : decode cL_law 702 = .ok (.iconst 0, 1) := by decide +kernel
theorem dL_law_703 : decode cL_law 703 = .ok (.ireturn, 1) := by decide +kernel
theorem dL_law_704 : decode cL_law 704 = .ok (.iload 5, 2) := by decide +kernel
theorem dL_law_706 : decode cL_law 706 = .ok (.ifCond .ne 15, 3) := by decide +kernel
theorem dL_law_709 : decode cL_law 709 = .ok (.aload_n 3, 1) := by decide +kernel
theorem dL_law_710 : decode cL_law 710 = .ok (.iconst 0, 1) := by decide +kernel
theorem dL_law_711 : decode cL_law 711 = .ok (.laload, 1) := by decide +kernel
theorem dL_law_712 : decode cL_law 712 = .ok (.iload 6, 2) := by decide +kernel
theorem dL_law_714 : decode cL_law 714 = .ok (.i2l, 1) := by decide +kernel
theorem dL_law_715 : decode cL_law 715 = .ok (.lcmp, 1) := by decide +kernel
theorem dL_law_716 : decode cL_law 716 = .ok (.ifCond .eq 5, 3) := by decide +kernel
theorem dL_law_719 : decode cL_law 719 = .ok (.iconst 0, 1) := by decide +kernel
theorem dL_law_720 : decode cL_law 720 = .ok (.ireturn, 1) := by decide +kernel
theorem dL_law_721 : decode cL_law 721 = .ok (.goto 991, 3) := by decide +kernel
theorem dL_law_724 : decode cL_law 724 = .ok (.aload_n 1, 1) := by decide +kernel
theorem dL_law_725 : decode cL_law 725 = .ok (.aload_n 0, 1) := by decide +kernel
theorem dL_law_726 : decode cL_law 726 = .ok (.iload 4, 2) := by decide +kernel
theorem dL_law_728 : decode cL_law 728 = .ok (.iconst 1, 1) := by decide +kernel
theorem dL_law_729 : decode cL_law 729 = .ok (.iadd, 1) := by decide +kernel
theorem dL_law_730 : decode cL_law 730 = .ok (.iaload, 1) := by decide +kernel
theorem dL_law_731 : decode cL_law 731 = .ok (.aload_n 3, 1) := by decide +kernel
theorem dL_law_732 : decode cL_law 732 = .ok (.invokestatic 123, 3) := by decide +kernel
theorem dL_law_735 : decode cL_law 735 = .ok (.istore 5, 2) := by decide +kernel
theorem dL_law_737 : decode cL_law 737 = .ok (.aload_n 2, 1) := by decide +kernel
theorem dL_law_738 : decode cL_law 738 = .ok (.aload_n 0, 1) := by decide +kernel
theorem dL_law_739 : decode cL_law 739 = .ok (.iload 4, 2) := by decide +kernel
theorem dL_law_741 : decode cL_law 741 = .ok (.iconst 1, 1) := by decide +kernel
theorem dL_law_742 : decode cL_law 742 = .ok (.iadd, 1) := by decide +kernel
theorem dL_law_743 : decode cL_law 743 = .ok (.iaload, 1) := by decide +kernel
theorem dL_law_744 : decode cL_law 744 = .ok (.invokevirtual 125, 3) := by decide +kernel
theorem dL_law_747 : decode cL_law 747 = .ok (.istore 6, 2) := by decide +kernel
theorem dL_law_749 : decode cL_law 749 = .ok (.aload_n 2, 1) := by decide +kernel
theorem dL_law_750 : decode cL_law 750 = .ok (.invokevirtual 96, 3) := by decide +kernel
theorem dL_law_753 : decode cL_law 753 = .ok (.iload 5, 2) := by decide +kernel
theorem dL_law_755 : decode cL_law 755 = .ok (.if_icmp .eq 5, 3) := by decide +kernel
theorem dL_law_758 : decode cL_law 758 = .ok (.iconst 0, 1) := by decide +kernel
theorem dL_law_759 : decode cL_law 759 = .ok (.ireturn, 1) := by decide +kernel
theorem dL_law_760 : decode cL_law 760 = .ok (.iload 5, 2) := by decide +kernel
theorem dL_law_762 : decode cL_law 762 = .ok (.ifCond .ne 15, 3) := by decide +kernel
theorem dL_law_765 : decode cL_law 765 = .ok (.aload_n 3, 1) := by decide +kernel
theorem dL_law_766 : decode cL_law 766 = .ok (.iconst 0, 1) := by decide +kernel
theorem dL_law_767 : decode cL_law 767 = .ok (.laload, 1) := by decide +kernel
theorem dL_law_768 : decode cL_law 768 = .ok (.iload 6, 2) := by decide +kernel
theorem dL_law_770 : decode cL_law 770 = .ok (.i2l, 1) := by decide +kernel
theorem dL_law_771 : decode cL_law 771 = .ok (.lcmp, 1) := by decide +kernel
theorem dL_law_772 : decode cL_law 772 = .ok (.ifCond .eq 5, 3) := by decide +kernel
theorem dL_law_775 : decode cL_law 775 = .ok (.iconst 0, 1) := by decide +kernel
theorem dL_law_776 : decode cL_law 776 = .ok (.ireturn, 1) := by decide +kernel
theorem dL_law_777 : decode cL_law 777 = .ok (.goto 935, 3) := by decide +kernel
theorem dL_law_780 : decode cL_law 780 = .ok (.aload_n 1, 1) := by decide +kernel
theorem dL_law_781 : decode cL_law 781 = .ok (.aload_n 0, 1) := by decide +kernel
theorem dL_law_782 : decode cL_law 782 = .ok (.iload 4, 2) := by decide +kernel
theorem dL_law_784 : decode cL_law 784 = .ok (.iconst 1, 1) := by decide +kernel
theorem dL_law_785 : decode cL_law 785 = .ok (.iadd, 1) := by decide +kernel
theorem dL_law_786 : decode cL_law 786 = .ok (.iaload, 1) := by decide +kernel
theorem dL_law_787 : decode cL_law 787 = .ok (.aload_n 0, 1) := by decide +kernel
theorem dL_law_788 : decode cL_law 788 = .ok (.iload 4, 2) := by decide +kernel
theorem dL_law_790 : decode cL_law 790 = .ok (.iconst 2, 1) := by decide +kernel
theorem dL_law_791 : decode cL_law 791 = .ok (.iadd, 1) := by decide +kernel
theorem dL_law_792 : decode cL_law 792 = .ok (.iaload, 1) := by decide +kernel
theorem dL_law_793 : decode cL_law 793 = .ok (.aload_n 3, 1) := by decide +kernel
theorem dL_law_794 : decode cL_law 794 = .ok (.invokestatic 126, 3) := by decide +kernel
theorem dL_law_797 : decode cL_law 797 = .ok (.istore 5, 2) := by decide +kernel
theorem dL_law_799 : decode cL_law 799 = .ok (.aload_n 2, 1) := by decide +kernel
theorem dL_law_800 : decode cL_law 800 = .ok (.aload_n 0, 1) := by decide +kernel
theorem dL_law_801 : decode cL_law 801 = .ok (.iload 4, 2) := by decide +kernel
theorem dL_law_803 : decode cL_law 803 = .ok (.iconst 1, 1) := by decide +kernel
theorem dL_law_804 : decode cL_law 804 = .ok (.iadd, 1) := by decide +kernel
theorem dL_law_805 : decode cL_law 805 = .ok (.iaload, 1) := by decide +kernel
theorem dL_law_806 : decode cL_law 806 = .ok (.aload_n 0, 1) := by decide +kernel
theorem dL_law_807 : decode cL_law 807 = .ok (.iload 4, 2) := by decide +kernel
theorem dL_law_809 : decode cL_law 809 = .ok (.iconst 2, 1) := by decide +kernel
theorem dL_law_810 : decode cL_law 810 = .ok (.iadd, 1) := by decide +kernel
theorem dL_law_811 : decode cL_law 811 = .ok (.iaload, 1) := by decide +kernel
theorem dL_law_812 : decode cL_law 812 = .ok (.invokevirtual 128, 3) := by decide +kernel
theorem dL_law_815 : decode cL_law 815 = .ok (.istore 6, 2) := by decide +kernel
theorem dL_law_817 : decode cL_law 817 = .ok (.aload_n 2, 1) := by decide +kernel
theorem dL_law_818 : decode cL_law 818 = .ok (.invokevirtual 96, 3) := by decide +kernel
theorem dL_law_821 : decode cL_law 821 = .ok (.iload 5, 2) := by decide +kernel
theorem dL_law_823 : decode cL_law 823 = .ok (.if_icmp .eq 5, 3) := by decide +kernel
theorem dL_law_826 : decode cL_law 826 = .ok (.iconst 0, 1) := by decide +kernel
theorem dL_law_827 : decode cL_law 827 = .ok (.ireturn, 1) := by decide +kernel
theorem dL_law_828 : decode cL_law 828 = .ok (.iload 5, 2) := by decide +kernel
theorem dL_law_830 : decode cL_law 830 = .ok (.ifCond .ne 15, 3) := by decide +kernel
theorem dL_law_833 : decode cL_law 833 = .ok (.aload_n 3, 1) := by decide +kernel
theorem dL_law_834 : decode cL_law 834 = .ok (.iconst 0, 1) := by decide +kernel
theorem dL_law_835 : decode cL_law 835 = .ok (.laload, 1) := by decide +kernel
theorem dL_law_836 : decode cL_law 836 = .ok (.iload 6, 2) := by decide +kernel
theorem dL_law_838 : decode cL_law 838 = .ok (.i2l, 1) := by decide +kernel
theorem dL_law_839 : decode cL_law 839 = .ok (.lcmp, 1) := by decide +kernel
theorem dL_law_840 : decode cL_law 840 = .ok (.ifCond .eq 5, 3) := by decide +kernel
theorem dL_law_843 : decode cL_law 843 = .ok (.iconst 0, 1) := by decide +kernel
theorem dL_law_844 : decode cL_law 844 = .ok (.ireturn, 1) := by decide +kernel
theorem dL_law_845 : decode cL_law 845 = .ok (.goto 867, 3) := by decide +kernel
theorem dL_law_848 : decode cL_law 848 = .ok (.aload_n 1, 1) := by decide +kernel
theorem dL_law_849 : decode cL_law 849 = .ok (.aload_n 0, 1) := by decide +kernel
theorem dL_law_850 : decode cL_law 850 = .ok (.iload 4, 2) := by decide +kernel
theorem dL_law_852 : decode cL_law 852 = .ok (.iconst 1, 1) := by decide +kernel
theorem dL_law_853 : decode cL_law 853 = .ok (.iadd, 1) := by decide +kernel
theorem dL_law_854 : decode cL_law 854 = .ok (.iaload, 1) := by decide +kernel
theorem dL_law_855 : decode cL_law 855 = .ok (.aload_n 0, 1) := by decide +kernel
theorem dL_law_856 : decode cL_law 856 = .ok (.iload 4, 2) := by decide +kernel
theorem dL_law_858 : decode cL_law 858 = .ok (.iconst 2, 1) := by decide +kernel
theorem dL_law_859 : decode cL_law 859 = .ok (.iadd, 1) := by decide +kernel
theorem dL_law_860 : decode cL_law 860 = .ok (.iaload, 1) := by decide +kernel
theorem dL_law_861 : decode cL_law 861 = .ok (.aload_n 3, 1) := by decide +kernel
theorem dL_law_862 : decode cL_law 862 = .ok (.invokestatic 129, 3) := by decide +kernel
theorem dL_law_865 : decode cL_law 865 = .ok (.istore 5, 2) := by decide +kernel
theorem dL_law_867 : decode cL_law 867 = .ok (.aload_n 2, 1) := by decide +kernel
theorem dL_law_868 : decode cL_law 868 = .ok (.aload_n 0, 1) := by decide +kernel
theorem dL_law_869 : decode cL_law 869 = .ok (.iload 4, 2) := by decide +kernel
theorem dL_law_871 : decode cL_law 871 = .ok (.iconst 1, 1) := by decide +kernel
theorem dL_law_872 : decode cL_law 872 = .ok (.iadd, 1) := by decide +kernel
theorem dL_law_873 : decode cL_law 873 = .ok (.iaload, 1) := by decide +kernel
theorem dL_law_874 : decode cL_law 874 = .ok (.aload_n 0, 1) := by decide +kernel
theorem dL_law_875 : decode cL_law 875 = .ok (.iload 4, 2) := by decide +kernel
theorem dL_law_877 : decode cL_law 877 = .ok (.iconst 2, 1) := by decide +kernel
theorem dL_law_878 : decode cL_law 878 = .ok (.iadd, 1) := by decide +kernel
theorem dL_law_879 : decode cL_law 879 = .ok (.iaload, 1) := by decide +kernel
theorem dL_law_880 : decode cL_law 880 = .ok (.invokevirtual 131, 3) := by decide +kernel
theorem dL_law_883 : decode cL_law 883 = .ok (.istore 6, 2) := by decide +kernel
theorem dL_law_885 : decode cL_law 885 = .ok (.aload_n 2, 1) := by decide +kernel
theorem dL_law_886 : decode cL_law 886 = .ok (.invokevirtual 96, 3) := by decide +kernel
theorem dL_law_889 : decode cL_law 889 = .ok (.iload 5, 2) := by decide +kernel
theorem dL_law_891 : decode cL_law 891 = .ok (.if_icmp .eq 5, 3) := by decide +kernel
theorem dL_law_894 : decode cL_law 894 = .ok (.iconst 0, 1) := by decide +kernel
theorem dL_law_895 : decode cL_law 895 = .ok (.ireturn, 1) := by decide +kernel
theorem dL_law_896 : decode cL_law 896 = .ok (.iload 5, 2) := by decide +kernel
theorem dL_law_898 : decode cL_law 898 = .ok (.ifCond .ne 15, 3) := by decide +kernel
theorem dL_law_901 : decode cL_law 901 = .ok (.aload_n 3, 1) := by decide +kernel
theorem dL_law_902 : decode cL_law 902 = .ok (.iconst 0, 1) := by decide +kernel
theorem dL_law_903 : decode cL_law 903 = .ok (.laload, 1) := by decide +kernel
theorem dL_law_904 : decode cL_law 904 = .ok (.iload 6, 2) := by decide +kernel
theorem dL_law_906 : decode cL_law 906 = .ok (.i2l, 1) := by decide +kernel
theorem dL_law_907 : decode cL_law 907 = .ok (.lcmp, 1) := by decide +kernel
theorem dL_law_908 : decode cL_law 908 = .ok (.ifCond .eq 5, 3) := by decide +kernel
theorem dL_law_911 : decode cL_law 911 = .ok (.iconst 0, 1) := by decide +kernel
theorem dL_law_912 : decode cL_law 912 = .ok (.ireturn, 1) := by decide +kernel
theorem dL_law_913 : decode cL_law 913 = .ok (.goto 799, 3) := by decide +kernel
theorem dL_law_916 : decode cL_law 916 = .ok (.aload_n 1, 1) := by decide +kernel
theorem dL_law_917 : decode cL_law 917 = .ok (.aload_n 0, 1) := by decide +kernel
theorem dL_law_918 : decode cL_law 918 = .ok (.iload 4, 2) := by decide +kernel
theorem dL_law_920 : decode cL_law 920 = .ok (.iconst 1, 1) := by decide +kernel
theorem dL_law_921 : decode cL_law 921 = .ok (.iadd, 1) := by decide +kernel
theorem dL_law_922 : decode cL_law 922 = .ok (.iaload, 1) := by decide +kernel
theorem dL_law_923 : decode cL_law 923 = .ok (.aload_n 0, 1) := by decide +kernel
theorem dL_law_924 : decode cL_law 924 = .ok (.iload 4, 2) := by decide +kernel
theorem dL_law_926 : decode cL_law 926 = .ok (.iconst 2, 1) := by decide +kernel
theorem dL_law_927 : decode cL_law 927 = .ok (.iadd, 1) := by decide +kernel
theorem dL_law_928 : decode cL_law 928 = .ok (.iaload, 1) := by decide +kernel
theorem dL_law_929 : decode cL_law 929 = .ok (.aload_n 3, 1) := by decide +kernel
theorem dL_law_930 : decode cL_law 930 = .ok (.invokestatic 132, 3) := by decide +kernel
theorem dL_law_933 : decode cL_law 933 = .ok (.istore 5, 2) := by decide +kernel
theorem dL_law_935 : decode cL_law 935 = .ok (.aload_n 2, 1) := by decide +kernel
theorem dL_law_936 : decode cL_law 936 = .ok (.aload_n 0, 1) := by decide +kernel
theorem dL_law_937 : decode cL_law 937 = .ok (.iload 4, 2) := by decide +kernel
theorem dL_law_939 : decode cL_law 939 = .ok (.iconst 1, 1) := by decide +kernel
theorem dL_law_940 : decode cL_law 940 = .ok (.iadd, 1) := by decide +kernel
theorem dL_law_941 : decode cL_law 941 = .ok (.iaload, 1) := by decide +kernel
theorem dL_law_942 : decode cL_law 942 = .ok (.aload_n 0, 1) := by decide +kernel
theorem dL_law_943 : decode cL_law 943 = .ok (.iload 4, 2) := by decide +kernel
theorem dL_law_945 : decode cL_law 945 = .ok (.iconst 2, 1) := by decide +kernel
theorem dL_law_946 : decode cL_law 946 = .ok (.iadd, 1) := by decide +kernel
theorem dL_law_947 : decode cL_law 947 = .ok (.iaload, 1) := by decide +kernel
theorem dL_law_948 : decode cL_law 948 = .ok (.invokevirtual 134, 3) := by decide +kernel
theorem dL_law_951 : decode cL_law 951 = .ok (.istore 6, 2) := by decide +kernel
theorem dL_law_953 : decode cL_law 953 = .ok (.aload_n 2, 1) := by decide +kernel
theorem dL_law_954 : decode cL_law 954 = .ok (.invokevirtual 96, 3) := by decide +kernel
theorem dL_law_957 : decode cL_law 957 = .ok (.iload 5, 2) := by decide +kernel
theorem dL_law_959 : decode cL_law 959 = .ok (.if_icmp .eq 5, 3) := by decide +kernel
theorem dL_law_962 : decode cL_law 962 = .ok (.iconst 0, 1) := by decide +kernel
theorem dL_law_963 : decode cL_law 963 = .ok (.ireturn, 1) := by decide +kernel
theorem dL_law_964 : decode cL_law 964 = .ok (.iload 5, 2) := by decide +kernel
theorem dL_law_966 : decode cL_law 966 = .ok (.ifCond .ne 15, 3) := by decide +kernel
theorem dL_law_969 : decode cL_law 969 = .ok (.aload_n 3, 1) := by decide +kernel
theorem dL_law_970 : decode cL_law 970 = .ok (.iconst 0, 1) := by decide +kernel
theorem dL_law_971 : decode cL_law 971 = .ok (.laload, 1) := by decide +kernel
theorem dL_law_972 : decode cL_law 972 = .ok (.iload 6, 2) := by decide +kernel
theorem dL_law_974 : decode cL_law 974 = .ok (.i2l, 1) := by decide +kernel
theorem dL_law_975 : decode cL_law 975 = .ok (.lcmp, 1) := by decide +kernel
theorem dL_law_976 : decode cL_law 976 = .ok (.ifCond .eq 5, 3) := by decide +kernel
theorem dL_law_979 : decode cL_law 979 = .ok (.iconst 0, 1) := by decide +kernel
theorem dL_law_980 : decode cL_law 980 = .ok (.ireturn, 1) := by decide +kernel
theorem dL_law_981 : decode cL_law 981 = .ok (.goto 731, 3) := by decide +kernel
theorem dL_law_984 : decode cL_law 984 = .ok (.aload_n 1, 1) := by decide +kernel
theorem dL_law_985 : decode cL_law 985 = .ok (.aload_n 0, 1) := by decide +kernel
theorem dL_law_986 : decode cL_law 986 = .ok (.iload 4, 2) := by decide +kernel
theorem dL_law_988 : decode cL_law 988 = .ok (.iconst 1, 1) := by decide +kernel
theorem dL_law_989 : decode cL_law 989 = .ok (.iadd, 1) := by decide +kernel
theorem dL_law_990 : decode cL_law 990 = .ok (.iaload, 1) := by decide +kernel
theorem dL_law_991 : decode cL_law 991 = .ok (.aload_n 0, 1) := by decide +kernel
theorem dL_law_992 : decode cL_law 992 = .ok (.iload 4, 2) := by decide +kernel
theorem dL_law_994 : decode cL_law 994 = .ok (.iconst 2, 1) := by decide +kernel
theorem dL_law_995 : decode cL_law 995 = .ok (.iadd, 1) := by decide +kernel
theorem dL_law_996 : decode cL_law 996 = .ok (.iaload, 1) := by decide +kernel
theorem dL_law_997 : decode cL_law 997 = .ok (.aload_n 3, 1) := by decide +kernel
theorem dL_law_998 : decode cL_law 998 = .ok (.invokestatic 135, 3) := by decide +kernel
theorem dL_law_1001 : decode cL_law 1001 = .ok (.istore 5, 2) := by decide +kernel
theorem dL_law_1003 : decode cL_law 1003 = .ok (.aload_n 2, 1) := by decide +kernel
theorem dL_law_1004 : decode cL_law 1004 = .ok (.aload_n 0, 1) := by decide +kernel
theorem dL_law_1005 : decode cL_law 1005 = .ok (.iload 4, 2) := by decide +kernel
theorem dL_law_1007 : decode cL_law 1007 = .ok (.iconst 1, 1) := by decide +kernel
theorem dL_law_1008 : decode cL_law 1008 = .ok (.iadd, 1) := by decide +kernel
theorem dL_law_1009 : decode cL_law 1009 = .ok (.iaload, 1) := by decide +kernel
theorem dL_law_1010 : decode cL_law 1010 = .ok (.aload_n 0, 1) := by decide +kernel
theorem dL_law_1011 : decode cL_law 1011 = .ok (.iload 4, 2) := by decide +kernel
theorem dL_law_1013 : decode cL_law 1013 = .ok (.iconst 2, 1) := by decide +kernel
theorem dL_law_1014 : decode cL_law 1014 = .ok (.iadd, 1) := by decide +kernel
theorem dL_law_1015 : decode cL_law 1015 = .ok (.iaload, 1) := by decide +kernel
theorem dL_law_1016 : decode cL_law 1016 = .ok (.invokevirtual 137, 3) := by decide +kernel
theorem dL_law_1019 : decode cL_law 1019 = .ok (.istore 6, 2) := by decide +kernel
theorem dL_law_1021 : decode cL_law 1021 = .ok (.aload_n 2, 1) := by decide +kernel
theorem dL_law_1022 : decode cL_law 1022 = .ok (.invokevirtual 96, 3) := by decide +kernel
theorem dL_law_1025 : decode cL_law 1025 = .ok (.iload 5, 2) := by decide +kernel
theorem dL_law_1027 : decode cL_law 1027 = .ok (.if_icmp .eq 5, 3) := by decide +kernel
theorem dL_law_1030 : decode cL_law 1030 = .ok (.iconst 0, 1) := by decide +kernel
theorem dL_law_1031 : decode cL_law 1031 = .ok (.ireturn, 1) := by decide +kernel
theorem dL_law_1032 : decode cL_law 1032 = .ok (.iload 5, 2) := by decide +kernel
theorem dL_law_1034 : decode cL_law 1034 = .ok (.ifCond .ne 15, 3) := by decide +kernel
theorem dL_law_1037 : decode cL_law 1037 = .ok (.aload_n 3, 1) := by decide +kernel
theorem dL_law_1038 : decode cL_law 1038 = .ok (.iconst 0, 1) := by decide +kernel
theorem dL_law_1039 : decode cL_law 1039 = .ok (.laload, 1) := by decide +kernel
theorem dL_law_1040 : decode cL_law 1040 = .ok (.iload 6, 2) := by decide +kernel
theorem dL_law_1042 : decode cL_law 1042 = .ok (.i2l, 1) := by decide +kernel
theorem dL_law_1043 : decode cL_law 1043 = .ok (.lcmp, 1) := by decide +kernel
theorem dL_law_1044 : decode cL_law 1044 = .ok (.ifCond .eq 5, 3) := by decide +kernel
theorem dL_law_1047 : decode cL_law 1047 = .ok (.iconst 0, 1) := by decide +kernel
theorem dL_law_1048 : decode cL_law 1048 = .ok (.ireturn, 1) := by decide +kernel
theorem dL_law_1049 : decode cL_law 1049 = .ok (.goto 663, 3) := by decide +kernel
theorem dL_law_1052 : decode cL_law 1052 = .ok (.aload_n 1, 1) := by decide +kernel
theorem dL_law_1053 : decode cL_law 1053 = .ok (.aload_n 0, 1) := by decide +kernel
theorem dL_law_1054 : decode cL_law 1054 = .ok (.iload 4, 2) := by decide +kernel
theorem dL_law_1056 : decode cL_law 1056 = .ok (.iconst 1, 1) := by decide +kernel
theorem dL_law_1057 : decode cL_law 1057 = .ok (.iadd, 1) := by decide +kernel
theorem dL_law_1058 : decode cL_law 1058 = .ok (.iaload, 1) := by decide +kernel
theorem dL_law_1059 : decode cL_law 1059 = .ok (.aload_n 3, 1) := by decide +kernel
theorem dL_law_1060 : decode cL_law 1060 = .ok (.invokestatic 138, 3) := by decide +kernel
theorem dL_law_1063 : decode cL_law 1063 = .ok (.istore 5, 2) := by decide +kernel
theorem dL_law_1065 : decode cL_law 1065 = .ok (.aload_n 2, 1) := by decide +kernel
theorem dL_law_1066 : decode cL_law 1066 = .ok (.aload_n 0, 1) := by decide +kernel
theorem dL_law_1067 : decode cL_law 1067 = .ok (.iload 4, 2) := by decide +kernel
theorem dL_law_1069 : decode cL_law 1069 = .ok (.iconst 1, 1) := by decide +kernel
theorem dL_law_1070 : decode cL_law 1070 = .ok (.iadd, 1) := by decide +kernel
theorem dL_law_1071 : decode cL_law 1071 = .ok (.iaload, 1) := by decide +kernel
theorem dL_law_1072 : decode cL_law 1072 = .ok (.invokevirtual 140, 3) := by decide +kernel
theorem dL_law_1075 : decode cL_law 1075 = .ok (.istore 6, 2) := by decide +kernel
theorem dL_law_1077 : decode cL_law 1077 = .ok (.aload_n 2, 1) := by decide +kernel
theorem dL_law_1078 : decode cL_law 1078 = .ok (.invokevirtual 96, 3) := by decide +kernel
theorem dL_law_1081 : decode cL_law 1081 = .ok (.iload 5, 2) := by decide +kernel
theorem dL_law_1083 : decode cL_law 1083 = .ok (.if_icmp .eq 5, 3) := by decide +kernel
theorem dL_law_1086 : decode cL_law 1086 = .ok (.iconst 0, 1) := by decide +kernel
theorem dL_law_1087 : decode cL_law 1087 = .ok (.ireturn, 1) := by decide +kernel
theorem dL_law_1088 : decode cL_law 1088 = .ok (.iload 5, 2) := by decide +kernel
theorem dL_law_1090 : decode cL_law 1090 = .ok (.ifCond .ne 15, 3) := by decide +kernel
theorem dL_law_1093 : decode cL_law 1093 = .ok (.aload_n 3, 1) := by decide +kernel
theorem dL_law_1094 : decode cL_law 1094 = .ok (.iconst 0, 1) := by decide +kernel
theorem dL_law_1095 : decode cL_law 1095 = .ok (.laload, 1) := by decide +kernel
theorem dL_law_1096 : decode cL_law 1096 = .ok (.iload 6, 2) := by decide +kernel
theorem dL_law_1098 : decode cL_law 1098 = .ok (.i2l, 1) := by decide +kernel
theorem dL_law_1099 : decode cL_law 1099 = .ok (.lcmp, 1) := by decide +kernel
theorem dL_law_1100 : decode cL_law 1100 = .ok (.ifCond .eq 5, 3) := by decide +kernel
theorem dL_law_1103 : decode cL_law 1103 = .ok (.iconst 0, 1) := by decide +kernel
theorem dL_law_1104 : decode cL_law 1104 = .ok (.ireturn, 1) := by decide +kernel
theorem dL_law_1105 : decode cL_law 1105 = .ok (.goto 607, 3) := by decide +kernel
theorem dL_law_1108 : decode cL_law 1108 = .ok (.aload_n 1, 1) := by decide +kernel
theorem dL_law_1109 : decode cL_law 1109 = .ok (.aload_n 0, 1) := by decide +kernel
theorem dL_law_1110 : decode cL_law 1110 = .ok (.iload 4, 2) := by decide +kernel
theorem dL_law_1112 : decode cL_law 1112 = .ok (.iconst 1, 1) := by decide +kernel
theorem dL_law_1113 : decode cL_law 1113 = .ok (.iadd, 1) := by decide +kernel
theorem dL_law_1114 : decode cL_law 1114 = .ok (.iaload, 1) := by decide +kernel
theorem dL_law_1115 : decode cL_law 1115 = .ok (.aload_n 3, 1) := by decide +kernel
theorem dL_law_1116 : decode cL_law 1116 = .ok (.invokestatic 141, 3) := by decide +kernel
theorem dL_law_1119 : decode cL_law 1119 = .ok (.istore 5, 2) := by decide +kernel
theorem dL_law_1121 : decode cL_law 1121 = .ok (.aload_n 2, 1) := by decide +kernel
theorem dL_law_1122 : decode cL_law 1122 = .ok (.aload_n 0, 1) := by decide +kernel
theorem dL_law_1123 : decode cL_law 1123 = .ok (.iload 4, 2) := by decide +kernel
theorem dL_law_1125 : decode cL_law 1125 = .ok (.iconst 1, 1) := by decide +kernel
theorem dL_law_1126 : decode cL_law 1126 = .ok (.iadd, 1) := by decide +kernel
theorem dL_law_1127 : decode cL_law 1127 = .ok (.iaload, 1) := by decide +kernel
theorem dL_law_1128 : decode cL_law 1128 = .ok (.invokevirtual 143, 3) := by decide +kernel
theorem dL_law_1131 : decode cL_law 1131 = .ok (.istore 6, 2) := by decide +kernel
theorem dL_law_1133 : decode cL_law 1133 = .ok (.aload_n 2, 1) := by decide +kernel
theorem dL_law_1134 : decode cL_law 1134 = .ok (.invokevirtual 96, 3) := by decide +kernel
theorem dL_law_1137 : decode cL_law 1137 = .ok (.iload 5, 2) := by decide +kernel
theorem dL_law_1139 : decode cL_law 1139 = .ok (.if_icmp .eq 5, 3) := by decide +kernel
theorem dL_law_1142 : decode cL_law 1142 = .ok (.iconst 0, 1) := by decide +kernel
theorem dL_law_1143 : decode cL_law 1143 = .ok (.ireturn, 1) := by decide +kernel
theorem dL_law_1144 : decode cL_law 1144 = .ok (.iload 5, 2) := by decide +kernel
theorem dL_law_1146 : decode cL_law 1146 = .ok (.ifCond .ne 15, 3) := by decide +kernel
theorem dL_law_1149 : decode cL_law 1149 = .ok (.aload_n 3, 1) := by decide +kernel
theorem dL_law_1150 : decode cL_law 1150 = .ok (.iconst 0, 1) := by decide +kernel
theorem dL_law_1151 : decode cL_law 1151 = .ok (.laload, 1) := by decide +kernel
theorem dL_law_1152 : decode cL_law 1152 = .ok (.iload 6, 2) := by decide +kernel
theorem dL_law_1154 : decode cL_law 1154 = .ok (.i2l, 1) := by decide +kernel
theorem dL_law_1155 : decode cL_law 1155 = .ok (.lcmp, 1) := by decide +kernel
theorem dL_law_1156 : decode cL_law 1156 = .ok (.ifCond .eq 5, 3) := by decide +kernel
theorem dL_law_1159 : decode cL_law 1159 = .ok (.iconst 0, 1) := by decide +kernel
theorem dL_law_1160 : decode cL_law 1160 = .ok (.ireturn, 1) := by decide +kernel
theorem dL_law_1161 : decode cL_law 1161 = .ok (.goto 551, 3) := by decide +kernel
theorem dL_law_1164 : decode cL_law 1164 = .ok (.aload_n 1, 1) := by decide +kernel
theorem dL_law_1165 : decode cL_law 1165 = .ok (.aload_n 0, 1) := by decide +kernel
theorem dL_law_1166 : decode cL_law 1166 = .ok (.iload 4, 2) := by decide +kernel
theorem dL_law_1168 : decode cL_law 1168 = .ok (.iconst 1, 1) := by decide +kernel
theorem dL_law_1169 : decode cL_law 1169 = .ok (.iadd, 1) := by decide +kernel
theorem dL_law_1170 : decode cL_law 1170 = .ok (.iaload, 1) := by decide +kernel
theorem dL_law_1171 : decode cL_law 1171 = .ok (.aload_n 0, 1) := by decide +kernel
theorem dL_law_1172 : decode cL_law 1172 = .ok (.iload 4, 2) := by decide +kernel
theorem dL_law_1174 : decode cL_law 1174 = .ok (.iconst 2, 1) := by decide +kernel
theorem dL_law_1175 : decode cL_law 1175 = .ok (.iadd, 1) := by decide +kernel
theorem dL_law_1176 : decode cL_law 1176 = .ok (.iaload, 1) := by decide +kernel
theorem dL_law_1177 : decode cL_law 1177 = .ok (.aload_n 3, 1) := by decide +kernel
theorem dL_law_1178 : decode cL_law 1178 = .ok (.invokestatic 144, 3) := by decide +kernel
theorem dL_law_1181 : decode cL_law 1181 = .ok (.istore 5, 2) := by decide +kernel
theorem dL_law_1183 : decode cL_law 1183 = .ok (.aload_n 2, 1) := by decide +kernel
theorem dL_law_1184 : decode cL_law 1184 = .ok (.aload_n 0, 1) := by decide +kernel
theorem dL_law_1185 : decode cL_law 1185 = .ok (.iload 4, 2) := by decide +kernel
theorem dL_law_1187 : decode cL_law 1187 = .ok (.iconst 1, 1) := by decide +kernel
theorem dL_law_1188 : decode cL_law 1188 = .ok (.iadd, 1) := by decide +kernel
theorem dL_law_1189 : decode cL_law 1189 = .ok (.iaload, 1) := by decide +kernel
theorem dL_law_1190 : decode cL_law 1190 = .ok (.aload_n 0, 1) := by decide +kernel
theorem dL_law_1191 : decode cL_law 1191 = .ok (.iload 4, 2) := by decide +kernel
theorem dL_law_1193 : decode cL_law 1193 = .ok (.iconst 2, 1) := by decide +kernel
theorem dL_law_1194 : decode cL_law 1194 = .ok (.iadd, 1) := by decide +kernel
theorem dL_law_1195 : decode cL_law 1195 = .ok (.iaload, 1) := by decide +kernel
theorem dL_law_1196 : decode cL_law 1196 = .ok (.invokevirtual 146, 3) := by decide +kernel
theorem dL_law_1199 : decode cL_law 1199 = .ok (.istore 6, 2) := by decide +kernel
theorem dL_law_1201 : decode cL_law 1201 = .ok (.aload_n 2, 1) := by decide +kernel
theorem dL_law_1202 : decode cL_law 1202 = .ok (.invokevirtual 96, 3) := by decide +kernel
theorem dL_law_1205 : decode cL_law 1205 = .ok (.iload 5, 2) := by decide +kernel
theorem dL_law_1207 : decode cL_law 1207 = .ok (.if_icmp .eq 5, 3) := by decide +kernel
theorem dL_law_1210 : decode cL_law 1210 = .ok (.iconst 0, 1) := by decide +kernel
theorem dL_law_1211 : decode cL_law 1211 = .ok (.ireturn, 1) := by decide +kernel
theorem dL_law_1212 : decode cL_law 1212 = .ok (.iload 5, 2) := by decide +kernel
theorem dL_law_1214 : decode cL_law 1214 = .ok (.ifCond .ne 15, 3) := by decide +kernel
theorem dL_law_1217 : decode cL_law 1217 = .ok (.aload_n 3, 1) := by decide +kernel
theorem dL_law_1218 : decode cL_law 1218 = .ok (.iconst 0, 1) := by decide +kernel
theorem dL_law_1219 : decode cL_law 1219 = .ok (.laload, 1) := by decide +kernel
theorem dL_law_1220 : decode cL_law 1220 = .ok (.iload 6, 2) := by decide +kernel
theorem dL_law_1222 : decode cL_law 1222 = .ok (.i2l, 1) := by decide +kernel
theorem dL_law_1223 : decode cL_law 1223 = .ok (.lcmp, 1) := by decide +kernel
theorem dL_law_1224 : decode cL_law 1224 = .ok (.ifCond .eq 5, 3) := by decide +kernel
theorem dL_law_1227 : decode cL_law 1227 = .ok (.iconst 0, 1) := by decide +kernel
theorem dL_law_1228 : decode cL_law 1228 = .ok (.ireturn, 1) := by decide +kernel
theorem dL_law_1229 : decode cL_law 1229 = .ok (.goto 483, 3) := by decide +kernel
theorem dL_law_1232 : decode cL_law 1232 = .ok (.aload_n 1, 1) := by decide +kernel
theorem dL_law_1233 : decode cL_law 1233 = .ok (.aload_n 0, 1) := by decide +kernel
theorem dL_law_1234 : decode cL_law 1234 = .ok (.iload 4, 2) := by decide +kernel
theorem dL_law_1236 : decode cL_law 1236 = .ok (.iconst 1, 1) := by decide +kernel
theorem dL_law_1237 : decode cL_law 1237 = .ok (.iadd, 1) := by decide +kernel
theorem dL_law_1238 : decode cL_law 1238 = .ok (.iaload, 1) := by decide +kernel
theorem dL_law_1239 : decode cL_law 1239 = .ok (.aload_n 0, 1) := by decide +kernel
theorem dL_law_1240 : decode cL_law 1240 = .ok (.iload 4, 2) := by decide +kernel
theorem dL_law_1242 : decode cL_law 1242 = .ok (.iconst 2, 1) := by decide +kernel
theorem dL_law_1243 : decode cL_law 1243 = .ok (.iadd, 1) := by decide +kernel
theorem dL_law_1244 : decode cL_law 1244 = .ok (.iaload, 1) := by decide +kernel
theorem dL_law_1245 : decode cL_law 1245 = .ok (.aload_n 3, 1) := by decide +kernel
theorem dL_law_1246 : decode cL_law 1246 = .ok (.invokestatic 147, 3) := by decide +kernel
theorem dL_law_1249 : decode cL_law 1249 = .ok (.istore 5, 2) := by decide +kernel
theorem dL_law_1251 : decode cL_law 1251 = .ok (.aload_n 2, 1) := by decide +kernel
theorem dL_law_1252 : decode cL_law 1252 = .ok (.aload_n 0, 1) := by decide +kernel
theorem dL_law_1253 : decode cL_law 1253 = .ok (.iload 4, 2) := by decide +kernel
theorem dL_law_1255 : decode cL_law 1255 = .ok (.iconst 1, 1) := by decide +kernel
theorem dL_law_1256 : decode cL_law 1256 = .ok (.iadd, 1) := by decide +kernel
theorem dL_law_1257 : decode cL_law 1257 = .ok (.iaload, 1) := by decide +kernel
theorem dL_law_1258 : decode cL_law 1258 = .ok (.aload_n 0, 1) := by decide +kernel
theorem dL_law_1259 : decode cL_law 1259 = .ok (.iload 4, 2) := by decide +kernel
theorem dL_law_1261 : decode cL_law 1261 = .ok (.iconst 2, 1) := by decide +kernel
theorem dL_law_1262 : decode cL_law 1262 = .ok (.iadd, 1) := by decide +kernel
theorem dL_law_1263 : decode cL_law 1263 = .ok (.iaload, 1) := by decide +kernel
theorem dL_law_1264 : decode cL_law 1264 = .ok (.invokevirtual 149, 3) := by decide +kernel
theorem dL_law_1267 : decode cL_law 1267 = .ok (.istore 6, 2) := by decide +kernel
theorem dL_law_1269 : decode cL_law 1269 = .ok (.aload_n 2, 1) := by decide +kernel
theorem dL_law_1270 : decode cL_law 1270 = .ok (.invokevirtual 96, 3) := by decide +kernel
theorem dL_law_1273 : decode cL_law 1273 = .ok (.iload 5, 2) := by decide +kernel
theorem dL_law_1275 : decode cL_law 1275 = .ok (.if_icmp .eq 5, 3) := by decide +kernel
theorem dL_law_1278 : decode cL_law 1278 = .ok (.iconst 0, 1) := by decide +kernel
theorem dL_law_1279 : decode cL_law 1279 = .ok (.ireturn, 1) := by decide +kernel
theorem dL_law_1280 : decode cL_law 1280 = .ok (.iload 5, 2) := by decide +kernel
theorem dL_law_1282 : decode cL_law 1282 = .ok (.ifCond .ne 15, 3) := by decide +kernel
theorem dL_law_1285 : decode cL_law 1285 = .ok (.aload_n 3, 1) := by decide +kernel
theorem dL_law_1286 : decode cL_law 1286 = .ok (.iconst 0, 1) := by decide +kernel
theorem dL_law_1287 : decode cL_law 1287 = .ok (.laload, 1) := by decide +kernel
theorem dL_law_1288 : decode cL_law 1288 = .ok (.iload 6, 2) := by decide +kernel
theorem dL_law_1290 : decode cL_law 1290 = .ok (.i2l, 1) := by decide +kernel
theorem dL_law_1291 : decode cL_law 1291 = .ok (.lcmp, 1) := by decide +kernel
theorem dL_law_1292 : decode cL_law 1292 = .ok (.ifCond .eq 5, 3) := by decide +kernel
theorem dL_law_1295 : decode cL_law 1295 = .ok (.iconst 0, 1) := by decide +kernel
theorem dL_law_1296 : decode cL_law 1296 = .ok (.ireturn, 1) := by decide +kernel
theorem dL_law_1297 : decode cL_law 1297 = .ok (.goto 415, 3) := by decide +kernel
theorem dL_law_1300 : decode cL_law 1300 = .ok (.aload_n 1, 1) := by decide +kernel
theorem dL_law_1301 : decode cL_law 1301 = .ok (.invokevirtual 150, 3) := by decide +kernel
theorem dL_law_1304 : decode cL_law 1304 = .ok (.aload_n 2, 1) := by decide +kernel
theorem dL_law_1305 : decode cL_law 1305 = .ok (.invokevirtual 153, 3) := by decide +kernel
theorem dL_law_1308 : decode cL_law 1308 = .ok (.if_icmp .eq 404, 3) := by decide +kernel
theorem dL_law_1311 : decode cL_law 1311 = .ok (.iconst 0, 1) := by decide +kernel
theorem dL_law_1312 : decode cL_law 1312 = .ok (.ireturn, 1) := by decide +kernel
theorem dL_law_1313 : decode cL_law 1313 = .ok (.aload_n 1, 1) := by decide +kernel
theorem dL_law_1314 : decode cL_law 1314 = .ok (.aload_n 0, 1) := by decide +kernel
theorem dL_law_1315 : decode cL_law 1315 = .ok (.iload 4, 2) := by decide +kernel
theorem dL_law_1317 : decode cL_law 1317 = .ok (.iconst 1, 1) := by decide +kernel
theorem dL_law_1318 : decode cL_law 1318 = .ok (.iadd, 1) := by decide +kernel
theorem dL_law_1319 : decode cL_law 1319 = .ok (.iaload, 1) := by decide +kernel
theorem dL_law_1320 : decode cL_law 1320 = .ok (.aload_n 0, 1) := by decide +kernel
theorem dL_law_1321 : decode cL_law 1321 = .ok (.iload 4, 2) := by decide +kernel
theorem dL_law_1323 : decode cL_law 1323 = .ok (.iconst 2, 1) := by decide +kernel
theorem dL_law_1324 : decode cL_law 1324 = .ok (.iadd, 1) := by decide +kernel
theorem dL_law_1325 : decode cL_law 1325 = .ok (.iaload, 1) := by decide +kernel
theorem dL_law_1326 : decode cL_law 1326 = .ok (.aload_n 3, 1) := by decide +kernel
theorem dL_law_1327 : decode cL_law 1327 = .ok (.invokestatic 154, 3) := by decide +kernel
theorem dL_law_1330 : decode cL_law 1330 = .ok (.istore 5, 2) := by decide +kernel
theorem dL_law_1332 : decode cL_law 1332 = .ok (.aload_n 2, 1) := by decide +kernel
theorem dL_law_1333 : decode cL_law 1333 = .ok (.aload_n 0, 1) := by decide +kernel
theorem dL_law_1334 : decode cL_law 1334 = .ok (.iload 4, 2) := by decide +kernel
theorem dL_law_1336 : decode cL_law 1336 = .ok (.iconst 1, 1) := by decide +kernel
theorem dL_law_1337 : decode cL_law 1337 = .ok (.iadd, 1) := by decide +kernel
theorem dL_law_1338 : decode cL_law 1338 = .ok (.iaload, 1) := by decide +kernel
theorem dL_law_1339 : decode cL_law 1339 = .ok (.aload_n 0, 1) := by decide +kernel
theorem dL_law_1340 : decode cL_law 1340 = .ok (.iload 4, 2) := by decide +kernel
theorem dL_law_1342 : decode cL_law 1342 = .ok (.iconst 2, 1) := by decide +kernel
theorem dL_law_1343 : decode cL_law 1343 = .ok (.iadd, 1) := by decide +kernel
theorem dL_law_1344 : decode cL_law 1344 = .ok (.iaload, 1) := by decide +kernel
theorem dL_law_1345 : decode cL_law 1345 = .ok (.invokevirtual 156, 3) := by decide +kernel
theorem dL_law_1348 : decode cL_law 1348 = .ok (.istore 6, 2) := by decide +kernel
theorem dL_law_1350 : decode cL_law 1350 = .ok (.aload_n 2, 1) := by decide +kernel
theorem dL_law_1351 : decode cL_law 1351 = .ok (.invokevirtual 96, 3) := by decide +kernel
theorem dL_law_1354 : decode cL_law 1354 = .ok (.iload 5, 2) := by decide +kernel
theorem dL_law_1356 : decode cL_law 1356 = .ok (.if_icmp .eq 5, 3) := by decide +kernel
theorem dL_law_1359 : decode cL_law 1359 = .ok (.iconst 0, 1) := by decide +kernel
theorem dL_law_1360 : decode cL_law 1360 = .ok (.ireturn, 1) := by decide +kernel
theorem dL_law_1361 : decode cL_law 1361 = .ok (.iload 5, 2) := by decide +kernel
theorem dL_law_1363 : decode cL_law 1363 = .ok (.ifCond .ne 15, 3) := by decide +kernel
theorem dL_law_1366 : decode cL_law 1366 = .ok (.aload_n 3, 1) := by decide +kernel
theorem dL_law_1367 : decode cL_law 1367 = .ok (.iconst 0, 1) := by decide +kernel
theorem dL_law_1368 : decode cL_law 1368 = .ok (.laload, 1) := by decide +kernel
theorem dL_law_1369 : decode cL_law 1369 = .ok (.iload 6, 2) := by decide +kernel
theorem dL_law_1371 : decode cL_law 1371 = .ok (.i2l, 1) := by decide +kernel
theorem dL_law_1372 : decode cL_law 1372 = .ok (.lcmp, 1) := by decide +kernel
theorem dL_law_1373 : decode cL_law 1373 = .ok (.ifCond .eq 5, 3) := by decide +kernel
theorem dL_law_1376 : decode cL_law 1376 = .ok (.iconst 0, 1) := by decide +kernel
theorem dL_law_1377 : decode cL_law 1377 = .ok (.ireturn, 1) := by decide +kernel
theorem dL_law_1378 : decode cL_law 1378 = .ok (.goto 334, 3) := by decide +kernel
theorem dL_law_1381 : decode cL_law 1381 = .ok (.aload_n 1, 1) := by decide +kernel
theorem dL_law_1382 : decode cL_law 1382 = .ok (.aload_n 0, 1) := by decide +kernel
theorem dL_law_1383 : decode cL_law 1383 = .ok (.iload 4, 2) := by decide +kernel
theorem dL_law_1385 : decode cL_law 1385 = .ok (.iconst 1, 1) := by decide +kernel
theorem dL_law_1386 : decode cL_law 1386 = .ok (.iadd, 1) := by decide +kernel
theorem dL_law_1387 : decode cL_law 1387 = .ok (.iaload, 1) := by decide +kernel
theorem dL_law_1388 : decode cL_law 1388 = .ok (.aload_n 0, 1) := by decide +kernel
theorem dL_law_1389 : decode cL_law 1389 = .ok (.iload 4, 2) := by decide +kernel
theorem dL_law_1391 : decode cL_law 1391 = .ok (.iconst 2, 1) := by decide +kernel
theorem dL_law_1392 : decode cL_law 1392 = .ok (.iadd, 1) := by decide +kernel
theorem dL_law_1393 : decode cL_law 1393 = .ok (.iaload, 1) := by decide +kernel
theorem dL_law_1394 : decode cL_law 1394 = .ok (.aload_n 3, 1) := by decide +kernel
theorem dL_law_1395 : decode cL_law 1395 = .ok (.invokestatic 157, 3) := by decide +kernel
theorem dL_law_1398 : decode cL_law 1398 = .ok (.istore 5, 2) := by decide +kernel
theorem dL_law_1400 : decode cL_law 1400 = .ok (.aload_n 2, 1) := by decide +kernel
theorem dL_law_1401 : decode cL_law 1401 = .ok (.aload_n 0, 1) := by decide +kernel
theorem dL_law_1402 : decode cL_law 1402 = .ok (.iload 4, 2) := by decide +kernel
theorem dL_law_1404 : decode cL_law 1404 = .ok (.iconst 1, 1) := by decide +kernel
theorem dL_law_1405 : decode cL_law 1405 = .ok (.iadd, 1) := by decide +kernel
theorem dL_law_1406 : decode cL_law 1406 = .ok (.iaload, 1) := by decide +kernel
theorem dL_law_1407 : decode cL_law 1407 = .ok (.aload_n 0, 1) := by decide +kernel
theorem dL_law_1408 : decode cL_law 1408 = .ok (.iload 4, 2) := by decide +kernel
theorem dL_law_1410 : decode cL_law 1410 = .ok (.iconst 2, 1) := by decide +kernel
theorem dL_law_1411 : decode cL_law 1411 = .ok (.iadd, 1) := by decide +kernel
theorem dL_law_1412 : decode cL_law 1412 = .ok (.iaload, 1) := by decide +kernel
theorem dL_law_1413 : decode cL_law 1413 = .ok (.invokevirtual 159, 3) := by decide +kernel
theorem dL_law_1416 : decode cL_law 1416 = .ok (.istore 6, 2) := by decide +kernel
theorem dL_law_1418 : decode cL_law 1418 = .ok (.aload_n 2, 1) := by decide +kernel
theorem dL_law_1419 : decode cL_law 1419 = .ok (.invokevirtual 96, 3) := by decide +kernel
theorem dL_law_1422 : decode cL_law 1422 = .ok (.iload 5, 2) := by decide +kernel
theorem dL_law_1424 : decode cL_law 1424 = .ok (.if_icmp .eq 5, 3) := by decide +kernel
theorem dL_law_1427 : decode cL_law 1427 = .ok (.iconst 0, 1) := by decide +kernel
theorem dL_law_1428 : decode cL_law 1428 = .ok (.ireturn, 1) := by decide +kernel
theorem dL_law_1429 : decode cL_law 1429 = .ok (.iload 5, 2) := by decide +kernel
theorem dL_law_1431 : decode cL_law 1431 = .ok (.ifCond .ne 15, 3) := by decide +kernel
theorem dL_law_1434 : decode cL_law 1434 = .ok (.aload_n 3, 1) := by decide +kernel
theorem dL_law_1435 : decode cL_law 1435 = .ok (.iconst 0, 1) := by decide +kernel
theorem dL_law_1436 : decode cL_law 1436 = .ok (.laload, 1) := by decide +kernel
theorem dL_law_1437 : decode cL_law 1437 = .ok (.iload 6, 2) := by decide +kernel
theorem dL_law_1439 : decode cL_law 1439 = .ok (.i2l, 1) := by decide +kernel
theorem dL_law_1440 : decode cL_law 1440 = .ok (.lcmp, 1) := by decide +kernel
theorem dL_law_1441 : decode cL_law 1441 = .ok (.ifCond .eq 5, 3) := by decide +kernel
theorem dL_law_1444 : decode cL_law 1444 = .ok (.iconst 0, 1) := by decide +kernel
theorem dL_law_1445 : decode cL_law 1445 = .ok (.ireturn, 1) := by decide +kernel
theorem dL_law_1446 : decode cL_law 1446 = .ok (.goto 266, 3) := by decide +kernel
theorem dL_law_1449 : decode cL_law 1449 = .ok (.aload_n 1, 1) := by decide +kernel
theorem dL_law_1450 : decode cL_law 1450 = .ok (.aload_n 0, 1) := by decide +kernel
theorem dL_law_1451 : decode cL_law 1451 = .ok (.iload 4, 2) := by decide +kernel
theorem dL_law_1453 : decode cL_law 1453 = .ok (.iconst 1, 1) := by decide +kernel
theorem dL_law_1454 : decode cL_law 1454 = .ok (.iadd, 1) := by decide +kernel
theorem dL_law_1455 : decode cL_law 1455 = .ok (.iaload, 1) := by decide +kernel
theorem dL_law_1456 : decode cL_law 1456 = .ok (.aload_n 3, 1) := by decide +kernel
theorem dL_law_1457 : decode cL_law 1457 = .ok (.invokestatic 160, 3) := by decide +kernel
theorem dL_law_1460 : decode cL_law 1460 = .ok (.istore 5, 2) := by decide +kernel
theorem dL_law_1462 : decode cL_law 1462 = .ok (.aload_n 2, 1) := by decide +kernel
theorem dL_law_1463 : decode cL_law 1463 = .ok (.aload_n 0, 1) := by decide +kernel
theorem dL_law_1464 : decode cL_law 1464 = .ok (.iload 4, 2) := by decide +kernel
theorem dL_law_1466 : decode cL_law 1466 = .ok (.iconst 1, 1) := by decide +kernel
theorem dL_law_1467 : decode cL_law 1467 = .ok (.iadd, 1) := by decide +kernel
theorem dL_law_1468 : decode cL_law 1468 = .ok (.iaload, 1) := by decide +kernel
theorem dL_law_1469 : decode cL_law 1469 = .ok (.invokevirtual 162, 3) := by decide +kernel
theorem dL_law_1472 : decode cL_law 1472 = .ok (.istore 6, 2) := by decide +kernel
theorem dL_law_1474 : decode cL_law 1474 = .ok (.aload_n 2, 1) := by decide +kernel
theorem dL_law_1475 : decode cL_law 1475 = .ok (.invokevirtual 96, 3) := by decide +kernel
theorem dL_law_1478 : decode cL_law 1478 = .ok (.iload 5, 2) := by decide +kernel
theorem dL_law_1480 : decode cL_law 1480 = .ok (.if_icmp .eq 5, 3) := by decide +kernel
theorem dL_law_1483 : decode cL_law 1483 = .ok (.iconst 0, 1) := by decide +kernel
theorem dL_law_1484 : decode cL_law 1484 = .ok (.ireturn, 1) := by decide +kernel
theorem dL_law_1485 : decode cL_law 1485 = .ok (.iload 5, 2) := by decide +kernel
theorem dL_law_1487 : decode cL_law 1487 = .ok (.ifCond .ne 15, 3) := by decide +kernel
theorem dL_law_1490 : decode cL_law 1490 = .ok (.aload_n 3, 1) := by decide +kernel
theorem dL_law_1491 : decode cL_law 1491 = .ok (.iconst 0, 1) := by decide +kernel
theorem dL_law_1492 : decode cL_law 1492 = .ok (.laload, 1) := by decide +kernel
theorem dL_law_1493 : decode cL_law 1493 = .ok (.iload 6, 2) := by decide +kernel
theorem dL_law_1495 : decode cL_law 1495 = .ok (.i2l, 1) := by decide +kernel
theorem dL_law_1496 : decode cL_law 1496 = .ok (.lcmp, 1) := by decide +kernel
theorem dL_law_1497 : decode cL_law 1497 = .ok (.ifCond .eq 5, 3) := by decide +kernel
theorem dL_law_1500 : decode cL_law 1500 = .ok (.iconst 0, 1) := by decide +kernel
theorem dL_law_1501 : decode cL_law 1501 = .ok (.ireturn, 1) := by decide +kernel
theorem dL_law_1502 : decode cL_law 1502 = .ok (.goto 210, 3) := by decide +kernel
theorem dL_law_1505 : decode cL_law 1505 = .ok (.aload_n 1, 1) := by decide +kernel
theorem dL_law_1506 : decode cL_law 1506 = .ok (.invokevirtual 163, 3) := by decide +kernel
theorem dL_law_1509 : decode cL_law 1509 = .ok (.aload_n 2, 1) := by decide +kernel
theorem dL_law_1510 : decode cL_law 1510 = .ok (.invokevirtual 166, 3) := by decide +kernel
theorem dL_law_1513 : decode cL_law 1513 = .ok (.if_icmp .eq 199, 3) := by decide +kernel
theorem dL_law_1516 : decode cL_law 1516 = .ok (.iconst 0, 1) := by decide +kernel
theorem dL_law_1517 : decode cL_law 1517 = .ok (.ireturn, 1) := by decide +kernel
theorem dL_law_1518 : decode cL_law 1518 = .ok (.aload_n 1, 1) := by decide +kernel
theorem dL_law_1519 : decode cL_law 1519 = .ok (.invokevirtual 167, 3) := by decide +kernel
theorem dL_law_1522 : decode cL_law 1522 = .ok (.aload_n 2, 1) := by decide +kernel
theorem dL_law_1523 : decode cL_law 1523 = .ok (.invokevirtual 170, 3) := by decide +kernel
theorem dL_law_1526 : decode cL_law 1526 = .ok (.if_icmp .eq 186, 3) := by decide +kernel
theorem dL_law_1529 : decode cL_law 1529 = .ok (.iconst 0, 1) := by decide +kernel
theorem dL_law_1530 : decode cL_law 1530 = .ok (.ireturn, 1) := by decide +kernel
theorem dL_law_1531 : decode cL_law 1531 = .ok (.aload_n 1, 1) := by decide +kernel
theorem dL_law_1532 : decode cL_law 1532 = .ok (.invokevirtual 171, 3) := by decide +kernel
theorem dL_law_1535 : decode cL_law 1535 = .ok (.dstore 5, 2) := by decide +kernel
theorem dL_law_1537 : decode cL_law 1537 = .ok (.aload_n 2, 1) := by decide +kernel
theorem dL_law_1538 : decode cL_law 1538 = .ok (.invokevirtual 175, 3) := by decide +kernel
theorem dL_law_1541 : decode cL_law 1541 = .ok (.dstore 7, 2) := by decide +kernel
theorem dL_law_1543 : decode cL_law 1543 = .ok (.dload 5, 2) := by decide +kernel
theorem dL_law_1545 : decode cL_law 1545 = .ok (.dload 7, 2) := by decide +kernel
theorem dL_law_1547 : decode cL_law 1547 = .ok (.dcmp .l, 1) := by decide +kernel
theorem dL_law_1548 : decode cL_law 1548 = .ok (.ifCond .eq 21, 3) := by decide +kernel
theorem dL_law_1551 : decode cL_law 1551 = .ok (.dload 5, 2) := by decide +kernel
theorem dL_law_1553 : decode cL_law 1553 = .ok (.dload 5, 2) := by decide +kernel
theorem dL_law_1555 : decode cL_law 1555 = .ok (.dcmp .l, 1) := by decide +kernel
theorem dL_law_1556 : decode cL_law 1556 = .ok (.ifCond .eq 11, 3) := by decide +kernel
theorem dL_law_1559 : decode cL_law 1559 = .ok (.dload 7, 2) := by decide +kernel
theorem dL_law_1561 : decode cL_law 1561 = .ok (.dload 7, 2) := by decide +kernel
theorem dL_law_1563 : decode cL_law 1563 = .ok (.dcmp .l, 1) := by decide +kernel
theorem dL_law_1564 : decode cL_law 1564 = .ok (.ifCond .ne 5, 3) := by decide +kernel
theorem dL_law_1567 : decode cL_law 1567 = .ok (.iconst 0, 1) := by decide +kernel
theorem dL_law_1568 : decode cL_law 1568 = .ok (.ireturn, 1) := by decide +kernel
theorem dL_law_1569 : decode cL_law 1569 = .ok (.goto 143, 3) := by decide +kernel
theorem dL_law_1572 : decode cL_law 1572 = .ok (.aload_n 1, 1) := by decide +kernel
theorem dL_law_1573 : decode cL_law 1573 = .ok (.aload_n 0, 1) := by decide +kernel
theorem dL_law_1574 : decode cL_law 1574 = .ok (.iload 4, 2) := by decide +kernel
theorem dL_law_1576 : decode cL_law 1576 = .ok (.iconst 1, 1) := by decide +kernel
theorem dL_law_1577 : decode cL_law 1577 = .ok (.iadd, 1) := by decide +kernel
theorem dL_law_1578 : decode cL_law 1578 = .ok (.iaload, 1) := by decide +kernel
theorem dL_law_1579 : decode cL_law 1579 = .ok (.aload_n 3, 1) := by decide +kernel
theorem dL_law_1580 : decode cL_law 1580 = .ok (.invokestatic 176, 3) := by decide +kernel
theorem dL_law_1583 : decode cL_law 1583 = .ok (.istore 5, 2) := by decide +kernel
theorem dL_law_1585 : decode cL_law 1585 = .ok (.aload_n 2, 1) := by decide +kernel
theorem dL_law_1586 : decode cL_law 1586 = .ok (.aload_n 0, 1) := by decide +kernel
theorem dL_law_1587 : decode cL_law 1587 = .ok (.iload 4, 2) := by decide +kernel
theorem dL_law_1589 : decode cL_law 1589 = .ok (.iconst 1, 1) := by decide +kernel
theorem dL_law_1590 : decode cL_law 1590 = .ok (.iadd, 1) := by decide +kernel
theorem dL_law_1591 : decode cL_law 1591 = .ok (.iaload, 1) := by decide +kernel
theorem dL_law_1592 : decode cL_law 1592 = .ok (.invokevirtual 178, 3) := by decide +kernel
theorem dL_law_1595 : decode cL_law 1595 = .ok (.istore 6, 2) := by decide +kernel
theorem dL_law_1597 : decode cL_law 1597 = .ok (.aload_n 2, 1) := by decide +kernel
theorem dL_law_1598 : decode cL_law 1598 = .ok (.invokevirtual 96, 3) := by decide +kernel
theorem dL_law_1601 : decode cL_law 1601 = .ok (.iload 5, 2) := by decide +kernel
theorem dL_law_1603 : decode cL_law 1603 = .ok (.if_icmp .eq 5, 3) := by decide +kernel
theorem dL_law_1606 : decode cL_law 1606 = .ok (.iconst 0, 1) := by decide +kernel
theorem dL_law_1607 : decode cL_law 1607 = .ok (.ireturn, 1) := by decide +kernel
theorem dL_law_1608 : decode cL_law 1608 = .ok (.iload 5, 2) := by decide +kernel
theorem dL_law_1610 : decode cL_law 1610 = .ok (.ifCond .ne 15, 3) := by decide +kernel
theorem dL_law_1613 : decode cL_law 1613 = .ok (.aload_n 3, 1) := by decide +kernel
theorem dL_law_1614 : decode cL_law 1614 = .ok (.iconst 0, 1) := by decide +kernel
theorem dL_law_1615 : decode cL_law 1615 = .ok (.laload, 1) := by decide +kernel
theorem dL_law_1616 : decode cL_law 1616 = .ok (.iload 6, 2) := by decide +kernel
theorem dL_law_1618 : decode cL_law 1618 = .ok (.i2l, 1) := by decide +kernel
theorem dL_law_1619 : decode cL_law 1619 = .ok (.lcmp, 1) := by decide +kernel
theorem dL_law_1620 : decode cL_law 1620 = .ok (.ifCond .eq 5, 3) := by decide +kernel
theorem dL_law_1623 : decode cL_law 1623 = .ok (.iconst 0, 1) := by decide +kernel
theorem dL_law_1624 : decode cL_law 1624 = .ok (.ireturn, 1) := by decide +kernel
theorem dL_law_1625 : decode cL_law 1625 = .ok (.goto 87, 3) := by decide +kernel
theorem dL_law_1628 : decode cL_law 1628 = .ok (.aload_n 1, 1) := by decide +kernel
theorem dL_law_1629 : decode cL_law 1629 = .ok (.invokevirtual 179, 3) := by decide +kernel
theorem dL_law_1632 : decode cL_law 1632 = .ok (.aload_n 2, 1) := by decide +kernel
theorem dL_law_1633 : decode cL_law 1633 = .ok (.invokevirtual 182, 3) := by decide +kernel
theorem dL_law_1636 : decode cL_law 1636 = .ok (.if_icmp .eq 76, 3) := by decide +kernel
theorem dL_law_1639 : decode cL_law 1639 = .ok (.iconst 0, 1) := by decide +kernel
theorem dL_law_1640 : decode cL_law 1640 = .ok (.ireturn, 1) := by decide +kernel
theorem dL_law_1641 : decode cL_law 1641 = .ok (.aload_n 1, 1) := by decide +kernel
theorem dL_law_1642 : decode cL_law 1642 = .ok (.invokevirtual 183, 3) := by decide +kernel
theorem dL_law_1645 : decode cL_law 1645 = .ok (.aload_n 2, 1) := by decide +kernel
theorem dL_law_1646 : decode cL_law 1646 = .ok (.invokevirtual 186, 3) := by decide +kernel
theorem dL_law_1649 : decode cL_law 1649 = .ok (.if_icmp .eq 63, 3) := by decide +kernel
theorem dL_law_1652 : decode cL_law 1652 = .ok (.iconst 0, 1) := by decide +kernel
theorem dL_law_1653 : decode cL_law 1653 = .ok (.ireturn, 1) := by decide +kernel
theorem dL_law_1654 : decode cL_law 1654 = .ok (.aload_n 1, 1) := by decide +kernel
theorem dL_law_1655 : decode cL_law 1655 = .ok (.aload_n 3, 1) := by decide +kernel
theorem dL_law_1656 : decode cL_law 1656 = .ok (.invokestatic 187, 3) := by decide +kernel
theorem dL_law_1659 : decode cL_law 1659 = .ok (.istore 5, 2) := by decide +kernel
theorem dL_law_1661 : decode cL_law 1661 = .ok (.aload_n 2, 1) := by decide +kernel
theorem dL_law_1662 : decode cL_law 1662 = .ok (.invokevirtual 190, 3) := by decide +kernel
theorem dL_law_1665 : decode cL_law 1665 = .ok (.istore 6, 2) := by decide +kernel
theorem dL_law_1667 : decode cL_law 1667 = .ok (.aload_n 2, 1) := by decide +kernel
theorem dL_law_1668 : decode cL_law 1668 = .ok (.invokevirtual 96, 3) := by decide +kernel
theorem dL_law_1671 : decode cL_law 1671 = .ok (.iload 5, 2) := by decide +kernel
theorem dL_law_1673 : decode cL_law 1673 = .ok (.if_icmp .eq 5, 3) := by decide +kernel
theorem dL_law_1676 : decode cL_law 1676 = .ok (.iconst 0, 1) := by decide +kernel
theorem dL_law_1677 : decode cL_law 1677 = .ok (.ireturn, 1) := by decide +kernel
theorem dL_law_1678 : decode cL_law 1678 = .ok (.iload 5, 2) := by decide +kernel
theorem dL_law_1680 : decode cL_law 1680 = .ok (.ifCond .ne 15, 3) := by decide +kernel
theorem dL_law_1683 : decode cL_law 1683 = .ok (.aload_n 3, 1) := by decide +kernel
theorem dL_law_1684 : decode cL_law 1684 = .ok (.iconst 0, 1) := by decide +kernel
theorem dL_law_1685 : decode cL_law 1685 = .ok (.laload, 1) := by decide +kernel
theorem dL_law_1686 : decode cL_law 1686 = .ok (.iload 6, 2) := by decide +kernel
theorem dL_law_1688 : decode cL_law 1688 = .ok (.i2l, 1) := by decide +kernel
theorem dL_law_1689 : decode cL_law 1689 = .ok (.lcmp, 1) := by decide +kernel
theorem dL_law_1690 : decode cL_law 1690 = .ok (.ifCond .eq 5, 3) := by decide +kernel
theorem dL_law_1693 : decode cL_law 1693 = .ok (.iconst 0, 1) := by decide +kernel
theorem dL_law_1694 : decode cL_law 1694 = .ok (.ireturn, 1) := by decide +kernel
theorem dL_law_1695 : decode cL_law 1695 = .ok (.goto 17, 3) := by decide +kernel
theorem dL_law_1698 : decode cL_law 1698 = .ok (.aload_n 1, 1) := by decide +kernel
theorem dL_law_1699 : decode cL_law 1699 = .ok (.invokevirtual 191, 3) := by decide +kernel
theorem dL_law_1702 : decode cL_law 1702 = .ok (.aload_n 2, 1) := by decide +kernel
theorem dL_law_1703 : decode cL_law 1703 = .ok (.invokevirtual 195, 3) := by decide +kernel
theorem dL_law_1706 : decode cL_law 1706 = .ok (.lcmp, 1) := by decide +kernel
theorem dL_law_1707 : decode cL_law 1707 = .ok (.ifCond .eq 5, 3) := by decide +kernel
theorem dL_law_1710 : decode cL_law 1710 = .ok (.iconst 0, 1) := by decide +kernel
theorem dL_law_1711 : decode cL_law 1711 = .ok (.ireturn, 1) := by decide +kernel
theorem dL_law_1712 : decode cL_law 1712 = .ok (.iinc 4 5, 3) := by decide +kernel
theorem dL_law_1715 : decode cL_law 1715 = .ok (.goto (-1692), 3) := by decide +kernel
theorem dL_law_1718 : decode cL_law 1718 = .ok (.iconst 1, 1) := by decide +kernel
theorem dL_law_1719 : decode cL_law 1719 = .ok (.ireturn, 1) := by decide +kernel
end
section
def lw_g : List Cond := lw_tbl.filter goodWord
theorem wm_t {w : Cond} (i : Nat) (h : tables_1[i]? = some w) (hg : goodWord w = true) : w ∈ lw_g := List.mem_filter.mpr ⟨List.mem_append_right _ (List.mem_of_getElem? h), hg⟩
theorem wm_p {w : Cond} (i : Nat) (h : (k2_sels lw_privs)[i]? = some w) (hg : goodWord w = true) : w ∈ lw_g := List.mem_filter.mpr ⟨List.mem_append_left _ (List.mem_of_getElem? h), hg⟩
theorem wm_0 : Cond.initialized RL ∈ lw_g := wm_t 0 (by decide +kernel) (by decide +kernel)
theorem wm_1 : Cond.initialized RX3 ∈ lw_g := wm_t 1 (by decide +kernel) (by decide +kernel)
theorem wm_2 : Cond.initialized RX1 ∈ lw_g := wm_t 2 (by decide +kernel) (by decide +kernel)
theorem wm_3 : Cond.initialized RX2 ∈ lw_g := wm_t 3 (by decide +kernel) (by decide +kernel)
theorem wm_4 : Cond.initialized RX0 ∈ lw_g := wm_t 4 (by decide +kernel) (by decide +kernel)
theorem wm_5 : Cond.initialized RX4 ∈ lw_g := wm_t 5 (by decide +kernel) (by decide +kernel)
theorem wm_6 : Cond.initialized "java/lang/Throwable" ∈ lw_g := wm_t 6 (by decide +kernel) (by decide +kernel)
theorem wm_7 : Cond.initialized "java/lang/Exception" ∈ lw_g := wm_t 7 (by decide +kernel) (by decide +kernel)
theorem wm_8 : Cond.initialized "java/lang/RuntimeException" ∈ lw_g := wm_t 8 (by decide +kernel) (by decide +kernel)
theorem wm_9 : Cond.initialized "java/lang/IndexOutOfBoundsException" ∈ lw_g := wm_t 9 (by decide +kernel) (by decide +kernel)
theorem wm_10 : Cond.initialized "java/lang/IllegalArgumentException" ∈ lw_g := wm_t 10 (by decide +kernel) (by decide +kernel)
theorem wm_11 : Cond.initialized RJ10 ∈ lw_g := wm_t 11 (by decide +kernel) (by decide +kernel)
theorem wm_12 : Cond.initialized "java/lang/IllegalStateException" ∈ lw_g := wm_t 12 (by decide +kernel) (by decide +kernel)
theorem wm_13 : Cond.initialized RJ9 ∈ lw_g := wm_t 13 (by decide +kernel) (by decide +kernel)
theorem wm_14 : Cond.classLink RL 8 RX3 ∈ lw_g := wm_t 14 (by decide +kernel) (by decide +kernel)
theorem wm_15 : Cond.instantiable RX3 5 ∈ lw_g := wm_t 15 (by decide +kernel) (by decide +kernel)
theorem wm_16 : Cond.methodLink RL 86 yX3_init ∈ lw_g := wm_t 16 (by decide +kernel) (by decide +kernel)
theorem wm_17 : Cond.instanceMethod yX3_init ∈ lw_g := wm_t 17 (by decide +kernel) (by decide +kernel)
theorem wm_18 : Cond.code yX3_init cX3_init 2 none ∈ lw_g := wm_t 18 (by decide +kernel) (by decide +kernel)
theorem wm_19 : Cond.methodLink RX3 3 objectInit ∈ lw_g := wm_t 19 (by decide +kernel) (by decide +kernel)
theorem wm_20 : Cond.instanceMethod objectInit ∈ lw_g := wm_t 20 (by decide +kernel) (by decide +kernel)
theorem wm_21 : Cond.code objectInit object_method_1_code 1 none ∈ lw_g := wm_t 21 (by decide +kernel) (by decide +kernel)
theorem wm_22 : Cond.classLink RX3 9 RX1 ∈ lw_g := wm_t 22 (by decide +kernel) (by decide +kernel)
theorem wm_23 : Cond.instantiable RX1 10 ∈ lw_g := wm_t 23 (by decide +kernel) (by decide +kernel)
theorem wm_24 : Cond.methodLink RX3 11 yX1_init ∈ lw_g := wm_t 24 (by decide +kernel) (by decide +kernel)
theorem wm_25 : Cond.instanceMethod yX1_init ∈ lw_g := wm_t 25 (by decide +kernel) (by decide +kernel)
theorem wm_26 : Cond.code yX1_init cX1_init 2 none ∈ lw_g := wm_t 26 (by decide +kernel) (by decide +kernel)
theorem wm_27 : Cond.methodLink RX1 3 objectInit ∈ lw_g := wm_t 27 (by decide +kernel) (by decide +kernel)
theorem wm_28 : Cond.classLink RX1 9 RX2 ∈ lw_g := wm_t 28 (by decide +kernel) (by decide +kernel)
theorem wm_29 : Cond.instantiable RX2 4 ∈ lw_g := wm_t 29 (by decide +kernel) (by decide +kernel)
theorem wm_30 : Cond.methodLink RX1 11 yX2_init ∈ lw_g := wm_t 30 (by decide +kernel) (by decide +kernel)
theorem wm_31 : Cond.instanceMethod yX2_init ∈ lw_g := wm_t 31 (by decide +kernel) (by decide +kernel)
theorem wm_32 : Cond.code yX2_init cX2_init 3 none ∈ lw_g := wm_t 32 (by decide +kernel) (by decide +kernel)
theorem wm_33 : Cond.methodLink RX2 3 objectInit ∈ lw_g := wm_t 33 (by decide +kernel) (by decide +kernel)
theorem wm_34 : Cond.fieldLink RX2 15 "RackMoves$Table" "most" "I" ∈ lw_g := wm_t 34 (by decide +kernel) (by decide +kernel)
theorem wm_35 : Cond.fieldLink RX2 18 "RackMoves$Table" "columns" "I" ∈ lw_g := wm_t 35 (by decide +kernel) (by decide +kernel)
theorem wm_36 : Cond.fieldLink RX2 21 "RackMoves$Table" "cells" "[I" ∈ lw_g := wm_t 36 (by decide +kernel) (by decide +kernel)
theorem wm_37 : Cond.fieldLink RX2 9 "RackMoves$Table" "count" "I" ∈ lw_g := wm_t 37 (by decide +kernel) (by decide +kernel)
theorem wm_38 : Cond.fieldLink RX0 34 "RackMoves$Table" "count" "I" ∈ lw_g := wm_t 38 (by decide +kernel) (by decide +kernel)
theorem wm_39 : Cond.fieldLink RX1 63 "RackMoves$Table" "count" "I" ∈ lw_g := wm_t 39 (by decide +kernel) (by decide +kernel)
theorem wm_40 : Cond.fieldLink RX3 98 "RackMoves$Table" "count" "I" ∈ lw_g := wm_t 40 (by decide +kernel) (by decide +kernel)
theorem wm_41 : Cond.laysFinal "RackMoves$Table" "RackMoves$Table" "most" "I" ∈ lw_g := wm_t 41 (by decide +kernel) (by decide +kernel)
theorem wm_43 : Cond.laysFinal "RackMoves$Table" "RackMoves$Table" "columns" "I" ∈ lw_g := wm_t 43 (by decide +kernel) (by decide +kernel)
theorem wm_45 : Cond.laysFinal "RackMoves$Table" "RackMoves$Table" "cells" "[I" ∈ lw_g := wm_t 45 (by decide +kernel) (by decide +kernel)
theorem wm_47 : Cond.lays "RackMoves$Table" "RackMoves$Table" "count" "I" ∈ lw_g := wm_t 47 (by decide +kernel) (by decide +kernel)
theorem wm_50 : Cond.arrayClass Jvm.ClassFile.FieldType.int ∈ lw_g := wm_t 50 (by decide +kernel) (by decide +kernel)
theorem wm_51 : Cond.fieldLink RX1 14 "RackMoves$Room" "machines" "LRackMoves$Table;" ∈ lw_g := wm_t 51 (by decide +kernel) (by decide +kernel)
theorem wm_52 : Cond.fieldLink RX3 58 "RackMoves$Room" "machines" "LRackMoves$Table;" ∈ lw_g := wm_t 52 (by decide +kernel) (by decide +kernel)
theorem wm_53 : Cond.fieldLink RX1 20 "RackMoves$Room" "cables" "LRackMoves$Table;" ∈ lw_g := wm_t 53 (by decide +kernel) (by decide +kernel)
theorem wm_54 : Cond.fieldLink RX3 89 "RackMoves$Room" "cables" "LRackMoves$Table;" ∈ lw_g := wm_t 54 (by decide +kernel) (by decide +kernel)
theorem wm_55 : Cond.fieldLink RX1 23 "RackMoves$Room" "freezes" "LRackMoves$Table;" ∈ lw_g := wm_t 55 (by decide +kernel) (by decide +kernel)
theorem wm_56 : Cond.fieldLink RX3 101 "RackMoves$Room" "freezes" "LRackMoves$Table;" ∈ lw_g := wm_t 56 (by decide +kernel) (by decide +kernel)
theorem wm_57 : Cond.fieldLink RX1 26 "RackMoves$Room" "steps" "LRackMoves$Table;" ∈ lw_g := wm_t 57 (by decide +kernel) (by decide +kernel)
theorem wm_58 : Cond.fieldLink RX3 167 "RackMoves$Room" "steps" "LRackMoves$Table;" ∈ lw_g := wm_t 58 (by decide +kernel) (by decide +kernel)
theorem wm_59 : Cond.fieldLink RX1 29 "RackMoves$Room" "limits" "[I" ∈ lw_g := wm_t 59 (by decide +kernel) (by decide +kernel)
theorem wm_60 : Cond.fieldLink RX3 45 "RackMoves$Room" "limits" "[I" ∈ lw_g := wm_t 60 (by decide +kernel) (by decide +kernel)
theorem wm_61 : Cond.fieldLink RX1 33 "RackMoves$Room" "trayRooms" "[I" ∈ lw_g := wm_t 61 (by decide +kernel) (by decide +kernel)
theorem wm_62 : Cond.fieldLink RX3 52 "RackMoves$Room" "trayRooms" "[I" ∈ lw_g := wm_t 62 (by decide +kernel) (by decide +kernel)
theorem wm_63 : Cond.fieldLink RX1 36 "RackMoves$Room" "level" "I" ∈ lw_g := wm_t 63 (by decide +kernel) (by decide +kernel)
theorem wm_64 : Cond.fieldLink RX3 55 "RackMoves$Room" "level" "I" ∈ lw_g := wm_t 64 (by decide +kernel) (by decide +kernel)
theorem wm_65 : Cond.fieldLink RX1 40 "RackMoves$Room" "hour" "I" ∈ lw_g := wm_t 65 (by decide +kernel) (by decide +kernel)
theorem wm_66 : Cond.fieldLink RX3 113 "RackMoves$Room" "hour" "I" ∈ lw_g := wm_t 66 (by decide +kernel) (by decide +kernel)
theorem wm_67 : Cond.fieldLink RX0 75 "RackMoves$Room" "hour" "I" ∈ lw_g := wm_t 67 (by decide +kernel) (by decide +kernel)
theorem wm_68 : Cond.fieldLink RX1 43 "RackMoves$Room" "stepsDone" "I" ∈ lw_g := wm_t 68 (by decide +kernel) (by decide +kernel)
theorem wm_69 : Cond.fieldLink RX3 170 "RackMoves$Room" "stepsDone" "I" ∈ lw_g := wm_t 69 (by decide +kernel) (by decide +kernel)
theorem wm_70 : Cond.fieldLink RX1 46 "RackMoves$Room" "stepsBackedOut" "I" ∈ lw_g := wm_t 70 (by decide +kernel) (by decide +kernel)
theorem wm_71 : Cond.fieldLink RX3 173 "RackMoves$Room" "stepsBackedOut" "I" ∈ lw_g := wm_t 71 (by decide +kernel) (by decide +kernel)
theorem wm_72 : Cond.laysFinal "RackMoves$Room" "RackMoves$Room" "machines" "LRackMoves$Table;" ∈ lw_g := wm_t 72 (by decide +kernel) (by decide +kernel)
theorem wm_74 : Cond.laysFinal "RackMoves$Room" "RackMoves$Room" "cables" "LRackMoves$Table;" ∈ lw_g := wm_t 74 (by decide +kernel) (by decide +kernel)
theorem wm_76 : Cond.laysFinal "RackMoves$Room" "RackMoves$Room" "freezes" "LRackMoves$Table;" ∈ lw_g := wm_t 76 (by decide +kernel) (by decide +kernel)
theorem wm_78 : Cond.laysFinal "RackMoves$Room" "RackMoves$Room" "steps" "LRackMoves$Table;" ∈ lw_g := wm_t 78 (by decide +kernel) (by decide +kernel)
theorem wm_80 : Cond.laysFinal "RackMoves$Room" "RackMoves$Room" "limits" "[I" ∈ lw_g := wm_t 80 (by decide +kernel) (by decide +kernel)
theorem wm_82 : Cond.laysFinal "RackMoves$Room" "RackMoves$Room" "trayRooms" "[I" ∈ lw_g := wm_t 82 (by decide +kernel) (by decide +kernel)
theorem wm_84 : Cond.lays "RackMoves$Room" "RackMoves$Room" "level" "I" ∈ lw_g := wm_t 84 (by decide +kernel) (by decide +kernel)
theorem wm_86 : Cond.lays "RackMoves$Room" "RackMoves$Room" "hour" "I" ∈ lw_g := wm_t 86 (by decide +kernel) (by decide +kernel)
theorem wm_88 : Cond.lays "RackMoves$Room" "RackMoves$Room" "stepsDone" "I" ∈ lw_g := wm_t 88 (by decide +kernel) (by decide +kernel)
theorem wm_90 : Cond.lays "RackMoves$Room" "RackMoves$Room" "stepsBackedOut" "I" ∈ lw_g := wm_t 90 (by decide +kernel) (by decide +kernel)
theorem wm_94 : Cond.classLink RX3 27 RX0 ∈ lw_g := wm_t 94 (by decide +kernel) (by decide +kernel)
theorem wm_95 : Cond.instantiable RX0 5 ∈ lw_g := wm_t 95 (by decide +kernel) (by decide +kernel)
theorem wm_97 : Cond.instanceMethod yX0_init ∈ lw_g := wm_t 97 (by decide +kernel) (by decide +kernel)
theorem wm_98 : Cond.code yX0_init cX0_init 1 none ∈ lw_g := wm_t 98 (by decide +kernel) (by decide +kernel)
theorem wm_99 : Cond.methodLink RX0 3 objectInit ∈ lw_g := wm_t 99 (by decide +kernel) (by decide +kernel)
theorem wm_100 : Cond.classLink RX0 19 RX2 ∈ lw_g := wm_t 100 (by decide +kernel) (by decide +kernel)
theorem wm_101 : Cond.methodLink RX0 21 yX2_init ∈ lw_g := wm_t 101 (by decide +kernel) (by decide +kernel)
theorem wm_102 : Cond.fieldLink RX0 9 "RackMoves$PlanText" "bytes" "[I" ∈ lw_g := wm_t 102 (by decide +kernel) (by decide +kernel)
theorem wm_103 : Cond.fieldLink RX3 217 "RackMoves$PlanText" "bytes" "[I" ∈ lw_g := wm_t 103 (by decide +kernel) (by decide +kernel)
theorem wm_104 : Cond.fieldLink RX0 15 "RackMoves$PlanText" "length" "I" ∈ lw_g := wm_t 104 (by decide +kernel) (by decide +kernel)
theorem wm_105 : Cond.fieldLink RX3 212 "RackMoves$PlanText" "length" "I" ∈ lw_g := wm_t 105 (by decide +kernel) (by decide +kernel)
theorem wm_106 : Cond.fieldLink RX0 24 "RackMoves$PlanText" "parts" "LRackMoves$Table;" ∈ lw_g := wm_t 106 (by decide +kernel) (by decide +kernel)
theorem wm_107 : Cond.fieldLink RX0 28 "RackMoves$PlanText" "at" "I" ∈ lw_g := wm_t 107 (by decide +kernel) (by decide +kernel)
theorem wm_108 : Cond.fieldLink RX0 31 "RackMoves$PlanText" "numberRead" "I" ∈ lw_g := wm_t 108 (by decide +kernel) (by decide +kernel)
theorem wm_109 : Cond.laysFinal "RackMoves$PlanText" "RackMoves$PlanText" "bytes" "[I" ∈ lw_g := wm_t 109 (by decide +kernel) (by decide +kernel)
theorem wm_111 : Cond.lays "RackMoves$PlanText" "RackMoves$PlanText" "length" "I" ∈ lw_g := wm_t 111 (by decide +kernel) (by decide +kernel)
theorem wm_113 : Cond.laysFinal "RackMoves$PlanText" "RackMoves$PlanText" "parts" "LRackMoves$Table;" ∈ lw_g := wm_t 113 (by decide +kernel) (by decide +kernel)
theorem wm_115 : Cond.lays "RackMoves$PlanText" "RackMoves$PlanText" "at" "I" ∈ lw_g := wm_t 115 (by decide +kernel) (by decide +kernel)
theorem wm_117 : Cond.lays "RackMoves$PlanText" "RackMoves$PlanText" "numberRead" "I" ∈ lw_g := wm_t 117 (by decide +kernel) (by decide +kernel)
theorem wm_120 : Cond.fieldLink RX3 12 "RackMoves" "room" "LRackMoves$Room;" ∈ lw_g := wm_t 120 (by decide +kernel) (by decide +kernel)
theorem wm_121 : Cond.fieldLink RX3 16 "RackMoves" "spare" "LRackMoves$Room;" ∈ lw_g := wm_t 121 (by decide +kernel) (by decide +kernel)
theorem wm_122 : Cond.fieldLink RX3 19 "RackMoves" "saved" "[LRackMoves$Room;" ∈ lw_g := wm_t 122 (by decide +kernel) (by decide +kernel)
theorem wm_123 : Cond.fieldLink RX3 23 "RackMoves" "savedCount" "I" ∈ lw_g := wm_t 123 (by decide +kernel) (by decide +kernel)
theorem wm_124 : Cond.fieldLink RX3 30 "RackMoves" "text" "LRackMoves$PlanText;" ∈ lw_g := wm_t 124 (by decide +kernel) (by decide +kernel)
theorem wm_125 : Cond.lays "RackMoves" "RackMoves" "room" "LRackMoves$Room;" ∈ lw_g := wm_t 125 (by decide +kernel) (by decide +kernel)
theorem wm_127 : Cond.lays "RackMoves" "RackMoves" "spare" "LRackMoves$Room;" ∈ lw_g := wm_t 127 (by decide +kernel) (by decide +kernel)
theorem wm_129 : Cond.laysFinal "RackMoves" "RackMoves" "saved" "[LRackMoves$Room;" ∈ lw_g := wm_t 129 (by decide +kernel) (by decide +kernel)
theorem wm_131 : Cond.lays "RackMoves" "RackMoves" "savedCount" "I" ∈ lw_g := wm_t 131 (by decide +kernel) (by decide +kernel)
theorem wm_133 : Cond.laysFinal "RackMoves" "RackMoves" "text" "LRackMoves$PlanText;" ∈ lw_g := wm_t 133 (by decide +kernel) (by decide +kernel)
theorem wm_136 : Cond.methodLink RL 150 yX3_backOut ∈ lw_g := wm_t 136 (by decide +kernel) (by decide +kernel)
theorem wm_137 : Cond.instanceMethod yX3_backOut ∈ lw_g := wm_t 137 (by decide +kernel) (by decide +kernel)
theorem wm_138 : Cond.selects RX3 yX3_backOut yX3_backOut ∈ lw_g := wm_t 138 (by decide +kernel) (by decide +kernel)
theorem wm_139 : Cond.code yX3_backOut cX3_backOut 2 (Option.some Jvm.ClassFile.FieldType.int) ∈ lw_g := wm_t 139 (by decide +kernel) (by decide +kernel)
theorem wm_140 : Cond.methodLink RX3 192 yX1_whyNotBackOut ∈ lw_g := wm_t 140 (by decide +kernel) (by decide +kernel)
theorem wm_141 : Cond.instanceMethod yX1_whyNotBackOut ∈ lw_g := wm_t 141 (by decide +kernel) (by decide +kernel)
theorem wm_142 : Cond.selects RX1 yX1_whyNotBackOut yX1_whyNotBackOut ∈ lw_g := wm_t 142 (by decide +kernel) (by decide +kernel)
theorem wm_143 : Cond.code yX1_whyNotBackOut cX1_whyNotBackOut 5 (Option.some Jvm.ClassFile.FieldType.int) ∈ lw_g := wm_t 143 (by decide +kernel) (by decide +kernel)
theorem wm_144 : Cond.methodLink RX1 59 yX2_at ∈ lw_g := wm_t 144 (by decide +kernel) (by decide +kernel)
theorem wm_145 : Cond.instanceMethod yX2_at ∈ lw_g := wm_t 145 (by decide +kernel) (by decide +kernel)
theorem wm_146 : Cond.selects RX2 yX2_at yX2_at ∈ lw_g := wm_t 146 (by decide +kernel) (by decide +kernel)
theorem wm_147 : Cond.code yX2_at cX2_at 3 (Option.some Jvm.ClassFile.FieldType.int) ∈ lw_g := wm_t 147 (by decide +kernel) (by decide +kernel)
theorem wm_148 : Cond.methodLink RX1 112 yX1_isFrozen ∈ lw_g := wm_t 148 (by decide +kernel) (by decide +kernel)
theorem wm_149 : Cond.instanceMethod yX1_isFrozen ∈ lw_g := wm_t 149 (by decide +kernel) (by decide +kernel)
theorem wm_150 : Cond.selects RX1 yX1_isFrozen yX1_isFrozen ∈ lw_g := wm_t 150 (by decide +kernel) (by decide +kernel)
theorem wm_151 : Cond.code yX1_isFrozen cX1_isFrozen 6 (Option.some Jvm.ClassFile.FieldType.boolean) ∈ lw_g := wm_t 151 (by decide +kernel) (by decide +kernel)
theorem wm_152 : Cond.methodLink RX1 70 yX1_machineWithin ∈ lw_g := wm_t 152 (by decide +kernel) (by decide +kernel)
theorem wm_153 : Cond.instanceMethod yX1_machineWithin ∈ lw_g := wm_t 153 (by decide +kernel) (by decide +kernel)
theorem wm_154 : Cond.selects RX1 yX1_machineWithin yX1_machineWithin ∈ lw_g := wm_t 154 (by decide +kernel) (by decide +kernel)
theorem wm_155 : Cond.code yX1_machineWithin cX1_machineWithin 8 (Option.some Jvm.ClassFile.FieldType.int) ∈ lw_g := wm_t 155 (by decide +kernel) (by decide +kernel)
theorem wm_156 : Cond.methodLink RX1 66 yX1_standsIn ∈ lw_g := wm_t 156 (by decide +kernel) (by decide +kernel)
theorem wm_157 : Cond.instanceMethod yX1_standsIn ∈ lw_g := wm_t 157 (by decide +kernel) (by decide +kernel)
theorem wm_158 : Cond.selects RX1 yX1_standsIn yX1_standsIn ∈ lw_g := wm_t 158 (by decide +kernel) (by decide +kernel)
theorem wm_159 : Cond.code yX1_standsIn cX1_standsIn 3 (Option.some Jvm.ClassFile.FieldType.boolean) ∈ lw_g := wm_t 159 (by decide +kernel) (by decide +kernel)
theorem wm_160 : Cond.methodLink RX1 119 yX1_firstWrongWith ∈ lw_g := wm_t 160 (by decide +kernel) (by decide +kernel)
theorem wm_162 : Cond.instanceMethod yX1_firstWrongWith ∈ lw_g := wm_t 162 (by decide +kernel) (by decide +kernel)
theorem wm_163 : Cond.code yX1_firstWrongWith cX1_firstWrongWith 9 (Option.some Jvm.ClassFile.FieldType.int) ∈ lw_g := wm_t 163 (by decide +kernel) (by decide +kernel)
theorem wm_164 : Cond.methodLink RX1 122 yX1_place ∈ lw_g := wm_t 164 (by decide +kernel) (by decide +kernel)
theorem wm_165 : Cond.instanceMethod yX1_place ∈ lw_g := wm_t 165 (by decide +kernel) (by decide +kernel)
theorem wm_166 : Cond.selects RX1 yX1_place yX1_place ∈ lw_g := wm_t 166 (by decide +kernel) (by decide +kernel)
theorem wm_167 : Cond.code yX1_place cX1_place 5 none ∈ lw_g := wm_t 167 (by decide +kernel) (by decide +kernel)
theorem wm_168 : Cond.methodLink RX1 89 yX2_put ∈ lw_g := wm_t 168 (by decide +kernel) (by decide +kernel)
theorem wm_169 : Cond.instanceMethod yX2_put ∈ lw_g := wm_t 169 (by decide +kernel) (by decide +kernel)
theorem wm_170 : Cond.selects RX2 yX2_put yX2_put ∈ lw_g := wm_t 170 (by decide +kernel) (by decide +kernel)
theorem wm_171 : Cond.code yX2_put cX2_put 4 none ∈ lw_g := wm_t 171 (by decide +kernel) (by decide +kernel)
theorem wm_172 : Cond.methodLink RX1 126 yX1_firstWrong ∈ lw_g := wm_t 172 (by decide +kernel) (by decide +kernel)
theorem wm_173 : Cond.instanceMethod yX1_firstWrong ∈ lw_g := wm_t 173 (by decide +kernel) (by decide +kernel)
theorem wm_174 : Cond.selects RX1 yX1_firstWrong yX1_firstWrong ∈ lw_g := wm_t 174 (by decide +kernel) (by decide +kernel)
theorem wm_175 : Cond.code yX1_firstWrong cX1_firstWrong 2 (Option.some Jvm.ClassFile.FieldType.int) ∈ lw_g := wm_t 175 (by decide +kernel) (by decide +kernel)
theorem wm_176 : Cond.methodLink RX1 97 yX1_loadOfRack ∈ lw_g := wm_t 176 (by decide +kernel) (by decide +kernel)
theorem wm_177 : Cond.instanceMethod yX1_loadOfRack ∈ lw_g := wm_t 177 (by decide +kernel) (by decide +kernel)
theorem wm_178 : Cond.selects RX1 yX1_loadOfRack yX1_loadOfRack ∈ lw_g := wm_t 178 (by decide +kernel) (by decide +kernel)
theorem wm_179 : Cond.code yX1_loadOfRack cX1_loadOfRack 4 (Option.some Jvm.ClassFile.FieldType.int) ∈ lw_g := wm_t 179 (by decide +kernel) (by decide +kernel)
theorem wm_180 : Cond.methodLink RX1 106 yX1_cablesInTray ∈ lw_g := wm_t 180 (by decide +kernel) (by decide +kernel)
theorem wm_181 : Cond.instanceMethod yX1_cablesInTray ∈ lw_g := wm_t 181 (by decide +kernel) (by decide +kernel)
theorem wm_182 : Cond.selects RX1 yX1_cablesInTray yX1_cablesInTray ∈ lw_g := wm_t 182 (by decide +kernel) (by decide +kernel)
theorem wm_183 : Cond.code yX1_cablesInTray cX1_cablesInTray 7 (Option.some Jvm.ClassFile.FieldType.int) ∈ lw_g := wm_t 183 (by decide +kernel) (by decide +kernel)
theorem wm_184 : Cond.methodLink RX1 100 yX1_rackOfEnd ∈ lw_g := wm_t 184 (by decide +kernel) (by decide +kernel)
theorem wm_186 : Cond.instanceMethod yX1_rackOfEnd ∈ lw_g := wm_t 186 (by decide +kernel) (by decide +kernel)
theorem wm_187 : Cond.code yX1_rackOfEnd cX1_rackOfEnd 3 (Option.some Jvm.ClassFile.FieldType.int) ∈ lw_g := wm_t 187 (by decide +kernel) (by decide +kernel)
theorem wm_188 : Cond.methodLink RX1 86 yJ9_min_7cf53 ∈ lw_g := wm_t 188 (by decide +kernel) (by decide +kernel)
theorem wm_189 : Cond.static yJ9_min_7cf53 ∈ lw_g := wm_t 189 (by decide +kernel) (by decide +kernel)
theorem wm_190 : Cond.code yJ9_min_7cf53 cJ9_min_7cf53 2 (Option.some Jvm.ClassFile.FieldType.int) ∈ lw_g := wm_t 190 (by decide +kernel) (by decide +kernel)
theorem wm_191 : Cond.methodLink RX1 81 yJ9_max_7cf53 ∈ lw_g := wm_t 191 (by decide +kernel) (by decide +kernel)
theorem wm_192 : Cond.static yJ9_max_7cf53 ∈ lw_g := wm_t 192 (by decide +kernel) (by decide +kernel)
theorem wm_193 : Cond.code yJ9_max_7cf53 cJ9_max_7cf53 2 (Option.some Jvm.ClassFile.FieldType.int) ∈ lw_g := wm_t 193 (by decide +kernel) (by decide +kernel)
theorem wm_194 : Cond.methodLink RX1 109 yX1_needOfCable ∈ lw_g := wm_t 194 (by decide +kernel) (by decide +kernel)
theorem wm_195 : Cond.instanceMethod yX1_needOfCable ∈ lw_g := wm_t 195 (by decide +kernel) (by decide +kernel)
theorem wm_196 : Cond.selects RX1 yX1_needOfCable yX1_needOfCable ∈ lw_g := wm_t 196 (by decide +kernel) (by decide +kernel)
theorem wm_197 : Cond.code yX1_needOfCable cX1_needOfCable 4 (Option.some Jvm.ClassFile.FieldType.int) ∈ lw_g := wm_t 197 (by decide +kernel) (by decide +kernel)
theorem wm_198 : Cond.methodLink RX1 103 yJ9_abs_0f7a4 ∈ lw_g := wm_t 198 (by decide +kernel) (by decide +kernel)
theorem wm_199 : Cond.static yJ9_abs_0f7a4 ∈ lw_g := wm_t 199 (by decide +kernel) (by decide +kernel)
theorem wm_200 : Cond.code yJ9_abs_0f7a4 cJ9_abs_0f7a4 1 (Option.some Jvm.ClassFile.FieldType.int) ∈ lw_g := wm_t 200 (by decide +kernel) (by decide +kernel)
theorem wm_201 : Cond.methodLink RX1 93 yX1_difference ∈ lw_g := wm_t 201 (by decide +kernel) (by decide +kernel)
theorem wm_202 : Cond.instanceMethod yX1_difference ∈ lw_g := wm_t 202 (by decide +kernel) (by decide +kernel)
theorem wm_203 : Cond.selects RX1 yX1_difference yX1_difference ∈ lw_g := wm_t 203 (by decide +kernel) (by decide +kernel)
theorem wm_204 : Cond.code yX1_difference cX1_difference 5 (Option.some Jvm.ClassFile.FieldType.int) ∈ lw_g := wm_t 204 (by decide +kernel) (by decide +kernel)
theorem wm_205 : Cond.methodLink RX1 77 yX1_loadOfPhase ∈ lw_g := wm_t 205 (by decide +kernel) (by decide +kernel)
theorem wm_206 : Cond.instanceMethod yX1_loadOfPhase ∈ lw_g := wm_t 206 (by decide +kernel) (by decide +kernel)
theorem wm_207 : Cond.selects RX1 yX1_loadOfPhase yX1_loadOfPhase ∈ lw_g := wm_t 207 (by decide +kernel) (by decide +kernel)
theorem wm_208 : Cond.code yX1_loadOfPhase cX1_loadOfPhase 4 (Option.some Jvm.ClassFile.FieldType.int) ∈ lw_g := wm_t 208 (by decide +kernel) (by decide +kernel)
theorem wm_209 : Cond.methodLink RX3 42 yX3_save ∈ lw_g := wm_t 209 (by decide +kernel) (by decide +kernel)
theorem wm_211 : Cond.instanceMethod yX3_save ∈ lw_g := wm_t 211 (by decide +kernel) (by decide +kernel)
theorem wm_212 : Cond.code yX3_save cX3_save 3 none ∈ lw_g := wm_t 212 (by decide +kernel) (by decide +kernel)
theorem wm_213 : Cond.methodLink RX3 206 yX1_copyFrom ∈ lw_g := wm_t 213 (by decide +kernel) (by decide +kernel)
theorem wm_214 : Cond.instanceMethod yX1_copyFrom ∈ lw_g := wm_t 214 (by decide +kernel) (by decide +kernel)
theorem wm_215 : Cond.selects RX1 yX1_copyFrom yX1_copyFrom ∈ lw_g := wm_t 215 (by decide +kernel) (by decide +kernel)
theorem wm_216 : Cond.code yX1_copyFrom cX1_copyFrom 2 none ∈ lw_g := wm_t 216 (by decide +kernel) (by decide +kernel)
theorem wm_217 : Cond.methodLink RX1 49 yX2_copyFrom ∈ lw_g := wm_t 217 (by decide +kernel) (by decide +kernel)
theorem wm_218 : Cond.instanceMethod yX2_copyFrom ∈ lw_g := wm_t 218 (by decide +kernel) (by decide +kernel)
theorem wm_219 : Cond.selects RX2 yX2_copyFrom yX2_copyFrom ∈ lw_g := wm_t 219 (by decide +kernel) (by decide +kernel)
theorem wm_220 : Cond.code yX2_copyFrom cX2_copyFrom 2 none ∈ lw_g := wm_t 220 (by decide +kernel) (by decide +kernel)
theorem wm_221 : Cond.methodLink RX2 33 ⟨RJ10, "arraycopy", "(Ljava/lang/Object;ILjava/lang/Object;II)V"⟩ ∈ lw_g := wm_t 221 (by decide +kernel) (by decide +kernel)
theorem wm_222 : Cond.static ⟨RJ10, "arraycopy", "(Ljava/lang/Object;ILjava/lang/Object;II)V"⟩ ∈ lw_g := wm_t 222 (by decide +kernel) (by decide +kernel)
theorem wm_223 : Cond.native ⟨RJ10, "arraycopy", "(Ljava/lang/Object;ILjava/lang/Object;II)V"⟩ ∈ lw_g := wm_t 223 (by decide +kernel) (by decide +kernel)
theorem wm_224 : Cond.methodLink RX1 53 ⟨RJ10, "arraycopy", "(Ljava/lang/Object;ILjava/lang/Object;II)V"⟩ ∈ lw_g := wm_t 224 (by decide +kernel) (by decide +kernel)
theorem wm_225 : Cond.methodLink RX3 195 yX1_doBackOut ∈ lw_g := wm_t 225 (by decide +kernel) (by decide +kernel)
theorem wm_226 : Cond.instanceMethod yX1_doBackOut ∈ lw_g := wm_t 226 (by decide +kernel) (by decide +kernel)
theorem wm_227 : Cond.selects RX1 yX1_doBackOut yX1_doBackOut ∈ lw_g := wm_t 227 (by decide +kernel) (by decide +kernel)
theorem wm_228 : Cond.code yX1_doBackOut cX1_doBackOut 3 none ∈ lw_g := wm_t 228 (by decide +kernel) (by decide +kernel)
theorem wm_229 : Cond.methodLink RX1 133 yX2_removeRow ∈ lw_g := wm_t 229 (by decide +kernel) (by decide +kernel)
theorem wm_230 : Cond.instanceMethod yX2_removeRow ∈ lw_g := wm_t 230 (by decide +kernel) (by decide +kernel)
theorem wm_231 : Cond.selects RX2 yX2_removeRow yX2_removeRow ∈ lw_g := wm_t 231 (by decide +kernel) (by decide +kernel)
theorem wm_232 : Cond.code yX2_removeRow cX2_removeRow 3 none ∈ lw_g := wm_t 232 (by decide +kernel) (by decide +kernel)
theorem wm_233 : Cond.methodLink RX2 29 yX2_hasRow ∈ lw_g := wm_t 233 (by decide +kernel) (by decide +kernel)
theorem wm_234 : Cond.instanceMethod yX2_hasRow ∈ lw_g := wm_t 234 (by decide +kernel) (by decide +kernel)
theorem wm_235 : Cond.selects RX2 yX2_hasRow yX2_hasRow ∈ lw_g := wm_t 235 (by decide +kernel) (by decide +kernel)
theorem wm_236 : Cond.code yX2_hasRow cX2_hasRow 2 (Option.some Jvm.ClassFile.FieldType.boolean) ∈ lw_g := wm_t 236 (by decide +kernel) (by decide +kernel)
theorem wm_237 : Cond.methodLink RL 163 yX3_bestChange ∈ lw_g := wm_t 237 (by decide +kernel) (by decide +kernel)
theorem wm_238 : Cond.instanceMethod yX3_bestChange ∈ lw_g := wm_t 238 (by decide +kernel) (by decide +kernel)
theorem wm_239 : Cond.selects RX3 yX3_bestChange yX3_bestChange ∈ lw_g := wm_t 239 (by decide +kernel) (by decide +kernel)
theorem wm_240 : Cond.code yX3_bestChange cX3_bestChange 6 (Option.some Jvm.ClassFile.FieldType.int) ∈ lw_g := wm_t 240 (by decide +kernel) (by decide +kernel)
theorem wm_241 : Cond.methodLink RX3 161 yX1_difference ∈ lw_g := wm_t 241 (by decide +kernel) (by decide +kernel)
theorem wm_242 : Cond.methodLink RX3 203 yX1_differenceWith ∈ lw_g := wm_t 242 (by decide +kernel) (by decide +kernel)
theorem wm_243 : Cond.instanceMethod yX1_differenceWith ∈ lw_g := wm_t 243 (by decide +kernel) (by decide +kernel)
theorem wm_244 : Cond.selects RX1 yX1_differenceWith yX1_differenceWith ∈ lw_g := wm_t 244 (by decide +kernel) (by decide +kernel)
theorem wm_245 : Cond.code yX1_differenceWith cX1_differenceWith 5 (Option.some Jvm.ClassFile.FieldType.int) ∈ lw_g := wm_t 245 (by decide +kernel) (by decide +kernel)
theorem wm_246 : Cond.methodLink RX3 186 yX1_whyNotChange ∈ lw_g := wm_t 246 (by decide +kernel) (by decide +kernel)
theorem wm_247 : Cond.instanceMethod yX1_whyNotChange ∈ lw_g := wm_t 247 (by decide +kernel) (by decide +kernel)
theorem wm_248 : Cond.selects RX1 yX1_whyNotChange yX1_whyNotChange ∈ lw_g := wm_t 248 (by decide +kernel) (by decide +kernel)
theorem wm_249 : Cond.code yX1_whyNotChange cX1_whyNotChange 3 (Option.some Jvm.ClassFile.FieldType.int) ∈ lw_g := wm_t 249 (by decide +kernel) (by decide +kernel)
theorem wm_250 : Cond.methodLink RL 167 yX3_backable ∈ lw_g := wm_t 250 (by decide +kernel) (by decide +kernel)
theorem wm_251 : Cond.instanceMethod yX3_backable ∈ lw_g := wm_t 251 (by decide +kernel) (by decide +kernel)
theorem wm_252 : Cond.selects RX3 yX3_backable yX3_backable ∈ lw_g := wm_t 252 (by decide +kernel) (by decide +kernel)
theorem wm_253 : Cond.code yX3_backable cX3_backable 2 (Option.some Jvm.ClassFile.FieldType.int) ∈ lw_g := wm_t 253 (by decide +kernel) (by decide +kernel)
theorem wm_254 : Cond.methodLink RL 171 yX3_taken ∈ lw_g := wm_t 254 (by decide +kernel) (by decide +kernel)
theorem wm_255 : Cond.instanceMethod yX3_taken ∈ lw_g := wm_t 255 (by decide +kernel) (by decide +kernel)
theorem wm_256 : Cond.selects RX3 yX3_taken yX3_taken ∈ lw_g := wm_t 256 (by decide +kernel) (by decide +kernel)
theorem wm_257 : Cond.code yX3_taken cX3_taken 3 (Option.some Jvm.ClassFile.FieldType.double) ∈ lw_g := wm_t 257 (by decide +kernel) (by decide +kernel)
theorem wm_258 : Cond.methodLink RX3 138 yX1_slotsTakenIn ∈ lw_g := wm_t 258 (by decide +kernel) (by decide +kernel)
theorem wm_259 : Cond.instanceMethod yX1_slotsTakenIn ∈ lw_g := wm_t 259 (by decide +kernel) (by decide +kernel)
theorem wm_260 : Cond.selects RX1 yX1_slotsTakenIn yX1_slotsTakenIn ∈ lw_g := wm_t 260 (by decide +kernel) (by decide +kernel)
theorem wm_261 : Cond.code yX1_slotsTakenIn cX1_slotsTakenIn 4 (Option.some Jvm.ClassFile.FieldType.int) ∈ lw_g := wm_t 261 (by decide +kernel) (by decide +kernel)
theorem wm_262 : Cond.constantDouble RX3 210 (4633641066610819072 : UInt64) ∈ lw_g := wm_t 262 (by decide +kernel) (by decide +kernel)
theorem wm_263 : Cond.methodLink RL 179 yX3_clearText ∈ lw_g := wm_t 263 (by decide +kernel) (by decide +kernel)
theorem wm_264 : Cond.instanceMethod yX3_clearText ∈ lw_g := wm_t 264 (by decide +kernel) (by decide +kernel)
theorem wm_265 : Cond.selects RX3 yX3_clearText yX3_clearText ∈ lw_g := wm_t 265 (by decide +kernel) (by decide +kernel)
theorem wm_266 : Cond.code yX3_clearText cX3_clearText 2 (Option.some Jvm.ClassFile.FieldType.int) ∈ lw_g := wm_t 266 (by decide +kernel) (by decide +kernel)
theorem wm_267 : Cond.methodLink RL 183 yX3_plan ∈ lw_g := wm_t 267 (by decide +kernel) (by decide +kernel)
theorem wm_268 : Cond.instanceMethod yX3_plan ∈ lw_g := wm_t 268 (by decide +kernel) (by decide +kernel)
theorem wm_269 : Cond.selects RX3 yX3_plan yX3_plan ∈ lw_g := wm_t 269 (by decide +kernel) (by decide +kernel)
theorem wm_270 : Cond.code yX3_plan cX3_plan 4 (Option.some Jvm.ClassFile.FieldType.int) ∈ lw_g := wm_t 270 (by decide +kernel) (by decide +kernel)
theorem wm_271 : Cond.methodLink RX3 220 yX0_read ∈ lw_g := wm_t 271 (by decide +kernel) (by decide +kernel)
theorem wm_272 : Cond.instanceMethod yX0_read ∈ lw_g := wm_t 272 (by decide +kernel) (by decide +kernel)
theorem wm_273 : Cond.selects RX0 yX0_read yX0_read ∈ lw_g := wm_t 273 (by decide +kernel) (by decide +kernel)
theorem wm_274 : Cond.code yX0_read cX0_read 4 (Option.some Jvm.ClassFile.FieldType.int) ∈ lw_g := wm_t 274 (by decide +kernel) (by decide +kernel)
theorem wm_275 : Cond.methodLink RX0 37 yX0_readPart ∈ lw_g := wm_t 275 (by decide +kernel) (by decide +kernel)
theorem wm_277 : Cond.instanceMethod yX0_readPart ∈ lw_g := wm_t 277 (by decide +kernel) (by decide +kernel)
theorem wm_278 : Cond.code yX0_readPart cX0_readPart 5 (Option.some Jvm.ClassFile.FieldType.int) ∈ lw_g := wm_t 278 (by decide +kernel) (by decide +kernel)
theorem wm_279 : Cond.methodLink RX0 41 yX0_byteAt ∈ lw_g := wm_t 279 (by decide +kernel) (by decide +kernel)
theorem wm_281 : Cond.instanceMethod yX0_byteAt ∈ lw_g := wm_t 281 (by decide +kernel) (by decide +kernel)
theorem wm_282 : Cond.code yX0_byteAt cX0_byteAt 2 (Option.some Jvm.ClassFile.FieldType.int) ∈ lw_g := wm_t 282 (by decide +kernel) (by decide +kernel)
theorem wm_283 : Cond.methodLink RX0 44 yX2_addRow ∈ lw_g := wm_t 283 (by decide +kernel) (by decide +kernel)
theorem wm_284 : Cond.instanceMethod yX2_addRow ∈ lw_g := wm_t 284 (by decide +kernel) (by decide +kernel)
theorem wm_285 : Cond.selects RX2 yX2_addRow yX2_addRow ∈ lw_g := wm_t 285 (by decide +kernel) (by decide +kernel)
theorem wm_286 : Cond.code yX2_addRow cX2_addRow 1 (Option.some Jvm.ClassFile.FieldType.int) ∈ lw_g := wm_t 286 (by decide +kernel) (by decide +kernel)
theorem wm_287 : Cond.methodLink RX2 25 yX2_isFull ∈ lw_g := wm_t 287 (by decide +kernel) (by decide +kernel)
theorem wm_288 : Cond.instanceMethod yX2_isFull ∈ lw_g := wm_t 288 (by decide +kernel) (by decide +kernel)
theorem wm_289 : Cond.selects RX2 yX2_isFull yX2_isFull ∈ lw_g := wm_t 289 (by decide +kernel) (by decide +kernel)
theorem wm_290 : Cond.code yX2_isFull cX2_isFull 1 (Option.some Jvm.ClassFile.FieldType.boolean) ∈ lw_g := wm_t 290 (by decide +kernel) (by decide +kernel)
theorem wm_291 : Cond.methodLink RX0 48 yX2_put ∈ lw_g := wm_t 291 (by decide +kernel) (by decide +kernel)
theorem wm_292 : Cond.methodLink RX0 52 yX0_readStep ∈ lw_g := wm_t 292 (by decide +kernel) (by decide +kernel)
theorem wm_294 : Cond.instanceMethod yX0_readStep ∈ lw_g := wm_t 294 (by decide +kernel) (by decide +kernel)
theorem wm_295 : Cond.code yX0_readStep cX0_readStep 5 (Option.some Jvm.ClassFile.FieldType.int) ∈ lw_g := wm_t 295 (by decide +kernel) (by decide +kernel)
theorem wm_296 : Cond.methodLink RX0 59 yX0_readMachine ∈ lw_g := wm_t 296 (by decide +kernel) (by decide +kernel)
theorem wm_298 : Cond.instanceMethod yX0_readMachine ∈ lw_g := wm_t 298 (by decide +kernel) (by decide +kernel)
theorem wm_299 : Cond.code yX0_readMachine cX0_readMachine 4 (Option.some Jvm.ClassFile.FieldType.int) ∈ lw_g := wm_t 299 (by decide +kernel) (by decide +kernel)
theorem wm_300 : Cond.methodLink RX0 68 yX0_isDigit ∈ lw_g := wm_t 300 (by decide +kernel) (by decide +kernel)
theorem wm_301 : Cond.static yX0_isDigit ∈ lw_g := wm_t 301 (by decide +kernel) (by decide +kernel)
theorem wm_302 : Cond.code yX0_isDigit cX0_isDigit 1 (Option.some Jvm.ClassFile.FieldType.boolean) ∈ lw_g := wm_t 302 (by decide +kernel) (by decide +kernel)
theorem wm_303 : Cond.methodLink RX0 56 yX0_readByte ∈ lw_g := wm_t 303 (by decide +kernel) (by decide +kernel)
theorem wm_305 : Cond.instanceMethod yX0_readByte ∈ lw_g := wm_t 305 (by decide +kernel) (by decide +kernel)
theorem wm_306 : Cond.code yX0_readByte cX0_readByte 2 (Option.some Jvm.ClassFile.FieldType.int) ∈ lw_g := wm_t 306 (by decide +kernel) (by decide +kernel)
theorem wm_307 : Cond.methodLink RX0 62 yX0_readRack ∈ lw_g := wm_t 307 (by decide +kernel) (by decide +kernel)
theorem wm_309 : Cond.instanceMethod yX0_readRack ∈ lw_g := wm_t 309 (by decide +kernel) (by decide +kernel)
theorem wm_310 : Cond.code yX0_readRack cX0_readRack 1 (Option.some Jvm.ClassFile.FieldType.int) ∈ lw_g := wm_t 310 (by decide +kernel) (by decide +kernel)
theorem wm_311 : Cond.methodLink RX0 65 yX0_readDigit ∈ lw_g := wm_t 311 (by decide +kernel) (by decide +kernel)
theorem wm_313 : Cond.instanceMethod yX0_readDigit ∈ lw_g := wm_t 313 (by decide +kernel) (by decide +kernel)
theorem wm_314 : Cond.code yX0_readDigit cX0_readDigit 3 (Option.some Jvm.ClassFile.FieldType.int) ∈ lw_g := wm_t 314 (by decide +kernel) (by decide +kernel)
theorem wm_315 : Cond.methodLink RX3 223 yX0_runIn ∈ lw_g := wm_t 315 (by decide +kernel) (by decide +kernel)
theorem wm_316 : Cond.instanceMethod yX0_runIn ∈ lw_g := wm_t 316 (by decide +kernel) (by decide +kernel)
theorem wm_317 : Cond.selects RX0 yX0_runIn yX0_runIn ∈ lw_g := wm_t 317 (by decide +kernel) (by decide +kernel)
theorem wm_318 : Cond.code yX0_runIn cX0_runIn 9 (Option.some Jvm.ClassFile.FieldType.int) ∈ lw_g := wm_t 318 (by decide +kernel) (by decide +kernel)
theorem wm_319 : Cond.methodLink RX0 72 yX2_at ∈ lw_g := wm_t 319 (by decide +kernel) (by decide +kernel)
theorem wm_320 : Cond.methodLink RX0 80 yX1_whyNotMove ∈ lw_g := wm_t 320 (by decide +kernel) (by decide +kernel)
theorem wm_321 : Cond.instanceMethod yX1_whyNotMove ∈ lw_g := wm_t 321 (by decide +kernel) (by decide +kernel)
theorem wm_322 : Cond.selects RX1 yX1_whyNotMove yX1_whyNotMove ∈ lw_g := wm_t 322 (by decide +kernel) (by decide +kernel)
theorem wm_323 : Cond.code yX1_whyNotMove cX1_whyNotMove 4 (Option.some Jvm.ClassFile.FieldType.int) ∈ lw_g := wm_t 323 (by decide +kernel) (by decide +kernel)
theorem wm_324 : Cond.methodLink RX1 116 yX1_slotBehindMove ∈ lw_g := wm_t 324 (by decide +kernel) (by decide +kernel)
theorem wm_326 : Cond.instanceMethod yX1_slotBehindMove ∈ lw_g := wm_t 326 (by decide +kernel) (by decide +kernel)
theorem wm_327 : Cond.code yX1_slotBehindMove cX1_slotBehindMove 3 (Option.some Jvm.ClassFile.FieldType.int) ∈ lw_g := wm_t 327 (by decide +kernel) (by decide +kernel)
theorem wm_328 : Cond.methodLink RX1 74 yX1_lowestSlotFor ∈ lw_g := wm_t 328 (by decide +kernel) (by decide +kernel)
theorem wm_329 : Cond.instanceMethod yX1_lowestSlotFor ∈ lw_g := wm_t 329 (by decide +kernel) (by decide +kernel)
theorem wm_330 : Cond.selects RX1 yX1_lowestSlotFor yX1_lowestSlotFor ∈ lw_g := wm_t 330 (by decide +kernel) (by decide +kernel)
theorem wm_331 : Cond.code yX1_lowestSlotFor cX1_lowestSlotFor 4 (Option.some Jvm.ClassFile.FieldType.int) ∈ lw_g := wm_t 331 (by decide +kernel) (by decide +kernel)
theorem wm_332 : Cond.methodLink RX0 83 yX1_whyNotChange ∈ lw_g := wm_t 332 (by decide +kernel) (by decide +kernel)
theorem wm_333 : Cond.methodLink RX0 86 yX1_doMove ∈ lw_g := wm_t 333 (by decide +kernel) (by decide +kernel)
theorem wm_334 : Cond.instanceMethod yX1_doMove ∈ lw_g := wm_t 334 (by decide +kernel) (by decide +kernel)
theorem wm_335 : Cond.selects RX1 yX1_doMove yX1_doMove ∈ lw_g := wm_t 335 (by decide +kernel) (by decide +kernel)
theorem wm_336 : Cond.code yX1_doMove cX1_doMove 4 none ∈ lw_g := wm_t 336 (by decide +kernel) (by decide +kernel)
theorem wm_337 : Cond.methodLink RX1 129 yX1_pushStep ∈ lw_g := wm_t 337 (by decide +kernel) (by decide +kernel)
theorem wm_339 : Cond.instanceMethod yX1_pushStep ∈ lw_g := wm_t 339 (by decide +kernel) (by decide +kernel)
theorem wm_340 : Cond.code yX1_pushStep cX1_pushStep 3 none ∈ lw_g := wm_t 340 (by decide +kernel) (by decide +kernel)
theorem wm_341 : Cond.methodLink RX1 136 yX2_isFull ∈ lw_g := wm_t 341 (by decide +kernel) (by decide +kernel)
theorem wm_342 : Cond.methodLink RX1 140 yX2_addRow ∈ lw_g := wm_t 342 (by decide +kernel) (by decide +kernel)
theorem wm_343 : Cond.methodLink RX0 89 yX1_doChange ∈ lw_g := wm_t 343 (by decide +kernel) (by decide +kernel)
theorem wm_344 : Cond.instanceMethod yX1_doChange ∈ lw_g := wm_t 344 (by decide +kernel) (by decide +kernel)
theorem wm_345 : Cond.selects RX1 yX1_doChange yX1_doChange ∈ lw_g := wm_t 345 (by decide +kernel) (by decide +kernel)
theorem wm_346 : Cond.code yX1_doChange cX1_doChange 3 none ∈ lw_g := wm_t 346 (by decide +kernel) (by decide +kernel)
theorem wm_347 : Cond.methodLink RL 191 yX3_digest ∈ lw_g := wm_t 347 (by decide +kernel) (by decide +kernel)
theorem wm_348 : Cond.instanceMethod yX3_digest ∈ lw_g := wm_t 348 (by decide +kernel) (by decide +kernel)
theorem wm_349 : Cond.selects RX3 yX3_digest yX3_digest ∈ lw_g := wm_t 349 (by decide +kernel) (by decide +kernel)
theorem wm_350 : Cond.code yX3_digest cX3_digest 5 (Option.some Jvm.ClassFile.FieldType.long) ∈ lw_g := wm_t 350 (by decide +kernel) (by decide +kernel)
theorem wm_351 : Cond.constantLong RX3 229 (3511 : Int64) ∈ lw_g := wm_t 351 (by decide +kernel) (by decide +kernel)
theorem wm_352 : Cond.methodLink RX3 231 yX3_mix ∈ lw_g := wm_t 352 (by decide +kernel) (by decide +kernel)
theorem wm_353 : Cond.static yX3_mix ∈ lw_g := wm_t 353 (by decide +kernel) (by decide +kernel)
theorem wm_354 : Cond.code yX3_mix cX3_mix 3 (Option.some Jvm.ClassFile.FieldType.long) ∈ lw_g := wm_t 354 (by decide +kernel) (by decide +kernel)
theorem wm_355 : Cond.constantLong RX3 259 (31 : Int64) ∈ lw_g := wm_t 355 (by decide +kernel) (by decide +kernel)
theorem wm_356 : Cond.methodLink RX3 235 yX3_value ∈ lw_g := wm_t 356 (by decide +kernel) (by decide +kernel)
theorem wm_357 : Cond.instanceMethod yX3_value ∈ lw_g := wm_t 357 (by decide +kernel) (by decide +kernel)
theorem wm_358 : Cond.selects RX3 yX3_value yX3_value ∈ lw_g := wm_t 358 (by decide +kernel) (by decide +kernel)
theorem wm_359 : Cond.code yX3_value cX3_value 2 (Option.some Jvm.ClassFile.FieldType.int) ∈ lw_g := wm_t 359 (by decide +kernel) (by decide +kernel)
theorem wm_360 : Cond.methodLink RX3 38 yX3_checkRange ∈ lw_g := wm_t 360 (by decide +kernel) (by decide +kernel)
theorem wm_361 : Cond.static yX3_checkRange ∈ lw_g := wm_t 361 (by decide +kernel) (by decide +kernel)
theorem wm_362 : Cond.code yX3_checkRange cX3_checkRange 3 none ∈ lw_g := wm_t 362 (by decide +kernel) (by decide +kernel)
theorem wm_363 : Cond.classLink RX3 82 "java/lang/IllegalArgumentException" ∈ lw_g := wm_t 363 (by decide +kernel) (by decide +kernel)
theorem wm_364 : Cond.instantiable "java/lang/IllegalArgumentException" 6 ∈ lw_g := wm_t 364 (by decide +kernel) (by decide +kernel)
theorem wm_372 : Cond.selects "java/lang/IllegalArgumentException" ⟨"java/lang/Throwable", "fillInStackTrace", "(I)Ljava/lang/Throwable;"⟩ ⟨"java/lang/Throwable", "fillInStackTrace", "(I)Ljava/lang/Throwable;"⟩ ∈ lw_g := wm_t 372 (by decide +kernel) (by decide +kernel)
theorem wm_373 : Cond.selects "java/lang/IllegalArgumentException" ⟨"java/lang/Throwable", "fillInStackTrace", "()Ljava/lang/Throwable;"⟩ ⟨"java/lang/Throwable", "fillInStackTrace", "()Ljava/lang/Throwable;"⟩ ∈ lw_g := wm_t 373 (by decide +kernel) (by decide +kernel)
theorem wm_374 : Cond.lays "java/lang/IllegalArgumentException" "java/lang/Throwable" "cause" "Ljava/lang/Throwable;" ∈ lw_g := wm_t 374 (by decide +kernel) (by decide +kernel)
theorem wm_375 : Cond.lays "java/lang/Throwable" "java/lang/Throwable" "cause" "Ljava/lang/Throwable;" ∈ lw_g := wm_t 375 (by decide +kernel) (by decide +kernel)
theorem wm_376 : Cond.lays "java/lang/IllegalArgumentException" "java/lang/Throwable" "stackTrace" "[Ljava/lang/StackTraceElement;" ∈ lw_g := wm_t 376 (by decide +kernel) (by decide +kernel)
theorem wm_377 : Cond.lays "java/lang/Throwable" "java/lang/Throwable" "stackTrace" "[Ljava/lang/StackTraceElement;" ∈ lw_g := wm_t 377 (by decide +kernel) (by decide +kernel)
theorem wm_378 : Cond.lays "java/lang/IllegalArgumentException" "java/lang/Throwable" "suppressedExceptions" "Ljava/util/List;" ∈ lw_g := wm_t 378 (by decide +kernel) (by decide +kernel)
theorem wm_379 : Cond.lays "java/lang/Throwable" "java/lang/Throwable" "suppressedExceptions" "Ljava/util/List;" ∈ lw_g := wm_t 379 (by decide +kernel) (by decide +kernel)
theorem wm_380 : Cond.lays "java/lang/IllegalArgumentException" "java/lang/Throwable" "detailMessage" "Ljava/lang/String;" ∈ lw_g := wm_t 380 (by decide +kernel) (by decide +kernel)
theorem wm_381 : Cond.lays "java/lang/Throwable" "java/lang/Throwable" "detailMessage" "Ljava/lang/String;" ∈ lw_g := wm_t 381 (by decide +kernel) (by decide +kernel)
theorem wm_382 : Cond.lays "java/lang/IllegalArgumentException" "java/lang/Throwable" "backtrace" "Ljava/lang/Object;" ∈ lw_g := wm_t 382 (by decide +kernel) (by decide +kernel)
theorem wm_383 : Cond.lays "java/lang/Throwable" "java/lang/Throwable" "backtrace" "Ljava/lang/Object;" ∈ lw_g := wm_t 383 (by decide +kernel) (by decide +kernel)
theorem wm_384 : Cond.fieldLink "java/lang/Throwable" 198 "java/lang/Throwable" "backtrace" "Ljava/lang/Object;" ∈ lw_g := wm_t 384 (by decide +kernel) (by decide +kernel)
theorem wm_386 : Cond.instanceMethod ⟨"java/lang/Throwable", "<init>", "()V"⟩ ∈ lw_g := wm_t 386 (by decide +kernel) (by decide +kernel)
theorem wm_387 : Cond.code ⟨"java/lang/Throwable", "<init>", "()V"⟩ prog_15_method_1_code 1 none ∈ lw_g := wm_t 387 (by decide +kernel) (by decide +kernel)
theorem wm_388 : Cond.methodLink "java/lang/Throwable" 1 objectInit ∈ lw_g := wm_t 388 (by decide +kernel) (by decide +kernel)
theorem wm_389 : Cond.fieldLink "java/lang/Throwable" 13 "java/lang/Throwable" "UNASSIGNED_STACK" "[Ljava/lang/StackTraceElement;" ∈ lw_g := wm_t 389 (by decide +kernel) (by decide +kernel)
theorem wm_391 : Cond.fieldLink "java/lang/Throwable" 20 "java/lang/Throwable" "SUPPRESSED_SENTINEL" "Ljava/util/List;" ∈ lw_g := wm_t 391 (by decide +kernel) (by decide +kernel)
theorem wm_393 : Cond.methodLink "java/lang/Throwable" 27 ⟨"java/lang/Throwable", "fillInStackTrace", "()Ljava/lang/Throwable;"⟩ ∈ lw_g := wm_t 393 (by decide +kernel) (by decide +kernel)
theorem wm_394 : Cond.instanceMethod ⟨"java/lang/Throwable", "fillInStackTrace", "()Ljava/lang/Throwable;"⟩ ∈ lw_g := wm_t 394 (by decide +kernel) (by decide +kernel)
theorem wm_396 : Cond.selects "java/lang/IllegalStateException" ⟨"java/lang/Throwable", "fillInStackTrace", "()Ljava/lang/Throwable;"⟩ ⟨"java/lang/Throwable", "fillInStackTrace", "()Ljava/lang/Throwable;"⟩ ∈ lw_g := wm_t 396 (by decide +kernel) (by decide +kernel)
theorem wm_397 : Cond.selects "java/lang/IndexOutOfBoundsException" ⟨"java/lang/Throwable", "fillInStackTrace", "()Ljava/lang/Throwable;"⟩ ⟨"java/lang/Throwable", "fillInStackTrace", "()Ljava/lang/Throwable;"⟩ ∈ lw_g := wm_t 397 (by decide +kernel) (by decide +kernel)
theorem wm_399 : Cond.methodLink "java/lang/Throwable" 202 ⟨"java/lang/Throwable", "fillInStackTrace", "(I)Ljava/lang/Throwable;"⟩ ∈ lw_g := wm_t 399 (by decide +kernel) (by decide +kernel)
theorem wm_401 : Cond.instanceMethod ⟨"java/lang/Throwable", "fillInStackTrace", "(I)Ljava/lang/Throwable;"⟩ ∈ lw_g := wm_t 401 (by decide +kernel) (by decide +kernel)
theorem wm_402 : Cond.instantiable "java/lang/Throwable" 6 ∈ lw_g := wm_t 402 (by decide +kernel) (by decide +kernel)
theorem wm_403 : Cond.native ⟨"java/lang/Throwable", "fillInStackTrace", "(I)Ljava/lang/Throwable;"⟩ ∈ lw_g := wm_t 403 (by decide +kernel) (by decide +kernel)
theorem wm_405 : Cond.methodLink RX3 86 ⟨"java/lang/IllegalArgumentException", "<init>", "(Ljava/lang/String;)V"⟩ ∈ lw_g := wm_t 405 (by decide +kernel) (by decide +kernel)
theorem wm_406 : Cond.instanceMethod ⟨"java/lang/IllegalArgumentException", "<init>", "(Ljava/lang/String;)V"⟩ ∈ lw_g := wm_t 406 (by decide +kernel) (by decide +kernel)
theorem wm_407 : Cond.code ⟨"java/lang/IllegalArgumentException", "<init>", "(Ljava/lang/String;)V"⟩ prog_8_method_2_code 2 none ∈ lw_g := wm_t 407 (by decide +kernel) (by decide +kernel)
theorem wm_408 : Cond.methodLink "java/lang/IllegalArgumentException" 7 ⟨"java/lang/RuntimeException", "<init>", "(Ljava/lang/String;)V"⟩ ∈ lw_g := wm_t 408 (by decide +kernel) (by decide +kernel)
theorem wm_409 : Cond.instanceMethod ⟨"java/lang/RuntimeException", "<init>", "(Ljava/lang/String;)V"⟩ ∈ lw_g := wm_t 409 (by decide +kernel) (by decide +kernel)
theorem wm_410 : Cond.code ⟨"java/lang/RuntimeException", "<init>", "(Ljava/lang/String;)V"⟩ prog_12_method_2_code 2 none ∈ lw_g := wm_t 410 (by decide +kernel) (by decide +kernel)
theorem wm_411 : Cond.methodLink "java/lang/RuntimeException" 7 ⟨"java/lang/Exception", "<init>", "(Ljava/lang/String;)V"⟩ ∈ lw_g := wm_t 411 (by decide +kernel) (by decide +kernel)
theorem wm_412 : Cond.instanceMethod ⟨"java/lang/Exception", "<init>", "(Ljava/lang/String;)V"⟩ ∈ lw_g := wm_t 412 (by decide +kernel) (by decide +kernel)
theorem wm_413 : Cond.code ⟨"java/lang/Exception", "<init>", "(Ljava/lang/String;)V"⟩ prog_7_method_2_code 2 none ∈ lw_g := wm_t 413 (by decide +kernel) (by decide +kernel)
theorem wm_414 : Cond.methodLink "java/lang/Exception" 7 ⟨"java/lang/Throwable", "<init>", "(Ljava/lang/String;)V"⟩ ∈ lw_g := wm_t 414 (by decide +kernel) (by decide +kernel)
theorem wm_415 : Cond.instanceMethod ⟨"java/lang/Throwable", "<init>", "(Ljava/lang/String;)V"⟩ ∈ lw_g := wm_t 415 (by decide +kernel) (by decide +kernel)
theorem wm_416 : Cond.code ⟨"java/lang/Throwable", "<init>", "(Ljava/lang/String;)V"⟩ prog_15_method_2_code 2 none ∈ lw_g := wm_t 416 (by decide +kernel) (by decide +kernel)
theorem wm_418 : Cond.fieldLink "java/lang/Throwable" 31 "java/lang/Throwable" "detailMessage" "Ljava/lang/String;" ∈ lw_g := wm_t 418 (by decide +kernel) (by decide +kernel)
theorem wm_419 : Cond.fieldLink "java/lang/Throwable" 7 "java/lang/Throwable" "cause" "Ljava/lang/Throwable;" ∈ lw_g := wm_t 419 (by decide +kernel) (by decide +kernel)
theorem wm_420 : Cond.fieldLink "java/lang/Throwable" 17 "java/lang/Throwable" "stackTrace" "[Ljava/lang/StackTraceElement;" ∈ lw_g := wm_t 420 (by decide +kernel) (by decide +kernel)
theorem wm_421 : Cond.fieldLink "java/lang/Throwable" 24 "java/lang/Throwable" "suppressedExceptions" "Ljava/util/List;" ∈ lw_g := wm_t 421 (by decide +kernel) (by decide +kernel)
theorem wm_426 : Cond.lays "java/lang/IllegalArgumentException" "java/lang/Throwable" "depth" "I" ∈ lw_g := wm_t 426 (by decide +kernel) (by decide +kernel)
theorem wm_430 : Cond.arrayClass Jvm.ClassFile.FieldType.byte ∈ lw_g := wm_t 430 (by decide +kernel) (by decide +kernel)
theorem wm_431 : Cond.methodLink RX3 158 yX1_machinesStanding ∈ lw_g := wm_t 431 (by decide +kernel) (by decide +kernel)
theorem wm_432 : Cond.instanceMethod yX1_machinesStanding ∈ lw_g := wm_t 432 (by decide +kernel) (by decide +kernel)
theorem wm_433 : Cond.selects RX1 yX1_machinesStanding yX1_machinesStanding ∈ lw_g := wm_t 433 (by decide +kernel) (by decide +kernel)
theorem wm_434 : Cond.code yX1_machinesStanding cX1_machinesStanding 3 (Option.some Jvm.ClassFile.FieldType.int) ∈ lw_g := wm_t 434 (by decide +kernel) (by decide +kernel)
theorem wm_435 : Cond.methodLink RX3 164 yX1_firstWrong ∈ lw_g := wm_t 435 (by decide +kernel) (by decide +kernel)
theorem wm_436 : Cond.methodLink RX3 176 yX1_loadOfPhase ∈ lw_g := wm_t 436 (by decide +kernel) (by decide +kernel)
theorem wm_437 : Cond.methodLink RX3 238 yX3_mixRack ∈ lw_g := wm_t 437 (by decide +kernel) (by decide +kernel)
theorem wm_439 : Cond.instanceMethod yX3_mixRack ∈ lw_g := wm_t 439 (by decide +kernel) (by decide +kernel)
theorem wm_440 : Cond.code yX3_mixRack cX3_mixRack 7 (Option.some Jvm.ClassFile.FieldType.long) ∈ lw_g := wm_t 440 (by decide +kernel) (by decide +kernel)
theorem wm_441 : Cond.methodLink RX3 253 yX3_rack ∈ lw_g := wm_t 441 (by decide +kernel) (by decide +kernel)
theorem wm_442 : Cond.instanceMethod yX3_rack ∈ lw_g := wm_t 442 (by decide +kernel) (by decide +kernel)
theorem wm_443 : Cond.selects RX3 yX3_rack yX3_rack ∈ lw_g := wm_t 443 (by decide +kernel) (by decide +kernel)
theorem wm_444 : Cond.code yX3_rack cX3_rack 3 (Option.some Jvm.ClassFile.FieldType.int) ∈ lw_g := wm_t 444 (by decide +kernel) (by decide +kernel)
theorem wm_445 : Cond.methodLink RX3 34 yX3_checkRack ∈ lw_g := wm_t 445 (by decide +kernel) (by decide +kernel)
theorem wm_446 : Cond.static yX3_checkRack ∈ lw_g := wm_t 446 (by decide +kernel) (by decide +kernel)
theorem wm_447 : Cond.code yX3_checkRack cX3_checkRack 1 none ∈ lw_g := wm_t 447 (by decide +kernel) (by decide +kernel)
theorem wm_448 : Cond.classLink RX3 108 "java/lang/IndexOutOfBoundsException" ∈ lw_g := wm_t 448 (by decide +kernel) (by decide +kernel)
theorem wm_449 : Cond.instantiable "java/lang/IndexOutOfBoundsException" 6 ∈ lw_g := wm_t 449 (by decide +kernel) (by decide +kernel)
theorem wm_451 : Cond.selects "java/lang/IndexOutOfBoundsException" ⟨"java/lang/Throwable", "fillInStackTrace", "(I)Ljava/lang/Throwable;"⟩ ⟨"java/lang/Throwable", "fillInStackTrace", "(I)Ljava/lang/Throwable;"⟩ ∈ lw_g := wm_t 451 (by decide +kernel) (by decide +kernel)
theorem wm_452 : Cond.lays "java/lang/IndexOutOfBoundsException" "java/lang/Throwable" "cause" "Ljava/lang/Throwable;" ∈ lw_g := wm_t 452 (by decide +kernel) (by decide +kernel)
theorem wm_453 : Cond.lays "java/lang/IndexOutOfBoundsException" "java/lang/Throwable" "stackTrace" "[Ljava/lang/StackTraceElement;" ∈ lw_g := wm_t 453 (by decide +kernel) (by decide +kernel)
theorem wm_454 : Cond.lays "java/lang/IndexOutOfBoundsException" "java/lang/Throwable" "suppressedExceptions" "Ljava/util/List;" ∈ lw_g := wm_t 454 (by decide +kernel) (by decide +kernel)
theorem wm_455 : Cond.lays "java/lang/IndexOutOfBoundsException" "java/lang/Throwable" "detailMessage" "Ljava/lang/String;" ∈ lw_g := wm_t 455 (by decide +kernel) (by decide +kernel)
theorem wm_456 : Cond.lays "java/lang/IndexOutOfBoundsException" "java/lang/Throwable" "backtrace" "Ljava/lang/Object;" ∈ lw_g := wm_t 456 (by decide +kernel) (by decide +kernel)
theorem wm_458 : Cond.methodLink RX3 112 ⟨"java/lang/IndexOutOfBoundsException", "<init>", "(Ljava/lang/String;)V"⟩ ∈ lw_g := wm_t 458 (by decide +kernel) (by decide +kernel)
theorem wm_459 : Cond.instanceMethod ⟨"java/lang/IndexOutOfBoundsException", "<init>", "(Ljava/lang/String;)V"⟩ ∈ lw_g := wm_t 459 (by decide +kernel) (by decide +kernel)
theorem wm_460 : Cond.code ⟨"java/lang/IndexOutOfBoundsException", "<init>", "(Ljava/lang/String;)V"⟩ prog_10_method_2_code 2 none ∈ lw_g := wm_t 460 (by decide +kernel) (by decide +kernel)
theorem wm_461 : Cond.methodLink "java/lang/IndexOutOfBoundsException" 7 ⟨"java/lang/RuntimeException", "<init>", "(Ljava/lang/String;)V"⟩ ∈ lw_g := wm_t 461 (by decide +kernel) (by decide +kernel)
theorem wm_462 : Cond.lays "java/lang/IndexOutOfBoundsException" "java/lang/Throwable" "depth" "I" ∈ lw_g := wm_t 462 (by decide +kernel) (by decide +kernel)
theorem wm_464 : Cond.methodLink RX3 132 yX1_loadOfRack ∈ lw_g := wm_t 464 (by decide +kernel) (by decide +kernel)
theorem wm_465 : Cond.methodLink RX3 135 yX1_machinesIn ∈ lw_g := wm_t 465 (by decide +kernel) (by decide +kernel)
theorem wm_466 : Cond.instanceMethod yX1_machinesIn ∈ lw_g := wm_t 466 (by decide +kernel) (by decide +kernel)
theorem wm_467 : Cond.selects RX1 yX1_machinesIn yX1_machinesIn ∈ lw_g := wm_t 467 (by decide +kernel) (by decide +kernel)
theorem wm_468 : Cond.code yX1_machinesIn cX1_machinesIn 4 (Option.some Jvm.ClassFile.FieldType.int) ∈ lw_g := wm_t 468 (by decide +kernel) (by decide +kernel)
theorem wm_469 : Cond.methodLink RX3 141 yX1_greatestSizeFor ∈ lw_g := wm_t 469 (by decide +kernel) (by decide +kernel)
theorem wm_470 : Cond.instanceMethod yX1_greatestSizeFor ∈ lw_g := wm_t 470 (by decide +kernel) (by decide +kernel)
theorem wm_471 : Cond.selects RX1 yX1_greatestSizeFor yX1_greatestSizeFor ∈ lw_g := wm_t 471 (by decide +kernel) (by decide +kernel)
theorem wm_472 : Cond.code yX1_greatestSizeFor cX1_greatestSizeFor 3 (Option.some Jvm.ClassFile.FieldType.int) ∈ lw_g := wm_t 472 (by decide +kernel) (by decide +kernel)
theorem wm_473 : Cond.methodLink RX3 144 yX1_loadOfRackOnPhase ∈ lw_g := wm_t 473 (by decide +kernel) (by decide +kernel)
theorem wm_474 : Cond.instanceMethod yX1_loadOfRackOnPhase ∈ lw_g := wm_t 474 (by decide +kernel) (by decide +kernel)
theorem wm_475 : Cond.selects RX1 yX1_loadOfRackOnPhase yX1_loadOfRackOnPhase ∈ lw_g := wm_t 475 (by decide +kernel) (by decide +kernel)
theorem wm_476 : Cond.code yX1_loadOfRackOnPhase cX1_loadOfRackOnPhase 5 (Option.some Jvm.ClassFile.FieldType.int) ∈ lw_g := wm_t 476 (by decide +kernel) (by decide +kernel)
theorem wm_477 : Cond.methodLink RX3 256 yX3_slot ∈ lw_g := wm_t 477 (by decide +kernel) (by decide +kernel)
theorem wm_478 : Cond.instanceMethod yX3_slot ∈ lw_g := wm_t 478 (by decide +kernel) (by decide +kernel)
theorem wm_479 : Cond.selects RX3 yX3_slot yX3_slot ∈ lw_g := wm_t 479 (by decide +kernel) (by decide +kernel)
theorem wm_480 : Cond.code yX3_slot cX3_slot 3 (Option.some Jvm.ClassFile.FieldType.int) ∈ lw_g := wm_t 480 (by decide +kernel) (by decide +kernel)
theorem wm_482 : Cond.methodLink RX3 149 yX1_machineAt ∈ lw_g := wm_t 482 (by decide +kernel) (by decide +kernel)
theorem wm_483 : Cond.instanceMethod yX1_machineAt ∈ lw_g := wm_t 483 (by decide +kernel) (by decide +kernel)
theorem wm_484 : Cond.selects RX1 yX1_machineAt yX1_machineAt ∈ lw_g := wm_t 484 (by decide +kernel) (by decide +kernel)
theorem wm_485 : Cond.code yX1_machineAt cX1_machineAt 3 (Option.some Jvm.ClassFile.FieldType.int) ∈ lw_g := wm_t 485 (by decide +kernel) (by decide +kernel)
theorem wm_486 : Cond.methodLink RX3 241 yX3_tray ∈ lw_g := wm_t 486 (by decide +kernel) (by decide +kernel)
theorem wm_487 : Cond.instanceMethod yX3_tray ∈ lw_g := wm_t 487 (by decide +kernel) (by decide +kernel)
theorem wm_488 : Cond.selects RX3 yX3_tray yX3_tray ∈ lw_g := wm_t 488 (by decide +kernel) (by decide +kernel)
theorem wm_489 : Cond.code yX3_tray cX3_tray 2 (Option.some Jvm.ClassFile.FieldType.int) ∈ lw_g := wm_t 489 (by decide +kernel) (by decide +kernel)
theorem wm_490 : Cond.methodLink RX3 49 yX3_checkTray ∈ lw_g := wm_t 490 (by decide +kernel) (by decide +kernel)
theorem wm_491 : Cond.static yX3_checkTray ∈ lw_g := wm_t 491 (by decide +kernel) (by decide +kernel)
theorem wm_492 : Cond.code yX3_checkTray cX3_checkTray 1 none ∈ lw_g := wm_t 492 (by decide +kernel) (by decide +kernel)
theorem wm_494 : Cond.methodLink RX3 155 yX1_cablesInTray ∈ lw_g := wm_t 494 (by decide +kernel) (by decide +kernel)
theorem wm_495 : Cond.methodLink RX3 244 yX3_machine ∈ lw_g := wm_t 495 (by decide +kernel) (by decide +kernel)
theorem wm_496 : Cond.instanceMethod yX3_machine ∈ lw_g := wm_t 496 (by decide +kernel) (by decide +kernel)
theorem wm_497 : Cond.selects RX3 yX3_machine yX3_machine ∈ lw_g := wm_t 497 (by decide +kernel) (by decide +kernel)
theorem wm_498 : Cond.code yX3_machine cX3_machine 3 (Option.some Jvm.ClassFile.FieldType.int) ∈ lw_g := wm_t 498 (by decide +kernel) (by decide +kernel)
theorem wm_499 : Cond.methodLink RX3 79 yX3_checkMachine ∈ lw_g := wm_t 499 (by decide +kernel) (by decide +kernel)
theorem wm_501 : Cond.instanceMethod yX3_checkMachine ∈ lw_g := wm_t 501 (by decide +kernel) (by decide +kernel)
theorem wm_502 : Cond.code yX3_checkMachine cX3_checkMachine 2 none ∈ lw_g := wm_t 502 (by decide +kernel) (by decide +kernel)
theorem wm_503 : Cond.methodLink RX3 104 yX2_hasRow ∈ lw_g := wm_t 503 (by decide +kernel) (by decide +kernel)
theorem wm_505 : Cond.methodLink RX3 121 yX1_cablesOf ∈ lw_g := wm_t 505 (by decide +kernel) (by decide +kernel)
theorem wm_506 : Cond.instanceMethod yX1_cablesOf ∈ lw_g := wm_t 506 (by decide +kernel) (by decide +kernel)
theorem wm_507 : Cond.selects RX1 yX1_cablesOf yX1_cablesOf ∈ lw_g := wm_t 507 (by decide +kernel) (by decide +kernel)
theorem wm_508 : Cond.code yX1_cablesOf cX1_cablesOf 4 (Option.some Jvm.ClassFile.FieldType.int) ∈ lw_g := wm_t 508 (by decide +kernel) (by decide +kernel)
theorem wm_509 : Cond.methodLink RX3 125 yX1_isFrozen ∈ lw_g := wm_t 509 (by decide +kernel) (by decide +kernel)
theorem wm_510 : Cond.methodLink RX3 128 yX2_at ∈ lw_g := wm_t 510 (by decide +kernel) (by decide +kernel)
theorem wm_511 : Cond.methodLink RX3 247 yX3_cable ∈ lw_g := wm_t 511 (by decide +kernel) (by decide +kernel)
theorem wm_512 : Cond.instanceMethod yX3_cable ∈ lw_g := wm_t 512 (by decide +kernel) (by decide +kernel)
theorem wm_513 : Cond.selects RX3 yX3_cable yX3_cable ∈ lw_g := wm_t 513 (by decide +kernel) (by decide +kernel)
theorem wm_514 : Cond.code yX3_cable cX3_cable 3 (Option.some Jvm.ClassFile.FieldType.int) ∈ lw_g := wm_t 514 (by decide +kernel) (by decide +kernel)
theorem wm_515 : Cond.methodLink RX3 92 yX3_checkCable ∈ lw_g := wm_t 515 (by decide +kernel) (by decide +kernel)
theorem wm_517 : Cond.instanceMethod yX3_checkCable ∈ lw_g := wm_t 517 (by decide +kernel) (by decide +kernel)
theorem wm_518 : Cond.code yX3_checkCable cX3_checkCable 2 none ∈ lw_g := wm_t 518 (by decide +kernel) (by decide +kernel)
theorem wm_520 : Cond.methodLink RX3 152 yX1_needOfCable ∈ lw_g := wm_t 520 (by decide +kernel) (by decide +kernel)
theorem wm_521 : Cond.methodLink RX3 250 yX3_pile ∈ lw_g := wm_t 521 (by decide +kernel) (by decide +kernel)
theorem wm_522 : Cond.instanceMethod yX3_pile ∈ lw_g := wm_t 522 (by decide +kernel) (by decide +kernel)
theorem wm_523 : Cond.selects RX3 yX3_pile yX3_pile ∈ lw_g := wm_t 523 (by decide +kernel) (by decide +kernel)
theorem wm_524 : Cond.code yX3_pile cX3_pile 3 (Option.some Jvm.ClassFile.FieldType.int) ∈ lw_g := wm_t 524 (by decide +kernel) (by decide +kernel)
theorem wm_526 : Cond.methodLink RL 90 yL_setLimit ∈ lw_g := wm_t 526 (by decide +kernel) (by decide +kernel)
theorem wm_527 : Cond.static yL_setLimit ∈ lw_g := wm_t 527 (by decide +kernel) (by decide +kernel)
theorem wm_528 : Cond.codeWith yL_setLimit cL_setLimit 5 (Option.some Jvm.ClassFile.FieldType.int) [((0 : Nat), 10 , 13 , 13 ), ((0 : Nat), (10 : Nat), (17 : Nat), (15 : Nat)) ] ∈ lw_g := wm_t 528 (by decide +kernel) (by decide +kernel)
theorem wm_529 : Cond.classLink RL 13 "java/lang/IndexOutOfBoundsException" ∈ lw_g := wm_t 529 (by decide +kernel) (by decide +kernel)
theorem wm_530 : Cond.classLink RL 15 "java/lang/IllegalArgumentException" ∈ lw_g := wm_t 530 (by decide +kernel) (by decide +kernel)
theorem wm_531 : Cond.methodLink RL 7 yX3_setLimit ∈ lw_g := wm_t 531 (by decide +kernel) (by decide +kernel)
theorem wm_532 : Cond.instanceMethod yX3_setLimit ∈ lw_g := wm_t 532 (by decide +kernel) (by decide +kernel)
theorem wm_533 : Cond.selects RX3 yX3_setLimit yX3_setLimit ∈ lw_g := wm_t 533 (by decide +kernel) (by decide +kernel)
theorem wm_534 : Cond.code yX3_setLimit cX3_setLimit 4 (Option.some Jvm.ClassFile.FieldType.int) ∈ lw_g := wm_t 534 (by decide +kernel) (by decide +kernel)
theorem wm_535 : Cond.methodLink RL 99 yL_setTray ∈ lw_g := wm_t 535 (by decide +kernel) (by decide +kernel)
theorem wm_536 : Cond.static yL_setTray ∈ lw_g := wm_t 536 (by decide +kernel) (by decide +kernel)
theorem wm_537 : Cond.codeWith yL_setTray cL_setTray 5 (Option.some Jvm.ClassFile.FieldType.int) [((0 : Nat), 10 , 13 , 13 ), ((0 : Nat), (10 : Nat), (17 : Nat), (15 : Nat)) ] ∈ lw_g := wm_t 537 (by decide +kernel) (by decide +kernel)
theorem wm_538 : Cond.methodLink RL 17 yX3_setTray ∈ lw_g := wm_t 538 (by decide +kernel) (by decide +kernel)
theorem wm_539 : Cond.instanceMethod yX3_setTray ∈ lw_g := wm_t 539 (by decide +kernel) (by decide +kernel)
theorem wm_540 : Cond.selects RX3 yX3_setTray yX3_setTray ∈ lw_g := wm_t 540 (by decide +kernel) (by decide +kernel)
theorem wm_541 : Cond.code yX3_setTray cX3_setTray 4 (Option.some Jvm.ClassFile.FieldType.int) ∈ lw_g := wm_t 541 (by decide +kernel) (by decide +kernel)
theorem wm_542 : Cond.methodLink RL 102 yL_setLevel ∈ lw_g := wm_t 542 (by decide +kernel) (by decide +kernel)
theorem wm_543 : Cond.static yL_setLevel ∈ lw_g := wm_t 543 (by decide +kernel) (by decide +kernel)
theorem wm_544 : Cond.codeWith yL_setLevel cL_setLevel 4 (Option.some Jvm.ClassFile.FieldType.int) [((0 : Nat), 9 , 12 , 15 )] ∈ lw_g := wm_t 544 (by decide +kernel) (by decide +kernel)
theorem wm_545 : Cond.methodLink RL 20 yX3_setLevel ∈ lw_g := wm_t 545 (by decide +kernel) (by decide +kernel)
theorem wm_546 : Cond.instanceMethod yX3_setLevel ∈ lw_g := wm_t 546 (by decide +kernel) (by decide +kernel)
theorem wm_547 : Cond.selects RX3 yX3_setLevel yX3_setLevel ∈ lw_g := wm_t 547 (by decide +kernel) (by decide +kernel)
theorem wm_548 : Cond.code yX3_setLevel cX3_setLevel 3 (Option.some Jvm.ClassFile.FieldType.int) ∈ lw_g := wm_t 548 (by decide +kernel) (by decide +kernel)
theorem wm_549 : Cond.methodLink RL 106 yL_addMachine ∈ lw_g := wm_t 549 (by decide +kernel) (by decide +kernel)
theorem wm_550 : Cond.static yL_addMachine ∈ lw_g := wm_t 550 (by decide +kernel) (by decide +kernel)
theorem wm_551 : Cond.codeWith yL_addMachine cL_addMachine 7 (Option.some Jvm.ClassFile.FieldType.int) [((0 : Nat), 14 , 17 , 15 ), ((0 : Nat), (14 : Nat), (21 : Nat), (28 : Nat)) ] ∈ lw_g := wm_t 551 (by decide +kernel) (by decide +kernel)
theorem wm_552 : Cond.classLink RL 28 "java/lang/IllegalStateException" ∈ lw_g := wm_t 552 (by decide +kernel) (by decide +kernel)
theorem wm_553 : Cond.methodLink RL 24 yX3_addMachine ∈ lw_g := wm_t 553 (by decide +kernel) (by decide +kernel)
theorem wm_554 : Cond.instanceMethod yX3_addMachine ∈ lw_g := wm_t 554 (by decide +kernel) (by decide +kernel)
theorem wm_555 : Cond.selects RX3 yX3_addMachine yX3_addMachine ∈ lw_g := wm_t 555 (by decide +kernel) (by decide +kernel)
theorem wm_556 : Cond.code yX3_addMachine cX3_addMachine 6 (Option.some Jvm.ClassFile.FieldType.int) ∈ lw_g := wm_t 556 (by decide +kernel) (by decide +kernel)
theorem wm_557 : Cond.methodLink RX3 62 yX3_checkSpace ∈ lw_g := wm_t 557 (by decide +kernel) (by decide +kernel)
theorem wm_558 : Cond.static yX3_checkSpace ∈ lw_g := wm_t 558 (by decide +kernel) (by decide +kernel)
theorem wm_559 : Cond.code yX3_checkSpace cX3_checkSpace 1 none ∈ lw_g := wm_t 559 (by decide +kernel) (by decide +kernel)
theorem wm_560 : Cond.methodLink RX3 271 yX2_isFull ∈ lw_g := wm_t 560 (by decide +kernel) (by decide +kernel)
theorem wm_561 : Cond.classLink RX3 116 "java/lang/IllegalStateException" ∈ lw_g := wm_t 561 (by decide +kernel) (by decide +kernel)
theorem wm_562 : Cond.instantiable "java/lang/IllegalStateException" 6 ∈ lw_g := wm_t 562 (by decide +kernel) (by decide +kernel)
theorem wm_564 : Cond.selects "java/lang/IllegalStateException" ⟨"java/lang/Throwable", "fillInStackTrace", "(I)Ljava/lang/Throwable;"⟩ ⟨"java/lang/Throwable", "fillInStackTrace", "(I)Ljava/lang/Throwable;"⟩ ∈ lw_g := wm_t 564 (by decide +kernel) (by decide +kernel)
theorem wm_565 : Cond.lays "java/lang/IllegalStateException" "java/lang/Throwable" "cause" "Ljava/lang/Throwable;" ∈ lw_g := wm_t 565 (by decide +kernel) (by decide +kernel)
theorem wm_566 : Cond.lays "java/lang/IllegalStateException" "java/lang/Throwable" "stackTrace" "[Ljava/lang/StackTraceElement;" ∈ lw_g := wm_t 566 (by decide +kernel) (by decide +kernel)
theorem wm_567 : Cond.lays "java/lang/IllegalStateException" "java/lang/Throwable" "suppressedExceptions" "Ljava/util/List;" ∈ lw_g := wm_t 567 (by decide +kernel) (by decide +kernel)
theorem wm_568 : Cond.lays "java/lang/IllegalStateException" "java/lang/Throwable" "detailMessage" "Ljava/lang/String;" ∈ lw_g := wm_t 568 (by decide +kernel) (by decide +kernel)
theorem wm_569 : Cond.lays "java/lang/IllegalStateException" "java/lang/Throwable" "backtrace" "Ljava/lang/Object;" ∈ lw_g := wm_t 569 (by decide +kernel) (by decide +kernel)
theorem wm_571 : Cond.methodLink RX3 120 ⟨"java/lang/IllegalStateException", "<init>", "(Ljava/lang/String;)V"⟩ ∈ lw_g := wm_t 571 (by decide +kernel) (by decide +kernel)
theorem wm_572 : Cond.instanceMethod ⟨"java/lang/IllegalStateException", "<init>", "(Ljava/lang/String;)V"⟩ ∈ lw_g := wm_t 572 (by decide +kernel) (by decide +kernel)
theorem wm_573 : Cond.code ⟨"java/lang/IllegalStateException", "<init>", "(Ljava/lang/String;)V"⟩ prog_9_method_2_code 2 none ∈ lw_g := wm_t 573 (by decide +kernel) (by decide +kernel)
theorem wm_574 : Cond.methodLink "java/lang/IllegalStateException" 7 ⟨"java/lang/RuntimeException", "<init>", "(Ljava/lang/String;)V"⟩ ∈ lw_g := wm_t 574 (by decide +kernel) (by decide +kernel)
theorem wm_575 : Cond.lays "java/lang/IllegalStateException" "java/lang/Throwable" "depth" "I" ∈ lw_g := wm_t 575 (by decide +kernel) (by decide +kernel)
theorem wm_577 : Cond.methodLink RX3 66 yX2_addRow ∈ lw_g := wm_t 577 (by decide +kernel) (by decide +kernel)
theorem wm_578 : Cond.methodLink RX3 72 yX2_put ∈ lw_g := wm_t 578 (by decide +kernel) (by decide +kernel)
theorem wm_579 : Cond.methodLink RX3 75 yX1_place ∈ lw_g := wm_t 579 (by decide +kernel) (by decide +kernel)
theorem wm_580 : Cond.methodLink RL 110 yL_addCable ∈ lw_g := wm_t 580 (by decide +kernel) (by decide +kernel)
theorem wm_581 : Cond.static yL_addCable ∈ lw_g := wm_t 581 (by decide +kernel) (by decide +kernel)
theorem wm_582 : Cond.codeWith yL_addCable cL_addCable 6 (Option.some Jvm.ClassFile.FieldType.int) [((0 : Nat), 12 , 15 , 13 ), ((0 : Nat), (12 : Nat), (19 : Nat), (15 : Nat)) , ((0 : Nat), (12 : Nat), (23 : Nat), (28 : Nat)) ] ∈ lw_g := wm_t 582 (by decide +kernel) (by decide +kernel)
theorem wm_583 : Cond.methodLink RL 30 yX3_addCable ∈ lw_g := wm_t 583 (by decide +kernel) (by decide +kernel)
theorem wm_584 : Cond.instanceMethod yX3_addCable ∈ lw_g := wm_t 584 (by decide +kernel) (by decide +kernel)
theorem wm_585 : Cond.selects RX3 yX3_addCable yX3_addCable ∈ lw_g := wm_t 585 (by decide +kernel) (by decide +kernel)
theorem wm_586 : Cond.code yX3_addCable cX3_addCable 5 (Option.some Jvm.ClassFile.FieldType.int) ∈ lw_g := wm_t 586 (by decide +kernel) (by decide +kernel)
theorem wm_588 : Cond.methodLink RL 114 yL_removeCable ∈ lw_g := wm_t 588 (by decide +kernel) (by decide +kernel)
theorem wm_589 : Cond.static yL_removeCable ∈ lw_g := wm_t 589 (by decide +kernel) (by decide +kernel)
theorem wm_590 : Cond.codeWith yL_removeCable cL_removeCable 4 (Option.some Jvm.ClassFile.FieldType.int) [((0 : Nat), 9 , 12 , 13 )] ∈ lw_g := wm_t 590 (by decide +kernel) (by decide +kernel)
theorem wm_591 : Cond.methodLink RL 34 yX3_removeCable ∈ lw_g := wm_t 591 (by decide +kernel) (by decide +kernel)
theorem wm_592 : Cond.instanceMethod yX3_removeCable ∈ lw_g := wm_t 592 (by decide +kernel) (by decide +kernel)
theorem wm_593 : Cond.selects RX3 yX3_removeCable yX3_removeCable ∈ lw_g := wm_t 593 (by decide +kernel) (by decide +kernel)
theorem wm_594 : Cond.code yX3_removeCable cX3_removeCable 2 (Option.some Jvm.ClassFile.FieldType.int) ∈ lw_g := wm_t 594 (by decide +kernel) (by decide +kernel)
theorem wm_595 : Cond.methodLink RX3 95 yX2_removeRow ∈ lw_g := wm_t 595 (by decide +kernel) (by decide +kernel)
theorem wm_596 : Cond.methodLink RL 117 yL_addFreeze ∈ lw_g := wm_t 596 (by decide +kernel) (by decide +kernel)
theorem wm_597 : Cond.static yL_addFreeze ∈ lw_g := wm_t 597 (by decide +kernel) (by decide +kernel)
theorem wm_598 : Cond.codeWith yL_addFreeze cL_addFreeze 6 (Option.some Jvm.ClassFile.FieldType.int) [((0 : Nat), 12 , 15 , 15 ), ((0 : Nat), (12 : Nat), (19 : Nat), (28 : Nat)) ] ∈ lw_g := wm_t 598 (by decide +kernel) (by decide +kernel)
theorem wm_599 : Cond.methodLink RL 37 yX3_addFreeze ∈ lw_g := wm_t 599 (by decide +kernel) (by decide +kernel)
theorem wm_600 : Cond.instanceMethod yX3_addFreeze ∈ lw_g := wm_t 600 (by decide +kernel) (by decide +kernel)
theorem wm_601 : Cond.selects RX3 yX3_addFreeze yX3_addFreeze ∈ lw_g := wm_t 601 (by decide +kernel) (by decide +kernel)
theorem wm_602 : Cond.code yX3_addFreeze cX3_addFreeze 5 (Option.some Jvm.ClassFile.FieldType.int) ∈ lw_g := wm_t 602 (by decide +kernel) (by decide +kernel)
theorem wm_603 : Cond.methodLink RL 120 yL_removeFreeze ∈ lw_g := wm_t 603 (by decide +kernel) (by decide +kernel)
theorem wm_604 : Cond.static yL_removeFreeze ∈ lw_g := wm_t 604 (by decide +kernel) (by decide +kernel)
theorem wm_605 : Cond.codeWith yL_removeFreeze cL_removeFreeze 4 (Option.some Jvm.ClassFile.FieldType.int) [((0 : Nat), 9 , 12 , 13 )] ∈ lw_g := wm_t 605 (by decide +kernel) (by decide +kernel)
theorem wm_606 : Cond.methodLink RL 40 yX3_removeFreeze ∈ lw_g := wm_t 606 (by decide +kernel) (by decide +kernel)
theorem wm_607 : Cond.instanceMethod yX3_removeFreeze ∈ lw_g := wm_t 607 (by decide +kernel) (by decide +kernel)
theorem wm_608 : Cond.selects RX3 yX3_removeFreeze yX3_removeFreeze ∈ lw_g := wm_t 608 (by decide +kernel) (by decide +kernel)
theorem wm_609 : Cond.code yX3_removeFreeze cX3_removeFreeze 2 (Option.some Jvm.ClassFile.FieldType.int) ∈ lw_g := wm_t 609 (by decide +kernel) (by decide +kernel)
theorem wm_611 : Cond.methodLink RL 123 yL_pass ∈ lw_g := wm_t 611 (by decide +kernel) (by decide +kernel)
theorem wm_612 : Cond.static yL_pass ∈ lw_g := wm_t 612 (by decide +kernel) (by decide +kernel)
theorem wm_613 : Cond.codeWith yL_pass cL_pass 4 (Option.some Jvm.ClassFile.FieldType.int) [((0 : Nat), 9 , 12 , 15 ), ((0 : Nat), (9 : Nat), (15 : Nat), (28 : Nat)) ] ∈ lw_g := wm_t 613 (by decide +kernel) (by decide +kernel)
theorem wm_614 : Cond.methodLink RL 43 yX3_pass ∈ lw_g := wm_t 614 (by decide +kernel) (by decide +kernel)
theorem wm_615 : Cond.instanceMethod yX3_pass ∈ lw_g := wm_t 615 (by decide +kernel) (by decide +kernel)
theorem wm_616 : Cond.selects RX3 yX3_pass yX3_pass ∈ lw_g := wm_t 616 (by decide +kernel) (by decide +kernel)
theorem wm_617 : Cond.code yX3_pass cX3_pass 2 (Option.some Jvm.ClassFile.FieldType.int) ∈ lw_g := wm_t 617 (by decide +kernel) (by decide +kernel)
theorem wm_619 : Cond.methodLink RL 126 yL_machine ∈ lw_g := wm_t 619 (by decide +kernel) (by decide +kernel)
theorem wm_620 : Cond.static yL_machine ∈ lw_g := wm_t 620 (by decide +kernel) (by decide +kernel)
theorem wm_621 : Cond.codeWith yL_machine cL_machine 5 (Option.some Jvm.ClassFile.FieldType.int) [((0 : Nat), 10 , 13 , 13 ), ((0 : Nat), (10 : Nat), (17 : Nat), (15 : Nat)) ] ∈ lw_g := wm_t 621 (by decide +kernel) (by decide +kernel)
theorem wm_622 : Cond.methodLink RL 46 yX3_machine ∈ lw_g := wm_t 622 (by decide +kernel) (by decide +kernel)
theorem wm_623 : Cond.methodLink RL 129 yL_rack ∈ lw_g := wm_t 623 (by decide +kernel) (by decide +kernel)
theorem wm_624 : Cond.static yL_rack ∈ lw_g := wm_t 624 (by decide +kernel) (by decide +kernel)
theorem wm_625 : Cond.codeWith yL_rack cL_rack 5 (Option.some Jvm.ClassFile.FieldType.int) [((0 : Nat), 10 , 13 , 13 ), ((0 : Nat), (10 : Nat), (17 : Nat), (15 : Nat)) ] ∈ lw_g := wm_t 625 (by decide +kernel) (by decide +kernel)
theorem wm_626 : Cond.methodLink RL 49 yX3_rack ∈ lw_g := wm_t 626 (by decide +kernel) (by decide +kernel)
theorem wm_627 : Cond.methodLink RL 132 yL_slot ∈ lw_g := wm_t 627 (by decide +kernel) (by decide +kernel)
theorem wm_628 : Cond.static yL_slot ∈ lw_g := wm_t 628 (by decide +kernel) (by decide +kernel)
theorem wm_629 : Cond.codeWith yL_slot cL_slot 5 (Option.some Jvm.ClassFile.FieldType.int) [((0 : Nat), 10 , 13 , 13 )] ∈ lw_g := wm_t 629 (by decide +kernel) (by decide +kernel)
theorem wm_630 : Cond.methodLink RL 52 yX3_slot ∈ lw_g := wm_t 630 (by decide +kernel) (by decide +kernel)
theorem wm_631 : Cond.methodLink RL 135 yL_cable ∈ lw_g := wm_t 631 (by decide +kernel) (by decide +kernel)
theorem wm_632 : Cond.static yL_cable ∈ lw_g := wm_t 632 (by decide +kernel) (by decide +kernel)
theorem wm_633 : Cond.codeWith yL_cable cL_cable 5 (Option.some Jvm.ClassFile.FieldType.int) [((0 : Nat), 10 , 13 , 13 ), ((0 : Nat), (10 : Nat), (17 : Nat), (15 : Nat)) ] ∈ lw_g := wm_t 633 (by decide +kernel) (by decide +kernel)
theorem wm_634 : Cond.methodLink RL 55 yX3_cable ∈ lw_g := wm_t 634 (by decide +kernel) (by decide +kernel)
theorem wm_635 : Cond.methodLink RL 138 yL_tray ∈ lw_g := wm_t 635 (by decide +kernel) (by decide +kernel)
theorem wm_636 : Cond.static yL_tray ∈ lw_g := wm_t 636 (by decide +kernel) (by decide +kernel)
theorem wm_637 : Cond.codeWith yL_tray cL_tray 4 (Option.some Jvm.ClassFile.FieldType.int) [((0 : Nat), 9 , 12 , 13 )] ∈ lw_g := wm_t 637 (by decide +kernel) (by decide +kernel)
theorem wm_638 : Cond.methodLink RL 58 yX3_tray ∈ lw_g := wm_t 638 (by decide +kernel) (by decide +kernel)
theorem wm_639 : Cond.methodLink RL 141 yL_value ∈ lw_g := wm_t 639 (by decide +kernel) (by decide +kernel)
theorem wm_640 : Cond.static yL_value ∈ lw_g := wm_t 640 (by decide +kernel) (by decide +kernel)
theorem wm_641 : Cond.codeWith yL_value cL_value 4 (Option.some Jvm.ClassFile.FieldType.int) [((0 : Nat), 9 , 12 , 15 )] ∈ lw_g := wm_t 641 (by decide +kernel) (by decide +kernel)
theorem wm_642 : Cond.methodLink RL 61 yX3_value ∈ lw_g := wm_t 642 (by decide +kernel) (by decide +kernel)
theorem wm_643 : Cond.methodLink RL 144 yL_move ∈ lw_g := wm_t 643 (by decide +kernel) (by decide +kernel)
theorem wm_644 : Cond.static yL_move ∈ lw_g := wm_t 644 (by decide +kernel) (by decide +kernel)
theorem wm_645 : Cond.codeWith yL_move cL_move 5 (Option.some Jvm.ClassFile.FieldType.int) [((0 : Nat), 10 , 13 , 13 ), ((0 : Nat), (10 : Nat), (17 : Nat), (15 : Nat)) ] ∈ lw_g := wm_t 645 (by decide +kernel) (by decide +kernel)
theorem wm_646 : Cond.methodLink RL 64 yX3_move ∈ lw_g := wm_t 646 (by decide +kernel) (by decide +kernel)
theorem wm_647 : Cond.instanceMethod yX3_move ∈ lw_g := wm_t 647 (by decide +kernel) (by decide +kernel)
theorem wm_648 : Cond.selects RX3 yX3_move yX3_move ∈ lw_g := wm_t 648 (by decide +kernel) (by decide +kernel)
theorem wm_649 : Cond.code yX3_move cX3_move 4 (Option.some Jvm.ClassFile.FieldType.int) ∈ lw_g := wm_t 649 (by decide +kernel) (by decide +kernel)
theorem wm_650 : Cond.methodLink RX3 179 yX1_whyNotMove ∈ lw_g := wm_t 650 (by decide +kernel) (by decide +kernel)
theorem wm_651 : Cond.methodLink RX3 182 yX1_doMove ∈ lw_g := wm_t 651 (by decide +kernel) (by decide +kernel)
theorem wm_652 : Cond.methodLink RL 147 yL_change ∈ lw_g := wm_t 652 (by decide +kernel) (by decide +kernel)
theorem wm_653 : Cond.static yL_change ∈ lw_g := wm_t 653 (by decide +kernel) (by decide +kernel)
theorem wm_654 : Cond.codeWith yL_change cL_change 5 (Option.some Jvm.ClassFile.FieldType.int) [((0 : Nat), 10 , 13 , 13 ), ((0 : Nat), (10 : Nat), (17 : Nat), (15 : Nat)) ] ∈ lw_g := wm_t 654 (by decide +kernel) (by decide +kernel)
theorem wm_655 : Cond.methodLink RL 67 yX3_change ∈ lw_g := wm_t 655 (by decide +kernel) (by decide +kernel)
theorem wm_656 : Cond.instanceMethod yX3_change ∈ lw_g := wm_t 656 (by decide +kernel) (by decide +kernel)
theorem wm_657 : Cond.selects RX3 yX3_change yX3_change ∈ lw_g := wm_t 657 (by decide +kernel) (by decide +kernel)
theorem wm_658 : Cond.code yX3_change cX3_change 4 (Option.some Jvm.ClassFile.FieldType.int) ∈ lw_g := wm_t 658 (by decide +kernel) (by decide +kernel)
theorem wm_659 : Cond.methodLink RX3 189 yX1_doChange ∈ lw_g := wm_t 659 (by decide +kernel) (by decide +kernel)
theorem wm_660 : Cond.methodLink RL 154 yL_pile ∈ lw_g := wm_t 660 (by decide +kernel) (by decide +kernel)
theorem wm_661 : Cond.static yL_pile ∈ lw_g := wm_t 661 (by decide +kernel) (by decide +kernel)
theorem wm_662 : Cond.codeWith yL_pile cL_pile 5 (Option.some Jvm.ClassFile.FieldType.int) [((0 : Nat), 10 , 13 , 13 ), ((0 : Nat), (10 : Nat), (17 : Nat), (15 : Nat)) ] ∈ lw_g := wm_t 662 (by decide +kernel) (by decide +kernel)
theorem wm_663 : Cond.methodLink RL 70 yX3_pile ∈ lw_g := wm_t 663 (by decide +kernel) (by decide +kernel)
theorem wm_664 : Cond.methodLink RL 157 yL_mayMove ∈ lw_g := wm_t 664 (by decide +kernel) (by decide +kernel)
theorem wm_665 : Cond.static yL_mayMove ∈ lw_g := wm_t 665 (by decide +kernel) (by decide +kernel)
theorem wm_666 : Cond.codeWith yL_mayMove cL_mayMove 5 (Option.some Jvm.ClassFile.FieldType.int) [((0 : Nat), 10 , 13 , 13 ), ((0 : Nat), (10 : Nat), (17 : Nat), (15 : Nat)) ] ∈ lw_g := wm_t 666 (by decide +kernel) (by decide +kernel)
theorem wm_667 : Cond.methodLink RL 73 yX3_mayMove ∈ lw_g := wm_t 667 (by decide +kernel) (by decide +kernel)
theorem wm_668 : Cond.instanceMethod yX3_mayMove ∈ lw_g := wm_t 668 (by decide +kernel) (by decide +kernel)
theorem wm_669 : Cond.selects RX3 yX3_mayMove yX3_mayMove ∈ lw_g := wm_t 669 (by decide +kernel) (by decide +kernel)
theorem wm_670 : Cond.code yX3_mayMove cX3_mayMove 3 (Option.some Jvm.ClassFile.FieldType.int) ∈ lw_g := wm_t 670 (by decide +kernel) (by decide +kernel)
theorem wm_671 : Cond.methodLink RL 160 yL_bestRack ∈ lw_g := wm_t 671 (by decide +kernel) (by decide +kernel)
theorem wm_672 : Cond.static yL_bestRack ∈ lw_g := wm_t 672 (by decide +kernel) (by decide +kernel)
theorem wm_673 : Cond.codeWith yL_bestRack cL_bestRack 4 (Option.some Jvm.ClassFile.FieldType.int) [((0 : Nat), 9 , 12 , 13 )] ∈ lw_g := wm_t 673 (by decide +kernel) (by decide +kernel)
theorem wm_674 : Cond.methodLink RL 76 yX3_bestRack ∈ lw_g := wm_t 674 (by decide +kernel) (by decide +kernel)
theorem wm_675 : Cond.instanceMethod yX3_bestRack ∈ lw_g := wm_t 675 (by decide +kernel) (by decide +kernel)
theorem wm_676 : Cond.selects RX3 yX3_bestRack yX3_bestRack ∈ lw_g := wm_t 676 (by decide +kernel) (by decide +kernel)
theorem wm_677 : Cond.code yX3_bestRack cX3_bestRack 6 (Option.some Jvm.ClassFile.FieldType.int) ∈ lw_g := wm_t 677 (by decide +kernel) (by decide +kernel)
theorem wm_678 : Cond.methodLink RX3 200 yX1_fullestLoadWith ∈ lw_g := wm_t 678 (by decide +kernel) (by decide +kernel)
theorem wm_679 : Cond.instanceMethod yX1_fullestLoadWith ∈ lw_g := wm_t 679 (by decide +kernel) (by decide +kernel)
theorem wm_680 : Cond.selects RX1 yX1_fullestLoadWith yX1_fullestLoadWith ∈ lw_g := wm_t 680 (by decide +kernel) (by decide +kernel)
theorem wm_681 : Cond.code yX1_fullestLoadWith cX1_fullestLoadWith 7 (Option.some Jvm.ClassFile.FieldType.int) ∈ lw_g := wm_t 681 (by decide +kernel) (by decide +kernel)
theorem wm_682 : Cond.methodLink RL 176 yL_append ∈ lw_g := wm_t 682 (by decide +kernel) (by decide +kernel)
theorem wm_683 : Cond.static yL_append ∈ lw_g := wm_t 683 (by decide +kernel) (by decide +kernel)
theorem wm_684 : Cond.codeWith yL_append cL_append 4 (Option.some Jvm.ClassFile.FieldType.int) [((0 : Nat), 9 , 12 , 15 ), ((0 : Nat), (9 : Nat), (15 : Nat), (28 : Nat)) ] ∈ lw_g := wm_t 684 (by decide +kernel) (by decide +kernel)
theorem wm_685 : Cond.methodLink RL 79 yX3_append ∈ lw_g := wm_t 685 (by decide +kernel) (by decide +kernel)
theorem wm_686 : Cond.instanceMethod yX3_append ∈ lw_g := wm_t 686 (by decide +kernel) (by decide +kernel)
theorem wm_687 : Cond.selects RX3 yX3_append yX3_append ∈ lw_g := wm_t 687 (by decide +kernel) (by decide +kernel)
theorem wm_688 : Cond.code yX3_append cX3_append 2 (Option.some Jvm.ClassFile.FieldType.int) ∈ lw_g := wm_t 688 (by decide +kernel) (by decide +kernel)
theorem wm_690 : Cond.methodLink RL 187 yL_undo ∈ lw_g := wm_t 690 (by decide +kernel) (by decide +kernel)
theorem wm_691 : Cond.static yL_undo ∈ lw_g := wm_t 691 (by decide +kernel) (by decide +kernel)
theorem wm_692 : Cond.codeWith yL_undo cL_undo 3 (Option.some Jvm.ClassFile.FieldType.int) [((0 : Nat), 8 , 11 , 28 )] ∈ lw_g := wm_t 692 (by decide +kernel) (by decide +kernel)
theorem wm_693 : Cond.methodLink RL 82 yX3_undo ∈ lw_g := wm_t 693 (by decide +kernel) (by decide +kernel)
theorem wm_694 : Cond.instanceMethod yX3_undo ∈ lw_g := wm_t 694 (by decide +kernel) (by decide +kernel)
theorem wm_695 : Cond.selects RX3 yX3_undo yX3_undo ∈ lw_g := wm_t 695 (by decide +kernel) (by decide +kernel)
theorem wm_696 : Cond.code yX3_undo cX3_undo 2 (Option.some Jvm.ClassFile.FieldType.int) ∈ lw_g := wm_t 696 (by decide +kernel) (by decide +kernel)
theorem wm_698 : Cond.classLink RL 87 RX4 ∈ lw_g := wm_t 698 (by decide +kernel) (by decide +kernel)
theorem wm_699 : Cond.instantiable RX4 13 ∈ lw_g := wm_t 699 (by decide +kernel) (by decide +kernel)
theorem wm_700 : Cond.methodLink RL 89 yX4_init ∈ lw_g := wm_t 700 (by decide +kernel) (by decide +kernel)
theorem wm_701 : Cond.instanceMethod yX4_init ∈ lw_g := wm_t 701 (by decide +kernel) (by decide +kernel)
theorem wm_702 : Cond.code yX4_init cX4_init 2 none ∈ lw_g := wm_t 702 (by decide +kernel) (by decide +kernel)
theorem wm_703 : Cond.methodLink RX4 1 objectInit ∈ lw_g := wm_t 703 (by decide +kernel) (by decide +kernel)
theorem wm_704 : Cond.fieldLink RX4 7 "RackMovesModel" "now" "[I" ∈ lw_g := wm_t 704 (by decide +kernel) (by decide +kernel)
theorem wm_705 : Cond.fieldLink RX4 13 "RackMovesModel" "past" "[I" ∈ lw_g := wm_t 705 (by decide +kernel) (by decide +kernel)
theorem wm_706 : Cond.fieldLink RX4 16 "RackMovesModel" "aside" "[I" ∈ lw_g := wm_t 706 (by decide +kernel) (by decide +kernel)
theorem wm_707 : Cond.fieldLink RX4 19 "RackMovesModel" "kept" "[I" ∈ lw_g := wm_t 707 (by decide +kernel) (by decide +kernel)
theorem wm_708 : Cond.fieldLink RX4 33 "RackMovesModel" "saved" "I" ∈ lw_g := wm_t 708 (by decide +kernel) (by decide +kernel)
theorem wm_709 : Cond.fieldLink RX4 25 "RackMovesModel" "refusal" "I" ∈ lw_g := wm_t 709 (by decide +kernel) (by decide +kernel)
theorem wm_710 : Cond.fieldLink RX4 22 "RackMovesModel" "text" "[I" ∈ lw_g := wm_t 710 (by decide +kernel) (by decide +kernel)
theorem wm_711 : Cond.fieldLink RX4 163 "RackMovesModel" "length" "I" ∈ lw_g := wm_t 711 (by decide +kernel) (by decide +kernel)
theorem wm_712 : Cond.fieldLink RX4 166 "RackMovesModel" "spot" "I" ∈ lw_g := wm_t 712 (by decide +kernel) (by decide +kernel)
theorem wm_713 : Cond.fieldLink RX4 179 "RackMovesModel" "sort" "I" ∈ lw_g := wm_t 713 (by decide +kernel) (by decide +kernel)
theorem wm_714 : Cond.fieldLink RX4 173 "RackMovesModel" "who" "I" ∈ lw_g := wm_t 714 (by decide +kernel) (by decide +kernel)
theorem wm_715 : Cond.fieldLink RX4 186 "RackMovesModel" "where" "I" ∈ lw_g := wm_t 715 (by decide +kernel) (by decide +kernel)
theorem wm_716 : Cond.fieldLink RX4 194 "RackMovesModel" "hash" "J" ∈ lw_g := wm_t 716 (by decide +kernel) (by decide +kernel)
theorem wm_717 : Cond.laysFinal "RackMovesModel" "RackMovesModel" "now" "[I" ∈ lw_g := wm_t 717 (by decide +kernel) (by decide +kernel)
theorem wm_719 : Cond.laysFinal "RackMovesModel" "RackMovesModel" "past" "[I" ∈ lw_g := wm_t 719 (by decide +kernel) (by decide +kernel)
theorem wm_721 : Cond.laysFinal "RackMovesModel" "RackMovesModel" "aside" "[I" ∈ lw_g := wm_t 721 (by decide +kernel) (by decide +kernel)
theorem wm_723 : Cond.laysFinal "RackMovesModel" "RackMovesModel" "kept" "[I" ∈ lw_g := wm_t 723 (by decide +kernel) (by decide +kernel)
theorem wm_725 : Cond.lays "RackMovesModel" "RackMovesModel" "saved" "I" ∈ lw_g := wm_t 725 (by decide +kernel) (by decide +kernel)
theorem wm_727 : Cond.lays "RackMovesModel" "RackMovesModel" "refusal" "I" ∈ lw_g := wm_t 727 (by decide +kernel) (by decide +kernel)
theorem wm_729 : Cond.laysFinal "RackMovesModel" "RackMovesModel" "text" "[I" ∈ lw_g := wm_t 729 (by decide +kernel) (by decide +kernel)
theorem wm_731 : Cond.lays "RackMovesModel" "RackMovesModel" "length" "I" ∈ lw_g := wm_t 731 (by decide +kernel) (by decide +kernel)
theorem wm_733 : Cond.lays "RackMovesModel" "RackMovesModel" "spot" "I" ∈ lw_g := wm_t 733 (by decide +kernel) (by decide +kernel)
theorem wm_735 : Cond.lays "RackMovesModel" "RackMovesModel" "sort" "I" ∈ lw_g := wm_t 735 (by decide +kernel) (by decide +kernel)
theorem wm_737 : Cond.lays "RackMovesModel" "RackMovesModel" "who" "I" ∈ lw_g := wm_t 737 (by decide +kernel) (by decide +kernel)
theorem wm_739 : Cond.lays "RackMovesModel" "RackMovesModel" "where" "I" ∈ lw_g := wm_t 739 (by decide +kernel) (by decide +kernel)
theorem wm_741 : Cond.lays "RackMovesModel" "RackMovesModel" "hash" "J" ∈ lw_g := wm_t 741 (by decide +kernel) (by decide +kernel)
theorem wm_744 : Cond.methodLink RL 96 yX4_thrown ∈ lw_g := wm_t 744 (by decide +kernel) (by decide +kernel)
theorem wm_745 : Cond.instanceMethod yX4_thrown ∈ lw_g := wm_t 745 (by decide +kernel) (by decide +kernel)
theorem wm_746 : Cond.selects RX4 yX4_thrown yX4_thrown ∈ lw_g := wm_t 746 (by decide +kernel) (by decide +kernel)
theorem wm_747 : Cond.code yX4_thrown cX4_thrown 1 (Option.some Jvm.ClassFile.FieldType.int) ∈ lw_g := wm_t 747 (by decide +kernel) (by decide +kernel)
theorem wm_748 : Cond.methodLink RL 190 yX4_undo ∈ lw_g := wm_t 748 (by decide +kernel) (by decide +kernel)
theorem wm_749 : Cond.instanceMethod yX4_undo ∈ lw_g := wm_t 749 (by decide +kernel) (by decide +kernel)
theorem wm_750 : Cond.selects RX4 yX4_undo yX4_undo ∈ lw_g := wm_t 750 (by decide +kernel) (by decide +kernel)
theorem wm_751 : Cond.code yX4_undo cX4_undo 2 (Option.some Jvm.ClassFile.FieldType.int) ∈ lw_g := wm_t 751 (by decide +kernel) (by decide +kernel)
theorem wm_752 : Cond.methodLink RX4 36 yX4_refused ∈ lw_g := wm_t 752 (by decide +kernel) (by decide +kernel)
theorem wm_754 : Cond.instanceMethod yX4_refused ∈ lw_g := wm_t 754 (by decide +kernel) (by decide +kernel)
theorem wm_755 : Cond.code yX4_refused cX4_refused 2 (Option.some Jvm.ClassFile.FieldType.boolean) ∈ lw_g := wm_t 755 (by decide +kernel) (by decide +kernel)
theorem wm_756 : Cond.methodLink RL 95 yX4_setLimit ∈ lw_g := wm_t 756 (by decide +kernel) (by decide +kernel)
theorem wm_757 : Cond.instanceMethod yX4_setLimit ∈ lw_g := wm_t 757 (by decide +kernel) (by decide +kernel)
theorem wm_758 : Cond.selects RX4 yX4_setLimit yX4_setLimit ∈ lw_g := wm_t 758 (by decide +kernel) (by decide +kernel)
theorem wm_759 : Cond.code yX4_setLimit cX4_setLimit 3 (Option.some Jvm.ClassFile.FieldType.int) ∈ lw_g := wm_t 759 (by decide +kernel) (by decide +kernel)
theorem wm_760 : Cond.methodLink RX4 47 yX4_isRack ∈ lw_g := wm_t 760 (by decide +kernel) (by decide +kernel)
theorem wm_761 : Cond.static yX4_isRack ∈ lw_g := wm_t 761 (by decide +kernel) (by decide +kernel)
theorem wm_762 : Cond.code yX4_isRack cX4_isRack 1 (Option.some Jvm.ClassFile.FieldType.boolean) ∈ lw_g := wm_t 762 (by decide +kernel) (by decide +kernel)
theorem wm_763 : Cond.methodLink RX4 43 yX4_in ∈ lw_g := wm_t 763 (by decide +kernel) (by decide +kernel)
theorem wm_764 : Cond.static yX4_in ∈ lw_g := wm_t 764 (by decide +kernel) (by decide +kernel)
theorem wm_765 : Cond.code yX4_in cX4_in 3 (Option.some Jvm.ClassFile.FieldType.boolean) ∈ lw_g := wm_t 765 (by decide +kernel) (by decide +kernel)
theorem wm_766 : Cond.methodLink RX4 50 yX4_puts ∈ lw_g := wm_t 766 (by decide +kernel) (by decide +kernel)
theorem wm_768 : Cond.instanceMethod yX4_puts ∈ lw_g := wm_t 768 (by decide +kernel) (by decide +kernel)
theorem wm_769 : Cond.code yX4_puts cX4_puts 4 (Option.some Jvm.ClassFile.FieldType.int) ∈ lw_g := wm_t 769 (by decide +kernel) (by decide +kernel)
theorem wm_770 : Cond.methodLink RX4 40 yX4_saves ∈ lw_g := wm_t 770 (by decide +kernel) (by decide +kernel)
theorem wm_772 : Cond.instanceMethod yX4_saves ∈ lw_g := wm_t 772 (by decide +kernel) (by decide +kernel)
theorem wm_773 : Cond.code yX4_saves cX4_saves 1 none ∈ lw_g := wm_t 773 (by decide +kernel) (by decide +kernel)
theorem wm_774 : Cond.methodLink RX4 29 yX4_savesFrom ∈ lw_g := wm_t 774 (by decide +kernel) (by decide +kernel)
theorem wm_776 : Cond.instanceMethod yX4_savesFrom ∈ lw_g := wm_t 776 (by decide +kernel) (by decide +kernel)
theorem wm_777 : Cond.code yX4_savesFrom cX4_savesFrom 3 none ∈ lw_g := wm_t 777 (by decide +kernel) (by decide +kernel)
theorem wm_778 : Cond.methodLink RL 101 yX4_setTray ∈ lw_g := wm_t 778 (by decide +kernel) (by decide +kernel)
theorem wm_779 : Cond.instanceMethod yX4_setTray ∈ lw_g := wm_t 779 (by decide +kernel) (by decide +kernel)
theorem wm_780 : Cond.selects RX4 yX4_setTray yX4_setTray ∈ lw_g := wm_t 780 (by decide +kernel) (by decide +kernel)
theorem wm_781 : Cond.code yX4_setTray cX4_setTray 3 (Option.some Jvm.ClassFile.FieldType.int) ∈ lw_g := wm_t 781 (by decide +kernel) (by decide +kernel)
theorem wm_782 : Cond.methodLink RX4 54 yX4_isTray ∈ lw_g := wm_t 782 (by decide +kernel) (by decide +kernel)
theorem wm_783 : Cond.static yX4_isTray ∈ lw_g := wm_t 783 (by decide +kernel) (by decide +kernel)
theorem wm_784 : Cond.code yX4_isTray cX4_isTray 1 (Option.some Jvm.ClassFile.FieldType.boolean) ∈ lw_g := wm_t 784 (by decide +kernel) (by decide +kernel)
theorem wm_785 : Cond.methodLink RL 105 yX4_setLevel ∈ lw_g := wm_t 785 (by decide +kernel) (by decide +kernel)
theorem wm_786 : Cond.instanceMethod yX4_setLevel ∈ lw_g := wm_t 786 (by decide +kernel) (by decide +kernel)
theorem wm_787 : Cond.selects RX4 yX4_setLevel yX4_setLevel ∈ lw_g := wm_t 787 (by decide +kernel) (by decide +kernel)
theorem wm_788 : Cond.code yX4_setLevel cX4_setLevel 2 (Option.some Jvm.ClassFile.FieldType.int) ∈ lw_g := wm_t 788 (by decide +kernel) (by decide +kernel)
theorem wm_789 : Cond.methodLink RL 109 yX4_addMachine ∈ lw_g := wm_t 789 (by decide +kernel) (by decide +kernel)
theorem wm_790 : Cond.instanceMethod yX4_addMachine ∈ lw_g := wm_t 790 (by decide +kernel) (by decide +kernel)
theorem wm_791 : Cond.selects RX4 yX4_addMachine yX4_addMachine ∈ lw_g := wm_t 791 (by decide +kernel) (by decide +kernel)
theorem wm_792 : Cond.code yX4_addMachine cX4_addMachine 7 (Option.some Jvm.ClassFile.FieldType.int) ∈ lw_g := wm_t 792 (by decide +kernel) (by decide +kernel)
theorem wm_793 : Cond.methodLink RL 113 yX4_addCable ∈ lw_g := wm_t 793 (by decide +kernel) (by decide +kernel)
theorem wm_794 : Cond.instanceMethod yX4_addCable ∈ lw_g := wm_t 794 (by decide +kernel) (by decide +kernel)
theorem wm_795 : Cond.selects RX4 yX4_addCable yX4_addCable ∈ lw_g := wm_t 795 (by decide +kernel) (by decide +kernel)
theorem wm_796 : Cond.code yX4_addCable cX4_addCable 5 (Option.some Jvm.ClassFile.FieldType.int) ∈ lw_g := wm_t 796 (by decide +kernel) (by decide +kernel)
theorem wm_797 : Cond.methodLink RX4 57 yX4_isMachine ∈ lw_g := wm_t 797 (by decide +kernel) (by decide +kernel)
theorem wm_799 : Cond.instanceMethod yX4_isMachine ∈ lw_g := wm_t 799 (by decide +kernel) (by decide +kernel)
theorem wm_800 : Cond.code yX4_isMachine cX4_isMachine 2 (Option.some Jvm.ClassFile.FieldType.boolean) ∈ lw_g := wm_t 800 (by decide +kernel) (by decide +kernel)
theorem wm_801 : Cond.methodLink RX4 60 yX4_adds ∈ lw_g := wm_t 801 (by decide +kernel) (by decide +kernel)
theorem wm_803 : Cond.instanceMethod yX4_adds ∈ lw_g := wm_t 803 (by decide +kernel) (by decide +kernel)
theorem wm_804 : Cond.code yX4_adds cX4_adds 7 (Option.some Jvm.ClassFile.FieldType.int) ∈ lw_g := wm_t 804 (by decide +kernel) (by decide +kernel)
theorem wm_805 : Cond.methodLink RL 116 yX4_removeCable ∈ lw_g := wm_t 805 (by decide +kernel) (by decide +kernel)
theorem wm_806 : Cond.instanceMethod yX4_removeCable ∈ lw_g := wm_t 806 (by decide +kernel) (by decide +kernel)
theorem wm_807 : Cond.selects RX4 yX4_removeCable yX4_removeCable ∈ lw_g := wm_t 807 (by decide +kernel) (by decide +kernel)
theorem wm_808 : Cond.code yX4_removeCable cX4_removeCable 2 (Option.some Jvm.ClassFile.FieldType.int) ∈ lw_g := wm_t 808 (by decide +kernel) (by decide +kernel)
theorem wm_809 : Cond.methodLink RX4 64 yX4_isCable ∈ lw_g := wm_t 809 (by decide +kernel) (by decide +kernel)
theorem wm_811 : Cond.instanceMethod yX4_isCable ∈ lw_g := wm_t 811 (by decide +kernel) (by decide +kernel)
theorem wm_812 : Cond.code yX4_isCable cX4_isCable 2 (Option.some Jvm.ClassFile.FieldType.boolean) ∈ lw_g := wm_t 812 (by decide +kernel) (by decide +kernel)
theorem wm_813 : Cond.methodLink RX4 67 yX4_drops ∈ lw_g := wm_t 813 (by decide +kernel) (by decide +kernel)
theorem wm_815 : Cond.instanceMethod yX4_drops ∈ lw_g := wm_t 815 (by decide +kernel) (by decide +kernel)
theorem wm_816 : Cond.code yX4_drops cX4_drops 5 (Option.some Jvm.ClassFile.FieldType.int) ∈ lw_g := wm_t 816 (by decide +kernel) (by decide +kernel)
theorem wm_817 : Cond.methodLink RL 119 yX4_addFreeze ∈ lw_g := wm_t 817 (by decide +kernel) (by decide +kernel)
theorem wm_818 : Cond.instanceMethod yX4_addFreeze ∈ lw_g := wm_t 818 (by decide +kernel) (by decide +kernel)
theorem wm_819 : Cond.selects RX4 yX4_addFreeze yX4_addFreeze ∈ lw_g := wm_t 819 (by decide +kernel) (by decide +kernel)
theorem wm_820 : Cond.code yX4_addFreeze cX4_addFreeze 5 (Option.some Jvm.ClassFile.FieldType.int) ∈ lw_g := wm_t 820 (by decide +kernel) (by decide +kernel)
theorem wm_821 : Cond.methodLink RL 122 yX4_removeFreeze ∈ lw_g := wm_t 821 (by decide +kernel) (by decide +kernel)
theorem wm_822 : Cond.instanceMethod yX4_removeFreeze ∈ lw_g := wm_t 822 (by decide +kernel) (by decide +kernel)
theorem wm_823 : Cond.selects RX4 yX4_removeFreeze yX4_removeFreeze ∈ lw_g := wm_t 823 (by decide +kernel) (by decide +kernel)
theorem wm_824 : Cond.code yX4_removeFreeze cX4_removeFreeze 2 (Option.some Jvm.ClassFile.FieldType.int) ∈ lw_g := wm_t 824 (by decide +kernel) (by decide +kernel)
theorem wm_825 : Cond.methodLink RL 125 yX4_pass ∈ lw_g := wm_t 825 (by decide +kernel) (by decide +kernel)
theorem wm_826 : Cond.instanceMethod yX4_pass ∈ lw_g := wm_t 826 (by decide +kernel) (by decide +kernel)
theorem wm_827 : Cond.selects RX4 yX4_pass yX4_pass ∈ lw_g := wm_t 827 (by decide +kernel) (by decide +kernel)
theorem wm_828 : Cond.code yX4_pass cX4_pass 2 (Option.some Jvm.ClassFile.FieldType.int) ∈ lw_g := wm_t 828 (by decide +kernel) (by decide +kernel)
theorem wm_829 : Cond.methodLink RL 128 yX4_machine ∈ lw_g := wm_t 829 (by decide +kernel) (by decide +kernel)
theorem wm_830 : Cond.instanceMethod yX4_machine ∈ lw_g := wm_t 830 (by decide +kernel) (by decide +kernel)
theorem wm_831 : Cond.selects RX4 yX4_machine yX4_machine ∈ lw_g := wm_t 831 (by decide +kernel) (by decide +kernel)
theorem wm_832 : Cond.code yX4_machine cX4_machine 3 (Option.some Jvm.ClassFile.FieldType.int) ∈ lw_g := wm_t 832 (by decide +kernel) (by decide +kernel)
theorem wm_833 : Cond.methodLink RX4 81 yX4_tellMachine ∈ lw_g := wm_t 833 (by decide +kernel) (by decide +kernel)
theorem wm_835 : Cond.instanceMethod yX4_tellMachine ∈ lw_g := wm_t 835 (by decide +kernel) (by decide +kernel)
theorem wm_836 : Cond.code yX4_tellMachine cX4_tellMachine 3 (Option.some Jvm.ClassFile.FieldType.int) ∈ lw_g := wm_t 836 (by decide +kernel) (by decide +kernel)
theorem wm_837 : Cond.methodLink RX4 71 yX4_of ∈ lw_g := wm_t 837 (by decide +kernel) (by decide +kernel)
theorem wm_839 : Cond.instanceMethod yX4_of ∈ lw_g := wm_t 839 (by decide +kernel) (by decide +kernel)
theorem wm_840 : Cond.code yX4_of cX4_of 3 (Option.some Jvm.ClassFile.FieldType.int) ∈ lw_g := wm_t 840 (by decide +kernel) (by decide +kernel)
theorem wm_841 : Cond.methodLink RX4 74 yX4_isFrozen ∈ lw_g := wm_t 841 (by decide +kernel) (by decide +kernel)
theorem wm_843 : Cond.instanceMethod yX4_isFrozen ∈ lw_g := wm_t 843 (by decide +kernel) (by decide +kernel)
theorem wm_844 : Cond.code yX4_isFrozen cX4_isFrozen 5 (Option.some Jvm.ClassFile.FieldType.boolean) ∈ lw_g := wm_t 844 (by decide +kernel) (by decide +kernel)
theorem wm_845 : Cond.methodLink RX4 77 yX4_cablesOf ∈ lw_g := wm_t 845 (by decide +kernel) (by decide +kernel)
theorem wm_847 : Cond.instanceMethod yX4_cablesOf ∈ lw_g := wm_t 847 (by decide +kernel) (by decide +kernel)
theorem wm_848 : Cond.code yX4_cablesOf cX4_cablesOf 4 (Option.some Jvm.ClassFile.FieldType.int) ∈ lw_g := wm_t 848 (by decide +kernel) (by decide +kernel)
theorem wm_849 : Cond.methodLink RL 131 yX4_rack ∈ lw_g := wm_t 849 (by decide +kernel) (by decide +kernel)
theorem wm_850 : Cond.instanceMethod yX4_rack ∈ lw_g := wm_t 850 (by decide +kernel) (by decide +kernel)
theorem wm_851 : Cond.selects RX4 yX4_rack yX4_rack ∈ lw_g := wm_t 851 (by decide +kernel) (by decide +kernel)
theorem wm_852 : Cond.code yX4_rack cX4_rack 3 (Option.some Jvm.ClassFile.FieldType.int) ∈ lw_g := wm_t 852 (by decide +kernel) (by decide +kernel)
theorem wm_853 : Cond.methodLink RX4 103 yX4_tellRack ∈ lw_g := wm_t 853 (by decide +kernel) (by decide +kernel)
theorem wm_855 : Cond.instanceMethod yX4_tellRack ∈ lw_g := wm_t 855 (by decide +kernel) (by decide +kernel)
theorem wm_856 : Cond.code yX4_tellRack cX4_tellRack 4 (Option.some Jvm.ClassFile.FieldType.int) ∈ lw_g := wm_t 856 (by decide +kernel) (by decide +kernel)
theorem wm_857 : Cond.methodLink RX4 91 yX4_load ∈ lw_g := wm_t 857 (by decide +kernel) (by decide +kernel)
theorem wm_859 : Cond.instanceMethod yX4_load ∈ lw_g := wm_t 859 (by decide +kernel) (by decide +kernel)
theorem wm_860 : Cond.code yX4_load cX4_load 6 (Option.some Jvm.ClassFile.FieldType.int) ∈ lw_g := wm_t 860 (by decide +kernel) (by decide +kernel)
theorem wm_861 : Cond.methodLink RX4 94 yX4_machinesIn ∈ lw_g := wm_t 861 (by decide +kernel) (by decide +kernel)
theorem wm_863 : Cond.instanceMethod yX4_machinesIn ∈ lw_g := wm_t 863 (by decide +kernel) (by decide +kernel)
theorem wm_864 : Cond.code yX4_machinesIn cX4_machinesIn 4 (Option.some Jvm.ClassFile.FieldType.int) ∈ lw_g := wm_t 864 (by decide +kernel) (by decide +kernel)
theorem wm_865 : Cond.methodLink RX4 97 yX4_freeSlots ∈ lw_g := wm_t 865 (by decide +kernel) (by decide +kernel)
theorem wm_867 : Cond.instanceMethod yX4_freeSlots ∈ lw_g := wm_t 867 (by decide +kernel) (by decide +kernel)
theorem wm_868 : Cond.code yX4_freeSlots cX4_freeSlots 4 (Option.some Jvm.ClassFile.FieldType.int) ∈ lw_g := wm_t 868 (by decide +kernel) (by decide +kernel)
theorem wm_869 : Cond.methodLink RX4 84 yX4_machineAt ∈ lw_g := wm_t 869 (by decide +kernel) (by decide +kernel)
theorem wm_871 : Cond.instanceMethod yX4_machineAt ∈ lw_g := wm_t 871 (by decide +kernel) (by decide +kernel)
theorem wm_872 : Cond.code yX4_machineAt cX4_machineAt 4 (Option.some Jvm.ClassFile.FieldType.int) ∈ lw_g := wm_t 872 (by decide +kernel) (by decide +kernel)
theorem wm_873 : Cond.methodLink RX4 100 yX4_lowest ∈ lw_g := wm_t 873 (by decide +kernel) (by decide +kernel)
theorem wm_875 : Cond.instanceMethod yX4_lowest ∈ lw_g := wm_t 875 (by decide +kernel) (by decide +kernel)
theorem wm_876 : Cond.code yX4_lowest cX4_lowest 4 (Option.some Jvm.ClassFile.FieldType.int) ∈ lw_g := wm_t 876 (by decide +kernel) (by decide +kernel)
theorem wm_877 : Cond.methodLink RX4 87 yX4_areFree ∈ lw_g := wm_t 877 (by decide +kernel) (by decide +kernel)
theorem wm_879 : Cond.instanceMethod yX4_areFree ∈ lw_g := wm_t 879 (by decide +kernel) (by decide +kernel)
theorem wm_880 : Cond.code yX4_areFree cX4_areFree 8 (Option.some Jvm.ClassFile.FieldType.boolean) ∈ lw_g := wm_t 880 (by decide +kernel) (by decide +kernel)
theorem wm_881 : Cond.methodLink RL 134 yX4_slot ∈ lw_g := wm_t 881 (by decide +kernel) (by decide +kernel)
theorem wm_882 : Cond.instanceMethod yX4_slot ∈ lw_g := wm_t 882 (by decide +kernel) (by decide +kernel)
theorem wm_883 : Cond.selects RX4 yX4_slot yX4_slot ∈ lw_g := wm_t 883 (by decide +kernel) (by decide +kernel)
theorem wm_884 : Cond.code yX4_slot cX4_slot 3 (Option.some Jvm.ClassFile.FieldType.int) ∈ lw_g := wm_t 884 (by decide +kernel) (by decide +kernel)
theorem wm_885 : Cond.methodLink RL 137 yX4_cable ∈ lw_g := wm_t 885 (by decide +kernel) (by decide +kernel)
theorem wm_886 : Cond.instanceMethod yX4_cable ∈ lw_g := wm_t 886 (by decide +kernel) (by decide +kernel)
theorem wm_887 : Cond.selects RX4 yX4_cable yX4_cable ∈ lw_g := wm_t 887 (by decide +kernel) (by decide +kernel)
theorem wm_888 : Cond.code yX4_cable cX4_cable 3 (Option.some Jvm.ClassFile.FieldType.int) ∈ lw_g := wm_t 888 (by decide +kernel) (by decide +kernel)
theorem wm_889 : Cond.methodLink RX4 109 yX4_tellCable ∈ lw_g := wm_t 889 (by decide +kernel) (by decide +kernel)
theorem wm_891 : Cond.instanceMethod yX4_tellCable ∈ lw_g := wm_t 891 (by decide +kernel) (by decide +kernel)
theorem wm_892 : Cond.code yX4_tellCable cX4_tellCable 3 (Option.some Jvm.ClassFile.FieldType.int) ∈ lw_g := wm_t 892 (by decide +kernel) (by decide +kernel)
theorem wm_893 : Cond.methodLink RX4 106 yX4_needs ∈ lw_g := wm_t 893 (by decide +kernel) (by decide +kernel)
theorem wm_895 : Cond.instanceMethod yX4_needs ∈ lw_g := wm_t 895 (by decide +kernel) (by decide +kernel)
theorem wm_896 : Cond.code yX4_needs cX4_needs 5 (Option.some Jvm.ClassFile.FieldType.int) ∈ lw_g := wm_t 896 (by decide +kernel) (by decide +kernel)
theorem wm_897 : Cond.methodLink RL 140 yX4_tray ∈ lw_g := wm_t 897 (by decide +kernel) (by decide +kernel)
theorem wm_898 : Cond.instanceMethod yX4_tray ∈ lw_g := wm_t 898 (by decide +kernel) (by decide +kernel)
theorem wm_899 : Cond.selects RX4 yX4_tray yX4_tray ∈ lw_g := wm_t 899 (by decide +kernel) (by decide +kernel)
theorem wm_900 : Cond.code yX4_tray cX4_tray 2 (Option.some Jvm.ClassFile.FieldType.int) ∈ lw_g := wm_t 900 (by decide +kernel) (by decide +kernel)
theorem wm_901 : Cond.methodLink RX4 112 yX4_inTray ∈ lw_g := wm_t 901 (by decide +kernel) (by decide +kernel)
theorem wm_903 : Cond.instanceMethod yX4_inTray ∈ lw_g := wm_t 903 (by decide +kernel) (by decide +kernel)
theorem wm_904 : Cond.code yX4_inTray cX4_inTray 7 (Option.some Jvm.ClassFile.FieldType.int) ∈ lw_g := wm_t 904 (by decide +kernel) (by decide +kernel)
theorem wm_905 : Cond.methodLink RL 143 yX4_value ∈ lw_g := wm_t 905 (by decide +kernel) (by decide +kernel)
theorem wm_906 : Cond.instanceMethod yX4_value ∈ lw_g := wm_t 906 (by decide +kernel) (by decide +kernel)
theorem wm_907 : Cond.selects RX4 yX4_value yX4_value ∈ lw_g := wm_t 907 (by decide +kernel) (by decide +kernel)
theorem wm_908 : Cond.code yX4_value cX4_value 2 (Option.some Jvm.ClassFile.FieldType.int) ∈ lw_g := wm_t 908 (by decide +kernel) (by decide +kernel)
theorem wm_909 : Cond.methodLink RX4 125 yX4_tellValue ∈ lw_g := wm_t 909 (by decide +kernel) (by decide +kernel)
theorem wm_911 : Cond.instanceMethod yX4_tellValue ∈ lw_g := wm_t 911 (by decide +kernel) (by decide +kernel)
theorem wm_912 : Cond.code yX4_tellValue cX4_tellValue 2 (Option.some Jvm.ClassFile.FieldType.int) ∈ lw_g := wm_t 912 (by decide +kernel) (by decide +kernel)
theorem wm_913 : Cond.methodLink RX4 119 yX4_standing ∈ lw_g := wm_t 913 (by decide +kernel) (by decide +kernel)
theorem wm_915 : Cond.instanceMethod yX4_standing ∈ lw_g := wm_t 915 (by decide +kernel) (by decide +kernel)
theorem wm_916 : Cond.code yX4_standing cX4_standing 3 (Option.some Jvm.ClassFile.FieldType.int) ∈ lw_g := wm_t 916 (by decide +kernel) (by decide +kernel)
theorem wm_917 : Cond.methodLink RX4 115 yX4_difference ∈ lw_g := wm_t 917 (by decide +kernel) (by decide +kernel)
theorem wm_919 : Cond.instanceMethod yX4_difference ∈ lw_g := wm_t 919 (by decide +kernel) (by decide +kernel)
theorem wm_920 : Cond.code yX4_difference cX4_difference 5 (Option.some Jvm.ClassFile.FieldType.int) ∈ lw_g := wm_t 920 (by decide +kernel) (by decide +kernel)
theorem wm_921 : Cond.methodLink RX4 122 yX4_wrong ∈ lw_g := wm_t 921 (by decide +kernel) (by decide +kernel)
theorem wm_923 : Cond.instanceMethod yX4_wrong ∈ lw_g := wm_t 923 (by decide +kernel) (by decide +kernel)
theorem wm_924 : Cond.code yX4_wrong cX4_wrong 2 (Option.some Jvm.ClassFile.FieldType.int) ∈ lw_g := wm_t 924 (by decide +kernel) (by decide +kernel)
theorem wm_925 : Cond.methodLink RL 146 yX4_move ∈ lw_g := wm_t 925 (by decide +kernel) (by decide +kernel)
theorem wm_926 : Cond.instanceMethod yX4_move ∈ lw_g := wm_t 926 (by decide +kernel) (by decide +kernel)
theorem wm_927 : Cond.selects RX4 yX4_move yX4_move ∈ lw_g := wm_t 927 (by decide +kernel) (by decide +kernel)
theorem wm_928 : Cond.code yX4_move cX4_move 3 (Option.some Jvm.ClassFile.FieldType.int) ∈ lw_g := wm_t 928 (by decide +kernel) (by decide +kernel)
theorem wm_929 : Cond.methodLink RX4 136 yX4_isPlace ∈ lw_g := wm_t 929 (by decide +kernel) (by decide +kernel)
theorem wm_930 : Cond.static yX4_isPlace ∈ lw_g := wm_t 930 (by decide +kernel) (by decide +kernel)
theorem wm_931 : Cond.code yX4_isPlace cX4_isPlace 1 (Option.some Jvm.ClassFile.FieldType.boolean) ∈ lw_g := wm_t 931 (by decide +kernel) (by decide +kernel)
theorem wm_932 : Cond.methodLink RX4 139 yX4_copies ∈ lw_g := wm_t 932 (by decide +kernel) (by decide +kernel)
theorem wm_933 : Cond.static yX4_copies ∈ lw_g := wm_t 933 (by decide +kernel) (by decide +kernel)
theorem wm_934 : Cond.code yX4_copies cX4_copies 3 none ∈ lw_g := wm_t 934 (by decide +kernel) (by decide +kernel)
theorem wm_935 : Cond.methodLink RX4 143 yX4_moves ∈ lw_g := wm_t 935 (by decide +kernel) (by decide +kernel)
theorem wm_937 : Cond.instanceMethod yX4_moves ∈ lw_g := wm_t 937 (by decide +kernel) (by decide +kernel)
theorem wm_938 : Cond.code yX4_moves cX4_moves 4 (Option.some Jvm.ClassFile.FieldType.int) ∈ lw_g := wm_t 938 (by decide +kernel) (by decide +kernel)
theorem wm_939 : Cond.methodLink RX4 132 yX4_steps ∈ lw_g := wm_t 939 (by decide +kernel) (by decide +kernel)
theorem wm_941 : Cond.instanceMethod yX4_steps ∈ lw_g := wm_t 941 (by decide +kernel) (by decide +kernel)
theorem wm_942 : Cond.code yX4_steps cX4_steps 10 (Option.some Jvm.ClassFile.FieldType.int) ∈ lw_g := wm_t 942 (by decide +kernel) (by decide +kernel)
theorem wm_943 : Cond.methodLink RX4 128 yX4_places ∈ lw_g := wm_t 943 (by decide +kernel) (by decide +kernel)
theorem wm_945 : Cond.instanceMethod yX4_places ∈ lw_g := wm_t 945 (by decide +kernel) (by decide +kernel)
theorem wm_946 : Cond.code yX4_places cX4_places 6 none ∈ lw_g := wm_t 946 (by decide +kernel) (by decide +kernel)
theorem wm_947 : Cond.methodLink RX4 146 yX4_ends ∈ lw_g := wm_t 947 (by decide +kernel) (by decide +kernel)
theorem wm_949 : Cond.instanceMethod yX4_ends ∈ lw_g := wm_t 949 (by decide +kernel) (by decide +kernel)
theorem wm_950 : Cond.code yX4_ends cX4_ends 2 (Option.some Jvm.ClassFile.FieldType.int) ∈ lw_g := wm_t 950 (by decide +kernel) (by decide +kernel)
theorem wm_951 : Cond.methodLink RL 149 yX4_change ∈ lw_g := wm_t 951 (by decide +kernel) (by decide +kernel)
theorem wm_952 : Cond.instanceMethod yX4_change ∈ lw_g := wm_t 952 (by decide +kernel) (by decide +kernel)
theorem wm_953 : Cond.selects RX4 yX4_change yX4_change ∈ lw_g := wm_t 953 (by decide +kernel) (by decide +kernel)
theorem wm_954 : Cond.code yX4_change cX4_change 3 (Option.some Jvm.ClassFile.FieldType.int) ∈ lw_g := wm_t 954 (by decide +kernel) (by decide +kernel)
theorem wm_955 : Cond.methodLink RX4 149 yX4_changes ∈ lw_g := wm_t 955 (by decide +kernel) (by decide +kernel)
theorem wm_957 : Cond.instanceMethod yX4_changes ∈ lw_g := wm_t 957 (by decide +kernel) (by decide +kernel)
theorem wm_958 : Cond.code yX4_changes cX4_changes 3 (Option.some Jvm.ClassFile.FieldType.int) ∈ lw_g := wm_t 958 (by decide +kernel) (by decide +kernel)
theorem wm_959 : Cond.methodLink RL 153 yX4_backOut ∈ lw_g := wm_t 959 (by decide +kernel) (by decide +kernel)
theorem wm_960 : Cond.instanceMethod yX4_backOut ∈ lw_g := wm_t 960 (by decide +kernel) (by decide +kernel)
theorem wm_961 : Cond.selects RX4 yX4_backOut yX4_backOut ∈ lw_g := wm_t 961 (by decide +kernel) (by decide +kernel)
theorem wm_962 : Cond.code yX4_backOut cX4_backOut 1 (Option.some Jvm.ClassFile.FieldType.int) ∈ lw_g := wm_t 962 (by decide +kernel) (by decide +kernel)
theorem wm_963 : Cond.methodLink RX4 152 yX4_backs ∈ lw_g := wm_t 963 (by decide +kernel) (by decide +kernel)
theorem wm_965 : Cond.instanceMethod yX4_backs ∈ lw_g := wm_t 965 (by decide +kernel) (by decide +kernel)
theorem wm_966 : Cond.code yX4_backs cX4_backs 7 (Option.some Jvm.ClassFile.FieldType.int) ∈ lw_g := wm_t 966 (by decide +kernel) (by decide +kernel)
theorem wm_967 : Cond.methodLink RL 156 yX4_pile ∈ lw_g := wm_t 967 (by decide +kernel) (by decide +kernel)
theorem wm_968 : Cond.instanceMethod yX4_pile ∈ lw_g := wm_t 968 (by decide +kernel) (by decide +kernel)
theorem wm_969 : Cond.selects RX4 yX4_pile yX4_pile ∈ lw_g := wm_t 969 (by decide +kernel) (by decide +kernel)
theorem wm_970 : Cond.code yX4_pile cX4_pile 3 (Option.some Jvm.ClassFile.FieldType.int) ∈ lw_g := wm_t 970 (by decide +kernel) (by decide +kernel)
theorem wm_971 : Cond.methodLink RX4 155 yX4_tellPile ∈ lw_g := wm_t 971 (by decide +kernel) (by decide +kernel)
theorem wm_973 : Cond.instanceMethod yX4_tellPile ∈ lw_g := wm_t 973 (by decide +kernel) (by decide +kernel)
theorem wm_974 : Cond.code yX4_tellPile cX4_tellPile 3 (Option.some Jvm.ClassFile.FieldType.int) ∈ lw_g := wm_t 974 (by decide +kernel) (by decide +kernel)
theorem wm_975 : Cond.methodLink RL 159 yX4_mayMove ∈ lw_g := wm_t 975 (by decide +kernel) (by decide +kernel)
theorem wm_976 : Cond.instanceMethod yX4_mayMove ∈ lw_g := wm_t 976 (by decide +kernel) (by decide +kernel)
theorem wm_977 : Cond.selects RX4 yX4_mayMove yX4_mayMove ∈ lw_g := wm_t 977 (by decide +kernel) (by decide +kernel)
theorem wm_978 : Cond.code yX4_mayMove cX4_mayMove 4 (Option.some Jvm.ClassFile.FieldType.int) ∈ lw_g := wm_t 978 (by decide +kernel) (by decide +kernel)
theorem wm_979 : Cond.methodLink RL 162 yX4_bestRack ∈ lw_g := wm_t 979 (by decide +kernel) (by decide +kernel)
theorem wm_980 : Cond.instanceMethod yX4_bestRack ∈ lw_g := wm_t 980 (by decide +kernel) (by decide +kernel)
theorem wm_981 : Cond.selects RX4 yX4_bestRack yX4_bestRack ∈ lw_g := wm_t 981 (by decide +kernel) (by decide +kernel)
theorem wm_982 : Cond.code yX4_bestRack cX4_bestRack 7 (Option.some Jvm.ClassFile.FieldType.int) ∈ lw_g := wm_t 982 (by decide +kernel) (by decide +kernel)
theorem wm_983 : Cond.methodLink RX4 158 yX4_fullest ∈ lw_g := wm_t 983 (by decide +kernel) (by decide +kernel)
theorem wm_985 : Cond.instanceMethod yX4_fullest ∈ lw_g := wm_t 985 (by decide +kernel) (by decide +kernel)
theorem wm_986 : Cond.code yX4_fullest cX4_fullest 4 (Option.some Jvm.ClassFile.FieldType.int) ∈ lw_g := wm_t 986 (by decide +kernel) (by decide +kernel)
theorem wm_987 : Cond.methodLink RL 166 yX4_bestChange ∈ lw_g := wm_t 987 (by decide +kernel) (by decide +kernel)
theorem wm_988 : Cond.instanceMethod yX4_bestChange ∈ lw_g := wm_t 988 (by decide +kernel) (by decide +kernel)
theorem wm_989 : Cond.selects RX4 yX4_bestChange yX4_bestChange ∈ lw_g := wm_t 989 (by decide +kernel) (by decide +kernel)
theorem wm_990 : Cond.code yX4_bestChange cX4_bestChange 6 (Option.some Jvm.ClassFile.FieldType.int) ∈ lw_g := wm_t 990 (by decide +kernel) (by decide +kernel)
theorem wm_991 : Cond.methodLink RL 170 yX4_backable ∈ lw_g := wm_t 991 (by decide +kernel) (by decide +kernel)
theorem wm_992 : Cond.instanceMethod yX4_backable ∈ lw_g := wm_t 992 (by decide +kernel) (by decide +kernel)
theorem wm_993 : Cond.selects RX4 yX4_backable yX4_backable ∈ lw_g := wm_t 993 (by decide +kernel) (by decide +kernel)
theorem wm_994 : Cond.code yX4_backable cX4_backable 2 (Option.some Jvm.ClassFile.FieldType.int) ∈ lw_g := wm_t 994 (by decide +kernel) (by decide +kernel)
theorem wm_995 : Cond.methodLink RL 175 yX4_taken ∈ lw_g := wm_t 995 (by decide +kernel) (by decide +kernel)
theorem wm_996 : Cond.instanceMethod yX4_taken ∈ lw_g := wm_t 996 (by decide +kernel) (by decide +kernel)
theorem wm_997 : Cond.selects RX4 yX4_taken yX4_taken ∈ lw_g := wm_t 997 (by decide +kernel) (by decide +kernel)
theorem wm_998 : Cond.code yX4_taken cX4_taken 3 (Option.some Jvm.ClassFile.FieldType.double) ∈ lw_g := wm_t 998 (by decide +kernel) (by decide +kernel)
theorem wm_999 : Cond.constantDouble RX4 161 (4633641066610819072 : UInt64) ∈ lw_g := wm_t 999 (by decide +kernel) (by decide +kernel)
theorem wm_1000 : Cond.methodLink RL 178 yX4_append ∈ lw_g := wm_t 1000 (by decide +kernel) (by decide +kernel)
theorem wm_1001 : Cond.instanceMethod yX4_append ∈ lw_g := wm_t 1001 (by decide +kernel) (by decide +kernel)
theorem wm_1002 : Cond.selects RX4 yX4_append yX4_append ∈ lw_g := wm_t 1002 (by decide +kernel) (by decide +kernel)
theorem wm_1003 : Cond.code yX4_append cX4_append 2 (Option.some Jvm.ClassFile.FieldType.int) ∈ lw_g := wm_t 1003 (by decide +kernel) (by decide +kernel)
theorem wm_1004 : Cond.methodLink RL 182 yX4_clearText ∈ lw_g := wm_t 1004 (by decide +kernel) (by decide +kernel)
theorem wm_1005 : Cond.instanceMethod yX4_clearText ∈ lw_g := wm_t 1005 (by decide +kernel) (by decide +kernel)
theorem wm_1006 : Cond.selects RX4 yX4_clearText yX4_clearText ∈ lw_g := wm_t 1006 (by decide +kernel) (by decide +kernel)
theorem wm_1007 : Cond.code yX4_clearText cX4_clearText 2 (Option.some Jvm.ClassFile.FieldType.int) ∈ lw_g := wm_t 1007 (by decide +kernel) (by decide +kernel)
theorem wm_1008 : Cond.methodLink RL 186 yX4_plan ∈ lw_g := wm_t 1008 (by decide +kernel) (by decide +kernel)
theorem wm_1009 : Cond.instanceMethod yX4_plan ∈ lw_g := wm_t 1009 (by decide +kernel) (by decide +kernel)
theorem wm_1010 : Cond.selects RX4 yX4_plan yX4_plan ∈ lw_g := wm_t 1010 (by decide +kernel) (by decide +kernel)
theorem wm_1011 : Cond.code yX4_plan cX4_plan 4 (Option.some Jvm.ClassFile.FieldType.int) ∈ lw_g := wm_t 1011 (by decide +kernel) (by decide +kernel)
theorem wm_1012 : Cond.methodLink RX4 189 yX4_reads ∈ lw_g := wm_t 1012 (by decide +kernel) (by decide +kernel)
theorem wm_1014 : Cond.instanceMethod yX4_reads ∈ lw_g := wm_t 1014 (by decide +kernel) (by decide +kernel)
theorem wm_1015 : Cond.code yX4_reads cX4_reads 1 (Option.some Jvm.ClassFile.FieldType.boolean) ∈ lw_g := wm_t 1015 (by decide +kernel) (by decide +kernel)
theorem wm_1016 : Cond.methodLink RX4 176 yX4_takes ∈ lw_g := wm_t 1016 (by decide +kernel) (by decide +kernel)
theorem wm_1018 : Cond.instanceMethod yX4_takes ∈ lw_g := wm_t 1018 (by decide +kernel) (by decide +kernel)
theorem wm_1019 : Cond.code yX4_takes cX4_takes 3 (Option.some Jvm.ClassFile.FieldType.boolean) ∈ lw_g := wm_t 1019 (by decide +kernel) (by decide +kernel)
theorem wm_1020 : Cond.methodLink RX4 169 yX4_isAt ∈ lw_g := wm_t 1020 (by decide +kernel) (by decide +kernel)
theorem wm_1022 : Cond.instanceMethod yX4_isAt ∈ lw_g := wm_t 1022 (by decide +kernel) (by decide +kernel)
theorem wm_1023 : Cond.code yX4_isAt cX4_isAt 3 (Option.some Jvm.ClassFile.FieldType.boolean) ∈ lw_g := wm_t 1023 (by decide +kernel) (by decide +kernel)
theorem wm_1024 : Cond.methodLink RX4 182 yX4_takesMachine ∈ lw_g := wm_t 1024 (by decide +kernel) (by decide +kernel)
theorem wm_1026 : Cond.instanceMethod yX4_takesMachine ∈ lw_g := wm_t 1026 (by decide +kernel) (by decide +kernel)
theorem wm_1027 : Cond.code yX4_takesMachine cX4_takesMachine 3 (Option.some Jvm.ClassFile.FieldType.boolean) ∈ lw_g := wm_t 1027 (by decide +kernel) (by decide +kernel)
theorem wm_1028 : Cond.methodLink RL 195 yX4_digest ∈ lw_g := wm_t 1028 (by decide +kernel) (by decide +kernel)
theorem wm_1029 : Cond.instanceMethod yX4_digest ∈ lw_g := wm_t 1029 (by decide +kernel) (by decide +kernel)
theorem wm_1030 : Cond.selects RX4 yX4_digest yX4_digest ∈ lw_g := wm_t 1030 (by decide +kernel) (by decide +kernel)
theorem wm_1031 : Cond.code yX4_digest cX4_digest 2 (Option.some Jvm.ClassFile.FieldType.long) ∈ lw_g := wm_t 1031 (by decide +kernel) (by decide +kernel)
theorem wm_1032 : Cond.constantLong RX4 202 (3511 : Int64) ∈ lw_g := wm_t 1032 (by decide +kernel) (by decide +kernel)
theorem wm_1033 : Cond.methodLink RX4 198 yX4_mix ∈ lw_g := wm_t 1033 (by decide +kernel) (by decide +kernel)
theorem wm_1035 : Cond.instanceMethod yX4_mix ∈ lw_g := wm_t 1035 (by decide +kernel) (by decide +kernel)
theorem wm_1036 : Cond.code yX4_mix cX4_mix 2 none ∈ lw_g := wm_t 1036 (by decide +kernel) (by decide +kernel)
theorem wm_1037 : Cond.constantLong RX4 192 (31 : Int64) ∈ lw_g := wm_t 1037 (by decide +kernel) (by decide +kernel)
theorem wm_1038 : Cond.methodLink RX4 204 yX4_mixRoom ∈ lw_g := wm_t 1038 (by decide +kernel) (by decide +kernel)
theorem wm_1040 : Cond.instanceMethod yX4_mixRoom ∈ lw_g := wm_t 1040 (by decide +kernel) (by decide +kernel)
theorem wm_1041 : Cond.code yX4_mixRoom cX4_mixRoom 3 none ∈ lw_g := wm_t 1041 (by decide +kernel) (by decide +kernel)
theorem wm_1042 : Cond.arrayClass Jvm.ClassFile.FieldType.long ∈ lw_g := wm_t 1042 (by decide +kernel) (by decide +kernel)
theorem wp_0 : Cond.selects RX1 yX1_firstWrongWith yX1_firstWrongWith ∈ lw_g := wm_p 0 (by decide +kernel) (by decide +kernel)
theorem wp_1 : Cond.selects RX1 yX1_rackOfEnd yX1_rackOfEnd ∈ lw_g := wm_p 1 (by decide +kernel) (by decide +kernel)
theorem wp_2 : Cond.selects RX3 yX3_save yX3_save ∈ lw_g := wm_p 2 (by decide +kernel) (by decide +kernel)
theorem wp_3 : Cond.selects RX0 yX0_readPart yX0_readPart ∈ lw_g := wm_p 3 (by decide +kernel) (by decide +kernel)
theorem wp_4 : Cond.selects RX0 yX0_byteAt yX0_byteAt ∈ lw_g := wm_p 4 (by decide +kernel) (by decide +kernel)
theorem wp_5 : Cond.selects RX0 yX0_readStep yX0_readStep ∈ lw_g := wm_p 5 (by decide +kernel) (by decide +kernel)
theorem wp_6 : Cond.selects RX0 yX0_readMachine yX0_readMachine ∈ lw_g := wm_p 6 (by decide +kernel) (by decide +kernel)
theorem wp_7 : Cond.selects RX0 yX0_readByte yX0_readByte ∈ lw_g := wm_p 7 (by decide +kernel) (by decide +kernel)
theorem wp_8 : Cond.selects RX0 yX0_readRack yX0_readRack ∈ lw_g := wm_p 8 (by decide +kernel) (by decide +kernel)
theorem wp_9 : Cond.selects RX0 yX0_readDigit yX0_readDigit ∈ lw_g := wm_p 9 (by decide +kernel) (by decide +kernel)
theorem wp_10 : Cond.selects RX1 yX1_slotBehindMove yX1_slotBehindMove ∈ lw_g := wm_p 10 (by decide +kernel) (by decide +kernel)
theorem wp_11 : Cond.selects RX1 yX1_pushStep yX1_pushStep ∈ lw_g := wm_p 11 (by decide +kernel) (by decide +kernel)
theorem wp_13 : Cond.selects RX3 yX3_mixRack yX3_mixRack ∈ lw_g := wm_p 13 (by decide +kernel) (by decide +kernel)
theorem wp_14 : Cond.selects RX3 yX3_checkMachine yX3_checkMachine ∈ lw_g := wm_p 14 (by decide +kernel) (by decide +kernel)
theorem wp_15 : Cond.selects RX3 yX3_checkCable yX3_checkCable ∈ lw_g := wm_p 15 (by decide +kernel) (by decide +kernel)
theorem wp_16 : Cond.selects RX4 yX4_refused yX4_refused ∈ lw_g := wm_p 16 (by decide +kernel) (by decide +kernel)
theorem wp_17 : Cond.selects RX4 yX4_puts yX4_puts ∈ lw_g := wm_p 17 (by decide +kernel) (by decide +kernel)
theorem wp_18 : Cond.selects RX4 yX4_saves yX4_saves ∈ lw_g := wm_p 18 (by decide +kernel) (by decide +kernel)
theorem wp_19 : Cond.selects RX4 yX4_savesFrom yX4_savesFrom ∈ lw_g := wm_p 19 (by decide +kernel) (by decide +kernel)
theorem wp_20 : Cond.selects RX4 yX4_isMachine yX4_isMachine ∈ lw_g := wm_p 20 (by decide +kernel) (by decide +kernel)
theorem wp_21 : Cond.selects RX4 yX4_adds yX4_adds ∈ lw_g := wm_p 21 (by decide +kernel) (by decide +kernel)
theorem wp_22 : Cond.selects RX4 yX4_isCable yX4_isCable ∈ lw_g := wm_p 22 (by decide +kernel) (by decide +kernel)
theorem wp_23 : Cond.selects RX4 yX4_drops yX4_drops ∈ lw_g := wm_p 23 (by decide +kernel) (by decide +kernel)
theorem wp_24 : Cond.selects RX4 yX4_tellMachine yX4_tellMachine ∈ lw_g := wm_p 24 (by decide +kernel) (by decide +kernel)
theorem wp_25 : Cond.selects RX4 yX4_of yX4_of ∈ lw_g := wm_p 25 (by decide +kernel) (by decide +kernel)
theorem wp_26 : Cond.selects RX4 yX4_isFrozen yX4_isFrozen ∈ lw_g := wm_p 26 (by decide +kernel) (by decide +kernel)
theorem wp_27 : Cond.selects RX4 yX4_cablesOf yX4_cablesOf ∈ lw_g := wm_p 27 (by decide +kernel) (by decide +kernel)
theorem wp_28 : Cond.selects RX4 yX4_tellRack yX4_tellRack ∈ lw_g := wm_p 28 (by decide +kernel) (by decide +kernel)
theorem wp_29 : Cond.selects RX4 yX4_load yX4_load ∈ lw_g := wm_p 29 (by decide +kernel) (by decide +kernel)
theorem wp_30 : Cond.selects RX4 yX4_machinesIn yX4_machinesIn ∈ lw_g := wm_p 30 (by decide +kernel) (by decide +kernel)
theorem wp_31 : Cond.selects RX4 yX4_freeSlots yX4_freeSlots ∈ lw_g := wm_p 31 (by decide +kernel) (by decide +kernel)
theorem wp_32 : Cond.selects RX4 yX4_machineAt yX4_machineAt ∈ lw_g := wm_p 32 (by decide +kernel) (by decide +kernel)
theorem wp_33 : Cond.selects RX4 yX4_lowest yX4_lowest ∈ lw_g := wm_p 33 (by decide +kernel) (by decide +kernel)
theorem wp_34 : Cond.selects RX4 yX4_areFree yX4_areFree ∈ lw_g := wm_p 34 (by decide +kernel) (by decide +kernel)
theorem wp_35 : Cond.selects RX4 yX4_tellCable yX4_tellCable ∈ lw_g := wm_p 35 (by decide +kernel) (by decide +kernel)
theorem wp_36 : Cond.selects RX4 yX4_needs yX4_needs ∈ lw_g := wm_p 36 (by decide +kernel) (by decide +kernel)
theorem wp_37 : Cond.selects RX4 yX4_inTray yX4_inTray ∈ lw_g := wm_p 37 (by decide +kernel) (by decide +kernel)
theorem wp_38 : Cond.selects RX4 yX4_tellValue yX4_tellValue ∈ lw_g := wm_p 38 (by decide +kernel) (by decide +kernel)
theorem wp_39 : Cond.selects RX4 yX4_standing yX4_standing ∈ lw_g := wm_p 39 (by decide +kernel) (by decide +kernel)
theorem wp_40 : Cond.selects RX4 yX4_difference yX4_difference ∈ lw_g := wm_p 40 (by decide +kernel) (by decide +kernel)
theorem wp_41 : Cond.selects RX4 yX4_wrong yX4_wrong ∈ lw_g := wm_p 41 (by decide +kernel) (by decide +kernel)
theorem wp_42 : Cond.selects RX4 yX4_moves yX4_moves ∈ lw_g := wm_p 42 (by decide +kernel) (by decide +kernel)
theorem wp_43 : Cond.selects RX4 yX4_steps yX4_steps ∈ lw_g := wm_p 43 (by decide +kernel) (by decide +kernel)
theorem wp_44 : Cond.selects RX4 yX4_places yX4_places ∈ lw_g := wm_p 44 (by decide +kernel) (by decide +kernel)
theorem wp_45 : Cond.selects RX4 yX4_ends yX4_ends ∈ lw_g := wm_p 45 (by decide +kernel) (by decide +kernel)
theorem wp_46 : Cond.selects RX4 yX4_changes yX4_changes ∈ lw_g := wm_p 46 (by decide +kernel) (by decide +kernel)
theorem wp_47 : Cond.selects RX4 yX4_backs yX4_backs ∈ lw_g := wm_p 47 (by decide +kernel) (by decide +kernel)
theorem wp_48 : Cond.selects RX4 yX4_tellPile yX4_tellPile ∈ lw_g := wm_p 48 (by decide +kernel) (by decide +kernel)
theorem wp_49 : Cond.selects RX4 yX4_fullest yX4_fullest ∈ lw_g := wm_p 49 (by decide +kernel) (by decide +kernel)
theorem wp_50 : Cond.selects RX4 yX4_reads yX4_reads ∈ lw_g := wm_p 50 (by decide +kernel) (by decide +kernel)
theorem wp_51 : Cond.selects RX4 yX4_takes yX4_takes ∈ lw_g := wm_p 51 (by decide +kernel) (by decide +kernel)
theorem wp_52 : Cond.selects RX4 yX4_isAt yX4_isAt ∈ lw_g := wm_p 52 (by decide +kernel) (by decide +kernel)
theorem wp_53 : Cond.selects RX4 yX4_takesMachine yX4_takesMachine ∈ lw_g := wm_p 53 (by decide +kernel) (by decide +kernel)
theorem wp_54 : Cond.selects RX4 yX4_mix yX4_mix ∈ lw_g := wm_p 54 (by decide +kernel) (by decide +kernel)
theorem wp_55 : Cond.selects RX4 yX4_mixRoom yX4_mixRoom ∈ lw_g := wm_p 55 (by decide +kernel) (by decide +kernel)
end
section
/-! THE JUDGEMENT J: at pc, with the cells ws, the locals lv and the stack st, the machine comes to its end; all heaps that hold ws alike. -/
theorem lg_words {args : Array Value} {s : State} (h : ∀ w ∈ lw_tbl, w.before args s = true) : ∀ w ∈ lw_g, w.before args s = true := fun w hw => h w (List.mem_filter.mp hw).1
theorem lg_good {w : Cond} (h : w ∈ lw_g) : goodWord w = true := (List.mem_filter.mp h).2
theorem lg_in {big ws : List Cond} (hb : ∀ w ∈ lw_g, w ∈ big) (h : ∀ w ∈ ws, w ∈ lw_g) : GoodIn big ws := fun w hw => ⟨hb w (h w hw), good_of_word (lg_good (h w hw))⟩
theorem lg_cons {c : Cond} (h : c ∈ lw_g) : ∀ w ∈ c :: lw_g, w ∈ lw_g := fun w hw => (List.mem_cons.mp hw).elim (fun e => by rw [e]; exact h) id
abbrev tyG (D : va_G) : List (ClassId × FieldType) := [(D.1 100, .int), (D.1 101, .object RX1), (D.1 102, .long)]
abbrev Cx : Type := Program × Env × State × MethodId × Array Value × List Frame × Method × Code × (State → Prop) × (Nat → Prop) × Heap
def J (X : Cx) (l : Launch) (R : Room) (D : va_G) (nL k n : Nat) (ws : va_W) (lv : List (Nat × Value)) (pc : Nat) (st : List Value) : Prop :=
  match X with
  | (p, e, s, m, args, below, meth, c, Q, A, H0) => ∀ (H : Heap) (locs : List Loc) (ls : Array Slot), va_P D vwCl ws H → va_D A ws → va_S A H0 H locs → lv_has ls nL lv → W p l e R s m args below meth c H locs k n Q (F0 m pc ls st)
def OK (X : Cx) (D : va_G) (nL : Nat) (cc : ByteArray) (own : String) : Prop :=
  match X with
  | (p, _, s, m, args, _, meth, c, _, A, H0) => p.tables.exec = Jvm.exec ∧ c.code = cc ∧ c.maxLocals = nL ∧ s.vm.findClass own = some m.cls ∧ (∀ w ∈ lw_g, w.before args s = true) ∧ va_K D vwCl (tyG D) s ∧ meth.locks = false ∧ (∀ q, H0.size ≤ q → A q)
def CtPre (D : va_G) (ws : va_W) (sz : Nat) : State → Prop := fun U => U.heap.size = sz ∧ va_P D vwCl ws U.heap ∧ va_K D vwCl (tyG D) U ∧ va_D (fun _ => True) ws
def CtQ (D : va_G) (A : Nat → Prop) (Post : Option Value → va_W → Prop) : Array Value → State → Outcome → State → Prop := fun _ st oc t => (∃ (v : Option Value) (w' : va_W), oc = .returned v ∧ Post v w' ∧ va_P D vwCl w' t.heap ∧ va_D A w') ∧ va_F A st t
def RT (X : Cx) (D : va_G) (ret : Option FieldType) (mc ms : Nat) (Post : Option Value → va_W → Prop) : Prop :=
  match X with
  | (_, _, s, _, args, below, meth, _, Q, A, H0) => meth.sig.returnType = ret ∧ H0 = s.heap ∧ Q = MQ below (CtQ D A Post) args s mc ms A
/-- a method's contract: the room it needs, its arguments, its cells, what it answers with which cells behind -/
def Ct (l : Launch) (D : va_G) (y : MethodName) (b : ByteArray) (n : Nat) (ret : Option FieldType) (rm : Room) (mc ms : Nat) (avs : List Value) (ws : va_W) (Post : Option Value → va_W → Prop) : Prop :=
  ∀ sz : Nat, Met l y (Cond.code y b n ret :: lw_g) rm (va_Pc avs (CtPre D ws sz)) (CtQ D (va_A ws sz) Post) mc ms (va_A ws sz)
theorem Ct_blind {D : va_G} {ws : va_W} {sz : Nat} {avs : List Value} : FrameBlind (va_Pc avs (CtPre D ws sz)) := fun a U g mk h => by
  obtain ⟨h1, h2, h3, h4, h5⟩ := h
  exact ⟨h1, h2, h3, va_K.moved (u := U) (U := U.calling g mk a) (Vm.Alike.refl U.vm) h4, h5⟩
theorem Ct.of {l : Launch} {D : va_G} {y : MethodName} {b : ByteArray} {n : Nat} {ret : Option FieldType} {rm : Room} {mc ms : Nat} {avs : List Value} {ws : va_W} {Post : Option Value → va_W → Prop} {own : String} {lv : List (Nat × Value)}
    (hy : plainName y.cls = true) (ho : y.cls = own) (hle : (lg_sl avs).length ≤ n) (hlv : lv_args 0 avs = lv)
    (body : ∀ X : Cx, OK X D n b own → RT X D ret mc ms Post → J X l rm D n 0 0 ws lv 0 []) : Ct l D y b n ret rm mc ms avs ws Post := by
  intro sz
  refine Met.ofW (cc := b) (maxL := n) (ret := ret) hy rfl ?_
  intro p e s m args below meth c s₁ B hml hv
  obtain ⟨rfl, hsz, hP, hK, hD0⟩ := hv
  have hx := B.exec
  have hb := B.bytes
  have hr := B.returns
  have hts := atoms_spec (ws := Cond.code y b n ret :: lw_g) B.pre
  have hown : s.vm.findClass y.cls = some m.cls := findClass_of_methodNamed B.named
  have hlocks := B.notSynchronized
  subst hsz
  have hA : ∀ q : Nat, s.heap.size ≤ q → va_A ws s.heap.size q := fun q h => Or.inr h
  have hl := lv_entry avs (n := n) hle
  rw [hlv] at hl
  rw [lg_entry_eq]
  exact body (p, e, s, m, avs.toArray, below, meth, c, MQ below (CtQ D (va_A ws s.heap.size) Post) avs.toArray s mc ms (va_A ws s.heap.size), va_A ws s.heap.size, s.heap)
    ⟨hx, hb, hml, by rw [← ho]; exact hown, fun w hw => hts w (List.mem_cons_of_mem _ hw), hK, hlocks, hA⟩ ⟨hr, rfl, rfl⟩ s.heap [] _ hP hD0.self va_S.rf hl
section JR
variable {X : Cx} {l : Launch} {R : Room} {D : va_G} {nL k n : Nat} {cc : ByteArray} {own : String} {ws ws' : va_W} {lv lv' : List (Nat × Value)} {pc : Nat} {st : List Value}
theorem J.sub (is : List Nat) (hs : is.map (fun i => ws[i]?) = ws'.map some) (hn : va_nd is = true) (kk : J X l R D nL k n ws' lv pc st) : J X l R D nL k n ws lv pc st := by
  obtain ⟨p, e, s, m, args, below, meth, c, Q, A, H0⟩ := X
  intro H locs ls hP hD hS hl
  refine kk H locs ls ?_ (hD.sub is hn hs) hS hl
  intro a q ha
  have h1 : (is.map (fun i => ws[i]?))[a]? = some (some q) := by rw [hs, List.getElem?_map, ha]; rfl
  rw [List.getElem?_map] at h1
  cases hi : is[a]? with
  | none => rw [hi] at h1; cases h1
  | some i => rw [hi] at h1; exact hP i q (Option.some.inj h1)
theorem J.loc (is : List Nat) (hs : lv_pick lv is = lv') (kk : J X l R D nL k n ws lv' pc st) : J X l R D nL k n ws lv pc st := by
  obtain ⟨p, e, s, m, args, below, meth, c, Q, A, H0⟩ := X
  intro H locs ls hP hD hS hl
  exact kk H locs ls hP hD hS (lv_sub hl is hs)
theorem J.widen {k1 n1 : Nat} (h1 : k ≤ k1) (h2 : n ≤ n1) (kk : J X l R D nL k1 n1 ws lv pc st) : J X l R D nL k n ws lv pc st := by
  obtain ⟨p, e, s, m, args, below, meth, c, Q, A, H0⟩ := X
  intro H locs ls hP hD hS hl
  exact W.widen h1 h2 (kk H locs ls hP hD hS hl)
theorem J.wse (h : ws = ws') (kk : J X l R D nL k n ws' lv pc st) : J X l R D nL k n ws lv pc st := by rw [h]; exact kk
theorem J.ste {st' : List Value} (h : st = st') (kk : J X l R D nL k n ws lv pc st') : J X l R D nL k n ws lv pc st := by rw [h]; exact kk
theorem r_iload (h : OK X D nL cc own) {i : Nat} {x : Int32} (q : Nat) (hk : lv[q]? = some (i, .int x)) (hd : decode cc pc = .ok (.iload i, 2)) (kk : J X l R D nL k n ws lv (pc + 2) (.int x :: st)) : J X l R D nL k n ws lv pc st := by
  obtain ⟨p, e, s, m, args, below, meth, c, Q, A, H0⟩ := X
  intro H locs ls hP hD hS hl
  exact lv_iload h.1 h.2.1 hd (lv_at hl q hk) (kk H locs ls hP hD hS hl)
theorem r_iload_n (h : OK X D nL cc own) {i : Nat} {f : Fin 4} {x : Int32} (q : Nat) (hk : lv[q]? = some (i, .int x)) (hi : (f : Nat) = i) (hd : decode cc pc = .ok (.iload_n f, 1)) (kk : J X l R D nL k n ws lv (pc + 1) (.int x :: st)) : J X l R D nL k n ws lv pc st := by
  obtain ⟨p, e, s, m, args, below, meth, c, Q, A, H0⟩ := X
  intro H locs ls hP hD hS hl
  exact lv_iload_n h.1 h.2.1 hd hi (lv_at hl q hk) (kk H locs ls hP hD hS hl)
theorem r_aload (h : OK X D nL cc own) {i : Nat} {x : Nat} (q : Nat) (hk : lv[q]? = some (i, .ref x)) (hd : decode cc pc = .ok (.aload i, 2)) (kk : J X l R D nL k n ws lv (pc + 2) (.ref x :: st)) : J X l R D nL k n ws lv pc st := by
  obtain ⟨p, e, s, m, args, below, meth, c, Q, A, H0⟩ := X
  intro H locs ls hP hD hS hl
  exact lv_aload h.1 h.2.1 hd (lv_at hl q hk) (kk H locs ls hP hD hS hl)
theorem r_aload_n (h : OK X D nL cc own) {i : Nat} {f : Fin 4} {x : Nat} (q : Nat) (hk : lv[q]? = some (i, .ref x)) (hi : (f : Nat) = i) (hd : decode cc pc = .ok (.aload_n f, 1)) (kk : J X l R D nL k n ws lv (pc + 1) (.ref x :: st)) : J X l R D nL k n ws lv pc st := by
  obtain ⟨p, e, s, m, args, below, meth, c, Q, A, H0⟩ := X
  intro H locs ls hP hD hS hl
  exact lv_aload_n h.1 h.2.1 hd hi (lv_at hl q hk) (kk H locs ls hP hD hS hl)
theorem r_lload (h : OK X D nL cc own) {i : Nat} {x : Int64} (q : Nat) (hk : lv[q]? = some (i, .long x)) (hd : decode cc pc = .ok (.lload i, 2)) (kk : J X l R D nL k n ws lv (pc + 2) (.long x :: st)) : J X l R D nL k n ws lv pc st := by
  obtain ⟨p, e, s, m, args, below, meth, c, Q, A, H0⟩ := X
  intro H locs ls hP hD hS hl
  exact lv_lload h.1 h.2.1 hd (lv_at hl q hk) (kk H locs ls hP hD hS hl)
theorem r_lload_n (h : OK X D nL cc own) {i : Nat} {f : Fin 4} {x : Int64} (q : Nat) (hk : lv[q]? = some (i, .long x)) (hi : (f : Nat) = i) (hd : decode cc pc = .ok (.lload_n f, 1)) (kk : J X l R D nL k n ws lv (pc + 1) (.long x :: st)) : J X l R D nL k n ws lv pc st := by
  obtain ⟨p, e, s, m, args, below, meth, c, Q, A, H0⟩ := X
  intro H locs ls hP hD hS hl
  exact lv_lload_n h.1 h.2.1 hd hi (lv_at hl q hk) (kk H locs ls hP hD hS hl)
theorem r_dload (h : OK X D nL cc own) {i : Nat} {x : UInt64} (q : Nat) (hk : lv[q]? = some (i, .double x)) (hd : decode cc pc = .ok (.dload i, 2)) (kk : J X l R D nL k n ws lv (pc + 2) (.double x :: st)) : J X l R D nL k n ws lv pc st := by
  obtain ⟨p, e, s, m, args, below, meth, c, Q, A, H0⟩ := X
  intro H locs ls hP hD hS hl
  exact lv_dload h.1 h.2.1 hd (lv_at hl q hk) (kk H locs ls hP hD hS hl)
theorem r_istore_n (h : OK X D nL cc own) {i : Nat} {f : Fin 4} {x : Int32} (hi : (f : Nat) = i) (hd : decode cc pc = .ok (.istore_n f, 1)) (hn : i < nL) (hl : (i, Value.int x) :: lv.filter (fun q => !(q.1 == i) && !(q.1 + 1 == i && q.2.category == 2)) = lv') (kk : J X l R D nL k n ws lv' (pc + 1) st) : J X l R D nL k n ws lv pc (.int x :: st) := by
  obtain ⟨p, e, s, m, args, below, meth, c, Q, A, H0⟩ := X
  intro H locs ls hP hD hS hl0
  exact lv_istore_n h.1 h.2.1 hd hi hl0 hn hl (fun ls' hl' => kk H locs ls' hP hD hS hl')
theorem r_istore (h : OK X D nL cc own) {i : Nat} {x : Int32} (hd : decode cc pc = .ok (.istore i, 2)) (hn : i < nL) (hl : (i, Value.int x) :: lv.filter (fun q => !(q.1 == i) && !(q.1 + 1 == i && q.2.category == 2)) = lv') (kk : J X l R D nL k n ws lv' (pc + 2) st) : J X l R D nL k n ws lv pc (.int x :: st) := by
  obtain ⟨p, e, s, m, args, below, meth, c, Q, A, H0⟩ := X
  intro H locs ls hP hD hS hl0
  exact lv_istore h.1 h.2.1 hd hl0 hn hl (fun ls' hl' => kk H locs ls' hP hD hS hl')
theorem r_astore_n (h : OK X D nL cc own) {i : Nat} {f : Fin 4} {x : Nat} (hi : (f : Nat) = i) (hd : decode cc pc = .ok (.astore_n f, 1)) (hn : i < nL) (hl : (i, Value.ref x) :: lv.filter (fun q => !(q.1 == i) && !(q.1 + 1 == i && q.2.category == 2)) = lv') (kk : J X l R D nL k n ws lv' (pc + 1) st) : J X l R D nL k n ws lv pc (.ref x :: st) := by
  obtain ⟨p, e, s, m, args, below, meth, c, Q, A, H0⟩ := X
  intro H locs ls hP hD hS hl0
  exact lv_astore_n h.1 h.2.1 hd hi hl0 hn hl (fun ls' hl' => kk H locs ls' hP hD hS hl')
theorem r_astore (h : OK X D nL cc own) {i : Nat} {x : Nat} (hd : decode cc pc = .ok (.astore i, 2)) (hn : i < nL) (hl : (i, Value.ref x) :: lv.filter (fun q => !(q.1 == i) && !(q.1 + 1 == i && q.2.category == 2)) = lv') (kk : J X l R D nL k n ws lv' (pc + 2) st) : J X l R D nL k n ws lv pc (.ref x :: st) := by
  obtain ⟨p, e, s, m, args, below, meth, c, Q, A, H0⟩ := X
  intro H locs ls hP hD hS hl0
  exact lv_astore h.1 h.2.1 hd hl0 hn hl (fun ls' hl' => kk H locs ls' hP hD hS hl')
theorem r_lstore_n (h : OK X D nL cc own) {i : Nat} {f : Fin 4} {x : Int64} (hi : (f : Nat) = i) (hd : decode cc pc = .ok (.lstore_n f, 1)) (hn : i + 1 < nL) (hl : (i, Value.long x) :: lv.filter (fun q => !(q.1 == i) && (!(q.1 == i + 1) && !(q.1 + 1 == i && q.2.category == 2))) = lv') (kk : J X l R D nL k n ws lv' (pc + 1) st) : J X l R D nL k n ws lv pc (.long x :: st) := by
  obtain ⟨p, e, s, m, args, below, meth, c, Q, A, H0⟩ := X
  intro H locs ls hP hD hS hl0
  exact lv_lstore_n h.1 h.2.1 hd hi hl0 hn hl (fun ls' hl' => kk H locs ls' hP hD hS hl')
theorem r_lstore (h : OK X D nL cc own) {i : Nat} {x : Int64} (hd : decode cc pc = .ok (.lstore i, 2)) (hn : i + 1 < nL) (hl : (i, Value.long x) :: lv.filter (fun q => !(q.1 == i) && (!(q.1 == i + 1) && !(q.1 + 1 == i && q.2.category == 2))) = lv') (kk : J X l R D nL k n ws lv' (pc + 2) st) : J X l R D nL k n ws lv pc (.long x :: st) := by
  obtain ⟨p, e, s, m, args, below, meth, c, Q, A, H0⟩ := X
  intro H locs ls hP hD hS hl0
  exact lv_lstore h.1 h.2.1 hd hl0 hn hl (fun ls' hl' => kk H locs ls' hP hD hS hl')
theorem r_dstore (h : OK X D nL cc own) {i : Nat} {x : UInt64} (hd : decode cc pc = .ok (.dstore i, 2)) (hn : i + 1 < nL) (hl : (i, Value.double x) :: lv.filter (fun q => !(q.1 == i) && (!(q.1 == i + 1) && !(q.1 + 1 == i && q.2.category == 2))) = lv') (kk : J X l R D nL k n ws lv' (pc + 2) st) : J X l R D nL k n ws lv pc (.double x :: st) := by
  obtain ⟨p, e, s, m, args, below, meth, c, Q, A, H0⟩ := X
  intro H locs ls hP hD hS hl0
  exact lv_dstore h.1 h.2.1 hd hl0 hn hl (fun ls' hl' => kk H locs ls' hP hD hS hl')
theorem r_iinc (h : OK X D nL cc own) {i : Nat} {z : Int} {x v : Int32} (q : Nat) (hk : lv[q]? = some (i, .int x)) (hv : x + Int32.ofInt z = v) (hd : decode cc pc = .ok (.iinc i z, 3)) (hn : i < nL) (hl : (i, Value.int v) :: lv.filter (fun q => !(q.1 == i) && !(q.1 + 1 == i && q.2.category == 2)) = lv') (kk : J X l R D nL k n ws lv' (pc + 3) st) : J X l R D nL k n ws lv pc st := by
  obtain ⟨p, e, s, m, args, below, meth, c, Q, A, H0⟩ := X
  intro H locs ls hP hD hS hl0
  exact lv_iinc h.1 h.2.1 hd hl0 hk hv hn hl (fun ls' hl' => kk H locs ls' hP hD hS hl')
theorem r_iconst (h : OK X D nL cc own) {z : Int} {v : Int32} (hd : decode cc pc = .ok (.iconst z, 1)) (hv : Int32.ofInt z = v) (kk : J X l R D nL k n ws lv (pc + 1) (.int v :: st)) : J X l R D nL k n ws lv pc st := by
  obtain ⟨p, e, s, m, args, below, meth, c, Q, A, H0⟩ := X
  intro H locs ls hP hD hS hl
  exact lv_iconst h.1 h.2.1 hd hv (kk H locs ls hP hD hS hl)
theorem r_bipush (h : OK X D nL cc own) {z : Int} {v : Int32} (hd : decode cc pc = .ok (.bipush z, 2)) (hv : (Int8.ofInt z).toInt32 = v) (kk : J X l R D nL k n ws lv (pc + 2) (.int v :: st)) : J X l R D nL k n ws lv pc st := by
  obtain ⟨p, e, s, m, args, below, meth, c, Q, A, H0⟩ := X
  intro H locs ls hP hD hS hl
  exact lv_bipush h.1 h.2.1 hd hv (kk H locs ls hP hD hS hl)
theorem r_sipush (h : OK X D nL cc own) {z : Int} {v : Int32} (hd : decode cc pc = .ok (.sipush z, 3)) (hv : (Int16.ofInt z).toInt32 = v) (kk : J X l R D nL k n ws lv (pc + 3) (.int v :: st)) : J X l R D nL k n ws lv pc st := by
  obtain ⟨p, e, s, m, args, below, meth, c, Q, A, H0⟩ := X
  intro H locs ls hP hD hS hl
  exact lv_sipush h.1 h.2.1 hd hv (kk H locs ls hP hD hS hl)
theorem r_ldc2 (h : OK X D nL cc own) {idx : Nat} {v : Int64} (w : Cond.constantLong own idx v ∈ lw_g) (hd : decode cc pc = .ok (.ldc2_w idx, 3)) (kk : J X l R D nL k n ws lv (pc + 3) (.long v :: st)) : J X l R D nL k n ws lv pc st := by
  obtain ⟨p, e, s, m, args, below, meth, c, Q, A, H0⟩ := X
  intro H locs ls hP hD hS hl
  exact lv_ldc2 h.1 h.2.1 h.2.2.2.1 (h.2.2.2.2.1 _ w) hd (kk H locs ls hP hD hS hl)
theorem r_ldc2d (h : OK X D nL cc own) {idx : Nat} {v : UInt64} (w : Cond.constantDouble own idx v ∈ lw_g) (hd : decode cc pc = .ok (.ldc2_w idx, 3)) (kk : J X l R D nL k n ws lv (pc + 3) (.double v :: st)) : J X l R D nL k n ws lv pc st := by
  obtain ⟨p, e, s, m, args, below, meth, c, Q, A, H0⟩ := X
  intro H locs ls hP hD hS hl
  exact lv_ldc2d h.1 h.2.1 h.2.2.2.1 (h.2.2.2.2.1 _ w) hd (kk H locs ls hP hD hS hl)
theorem r_dup (h : OK X D nL cc own) {v : Value} (hv : v.category = 1) (hd : decode cc pc = .ok (.dup, 1)) (kk : J X l R D nL k n ws lv (pc + 1) (v :: v :: st)) : J X l R D nL k n ws lv pc (v :: st) := by
  obtain ⟨p, e, s, m, args, below, meth, c, Q, A, H0⟩ := X
  intro H locs ls hP hD hS hl
  exact lv_dup h.1 h.2.1 hd hv (kk H locs ls hP hD hS hl)
theorem r_dup2 (h : OK X D nL cc own) {v w : Value} (hv : v.category = 1) (hw : w.category = 1) (hd : decode cc pc = .ok (.dup2, 1)) (kk : J X l R D nL k n ws lv (pc + 1) (v :: w :: v :: w :: st)) : J X l R D nL k n ws lv pc (v :: w :: st) := by
  obtain ⟨p, e, s, m, args, below, meth, c, Q, A, H0⟩ := X
  intro H locs ls hP hD hS hl
  exact lv_dup2_11 h.1 h.2.1 hd hv hw (kk H locs ls hP hD hS hl)
theorem r_iadd (h : OK X D nL cc own) {x y : Int32} (hd : decode cc pc = .ok (.iadd, 1)) (kk : J X l R D nL k n ws lv (pc + 1) (.int (x + y) :: st)) : J X l R D nL k n ws lv pc (.int y :: .int x :: st) := by
  obtain ⟨p, e, s, m, args, below, meth, c, Q, A, H0⟩ := X
  intro H locs ls hP hD hS hl
  exact lv_iadd h.1 h.2.1 hd (kk H locs ls hP hD hS hl)
theorem r_isub (h : OK X D nL cc own) {x y : Int32} (hd : decode cc pc = .ok (.isub, 1)) (kk : J X l R D nL k n ws lv (pc + 1) (.int (x - y) :: st)) : J X l R D nL k n ws lv pc (.int y :: .int x :: st) := by
  obtain ⟨p, e, s, m, args, below, meth, c, Q, A, H0⟩ := X
  intro H locs ls hP hD hS hl
  exact lv_isub h.1 h.2.1 hd (kk H locs ls hP hD hS hl)
theorem r_imul (h : OK X D nL cc own) {x y : Int32} (hd : decode cc pc = .ok (.imul, 1)) (kk : J X l R D nL k n ws lv (pc + 1) (.int (x * y) :: st)) : J X l R D nL k n ws lv pc (.int y :: .int x :: st) := by
  obtain ⟨p, e, s, m, args, below, meth, c, Q, A, H0⟩ := X
  intro H locs ls hP hD hS hl
  exact lv_imul h.1 h.2.1 hd (kk H locs ls hP hD hS hl)
theorem r_iand (h : OK X D nL cc own) {x y : Int32} (hd : decode cc pc = .ok (.iand, 1)) (kk : J X l R D nL k n ws lv (pc + 1) (.int (x &&& y) :: st)) : J X l R D nL k n ws lv pc (.int y :: .int x :: st) := by
  obtain ⟨p, e, s, m, args, below, meth, c, Q, A, H0⟩ := X
  intro H locs ls hP hD hS hl
  exact lv_iand h.1 h.2.1 hd (kk H locs ls hP hD hS hl)
theorem r_idiv (h : OK X D nL cc own) {x y : Int32} (hne : ¬ y = 0) (hd : decode cc pc = .ok (.idiv, 1)) (kk : J X l R D nL k n ws lv (pc + 1) (.int (x / y) :: st)) : J X l R D nL k n ws lv pc (.int y :: .int x :: st) := by
  obtain ⟨p, e, s, m, args, below, meth, c, Q, A, H0⟩ := X
  intro H locs ls hP hD hS hl
  exact lv_idiv h.1 h.2.1 hd hne (kk H locs ls hP hD hS hl)
theorem r_irem (h : OK X D nL cc own) {x y : Int32} (hne : ¬ y = 0) (hd : decode cc pc = .ok (.irem, 1)) (kk : J X l R D nL k n ws lv (pc + 1) (.int (x - x / y * y) :: st)) : J X l R D nL k n ws lv pc (.int y :: .int x :: st) := by
  obtain ⟨p, e, s, m, args, below, meth, c, Q, A, H0⟩ := X
  intro H locs ls hP hD hS hl
  exact lv_irem h.1 h.2.1 hd hne (kk H locs ls hP hD hS hl)
theorem r_ladd (h : OK X D nL cc own) {x y : Int64} (hd : decode cc pc = .ok (.ladd, 1)) (kk : J X l R D nL k n ws lv (pc + 1) (.long (x + y) :: st)) : J X l R D nL k n ws lv pc (.long y :: .long x :: st) := by
  obtain ⟨p, e, s, m, args, below, meth, c, Q, A, H0⟩ := X
  intro H locs ls hP hD hS hl
  exact lv_ladd h.1 h.2.1 hd (kk H locs ls hP hD hS hl)
theorem r_lmul (h : OK X D nL cc own) {x y : Int64} (hd : decode cc pc = .ok (.lmul, 1)) (kk : J X l R D nL k n ws lv (pc + 1) (.long (x * y) :: st)) : J X l R D nL k n ws lv pc (.long y :: .long x :: st) := by
  obtain ⟨p, e, s, m, args, below, meth, c, Q, A, H0⟩ := X
  intro H locs ls hP hD hS hl
  exact lv_lmul h.1 h.2.1 hd (kk H locs ls hP hD hS hl)
theorem r_i2l (h : OK X D nL cc own) {x : Int32} (hd : decode cc pc = .ok (.i2l, 1)) (kk : J X l R D nL k n ws lv (pc + 1) (.long x.toInt64 :: st)) : J X l R D nL k n ws lv pc (.int x :: st) := by
  obtain ⟨p, e, s, m, args, below, meth, c, Q, A, H0⟩ := X
  intro H locs ls hP hD hS hl
  exact lv_i2l h.1 h.2.1 hd rfl (kk H locs ls hP hD hS hl)
theorem r_i2d (h : OK X D nL cc own) {x : Int32} (hd : decode cc pc = .ok (.i2d, 1)) (kk : J X l R D nL k n ws lv (pc + 1) (.double (FP.i2d x) :: st)) : J X l R D nL k n ws lv pc (.int x :: st) := by
  obtain ⟨p, e, s, m, args, below, meth, c, Q, A, H0⟩ := X
  intro H locs ls hP hD hS hl
  exact lv_i2d h.1 h.2.1 hd (kk H locs ls hP hD hS hl)
theorem r_ddiv (h : OK X D nL cc own) {x y : UInt64} (hne : vf_n64 (FP.ddiv x y)) (hd : decode cc pc = .ok (.ddiv, 1)) (kk : J X l R D nL k n ws lv (pc + 1) (.double (FP.ddiv x y) :: st)) : J X l R D nL k n ws lv pc (.double y :: .double x :: st) := by
  obtain ⟨p, e, s, m, args, below, meth, c, Q, A, H0⟩ := X
  intro H locs ls hP hD hS hl
  exact lv_ddiv h.1 h.2.1 hd hne (kk H locs ls hP hD hS hl)
theorem r_lcmp (h : OK X D nL cc own) {x y : Int64} (hd : decode cc pc = .ok (.lcmp, 1)) (kk : J X l R D nL k n ws lv (pc + 1) (.int (lg_cmp x y) :: st)) : J X l R D nL k n ws lv pc (.long y :: .long x :: st) := by
  obtain ⟨p, e, s, m, args, below, meth, c, Q, A, H0⟩ := X
  intro H locs ls hP hD hS hl
  exact W.lcmp h.1 h.2.1 hd (kk H locs ls hP hD hS hl)
theorem r_dcmp (h : OK X D nL cc own) {x y : UInt64} {op : CmpOp} (hd : decode cc pc = .ok (.dcmp op, 1)) (kk : J X l R D nL k n ws lv (pc + 1) (.int (Op.cmpValue (FP.dcmp x y) op) :: st)) : J X l R D nL k n ws lv pc (.double y :: .double x :: st) := by
  obtain ⟨p, e, s, m, args, below, meth, c, Q, A, H0⟩ := X
  intro H locs ls hP hD hS hl
  exact lv_dcmp h.1 h.2.1 hd (kk H locs ls hP hD hS hl)
theorem r_goto (h : OK X D nL cc own) {off : Int} (tgt : Nat) (hd : decode cc pc = .ok (.goto off, 3)) (ht : (pc : Int) + off = (tgt : Int)) (kk : J X l R D nL k n ws lv tgt st) : J X l R D nL k n ws lv pc st := by
  obtain ⟨p, e, s, m, args, below, meth, c, Q, A, H0⟩ := X
  intro H locs ls hP hD hS hl
  exact lv_goto h.1 h.2.1 hd ht (kk H locs ls hP hD hS hl)
theorem r_if_eq (h : OK X D nL cc own) {x : Int32} {off : Int} (tgt : Nat) (hd : decode cc pc = .ok (.ifCond .eq off, 3)) (ht : (pc : Int) + off = (tgt : Int)) (kt : x = 0 → J X l R D nL k n ws lv tgt st) (kf : ¬ x = 0 → J X l R D nL k n ws lv (pc + 3) st) : J X l R D nL k n ws lv pc (.int x :: st) := by
  obtain ⟨p, e, s, m, args, below, meth, c, Q, A, H0⟩ := X
  intro H locs ls hP hD hS hl
  exact lv_if_eq h.1 h.2.1 hd ht (fun z => kt z H locs ls hP hD hS hl) (fun z => kf z H locs ls hP hD hS hl)
theorem r_if_ne (h : OK X D nL cc own) {x : Int32} {off : Int} (tgt : Nat) (hd : decode cc pc = .ok (.ifCond .ne off, 3)) (ht : (pc : Int) + off = (tgt : Int)) (kt : ¬ x = 0 → J X l R D nL k n ws lv tgt st) (kf : x = 0 → J X l R D nL k n ws lv (pc + 3) st) : J X l R D nL k n ws lv pc (.int x :: st) := by
  obtain ⟨p, e, s, m, args, below, meth, c, Q, A, H0⟩ := X
  intro H locs ls hP hD hS hl
  exact lv_if_ne h.1 h.2.1 hd ht (fun z => kt z H locs ls hP hD hS hl) (fun z => kf z H locs ls hP hD hS hl)
theorem r_if_lt (h : OK X D nL cc own) {x : Int32} {off : Int} (tgt : Nat) (hd : decode cc pc = .ok (.ifCond .lt off, 3)) (ht : (pc : Int) + off = (tgt : Int)) (kt : x < 0 → J X l R D nL k n ws lv tgt st) (kf : ¬ x < 0 → J X l R D nL k n ws lv (pc + 3) st) : J X l R D nL k n ws lv pc (.int x :: st) := by
  obtain ⟨p, e, s, m, args, below, meth, c, Q, A, H0⟩ := X
  intro H locs ls hP hD hS hl
  exact lv_if_lt h.1 h.2.1 hd ht (fun z => kt z H locs ls hP hD hS hl) (fun z => kf z H locs ls hP hD hS hl)
theorem r_if_ge (h : OK X D nL cc own) {x : Int32} {off : Int} (tgt : Nat) (hd : decode cc pc = .ok (.ifCond .ge off, 3)) (ht : (pc : Int) + off = (tgt : Int)) (kt : 0 ≤ x → J X l R D nL k n ws lv tgt st) (kf : ¬ 0 ≤ x → J X l R D nL k n ws lv (pc + 3) st) : J X l R D nL k n ws lv pc (.int x :: st) := by
  obtain ⟨p, e, s, m, args, below, meth, c, Q, A, H0⟩ := X
  intro H locs ls hP hD hS hl
  exact lv_if_ge h.1 h.2.1 hd ht (fun z => kt z H locs ls hP hD hS hl) (fun z => kf z H locs ls hP hD hS hl)
theorem r_if_le (h : OK X D nL cc own) {x : Int32} {off : Int} (tgt : Nat) (hd : decode cc pc = .ok (.ifCond .le off, 3)) (ht : (pc : Int) + off = (tgt : Int)) (kt : x ≤ 0 → J X l R D nL k n ws lv tgt st) (kf : ¬ x ≤ 0 → J X l R D nL k n ws lv (pc + 3) st) : J X l R D nL k n ws lv pc (.int x :: st) := by
  obtain ⟨p, e, s, m, args, below, meth, c, Q, A, H0⟩ := X
  intro H locs ls hP hD hS hl
  exact lv_if_le h.1 h.2.1 hd ht (fun z => kt z H locs ls hP hD hS hl) (fun z => kf z H locs ls hP hD hS hl)
theorem r_if_gt (h : OK X D nL cc own) {x : Int32} {off : Int} (tgt : Nat) (hd : decode cc pc = .ok (.ifCond .gt off, 3)) (ht : (pc : Int) + off = (tgt : Int)) (kt : 0 < x → J X l R D nL k n ws lv tgt st) (kf : ¬ 0 < x → J X l R D nL k n ws lv (pc + 3) st) : J X l R D nL k n ws lv pc (.int x :: st) := by
  obtain ⟨p, e, s, m, args, below, meth, c, Q, A, H0⟩ := X
  intro H locs ls hP hD hS hl
  exact lv_if_gt h.1 h.2.1 hd ht (fun z => kt z H locs ls hP hD hS hl) (fun z => kf z H locs ls hP hD hS hl)
theorem r_icmp_eq (h : OK X D nL cc own) {x y : Int32} {off : Int} (tgt : Nat) (hd : decode cc pc = .ok (.if_icmp .eq off, 3)) (ht : (pc : Int) + off = (tgt : Int)) (kt : x = y → J X l R D nL k n ws lv tgt st) (kf : ¬ x = y → J X l R D nL k n ws lv (pc + 3) st) : J X l R D nL k n ws lv pc (.int y :: .int x :: st) := by
  obtain ⟨p, e, s, m, args, below, meth, c, Q, A, H0⟩ := X
  intro H locs ls hP hD hS hl
  exact lv_icmp_eq h.1 h.2.1 hd ht (fun z => kt z H locs ls hP hD hS hl) (fun z => kf z H locs ls hP hD hS hl)
theorem r_icmp_ne (h : OK X D nL cc own) {x y : Int32} {off : Int} (tgt : Nat) (hd : decode cc pc = .ok (.if_icmp .ne off, 3)) (ht : (pc : Int) + off = (tgt : Int)) (kt : ¬ x = y → J X l R D nL k n ws lv tgt st) (kf : x = y → J X l R D nL k n ws lv (pc + 3) st) : J X l R D nL k n ws lv pc (.int y :: .int x :: st) := by
  obtain ⟨p, e, s, m, args, below, meth, c, Q, A, H0⟩ := X
  intro H locs ls hP hD hS hl
  exact lv_icmp_ne h.1 h.2.1 hd ht (fun z => kt z H locs ls hP hD hS hl) (fun z => kf z H locs ls hP hD hS hl)
theorem r_icmp_lt (h : OK X D nL cc own) {x y : Int32} {off : Int} (tgt : Nat) (hd : decode cc pc = .ok (.if_icmp .lt off, 3)) (ht : (pc : Int) + off = (tgt : Int)) (kt : x < y → J X l R D nL k n ws lv tgt st) (kf : ¬ x < y → J X l R D nL k n ws lv (pc + 3) st) : J X l R D nL k n ws lv pc (.int y :: .int x :: st) := by
  obtain ⟨p, e, s, m, args, below, meth, c, Q, A, H0⟩ := X
  intro H locs ls hP hD hS hl
  exact lv_icmp_lt h.1 h.2.1 hd ht (fun z => kt z H locs ls hP hD hS hl) (fun z => kf z H locs ls hP hD hS hl)
theorem r_icmp_ge (h : OK X D nL cc own) {x y : Int32} {off : Int} (tgt : Nat) (hd : decode cc pc = .ok (.if_icmp .ge off, 3)) (ht : (pc : Int) + off = (tgt : Int)) (kt : y ≤ x → J X l R D nL k n ws lv tgt st) (kf : ¬ y ≤ x → J X l R D nL k n ws lv (pc + 3) st) : J X l R D nL k n ws lv pc (.int y :: .int x :: st) := by
  obtain ⟨p, e, s, m, args, below, meth, c, Q, A, H0⟩ := X
  intro H locs ls hP hD hS hl
  exact lv_icmp_ge h.1 h.2.1 hd ht (fun z => kt z H locs ls hP hD hS hl) (fun z => kf z H locs ls hP hD hS hl)
theorem r_icmp_gt (h : OK X D nL cc own) {x y : Int32} {off : Int} (tgt : Nat) (hd : decode cc pc = .ok (.if_icmp .gt off, 3)) (ht : (pc : Int) + off = (tgt : Int)) (kt : y < x → J X l R D nL k n ws lv tgt st) (kf : ¬ y < x → J X l R D nL k n ws lv (pc + 3) st) : J X l R D nL k n ws lv pc (.int y :: .int x :: st) := by
  obtain ⟨p, e, s, m, args, below, meth, c, Q, A, H0⟩ := X
  intro H locs ls hP hD hS hl
  exact lv_icmp_gt h.1 h.2.1 hd ht (fun z => kt z H locs ls hP hD hS hl) (fun z => kf z H locs ls hP hD hS hl)
theorem r_icmp_le (h : OK X D nL cc own) {x y : Int32} {off : Int} (tgt : Nat) (hd : decode cc pc = .ok (.if_icmp .le off, 3)) (ht : (pc : Int) + off = (tgt : Int)) (kt : x ≤ y → J X l R D nL k n ws lv tgt st) (kf : ¬ x ≤ y → J X l R D nL k n ws lv (pc + 3) st) : J X l R D nL k n ws lv pc (.int y :: .int x :: st) := by
  obtain ⟨p, e, s, m, args, below, meth, c, Q, A, H0⟩ := X
  intro H locs ls hP hD hS hl
  exact lv_icmp_le h.1 h.2.1 hd ht (fun z => kt z H locs ls hP hD hS hl) (fun z => kf z H locs ls hP hD hS hl)
theorem r_tswIn (h : OK X D nL cc own) {dflt lo hi : Int} {offs : Array Int} {len : Nat} {x : Int32} {off : Int} (v : Int32) (hx : x = v) (tgt : Nat) (hd : decode cc pc = .ok (.tableswitch dflt lo hi offs, len)) (h1 : ¬ v.toInt < lo) (h2 : ¬ hi < v.toInt) (ho : offs[(v.toInt - lo).toNat]? = some off) (ht : (pc : Int) + off = (tgt : Int)) (kk : J X l R D nL k n ws lv tgt st) : J X l R D nL k n ws lv pc (.int x :: st) := by
  subst hx
  obtain ⟨p, e, s, m, args, below, meth, c, Q, A, H0⟩ := X
  intro H locs ls hP hD hS hl
  exact lv_tableIn h.1 h.2.1 hd h1 h2 ho ht (kk H locs ls hP hD hS hl)
theorem r_tswOut (h : OK X D nL cc own) {dflt lo hi : Int} {offs : Array Int} {len : Nat} {x : Int32} (tgt : Nat) (hd : decode cc pc = .ok (.tableswitch dflt lo hi offs, len)) (hx : x.toInt < lo ∨ hi < x.toInt) (ht : (pc : Int) + dflt = (tgt : Int)) (kk : J X l R D nL k n ws lv tgt st) : J X l R D nL k n ws lv pc (.int x :: st) := by
  obtain ⟨p, e, s, m, args, below, meth, c, Q, A, H0⟩ := X
  intro H locs ls hP hD hS hl
  exact lv_tableOut h.1 h.2.1 hd hx ht (kk H locs ls hP hD hS hl)
end JR
/-! fields and arrays -/
def FLk (own : String) (idx ci k : Nat) : Prop := ∃ (C : String) (T : u_T) (N : Nat), vwCl[ci]? = some (C, T, N) ∧ k < N ∧ (∀ w ∈ u_ws C T N, w ∈ lw_g) ∧ Cond.fieldLink own idx (T k).1 (T k).2.1 (T k).2.2.1 ∈ lw_g
def FPk (own : String) (idx ci k : Nat) (ty : FieldType) (fin : Bool) : Prop := ∃ (C : String) (T : u_T) (N : Nat) (tt : Nat → FieldType), vwCl[ci]? = some (C, T, N) ∧ k < N ∧ (∀ w ∈ u_ws C T N, w ∈ lw_g) ∧ Cond.fieldLink own idx (T k).1 (T k).2.1 (T k).2.2.1 ∈ lw_g ∧
  (∀ k, k < N → parseFieldDescriptor (T k).2.2.1 = some (tt k)) ∧ (∀ a, a < N → ∀ b, b < N → a ≠ b → (T a).2.1 ≠ (T b).2.1) ∧ (T k).2.2.2 = fin ∧ parseFieldDescriptor (T k).2.2.1 = some ty ∧ (T k).1 = C
section JF
variable {X : Cx} {l : Launch} {R : Room} {D : va_G} {nL k n : Nat} {cc : ByteArray} {own : String} {ws ws' : va_W} {lv lv' : List (Nat × Value)} {pc : Nat} {st : List Value}
theorem r_get (h : OK X D nL cc own) {idx ci j : Nat} (fl : FLk own idx ci j) (q0 : Nat) {a : Nat} {fs : List Value} {v : Value} (he : ws[q0]? = some (a, .inr (ci, fs))) (hv : fs[j]? = some v) (hd : decode cc pc = .ok (.getfield idx, 3)) (kk : J X l R D nL k n ws lv (pc + 3) (v :: st)) : J X l R D nL k n ws lv pc (.ref a :: st) := by
  obtain ⟨p, e, s, m, args, below, meth, c, Q, A, H0⟩ := X
  obtain ⟨hx, hb, hml, hown, hts, hK, hlk, hA⟩ := h
  obtain ⟨C, T, N, hc, hj, hin, hw⟩ := fl
  intro H locs ls hP hD hS hl
  exact va_get hx hb hts hin hown hK hP q0 he hc j hj (hts _ hw) (fun _ h9 => h9) hv hd (kk H locs ls hP hD hS hl)
theorem r_put (h : OK X D nL cc own) {idx ci j : Nat} {ty : FieldType} (fp : FPk own idx ci j ty false) (q0 : Nat) {a : Nat} {fs : List Value} {v : Value} (he : ws[q0]? = some (a, .inr (ci, fs))) (hl0 : j < fs.length) (hn : narrow ty v = v) (hfit : fits ty v = true) (hw' : ws.set q0 (a, .inr (ci, fs.set j v)) = ws') (hd : decode cc pc = .ok (.putfield idx, 3)) (kk : J X l R D nL k n ws' lv (pc + 3) st) : J X l R D nL k n ws lv pc (v :: .ref a :: st) := by
  obtain ⟨p, e, s, m, args, below, meth, c, Q, A, H0⟩ := X
  obtain ⟨hx, hb, hml, hown, hts, hK, hlk, hA⟩ := h
  obtain ⟨C, T, N, tt, hc, hj, hin, hw, htt, hnm, hfin, hty, -⟩ := fp
  subst hw'
  intro H locs ls hP hD hS hl
  exact va_put hx hb hts hin tt htt hnm hown hK hP hD hS q0 he hc j hj (hts _ hw) (fun _ h9 => h9) hfin hty hn hfit hl0 hd (fun H1 locs1 hP1 hD1 hS1 => kk H1 locs1 ls hP1 hD1 hS1 hl)
theorem r_iald (h : OK X D nL cc own) (q0 : Nat) {a m : Nat} {f : Nat → Int32} {i : Int32} (ha : ws[q0]? = some (a, .inl (D.1 100, m, .inl f))) (hin : vp_in i m) (hd : decode cc pc = .ok (.iaload, 1)) (kk : J X l R D nL k n ws lv (pc + 1) (.int (f i.toNatClampNeg) :: st)) : J X l R D nL k n ws lv pc (.int i :: .ref a :: st) := by
  obtain ⟨p, e, s, m, args, below, meth, c, Q, A, H0⟩ := X
  obtain ⟨hx, hb, hml, hown, hts, hK, hlk, hA⟩ := h
  intro H locs ls hP hD hS hl
  exact va_iald hx hb hK hP q0 0 ha rfl hin hd (kk H locs ls hP hD hS hl)
theorem r_iast (h : OK X D nL cc own) (q0 : Nat) {a m : Nat} {f : Nat → Int32} {i x : Int32} (ha : ws[q0]? = some (a, .inl (D.1 100, m, .inl f))) (hin : vp_in i m) (hw' : ws.set q0 (a, .inl (D.1 100, m, .inl (upd f i.toNatClampNeg x))) = ws') (hd : decode cc pc = .ok (.iastore, 1)) (kk : J X l R D nL k n ws' lv (pc + 1) st) : J X l R D nL k n ws lv pc (.int x :: .int i :: .ref a :: st) := by
  obtain ⟨p, e, s, m, args, below, meth, c, Q, A, H0⟩ := X
  obtain ⟨hx, hb, hml, hown, hts, hK, hlk, hA⟩ := h
  subst hw'
  intro H locs ls hP hD hS hl
  exact va_iast hx hb hK hP hD hS q0 0 ha rfl hin hd (fun H1 locs1 hP1 hD1 hS1 => kk H1 locs1 ls hP1 hD1 hS1 hl)
theorem r_lald (h : OK X D nL cc own) (q0 : Nat) {a m : Nat} {f : Nat → Int64} {i : Int32} (ha : ws[q0]? = some (a, .inl (D.1 102, m, .inr (.inl f)))) (hin : vp_in i m) (hd : decode cc pc = .ok (.laload, 1)) (kk : J X l R D nL k n ws lv (pc + 1) (.long (f i.toNatClampNeg) :: st)) : J X l R D nL k n ws lv pc (.int i :: .ref a :: st) := by
  obtain ⟨p, e, s, m, args, below, meth, c, Q, A, H0⟩ := X
  obtain ⟨hx, hb, hml, hown, hts, hK, hlk, hA⟩ := h
  intro H locs ls hP hD hS hl
  exact va_lald hx hb hK hP q0 2 ha rfl hin hd (kk H locs ls hP hD hS hl)
theorem r_last (h : OK X D nL cc own) (q0 : Nat) {a m : Nat} {f : Nat → Int64} {i : Int32} {x : Int64} (ha : ws[q0]? = some (a, .inl (D.1 102, m, .inr (.inl f)))) (hin : vp_in i m) (hw' : ws.set q0 (a, .inl (D.1 102, m, .inr (.inl (vp_updL f i.toNatClampNeg x)))) = ws') (hd : decode cc pc = .ok (.lastore, 1)) (kk : J X l R D nL k n ws' lv (pc + 1) st) : J X l R D nL k n ws lv pc (.long x :: .int i :: .ref a :: st) := by
  obtain ⟨p, e, s, m, args, below, meth, c, Q, A, H0⟩ := X
  obtain ⟨hx, hb, hml, hown, hts, hK, hlk, hA⟩ := h
  subst hw'
  intro H locs ls hP hD hS hl
  exact va_last hx hb hK hP hD hS q0 2 ha rfl hin hd (fun H1 locs1 hP1 hD1 hS1 => kk H1 locs1 ls hP1 hD1 hS1 hl)
theorem r_aldq (h : OK X D nL cc own) (q0 : Nat) {a m b : Nat} {f : Nat → Option Nat} {i : Int32} (ha : ws[q0]? = some (a, .inl (D.1 101, m, .inr (.inr (.inr (.inr f)))))) (hin : vp_in i m) (hf : f i.toNatClampNeg = some b) (hd : decode cc pc = .ok (.aaload, 1)) (kk : J X l R D nL k n ws lv (pc + 1) (.ref b :: st)) : J X l R D nL k n ws lv pc (.int i :: .ref a :: st) := by
  obtain ⟨p, e, s, m, args, below, meth, c, Q, A, H0⟩ := X
  obtain ⟨hx, hb, hml, hown, hts, hK, hlk, hA⟩ := h
  intro H locs ls hP hD hS hl
  exact va_aldq hx hb hK hP q0 1 ha rfl hin hd (by rw [hf]; exact kk H locs ls hP hD hS hl)
theorem r_astq (h : OK X D nL cc own) (q0 qk : Nat) {a m v : Nat} {vs : List Value} {f : Nat → Option Nat} {i : Int32} (ha : ws[q0]? = some (a, .inl (D.1 101, m, .inr (.inr (.inr (.inr f)))))) (hv : ws[qk]? = some (v, .inr (1, vs))) (hin : vp_in i m) (hw' : ws.set q0 (a, .inl (D.1 101, m, .inr (.inr (.inr (.inr (va_up f i.toNatClampNeg (some v))))))) = ws') (hd : decode cc pc = .ok (.aastore, 1)) (kk : J X l R D nL k n ws' lv (pc + 1) st) : J X l R D nL k n ws lv pc (.ref v :: .int i :: .ref a :: st) := by
  obtain ⟨p, e, s, m, args, below, meth, c, Q, A, H0⟩ := X
  obtain ⟨hx, hb, hml, hown, hts, hK, hlk, hA⟩ := h
  subst hw'
  intro H locs ls hP hD hS hl
  exact va_astq (r := (RX1, TX1, 10)) hx hb hK hP hD hS q0 1 qk 1 ha rfl hv rfl hin hd (fun H1 locs1 hP1 hD1 hS1 => kk H1 locs1 ls hP1 hD1 hS1 hl)
theorem r_alen (h : OK X D nL cc own) (q0 : Nat) {a m : Nat} {f : Nat → Int32} {v : Int32} (ha : ws[q0]? = some (a, .inl (D.1 100, m, .inl f))) (hv : Int32.ofNat m = v) (hd : decode cc pc = .ok (.arraylength, 1)) (kk : J X l R D nL k n ws lv (pc + 1) (.int v :: st)) : J X l R D nL k n ws lv pc (.ref a :: st) := by
  obtain ⟨p, e, s, m, args, below, meth, c, Q, A, H0⟩ := X
  obtain ⟨hx, hb, hml, hown, hts, hK, hlk, hA⟩ := h
  intro H locs ls hP hD hS hl
  exact va_alen hx hb hK hP q0 0 ha rfl hv hd (kk H locs ls hP hD hS hl)
theorem r_copyi (h : OK X D nL cc own) (q0 q1 : Nat) {a0 a m0 m1 : Nat} {f g : Nat → Int32} {idx : Nat} {sp dp z : Int32} (wl : Cond.methodLink own idx arraycopyName ∈ lw_g) (wn : Cond.native arraycopyName ∈ lw_g) (wst : Cond.static arraycopyName ∈ lw_g) (wi : Cond.initialized "java/lang/System" ∈ lw_g)
    (ha0 : ws[q0]? = some (a0, .inl (D.1 100, m0, .inl f))) (ha1 : ws[q1]? = some (a, .inl (D.1 100, m1, .inl g))) (h1 : ¬ sp < 0) (h2 : ¬ dp < 0) (h3 : ¬ z < 0) (h4 : sp.toNatClampNeg + z.toNatClampNeg ≤ m0) (h5 : dp.toNatClampNeg + z.toNatClampNeg ≤ m1)
    (hfr : 1 ≤ R.frames) (hlo : (st.map fun v => v.category).sum + (nativeFrameWords "java/lang/System" "arraycopy" 5 + 11) ≤ R.locals) (hw' : ws.set q1 (a, .inl (D.1 100, m1, .inl (va_cpy f g sp.toNatClampNeg dp.toNatClampNeg z.toNatClampNeg))) = ws') (hd : decode cc pc = .ok (.invokestatic idx, 3))
    (kk : J X l R D nL k n ws' lv (pc + 3) st) : J X l R D nL k n ws lv pc (.int z :: .int dp :: .ref a :: .int sp :: .ref a0 :: st) := by
  obtain ⟨p, e, s, m, args, below, meth, c, Q, A, H0⟩ := X
  obtain ⟨hx, hb, hml, hown, hts, hK, hlk, hA⟩ := h
  subst hw'
  intro H locs ls hP hD hS hl
  exact va_copyi hx hb (hml.trans hl.1.symm) hown (hts _ wl) (hts _ wn) (hts _ wst) (hts _ wi) hK hP hD hS q0 q1 0 0 ha0 ha1 rfl rfl rfl h1 h2 h3 h4 h5 (fun _ _ => rfl) hfr hlo hd (fun H1 locs1 hP1 hD1 hS1 => kk H1 locs1 ls hP1 hD1 hS1 hl)
theorem r_max (h : OK X D nL cc own) {x y : Int32} {idx : Nat} (wl : Cond.methodLink own idx Lib.Math.max.name ∈ lw_g) (wst : Cond.static Lib.Math.max.name ∈ lw_g) (wi : Cond.initialized "java/lang/Math" ∈ lw_g) (wc : Cond.code Lib.Math.max.name Lib.Math.max.code 2 (some .int) ∈ lw_g) (hfr : 1 ≤ R.frames) (hlo : (st.map fun v => v.category).sum + 13 ≤ R.locals) (hc : k ≤ R.cells) (hs : n ≤ R.slots) (hd : decode cc pc = .ok (.invokestatic idx, 3)) (kk : J X l R D nL k n ws lv (pc + 3) (.int (if x < y then y else x) :: st)) : J X l R D nL k n ws lv pc (.int y :: .int x :: st) := by
  obtain ⟨p, e, s, m, args, below, meth, c, Q, A, H0⟩ := X
  obtain ⟨hx, hb, hml, hown, hts, hK, hlk, hA⟩ := h
  intro H locs ls hP hD hS hl
  exact va_mmax hx hb (hml.trans hl.1.symm) hown (hts _ wl) (hts _ wst) (hts _ wi) (hts _ wc) hfr hlo hc hs hd (kk H locs ls hP hD hS hl)
theorem r_min (h : OK X D nL cc own) {x y : Int32} {idx : Nat} (wl : Cond.methodLink own idx Lib.Math.min.name ∈ lw_g) (wst : Cond.static Lib.Math.min.name ∈ lw_g) (wi : Cond.initialized "java/lang/Math" ∈ lw_g) (wc : Cond.code Lib.Math.min.name Lib.Math.min.code 2 (some .int) ∈ lw_g) (hfr : 1 ≤ R.frames) (hlo : (st.map fun v => v.category).sum + 13 ≤ R.locals) (hc : k ≤ R.cells) (hs : n ≤ R.slots) (hd : decode cc pc = .ok (.invokestatic idx, 3)) (kk : J X l R D nL k n ws lv (pc + 3) (.int (if y < x then y else x) :: st)) : J X l R D nL k n ws lv pc (.int y :: .int x :: st) := by
  obtain ⟨p, e, s, m, args, below, meth, c, Q, A, H0⟩ := X
  obtain ⟨hx, hb, hml, hown, hts, hK, hlk, hA⟩ := h
  intro H locs ls hP hD hS hl
  exact va_mmin hx hb (hml.trans hl.1.symm) hown (hts _ wl) (hts _ wst) (hts _ wi) (hts _ wc) hfr hlo hc hs hd (kk H locs ls hP hD hS hl)
theorem r_abs (h : OK X D nL cc own) {x : Int32} {idx : Nat} (wl : Cond.methodLink own idx Lib.Math.abs.name ∈ lw_g) (wst : Cond.static Lib.Math.abs.name ∈ lw_g) (wi : Cond.initialized "java/lang/Math" ∈ lw_g) (wc : Cond.code Lib.Math.abs.name Lib.Math.abs.code 1 (some .int) ∈ lw_g) (hfr : 1 ≤ R.frames) (hlo : (st.map fun v => v.category).sum + 13 ≤ R.locals) (hc : k ≤ R.cells) (hs : n ≤ R.slots) (hd : decode cc pc = .ok (.invokestatic idx, 3)) (kk : J X l R D nL k n ws lv (pc + 3) (.int (if 0 ≤ x then x else 0 - x) :: st)) : J X l R D nL k n ws lv pc (.int x :: st) := by
  obtain ⟨p, e, s, m, args, below, meth, c, Q, A, H0⟩ := X
  obtain ⟨hx, hb, hml, hown, hts, hK, hlk, hA⟩ := h
  intro H locs ls hP hD hS hl
  exact va_mabs hx hb (hml.trans hl.1.symm) hown (hts _ wl) (hts _ wst) (hts _ wi) (hts _ wc) hfr hlo hc hs hd (kk H locs ls hP hD hS hl)
end JF
/-! ends -/
section JE
variable {X : Cx} {l : Launch} {R : Room} {D : va_G} {nL k n : Nat} {cc : ByteArray} {own : String} {ws : va_W} {lv : List (Nat × Value)} {pc : Nat} {Post : Option Value → va_W → Prop}
theorem r_iret (h : OK X D nL cc own) {v : Int32} (hr : RT X D (some .int) k n Post) (hd : decode cc pc = .ok (.ireturn, 1)) (hp : Post (some (.int v)) ws) : J X l R D nL k n ws lv pc [.int v] := by
  obtain ⟨p, e, s, m, args, below, meth, c, Q, A, H0⟩ := X
  obtain ⟨hr, rfl, rfl⟩ := hr
  obtain ⟨hx, hb, hml, hown, hts, hK, hlk, hA⟩ := h
  intro H locs ls hP hD hS hl
  exact W.iret hx hb hr (fun t ht hW => ⟨⟨_, ws, rfl, hp, by rw [ht]; exact hP, hD⟩, hS.F ht⟩) hS.2.2 hd hlk
theorem r_zret (h : OK X D nL cc own) {v : Int32} (hr : RT X D (some .boolean) k n Post) (hv : v = 0 ∨ v = 1) (hd : decode cc pc = .ok (.ireturn, 1)) (hp : Post (some (.int v)) ws) : J X l R D nL k n ws lv pc [.int v] := by
  obtain ⟨p, e, s, m, args, below, meth, c, Q, A, H0⟩ := X
  obtain ⟨hr, rfl, rfl⟩ := hr
  obtain ⟨hx, hb, hml, hown, hts, hK, hlk, hA⟩ := h
  intro H locs ls hP hD hS hl
  exact W.zret hx hb hr (by rcases hv with rfl | rfl <;> rfl) (fun t ht hW => ⟨⟨_, ws, rfl, hp, by rw [ht]; exact hP, hD⟩, hS.F ht⟩) hS.2.2 hd hlk
theorem r_vret (h : OK X D nL cc own) (hr : RT X D none k n Post) (hd : decode cc pc = .ok (.return_, 1)) (hp : Post none ws) : J X l R D nL k n ws lv pc [] := by
  obtain ⟨p, e, s, m, args, below, meth, c, Q, A, H0⟩ := X
  obtain ⟨hr, rfl, rfl⟩ := hr
  obtain ⟨hx, hb, hml, hown, hts, hK, hlk, hA⟩ := h
  intro H locs ls hP hD hS hl
  exact W.vret hx hb hr (fun t ht hW => ⟨⟨_, ws, rfl, hp, by rw [ht]; exact hP, hD⟩, hS.F ht⟩) hS.2.2 hd hlk
theorem r_lret (h : OK X D nL cc own) {v : Int64} (hr : RT X D (some .long) k n Post) (hd : decode cc pc = .ok (.lreturn, 1)) (hp : Post (some (.long v)) ws) : J X l R D nL k n ws lv pc [.long v] := by
  obtain ⟨p, e, s, m, args, below, meth, c, Q, A, H0⟩ := X
  obtain ⟨hr, rfl, rfl⟩ := hr
  obtain ⟨hx, hb, hml, hown, hts, hK, hlk, hA⟩ := h
  intro H locs ls hP hD hS hl
  exact W.lret hx hb hr (fun t ht hW => ⟨⟨_, ws, rfl, hp, by rw [ht]; exact hP, hD⟩, hS.F ht⟩) hS.2.2 hd hlk
theorem r_dret (h : OK X D nL cc own) {v : UInt64} (hr : RT X D (some .double) k n Post) (hd : decode cc pc = .ok (.dreturn, 1)) (hp : Post (some (.double v)) ws) : J X l R D nL k n ws lv pc [.double v] := by
  obtain ⟨p, e, s, m, args, below, meth, c, Q, A, H0⟩ := X
  obtain ⟨hr, rfl, rfl⟩ := hr
  obtain ⟨hx, hb, hml, hown, hts, hK, hlk, hA⟩ := h
  intro H locs ls hP hD hS hl
  exact W.dret hx hb hr (fun t ht hW => ⟨⟨_, ws, rfl, hp, by rw [ht]; exact hP, hD⟩, hS.F ht⟩) hS.2.2 hd hlk
end JE
/-! calls -/
def HdV (y : MethodName) (C : String) (b : ByteArray) (m : Nat) (ret : Option FieldType) (np : Nat) : Prop :=
  Cond.instanceMethod y ∈ lw_g ∧ Cond.selects C y y ∈ lw_g ∧ Cond.initialized C ∈ lw_g ∧ Cond.code y b m ret ∈ lw_g ∧ (y.cls = C ∧ y.cls ≠ "java/lang/invoke/MethodHandle" ∧ y.cls ≠ "java/lang/invoke/VarHandle" ∧ (parseMethodDescriptor y.desc).map (fun d => d.parameters.length) = some np)
def HdS (y : MethodName) (C : String) (b : ByteArray) (m : Nat) (ret : Option FieldType) (np : Nat) : Prop :=
  Cond.static y ∈ lw_g ∧ Cond.initialized C ∈ lw_g ∧ Cond.code y b m ret ∈ lw_g ∧ (y.cls = C ∧ y.cls ≠ "java/lang/invoke/MethodHandle" ∧ y.cls ≠ "java/lang/invoke/VarHandle" ∧ (parseMethodDescriptor y.desc).map (fun d => d.parameters.length) = some np)
section JC
variable {X : Cx} {l : Launch} {R : Room} {D : va_G} {nL k n : Nat} {cc : ByteArray} {own : String} {ws ws0 wr : va_W} {lv : List (Nat × Value)} {pc : Nat} {st rest As : List Value} {Post : Option Value → va_W → Prop}
variable {y : MethodName} {C : String} {b : ByteArray} {m0 np idx mc ms : Nat} {ret : Option FieldType} {rm : Room}
/-- behind a call that has run: the caller's other cells, and the callee's -/
theorem r_behind {p : Program} {e : Env} {s : State} {m : MethodId} {args : Array Value} {below : List Frame} {meth : Method} {c : Code} {Q : State → Prop} {A : Nat → Prop} {H0 H : Heap} {locs : List Loc} {ls : Array Slot} {av : Array Value} (isC isR : List Nat) (hC : isC.map (fun i => ws[i]?) = ws0.map some) (hR : isR.map (fun i => ws[i]?) = wr.map some) (hn : va_nd isR = true) (hdis : ∀ i ∈ isR, i ∉ isC)
    (hA : ∀ q, H0.size ≤ q → A q) (hP : va_P D vwCl ws H) (hD : va_D A ws) (hS : va_S A H0 H locs) (hl : lv_has ls nL lv)
    (hrun : va_Run p l e R s m args below meth c H locs k n mc ms (F0 m pc ls st) rest (CtQ D (va_A ws0 H.size) Post av) (va_A ws0 H.size))
    (kk : ∀ (v : Option Value) (w' : va_W), Post v w' → J (p, e, s, m, args, below, meth, c, Q, A, H0) l R D nL (k + mc) (n + ms) (wr ++ w') lv (pc + 3) (v.toList ++ rest)) : W p l e R s m args below meth c H locs k n Q (F0 m pc ls st) := by
  intro T hT XX
  have hF : ∀ q, va_A ws0 H.size q → A q := va_free hD hS hA isC hC
  obtain ⟨v, st₀, t, T', L, h0, X', hL, e1, e2, ⟨⟨v', w', hv, hp, hP1, hD1⟩, hz, hk⟩, stp⟩ := hrun T hT XX
  cases hv
  rw [h0] at hz hk
  rw [← e1] at hz hP1
  have hk' : ∀ q : Nat, q < H.size → ¬ va_A ws0 H.size q → T'.heap[q]? = H[q]? := fun q h1 h2 => by rw [e1]; exact hk q h1 h2
  obtain ⟨hPj, hDj⟩ := va_join hP hD isC isR hC hR hn hdis hk' hF hP1 hD1
  have hS' : va_S A H0 T'.heap (locs ++ L) := ⟨Nat.le_trans hS.1 hz, fun q h1 h2 => by
      rw [hk' q (Nat.lt_of_lt_of_le h1 hS.1) (fun z => h2 (hF q z))]; exact hS.2.1 q h1 h2, fun q hq => by
      rcases List.mem_append.mp hq with h | h
      · exact hS.2.2 q h
      · exact hF _ (hL q h)⟩
  obtain ⟨t2, a1, b1⟩ := kk v w' hp T'.heap (locs ++ L) ls hPj hDj hS' hl T' rfl X'
  exact ⟨t2, stp t2 a1, b1⟩
theorem lg_pre {s : State} {H : Heap} {A : Nat → Prop} {avs : List Value} (hK : va_K D vwCl (tyG D) s) (hP : va_P D vwCl ws0 H) (hD : va_D A ws0) : ∀ U : State, U.heap = H → s.WarmedH U.vm → va_Pc avs (CtPre D ws0 H.size) avs.toArray U := fun U hU hW => ⟨rfl, by rw [hU], by rw [hU]; exact hP, va_K.moved hW.alike hK, hD.weaken (fun _ _ _ _ => trivial)⟩
theorem lg_subP {H : Heap} (is : List Nat) (hs : is.map (fun i => ws[i]?) = ws0.map some) (hP : va_P D vwCl ws H) : va_P D vwCl ws0 H := by
  intro a q ha
  have h1 : (is.map (fun i => ws[i]?))[a]? = some (some q) := by rw [hs, List.getElem?_map, ha]; rfl
  rw [List.getElem?_map] at h1
  cases hi : is[a]? with
  | none => rw [hi] at h1; cases h1
  | some i => rw [hi] at h1; exact hP i q (Option.some.inj h1)
theorem r_callV (h : OK X D nL cc own) {a ci q0 : Nat} {T : u_T} {N : Nat} {fs : List Value} (hd0 : HdV y C b m0 ret np) (wl : Cond.methodLink own idx y ∈ lw_g) (hd : decode cc pc = .ok (.invokevirtual idx, 3)) (hc : Ct l D y b m0 ret rm mc ms (.ref a :: As) ws0 Post)
    (isC isR : List Nat) (hC : isC.map (fun i => ws[i]?) = ws0.map some) (hR : isR.map (fun i => ws[i]?) = wr.map some) (hn : (va_nd isC && va_nd isR && isR.all (fun i => !isC.contains i)) = true)
    (hci : vwCl[ci]? = some (C, T, N)) (he : ws0[q0]? = some (a, .inr (ci, fs))) (hnp : As.length = np) (hrc : rm.cells = mc ∧ rm.slots = ms) (hRm : rm.frames + 1 ≤ R.frames ∧ 8 + (m0 + 11) + rm.locals ≤ R.locals) (hst : (rest.map fun v => v.category).sum ≤ 8) (hf : k + mc ≤ R.cells ∧ n + ms ≤ R.slots) (hstk : st = As.reverse ++ .ref a :: rest)
    (kk : ∀ (v : Option Value) (w' : va_W), Post v w' → J X l R D nL (k + mc) (n + ms) (wr ++ w') lv (pc + 3) (v.toList ++ rest)) : J X l R D nL k n ws lv pc st := by
  obtain ⟨p, e, s, m, args, below, meth, c, Q, A, H0⟩ := X
  obtain ⟨hx, hb, hml, hown, hts, hK, hlk, hA⟩ := h
  obtain ⟨w1, w2, w3, w4, hy⟩ := hd0
  simp only [Bool.and_eq_true] at hn
  obtain ⟨⟨hn1, hn2⟩, hn3⟩ := hn
  intro H locs ls hP hD hS hl
  have hPc := lg_subP isC hC hP
  have hDc := hD.sub isC hn1 hC
  refine r_behind isC isR hC hR hn2 (fun i hi hi2 => ?_) hA hP hD hS hl (va_runV (As := As) (rest := rest) ⟨hx, hb, hml, hown, hts⟩ (hc H.size) (cwV np hts (lg_in (fun w hw => hw) ?_) rfl hrc.1 hrc.2 hy hRm) ⟨Ct_blind, va_recv hK hPc hci he, lg_pre hK hPc hDc⟩ rfl hnp hl.1 hstk (lv_room hst) hd hf) kk
  · have := List.all_eq_true.mp hn3 i hi
    simp [hi2] at this
  · intro w hw
    unfold wsV at hw
    rcases List.mem_append.mp hw with hw | hw
    · simp only [List.mem_cons, List.not_mem_nil, or_false] at hw
      rcases hw with rfl | rfl | rfl | rfl
      · exact wl
      · exact w1
      · exact w2
      · exact w3
    · exact lg_cons w4 w hw
theorem r_callS (h : OK X D nL cc own) (hd0 : HdS y own b m0 ret np) (wl : Cond.methodLink own idx y ∈ lw_g) (hd : decode cc pc = .ok (.invokestatic idx, 3)) (hc : Ct l D y b m0 ret rm mc ms As ws0 Post)
    (isC isR : List Nat) (hC : isC.map (fun i => ws[i]?) = ws0.map some) (hR : isR.map (fun i => ws[i]?) = wr.map some) (hn : (va_nd isC && va_nd isR && isR.all (fun i => !isC.contains i)) = true)
    (hnp : As.length = np) (hrc : rm.cells = mc ∧ rm.slots = ms) (hRm : rm.frames + 1 ≤ R.frames ∧ 8 + (m0 + 11) + rm.locals ≤ R.locals) (hst : (rest.map fun v => v.category).sum ≤ 8) (hf : k + mc ≤ R.cells ∧ n + ms ≤ R.slots) (hstk : st = As.reverse ++ rest)
    (kk : ∀ (v : Option Value) (w' : va_W), Post v w' → J X l R D nL (k + mc) (n + ms) (wr ++ w') lv (pc + 3) (v.toList ++ rest)) : J X l R D nL k n ws lv pc st := by
  obtain ⟨p, e, s, m, args, below, meth, c, Q, A, H0⟩ := X
  obtain ⟨hx, hb, hml, hown, hts, hK, hlk, hA⟩ := h
  obtain ⟨w1, w3, w4, hy⟩ := hd0
  simp only [Bool.and_eq_true] at hn
  obtain ⟨⟨hn1, hn2⟩, hn3⟩ := hn
  intro H locs ls hP hD hS hl
  have hPc := lg_subP isC hC hP
  have hDc := hD.sub isC hn1 hC
  refine r_behind isC isR hC hR hn2 (fun i hi hi2 => ?_) hA hP hD hS hl (va_runS (As := As) (rest := rest) ⟨hx, hb, hml, hown, hts⟩ (hc H.size) (cwS np hts (lg_in (fun w hw => hw) ?_) rfl hrc.1 hrc.2 hy hRm) ⟨Ct_blind, lg_pre hK hPc hDc⟩ rfl hnp hl.1 hstk (lv_room hst) hd hf) kk
  · have := List.all_eq_true.mp hn3 i hi
    simp [hi2] at this
  · intro w hw
    unfold wsS at hw
    rcases List.mem_append.mp hw with hw | hw
    · simp only [List.mem_cons, List.not_mem_nil, or_false] at hw
      rcases hw with rfl | rfl | rfl
      · exact wl
      · exact w1
      · exact w3
    · exact lg_cons w4 w hw
end JC
/-! what a pure function answered -/
theorem o_bind {α β : Type} {x : Option α} {f : α → Option β} {r : β} (h : x.bind f = some r) : ∃ v, x = some v ∧ f v = some r := by
  cases x with
  | none => cases h
  | some v => exact ⟨v, rfl, h⟩
def gd {α : Type} (c : Prop) [Decidable c] (x : Option α) : Option α := if c then x else none
theorem o_gd {α : Type} {c : Prop} [Decidable c] {x : Option α} {r : α} (h : gd c x = some r) : c ∧ x = some r := by
  unfold gd at h
  by_cases hc : c
  · rw [if_pos hc] at h; exact ⟨hc, h⟩
  · rw [if_neg hc] at h; cases h
theorem o_pos {α : Type} {c : Prop} [Decidable c] {x y : Option α} {r : α} (hc : c) (h : (if c then x else y) = some r) : x = some r := by rw [if_pos hc] at h; exact h
theorem o_neg {α : Type} {c : Prop} [Decidable c] {x y : Option α} {r : α} (hc : ¬ c) (h : (if c then x else y) = some r) : y = some r := by rw [if_neg hc] at h; exact h
def FU : Nat := 1000
end
section
theorem lg_range (ws : va_W) : (List.range ws.length).map (fun i => ws[i]?) = ws.map some := by
  apply List.ext_getElem?
  intro i
  rw [List.getElem?_map, List.getElem?_map]
  by_cases hi : i < ws.length
  · rw [List.getElem?_range hi, List.getElem?_eq_getElem hi]
    simp [hi]
  · rw [List.getElem?_eq_none (by simpa using hi), List.getElem?_eq_none (by simpa using hi)]
    rfl
theorem lg_nd_of {l : List Nat} (h : l.Nodup) : va_nd l = true := by
  induction l with
  | nil => rfl
  | cons a l ih =>
    rw [List.nodup_cons] at h
    simp only [va_nd, Bool.and_eq_true, decide_eq_true_eq]
    exact ⟨h.1, ih h.2⟩
theorem lg_nd_range (n : Nat) : va_nd (List.range n) = true := lg_nd_of List.nodup_range
abbrev w_pk (ws : va_W) (is : List Nat) : va_W := is.filterMap (fun i => ws[i]?)
section JC2
variable {X : Cx} {l : Launch} {R : Room} {D : va_G} {nL k n : Nat} {cc : ByteArray} {own : String} {ws : va_W} {lv : List (Nat × Value)} {pc : Nat} {st rest As : List Value} {Post : Option Value → va_W → Prop}
variable {y : MethodName} {C : String} {b : ByteArray} {m0 np idx mc ms : Nat} {ret : Option FieldType} {rm : Room}
/-- the callee's cells are all of the caller's -/
theorem r_callVa (h : OK X D nL cc own) {a ci q0 : Nat} {T : u_T} {N : Nat} {fs : List Value} (hd0 : HdV y C b m0 ret np) (wl : Cond.methodLink own idx y ∈ lw_g) (hd : decode cc pc = .ok (.invokevirtual idx, 3)) (hc : Ct l D y b m0 ret rm mc ms (.ref a :: As) ws Post)
    (hci : vwCl[ci]? = some (C, T, N)) (he : ws[q0]? = some (a, .inr (ci, fs))) (hnp : As.length = np) (hrc : rm.cells = mc ∧ rm.slots = ms) (hRm : rm.frames + 1 ≤ R.frames ∧ 8 + (m0 + 11) + rm.locals ≤ R.locals) (hst : (rest.map fun v => v.category).sum ≤ 8) (hf : k + mc ≤ R.cells ∧ n + ms ≤ R.slots) (hstk : st = As.reverse ++ .ref a :: rest)
    (kk : ∀ (v : Option Value) (w' : va_W), Post v w' → J X l R D nL (k + mc) (n + ms) w' lv (pc + 3) (v.toList ++ rest)) : J X l R D nL k n ws lv pc st :=
  r_callV (wr := []) h hd0 wl hd hc (List.range ws.length) [] (lg_range ws) rfl (by rw [lg_nd_range]; rfl) hci he hnp hrc hRm hst hf hstk kk
theorem r_callSa (h : OK X D nL cc own) (hd0 : HdS y own b m0 ret np) (wl : Cond.methodLink own idx y ∈ lw_g) (hd : decode cc pc = .ok (.invokestatic idx, 3)) (hc : Ct l D y b m0 ret rm mc ms As ws Post)
    (hnp : As.length = np) (hrc : rm.cells = mc ∧ rm.slots = ms) (hRm : rm.frames + 1 ≤ R.frames ∧ 8 + (m0 + 11) + rm.locals ≤ R.locals) (hst : (rest.map fun v => v.category).sum ≤ 8) (hf : k + mc ≤ R.cells ∧ n + ms ≤ R.slots) (hstk : st = As.reverse ++ rest)
    (kk : ∀ (v : Option Value) (w' : va_W), Post v w' → J X l R D nL (k + mc) (n + ms) w' lv (pc + 3) (v.toList ++ rest)) : J X l R D nL k n ws lv pc st :=
  r_callS (wr := []) h hd0 wl hd hc (List.range ws.length) [] (lg_range ws) rfl (by rw [lg_nd_range]; rfl) hnp hrc hRm hst hf hstk kk
/-- a static method without cells -/
theorem r_callSp (h : OK X D nL cc own) {v0 : Value} (hd0 : HdS y own b m0 ret np) (wl : Cond.methodLink own idx y ∈ lw_g) (hd : decode cc pc = .ok (.invokestatic idx, 3)) (hc : Ct l D y b m0 ret rm mc ms As [] (fun v w => v = some v0 ∧ w = []))
    (hnp : As.length = np) (hrc : rm.cells = mc ∧ rm.slots = ms) (hRm : rm.frames + 1 ≤ R.frames ∧ 8 + (m0 + 11) + rm.locals ≤ R.locals) (hst : (rest.map fun v => v.category).sum ≤ 8) (hf : k + mc ≤ R.cells ∧ n + ms ≤ R.slots) (hstk : st = As.reverse ++ rest)
    (kk : J X l R D nL (k + mc) (n + ms) ws lv (pc + 3) (v0 :: rest)) : J X l R D nL k n ws lv pc st := by
  refine r_callS (wr := ws) h hd0 wl hd hc [] (List.range ws.length) rfl (lg_range ws) (by rw [lg_nd_range]; simp [va_nd]) hnp hrc hRm hst hf hstk (fun v w' hp => ?_)
  obtain ⟨rfl, rfl⟩ := hp
  rw [List.append_nil]
  exact kk
end JC2
def nmv {α β : Type} (x : α) (f : α → β) : β := f x
theorem o_nm {α β : Type} {x : α} {f : α → Option β} {r : β} (h : nmv x f = some r) : ∃ y, y = x ∧ f y = some r := ⟨x, rfl, h⟩
theorem J.top {X : Cx} {l : Launch} {R : Room} {D : va_G} {nL k n : Nat} {ws : va_W} {lv : List (Nat × Value)} {pc : Nat} {st : List Value} {x y : Int32} (e : y = x) (kk : J X l R D nL k n ws lv pc (.int y :: st)) : J X l R D nL k n ws lv pc (.int x :: st) := by rw [← e]; exact kk
end
section
theorem wsin_0 : ∀ w ∈ u_ws RX0 TX0 5, w ∈ lw_g := by decide +kernel
theorem wsin_1 : ∀ w ∈ u_ws RX1 TX1 10, w ∈ lw_g := by decide +kernel
theorem wsin_2 : ∀ w ∈ u_ws RX2 TX2 4, w ∈ lw_g := by decide +kernel
theorem wsin_3 : ∀ w ∈ u_ws RX3 TX3 5, w ∈ lw_g := by decide +kernel
theorem wsin_4 : ∀ w ∈ u_ws RX4 TX4 13, w ∈ lw_g := by decide +kernel
theorem fl_X0_9 : FLk RX0 9 0 0 := ⟨_, _, _, rfl, by decide, wsin_0, wm_102⟩
theorem fl_X0_15 : FLk RX0 15 0 1 := ⟨_, _, _, rfl, by decide, wsin_0, wm_104⟩
theorem fl_X0_24 : FLk RX0 24 0 2 := ⟨_, _, _, rfl, by decide, wsin_0, wm_106⟩
theorem fl_X0_28 : FLk RX0 28 0 3 := ⟨_, _, _, rfl, by decide, wsin_0, wm_107⟩
theorem fl_X0_31 : FLk RX0 31 0 4 := ⟨_, _, _, rfl, by decide, wsin_0, wm_108⟩
theorem fl_X0_34 : FLk RX0 34 2 3 := ⟨_, _, _, rfl, by decide, wsin_2, wm_38⟩
theorem fl_X0_75 : FLk RX0 75 1 7 := ⟨_, _, _, rfl, by decide, wsin_1, wm_67⟩
theorem fl_X1_14 : FLk RX1 14 1 0 := ⟨_, _, _, rfl, by decide, wsin_1, wm_51⟩
theorem fl_X1_20 : FLk RX1 20 1 1 := ⟨_, _, _, rfl, by decide, wsin_1, wm_53⟩
theorem fl_X1_23 : FLk RX1 23 1 2 := ⟨_, _, _, rfl, by decide, wsin_1, wm_55⟩
theorem fl_X1_26 : FLk RX1 26 1 3 := ⟨_, _, _, rfl, by decide, wsin_1, wm_57⟩
theorem fl_X1_29 : FLk RX1 29 1 4 := ⟨_, _, _, rfl, by decide, wsin_1, wm_59⟩
theorem fl_X1_33 : FLk RX1 33 1 5 := ⟨_, _, _, rfl, by decide, wsin_1, wm_61⟩
theorem fl_X1_36 : FLk RX1 36 1 6 := ⟨_, _, _, rfl, by decide, wsin_1, wm_63⟩
theorem fl_X1_40 : FLk RX1 40 1 7 := ⟨_, _, _, rfl, by decide, wsin_1, wm_65⟩
theorem fl_X1_43 : FLk RX1 43 1 8 := ⟨_, _, _, rfl, by decide, wsin_1, wm_68⟩
theorem fl_X1_46 : FLk RX1 46 1 9 := ⟨_, _, _, rfl, by decide, wsin_1, wm_70⟩
theorem fl_X1_63 : FLk RX1 63 2 3 := ⟨_, _, _, rfl, by decide, wsin_2, wm_39⟩
theorem fl_X2_9 : FLk RX2 9 2 3 := ⟨_, _, _, rfl, by decide, wsin_2, wm_37⟩
theorem fl_X2_15 : FLk RX2 15 2 0 := ⟨_, _, _, rfl, by decide, wsin_2, wm_34⟩
theorem fl_X2_18 : FLk RX2 18 2 1 := ⟨_, _, _, rfl, by decide, wsin_2, wm_35⟩
theorem fl_X2_21 : FLk RX2 21 2 2 := ⟨_, _, _, rfl, by decide, wsin_2, wm_36⟩
theorem fl_X4_7 : FLk RX4 7 4 0 := ⟨_, _, _, rfl, by decide, wsin_4, wm_704⟩
theorem fl_X4_13 : FLk RX4 13 4 1 := ⟨_, _, _, rfl, by decide, wsin_4, wm_705⟩
theorem fl_X4_16 : FLk RX4 16 4 2 := ⟨_, _, _, rfl, by decide, wsin_4, wm_706⟩
theorem fl_X4_19 : FLk RX4 19 4 3 := ⟨_, _, _, rfl, by decide, wsin_4, wm_707⟩
theorem fl_X4_22 : FLk RX4 22 4 6 := ⟨_, _, _, rfl, by decide, wsin_4, wm_710⟩
theorem fl_X4_25 : FLk RX4 25 4 5 := ⟨_, _, _, rfl, by decide, wsin_4, wm_709⟩
theorem fl_X4_33 : FLk RX4 33 4 4 := ⟨_, _, _, rfl, by decide, wsin_4, wm_708⟩
theorem fl_X4_163 : FLk RX4 163 4 7 := ⟨_, _, _, rfl, by decide, wsin_4, wm_711⟩
theorem fl_X4_166 : FLk RX4 166 4 8 := ⟨_, _, _, rfl, by decide, wsin_4, wm_712⟩
theorem fl_X4_173 : FLk RX4 173 4 10 := ⟨_, _, _, rfl, by decide, wsin_4, wm_714⟩
theorem fl_X4_179 : FLk RX4 179 4 9 := ⟨_, _, _, rfl, by decide, wsin_4, wm_713⟩
theorem fl_X4_186 : FLk RX4 186 4 11 := ⟨_, _, _, rfl, by decide, wsin_4, wm_715⟩
theorem fl_X4_194 : FLk RX4 194 4 12 := ⟨_, _, _, rfl, by decide, wsin_4, wm_716⟩
theorem fp_X0_28 : FPk RX0 28 0 3 .int false := ⟨_, _, _, tyX0, rfl, by decide, wsin_0, wm_107, tyX0_ok, nmX0, by decide +kernel, by decide +kernel, by decide +kernel⟩
theorem fp_X0_31 : FPk RX0 31 0 4 .int false := ⟨_, _, _, tyX0, rfl, by decide, wsin_0, wm_108, tyX0_ok, nmX0, by decide +kernel, by decide +kernel, by decide +kernel⟩
theorem fp_X0_34 : FPk RX0 34 2 3 .int false := ⟨_, _, _, tyX2, rfl, by decide, wsin_2, wm_38, tyX2_ok, nmX2, by decide +kernel, by decide +kernel, by decide +kernel⟩
theorem fp_X0_75 : FPk RX0 75 1 7 .int false := ⟨_, _, _, tyX1, rfl, by decide, wsin_1, wm_67, tyX1_ok, nmX1, by decide +kernel, by decide +kernel, by decide +kernel⟩
theorem fp_X1_36 : FPk RX1 36 1 6 .int false := ⟨_, _, _, tyX1, rfl, by decide, wsin_1, wm_63, tyX1_ok, nmX1, by decide +kernel, by decide +kernel, by decide +kernel⟩
theorem fp_X1_40 : FPk RX1 40 1 7 .int false := ⟨_, _, _, tyX1, rfl, by decide, wsin_1, wm_65, tyX1_ok, nmX1, by decide +kernel, by decide +kernel, by decide +kernel⟩
theorem fp_X1_43 : FPk RX1 43 1 8 .int false := ⟨_, _, _, tyX1, rfl, by decide, wsin_1, wm_68, tyX1_ok, nmX1, by decide +kernel, by decide +kernel, by decide +kernel⟩
theorem fp_X1_46 : FPk RX1 46 1 9 .int false := ⟨_, _, _, tyX1, rfl, by decide, wsin_1, wm_70, tyX1_ok, nmX1, by decide +kernel, by decide +kernel, by decide +kernel⟩
theorem fp_X2_9 : FPk RX2 9 2 3 .int false := ⟨_, _, _, tyX2, rfl, by decide, wsin_2, wm_37, tyX2_ok, nmX2, by decide +kernel, by decide +kernel, by decide +kernel⟩
theorem fp_X4_25 : FPk RX4 25 4 5 .int false := ⟨_, _, _, tyX4, rfl, by decide, wsin_4, wm_709, tyX4_ok, nmX4, by decide +kernel, by decide +kernel, by decide +kernel⟩
theorem fp_X4_33 : FPk RX4 33 4 4 .int false := ⟨_, _, _, tyX4, rfl, by decide, wsin_4, wm_708, tyX4_ok, nmX4, by decide +kernel, by decide +kernel, by decide +kernel⟩
theorem fp_X4_163 : FPk RX4 163 4 7 .int false := ⟨_, _, _, tyX4, rfl, by decide, wsin_4, wm_711, tyX4_ok, nmX4, by decide +kernel, by decide +kernel, by decide +kernel⟩
theorem fp_X4_166 : FPk RX4 166 4 8 .int false := ⟨_, _, _, tyX4, rfl, by decide, wsin_4, wm_712, tyX4_ok, nmX4, by decide +kernel, by decide +kernel, by decide +kernel⟩
theorem fp_X4_173 : FPk RX4 173 4 10 .int false := ⟨_, _, _, tyX4, rfl, by decide, wsin_4, wm_714, tyX4_ok, nmX4, by decide +kernel, by decide +kernel, by decide +kernel⟩
theorem fp_X4_179 : FPk RX4 179 4 9 .int false := ⟨_, _, _, tyX4, rfl, by decide, wsin_4, wm_713, tyX4_ok, nmX4, by decide +kernel, by decide +kernel, by decide +kernel⟩
theorem fp_X4_186 : FPk RX4 186 4 11 .int false := ⟨_, _, _, tyX4, rfl, by decide, wsin_4, wm_715, tyX4_ok, nmX4, by decide +kernel, by decide +kernel, by decide +kernel⟩
theorem fp_X4_194 : FPk RX4 194 4 12 .long false := ⟨_, _, _, tyX4, rfl, by decide, wsin_4, wm_716, tyX4_ok, nmX4, by decide +kernel, by decide +kernel, by decide +kernel⟩
theorem hd_X0_byteAt : HdV yX0_byteAt RX0 cX0_byteAt 2 (some .int) 1 := ⟨wm_281, wp_4, wm_4, wm_282, by decide +kernel⟩
theorem hd_X0_isDigit : HdS yX0_isDigit RX0 cX0_isDigit 1 (some .boolean) 1 := ⟨wm_301, wm_4, wm_302, by decide +kernel⟩
theorem hd_X0_readByte : HdV yX0_readByte RX0 cX0_readByte 2 (some .int) 1 := ⟨wm_305, wp_7, wm_4, wm_306, by decide +kernel⟩
theorem hd_X0_readDigit : HdV yX0_readDigit RX0 cX0_readDigit 3 (some .int) 1 := ⟨wm_313, wp_9, wm_4, wm_314, by decide +kernel⟩
theorem hd_X0_readMachine : HdV yX0_readMachine RX0 cX0_readMachine 4 (some .int) 1 := ⟨wm_298, wp_6, wm_4, wm_299, by decide +kernel⟩
theorem hd_X0_readPart : HdV yX0_readPart RX0 cX0_readPart 5 (some .int) 1 := ⟨wm_277, wp_3, wm_4, wm_278, by decide +kernel⟩
theorem hd_X0_readRack : HdV yX0_readRack RX0 cX0_readRack 1 (some .int) 0 := ⟨wm_309, wp_8, wm_4, wm_310, by decide +kernel⟩
theorem hd_X0_readStep : HdV yX0_readStep RX0 cX0_readStep 5 (some .int) 3 := ⟨wm_294, wp_5, wm_4, wm_295, by decide +kernel⟩
theorem hd_X1_cablesInTray : HdV yX1_cablesInTray RX1 cX1_cablesInTray 7 (some .int) 1 := ⟨wm_181, wm_182, wm_2, wm_183, by decide +kernel⟩
theorem hd_X1_difference : HdV yX1_difference RX1 cX1_difference 5 (some .int) 0 := ⟨wm_202, wm_203, wm_2, wm_204, by decide +kernel⟩
theorem hd_X1_doChange : HdV yX1_doChange RX1 cX1_doChange 3 none 2 := ⟨wm_344, wm_345, wm_2, wm_346, by decide +kernel⟩
theorem hd_X1_doMove : HdV yX1_doMove RX1 cX1_doMove 4 none 2 := ⟨wm_334, wm_335, wm_2, wm_336, by decide +kernel⟩
theorem hd_X1_firstWrong : HdV yX1_firstWrong RX1 cX1_firstWrong 2 (some .int) 0 := ⟨wm_173, wm_174, wm_2, wm_175, by decide +kernel⟩
theorem hd_X1_firstWrongWith : HdV yX1_firstWrongWith RX1 cX1_firstWrongWith 9 (some .int) 4 := ⟨wm_162, wp_0, wm_2, wm_163, by decide +kernel⟩
theorem hd_X1_isFrozen : HdV yX1_isFrozen RX1 cX1_isFrozen 6 (some .boolean) 1 := ⟨wm_149, wm_150, wm_2, wm_151, by decide +kernel⟩
theorem hd_X1_loadOfPhase : HdV yX1_loadOfPhase RX1 cX1_loadOfPhase 4 (some .int) 1 := ⟨wm_206, wm_207, wm_2, wm_208, by decide +kernel⟩
theorem hd_X1_loadOfRack : HdV yX1_loadOfRack RX1 cX1_loadOfRack 4 (some .int) 1 := ⟨wm_177, wm_178, wm_2, wm_179, by decide +kernel⟩
theorem hd_X1_lowestSlotFor : HdV yX1_lowestSlotFor RX1 cX1_lowestSlotFor 4 (some .int) 2 := ⟨wm_329, wm_330, wm_2, wm_331, by decide +kernel⟩
theorem hd_X1_machineWithin : HdV yX1_machineWithin RX1 cX1_machineWithin 8 (some .int) 4 := ⟨wm_153, wm_154, wm_2, wm_155, by decide +kernel⟩
theorem hd_X1_needOfCable : HdV yX1_needOfCable RX1 cX1_needOfCable 4 (some .int) 1 := ⟨wm_195, wm_196, wm_2, wm_197, by decide +kernel⟩
theorem hd_X1_place : HdV yX1_place RX1 cX1_place 5 none 4 := ⟨wm_165, wm_166, wm_2, wm_167, by decide +kernel⟩
theorem hd_X1_pushStep : HdV yX1_pushStep RX1 cX1_pushStep 3 none 1 := ⟨wm_339, wp_11, wm_2, wm_340, by decide +kernel⟩
theorem hd_X1_rackOfEnd : HdV yX1_rackOfEnd RX1 cX1_rackOfEnd 3 (some .int) 2 := ⟨wm_186, wp_1, wm_2, wm_187, by decide +kernel⟩
theorem hd_X1_slotBehindMove : HdV yX1_slotBehindMove RX1 cX1_slotBehindMove 3 (some .int) 2 := ⟨wm_326, wp_10, wm_2, wm_327, by decide +kernel⟩
theorem hd_X1_standsIn : HdV yX1_standsIn RX1 cX1_standsIn 3 (some .boolean) 2 := ⟨wm_157, wm_158, wm_2, wm_159, by decide +kernel⟩
theorem hd_X1_whyNotChange : HdV yX1_whyNotChange RX1 cX1_whyNotChange 3 (some .int) 2 := ⟨wm_247, wm_248, wm_2, wm_249, by decide +kernel⟩
theorem hd_X1_whyNotMove : HdV yX1_whyNotMove RX1 cX1_whyNotMove 4 (some .int) 2 := ⟨wm_321, wm_322, wm_2, wm_323, by decide +kernel⟩
theorem hd_X2_addRow : HdV yX2_addRow RX2 cX2_addRow 1 (some .int) 0 := ⟨wm_284, wm_285, wm_3, wm_286, by decide +kernel⟩
theorem hd_X2_at : HdV yX2_at RX2 cX2_at 3 (some .int) 2 := ⟨wm_145, wm_146, wm_3, wm_147, by decide +kernel⟩
theorem hd_X2_copyFrom : HdV yX2_copyFrom RX2 cX2_copyFrom 2 none 1 := ⟨wm_218, wm_219, wm_3, wm_220, by decide +kernel⟩
theorem hd_X2_hasRow : HdV yX2_hasRow RX2 cX2_hasRow 2 (some .boolean) 1 := ⟨wm_234, wm_235, wm_3, wm_236, by decide +kernel⟩
theorem hd_X2_isFull : HdV yX2_isFull RX2 cX2_isFull 1 (some .boolean) 0 := ⟨wm_288, wm_289, wm_3, wm_290, by decide +kernel⟩
theorem hd_X2_put : HdV yX2_put RX2 cX2_put 4 none 3 := ⟨wm_169, wm_170, wm_3, wm_171, by decide +kernel⟩
theorem hd_X2_removeRow : HdV yX2_removeRow RX2 cX2_removeRow 3 none 1 := ⟨wm_230, wm_231, wm_3, wm_232, by decide +kernel⟩
theorem hd_X4_adds : HdV yX4_adds RX4 cX4_adds 7 (some .int) 5 := ⟨wm_803, wp_21, wm_5, wm_804, by decide +kernel⟩
theorem hd_X4_areFree : HdV yX4_areFree RX4 cX4_areFree 8 (some .boolean) 4 := ⟨wm_879, wp_34, wm_5, wm_880, by decide +kernel⟩
theorem hd_X4_backs : HdV yX4_backs RX4 cX4_backs 7 (some .int) 0 := ⟨wm_965, wp_47, wm_5, wm_966, by decide +kernel⟩
theorem hd_X4_cablesOf : HdV yX4_cablesOf RX4 cX4_cablesOf 4 (some .int) 1 := ⟨wm_847, wp_27, wm_5, wm_848, by decide +kernel⟩
theorem hd_X4_changes : HdV yX4_changes RX4 cX4_changes 3 (some .int) 2 := ⟨wm_957, wp_46, wm_5, wm_958, by decide +kernel⟩
theorem hd_X4_copies : HdS yX4_copies RX4 cX4_copies 3 none 2 := ⟨wm_933, wm_5, wm_934, by decide +kernel⟩
theorem hd_X4_difference : HdV yX4_difference RX4 cX4_difference 5 (some .int) 0 := ⟨wm_919, wp_40, wm_5, wm_920, by decide +kernel⟩
theorem hd_X4_drops : HdV yX4_drops RX4 cX4_drops 5 (some .int) 3 := ⟨wm_815, wp_23, wm_5, wm_816, by decide +kernel⟩
theorem hd_X4_ends : HdV yX4_ends RX4 cX4_ends 2 (some .int) 1 := ⟨wm_949, wp_45, wm_5, wm_950, by decide +kernel⟩
theorem hd_X4_freeSlots : HdV yX4_freeSlots RX4 cX4_freeSlots 4 (some .int) 1 := ⟨wm_867, wp_31, wm_5, wm_868, by decide +kernel⟩
theorem hd_X4_fullest : HdV yX4_fullest RX4 cX4_fullest 4 (some .int) 0 := ⟨wm_985, wp_49, wm_5, wm_986, by decide +kernel⟩
theorem hd_X4_in : HdS yX4_in RX4 cX4_in 3 (some .boolean) 3 := ⟨wm_764, wm_5, wm_765, by decide +kernel⟩
theorem hd_X4_inTray : HdV yX4_inTray RX4 cX4_inTray 7 (some .int) 1 := ⟨wm_903, wp_37, wm_5, wm_904, by decide +kernel⟩
theorem hd_X4_isAt : HdV yX4_isAt RX4 cX4_isAt 3 (some .boolean) 2 := ⟨wm_1022, wp_52, wm_5, wm_1023, by decide +kernel⟩
theorem hd_X4_isCable : HdV yX4_isCable RX4 cX4_isCable 2 (some .boolean) 1 := ⟨wm_811, wp_22, wm_5, wm_812, by decide +kernel⟩
theorem hd_X4_isFrozen : HdV yX4_isFrozen RX4 cX4_isFrozen 5 (some .boolean) 1 := ⟨wm_843, wp_26, wm_5, wm_844, by decide +kernel⟩
theorem hd_X4_isMachine : HdV yX4_isMachine RX4 cX4_isMachine 2 (some .boolean) 1 := ⟨wm_799, wp_20, wm_5, wm_800, by decide +kernel⟩
theorem hd_X4_isPlace : HdS yX4_isPlace RX4 cX4_isPlace 1 (some .boolean) 1 := ⟨wm_930, wm_5, wm_931, by decide +kernel⟩
theorem hd_X4_isRack : HdS yX4_isRack RX4 cX4_isRack 1 (some .boolean) 1 := ⟨wm_761, wm_5, wm_762, by decide +kernel⟩
theorem hd_X4_isTray : HdS yX4_isTray RX4 cX4_isTray 1 (some .boolean) 1 := ⟨wm_783, wm_5, wm_784, by decide +kernel⟩
theorem hd_X4_load : HdV yX4_load RX4 cX4_load 6 (some .int) 2 := ⟨wm_859, wp_29, wm_5, wm_860, by decide +kernel⟩
theorem hd_X4_lowest : HdV yX4_lowest RX4 cX4_lowest 4 (some .int) 2 := ⟨wm_875, wp_33, wm_5, wm_876, by decide +kernel⟩
theorem hd_X4_machineAt : HdV yX4_machineAt RX4 cX4_machineAt 4 (some .int) 2 := ⟨wm_871, wp_32, wm_5, wm_872, by decide +kernel⟩
theorem hd_X4_machinesIn : HdV yX4_machinesIn RX4 cX4_machinesIn 4 (some .int) 1 := ⟨wm_863, wp_30, wm_5, wm_864, by decide +kernel⟩
theorem hd_X4_mix : HdV yX4_mix RX4 cX4_mix 2 none 1 := ⟨wm_1035, wp_54, wm_5, wm_1036, by decide +kernel⟩
theorem hd_X4_mixRoom : HdV yX4_mixRoom RX4 cX4_mixRoom 3 none 0 := ⟨wm_1040, wp_55, wm_5, wm_1041, by decide +kernel⟩
theorem hd_X4_moves : HdV yX4_moves RX4 cX4_moves 4 (some .int) 2 := ⟨wm_937, wp_42, wm_5, wm_938, by decide +kernel⟩
theorem hd_X4_needs : HdV yX4_needs RX4 cX4_needs 5 (some .int) 1 := ⟨wm_895, wp_36, wm_5, wm_896, by decide +kernel⟩
theorem hd_X4_of : HdV yX4_of RX4 cX4_of 3 (some .int) 2 := ⟨wm_839, wp_25, wm_5, wm_840, by decide +kernel⟩
theorem hd_X4_places : HdV yX4_places RX4 cX4_places 6 none 4 := ⟨wm_945, wp_44, wm_5, wm_946, by decide +kernel⟩
theorem hd_X4_puts : HdV yX4_puts RX4 cX4_puts 4 (some .int) 2 := ⟨wm_768, wp_17, wm_5, wm_769, by decide +kernel⟩
theorem hd_X4_reads : HdV yX4_reads RX4 cX4_reads 1 (some .boolean) 0 := ⟨wm_1014, wp_50, wm_5, wm_1015, by decide +kernel⟩
theorem hd_X4_refused : HdV yX4_refused RX4 cX4_refused 2 (some .boolean) 1 := ⟨wm_754, wp_16, wm_5, wm_755, by decide +kernel⟩
theorem hd_X4_saves : HdV yX4_saves RX4 cX4_saves 1 none 0 := ⟨wm_772, wp_18, wm_5, wm_773, by decide +kernel⟩
theorem hd_X4_savesFrom : HdV yX4_savesFrom RX4 cX4_savesFrom 3 none 1 := ⟨wm_776, wp_19, wm_5, wm_777, by decide +kernel⟩
theorem hd_X4_standing : HdV yX4_standing RX4 cX4_standing 3 (some .int) 0 := ⟨wm_915, wp_39, wm_5, wm_916, by decide +kernel⟩
theorem hd_X4_steps : HdV yX4_steps RX4 cX4_steps 10 (some .int) 4 := ⟨wm_941, wp_43, wm_5, wm_942, by decide +kernel⟩
theorem hd_X4_takes : HdV yX4_takes RX4 cX4_takes 3 (some .boolean) 1 := ⟨wm_1018, wp_51, wm_5, wm_1019, by decide +kernel⟩
theorem hd_X4_takesMachine : HdV yX4_takesMachine RX4 cX4_takesMachine 3 (some .boolean) 0 := ⟨wm_1026, wp_53, wm_5, wm_1027, by decide +kernel⟩
theorem hd_X4_tellCable : HdV yX4_tellCable RX4 cX4_tellCable 3 (some .int) 2 := ⟨wm_891, wp_35, wm_5, wm_892, by decide +kernel⟩
theorem hd_X4_tellMachine : HdV yX4_tellMachine RX4 cX4_tellMachine 3 (some .int) 2 := ⟨wm_835, wp_24, wm_5, wm_836, by decide +kernel⟩
theorem hd_X4_tellPile : HdV yX4_tellPile RX4 cX4_tellPile 3 (some .int) 2 := ⟨wm_973, wp_48, wm_5, wm_974, by decide +kernel⟩
theorem hd_X4_tellRack : HdV yX4_tellRack RX4 cX4_tellRack 4 (some .int) 2 := ⟨wm_855, wp_28, wm_5, wm_856, by decide +kernel⟩
theorem hd_X4_tellValue : HdV yX4_tellValue RX4 cX4_tellValue 2 (some .int) 1 := ⟨wm_911, wp_38, wm_5, wm_912, by decide +kernel⟩
theorem hd_X4_wrong : HdV yX4_wrong RX4 cX4_wrong 2 (some .int) 0 := ⟨wm_923, wp_41, wm_5, wm_924, by decide +kernel⟩
abbrev TBS : Type := Int32 × (Nat → Int32)
abbrev RS : Type := (Nat → Int32) × (Nat → Int32) × (Nat → Int32) × (Nat → Int32) × (Nat → Int32) × (Nat → Int32) × Int32 × Int32 × Int32 × Int32 × Int32 × Int32 × Int32 × Int32
abbrev TXS : Type := (Nat → Int32) × (Nat → Int32) × Int32 × Int32 × Int32 × Int32
abbrev MDS : Type := (Nat → Int32) × (Nat → Int32) × (Nat → Int32) × (Nat → Int32) × (Nat → Int32) × Int32 × Int32 × Int32 × Int32 × Int32 × Int32 × Int32 × Int64
abbrev tbW (D : va_G) (a b : Nat) (most cols : Int32) (len : Nat) (S : TBS) : va_W := [(a, .inr (2, [.int most, .int cols, .ref b, .int S.1])), (b, .inl (D.1 100, len, .inl S.2))]
abbrev rmW (D : va_G) (r : Nat → Nat) (S : RS) : va_W := [((r 0), .inr (1, [.ref (r 1), .ref (r 2), .ref (r 3), .ref (r 4), .ref (r 5), .ref (r 6), .int S.2.2.2.2.2.2.2.2.2.2.1, .int S.2.2.2.2.2.2.2.2.2.2.2.1, .int S.2.2.2.2.2.2.2.2.2.2.2.2.1, .int S.2.2.2.2.2.2.2.2.2.2.2.2.2])), ((r 1), .inr (2, [.int (12 : Int32), .int (6 : Int32), .ref (r 7), .int S.2.2.2.2.2.2.1])), ((r 2), .inr (2, [.int (10 : Int32), .int (3 : Int32), .ref (r 8), .int S.2.2.2.2.2.2.2.1])), ((r 3), .inr (2, [.int (6 : Int32), .int (3 : Int32), .ref (r 9), .int S.2.2.2.2.2.2.2.2.1])), ((r 4), .inr (2, [.int (20 : Int32), .int (4 : Int32), .ref (r 10), .int S.2.2.2.2.2.2.2.2.2.1])), ((r 5), .inl (D.1 100, 6, .inl S.2.2.2.2.1)), ((r 6), .inl (D.1 100, 5, .inl S.2.2.2.2.2.1)), ((r 7), .inl (D.1 100, 72, .inl S.1)), ((r 8), .inl (D.1 100, 30, .inl S.2.1)), ((r 9), .inl (D.1 100, 18, .inl S.2.2.1)), ((r 10), .inl (D.1 100, 80, .inl S.2.2.2.1))]
abbrev txW (D : va_G) (r : Nat → Nat) (S : TXS) : va_W := [((r 0), .inr (0, [.ref (r 1), .int S.2.2.1, .ref (r 2), .int S.2.2.2.1, .int S.2.2.2.2.1])), ((r 1), .inl (D.1 100, 90, .inl S.1)), ((r 2), .inr (2, [.int (45 : Int32), .int (3 : Int32), .ref (r 3), .int S.2.2.2.2.2])), ((r 3), .inl (D.1 100, 135, .inl S.2.1))]
abbrev mdW (D : va_G) (r : Nat → Nat) (S : MDS) : va_W := [((r 0), .inr (4, [.ref (r 1), .ref (r 2), .ref (r 3), .ref (r 4), .int S.2.2.2.2.2.1, .int S.2.2.2.2.2.2.1, .ref (r 5), .int S.2.2.2.2.2.2.2.1, .int S.2.2.2.2.2.2.2.2.1, .int S.2.2.2.2.2.2.2.2.2.1, .int S.2.2.2.2.2.2.2.2.2.2.1, .int S.2.2.2.2.2.2.2.2.2.2.2.1, .long S.2.2.2.2.2.2.2.2.2.2.2.2])), ((r 1), .inl (D.1 100, 219, .inl S.1)), ((r 2), .inl (D.1 100, 876, .inl S.2.1)), ((r 3), .inl (D.1 100, 219, .inl S.2.2.1)), ((r 4), .inl (D.1 100, 219, .inl S.2.2.2.1)), ((r 5), .inl (D.1 100, 90, .inl S.2.2.2.2.1))]
abbrev iaW (D : va_G) (a len : Nat) (S : (Nat → Int32)) : va_W := [(a, .inl (D.1 100, len, .inl S))]
end
section
/-! exceptions: a method that answers is one contract (Ct), a method that throws another (CtT): its pure function says which -/
def exn : Nat → String
  | 1 => "java/lang/IndexOutOfBoundsException"
  | 2 => "java/lang/IllegalArgumentException"
  | _ => "java/lang/IllegalStateException"
def strs : List (Nat × String) := [(110, "no such freeze"), (118, "the hour would be too great"), (147, "no such slot"), (198, "a negative index"), (215, "the text is full"), (227, "no saved state"), (261, "no such machine"), (263, "no such cable"), (265, "no such rack"), (267, "no such tray"), (269, "an argument is out of range"), (275, "there are as many as there may be"), (84, "a cable joins two different machines")]
def dcls : List MethodName := [⟨"java/lang/RuntimeException", "<init>", "(Ljava/lang/String;)V"⟩, ⟨"java/lang/Exception", "<init>", "(Ljava/lang/String;)V"⟩, ⟨"java/lang/Throwable", "<init>", "(Ljava/lang/String;)V"⟩]
/-- what the start gives of exceptions -/
def XW (A : Nat → Prop) (U : State) : Prop := vx_Zq Bundle.tN "UNASSIGNED_STACK" Bundle.steD A U U.heap ∧ vx_Zq Bundle.tN "SUPPRESSED_SENTINEL" Bundle.listD A U U.heap ∧ (∀ q : Nat × String, q ∈ strs → ∃ a : Nat, vk_R RX3 q.1 q.2 a U) ∧ (∀ i : Nat, i < 4 → va_Nw (.castable (exn i) (exn i)) U) ∧
  va_Nc (exn 2) (exn 1) U ∧ va_Nc (exn 3) (exn 1) U ∧ va_Nc (exn 1) (exn 2) U ∧ va_Nc (exn 3) (exn 2) U ∧ va_Nw (.methodLinkNest RX3 29 yX0_init "RackMoves") U ∧ ∀ x : MethodName, x ∈ dcls → va_Nw (.declares x) U
theorem XW.to {A B : Nat → Prop} {s U : State} {H : Heap} {locs : List Loc} (h : XW A s) (hS : va_S A s.heap H locs) (hU : U.heap = H) (hW : s.WarmedH U.vm) (hAB : ∀ q, B q → A q) : XW B U := by
  obtain ⟨h1, h2, h3, h4, h5, h6, h7, h8, h9, h10⟩ := h
  refine ⟨?_, ?_, fun q hq => ?_, fun i hi => (h4 i hi).warmC hW, h5.moved hW.alike, h6.moved hW.alike, h7.moved hW.alike, h8.moved hW.alike, h9.warmM hW, fun x hx => (h10 x hx).warmD hW⟩
  · rw [hU]; exact ((h1.kept hS.2.1).moved hW.alike).narrow hAB
  · rw [hU]; exact ((h2.kept hS.2.1).moved hW.alike).narrow hAB
  · obtain ⟨a, ha⟩ := h3 q hq
    exact ⟨a, vk_R.warm hW ha⟩
theorem XW.call {A : Nat → Prop} {U : State} (h : XW A U) (g : JFrame) (mk : MethodId) (a : Array Value) : XW A (U.calling g mk a) := by
  obtain ⟨h1, h2, h3, h4, h5, h6, h7, h8, h9, h10⟩ := h
  have hal : U.vm.Alike (U.calling g mk a).vm := Vm.Alike.refl U.vm
  refine ⟨h1.moved hal, h2.moved hal, fun q hq => ?_, fun i hi => (h4 i hi).same rfl rfl, h5.moved hal, h6.moved hal, h7.moved hal, h8.moved hal, h9.same rfl rfl, fun x hx => (h10 x hx).same rfl rfl⟩
  obtain ⟨y, hy⟩ := h3 q hq
  exact ⟨y, vk_R.same (u := U) (U := U.calling g mk a) rfl hy⟩
def XK (X : Cx) : Prop :=
  match X with
  | (_, _, s, _, _, _, _, c, _, A, H0) => H0 = s.heap ∧ XW A s ∧ ∀ x ∈ c.exceptionTable.toList, False
def CtTQ (D : va_G) (ws : va_W) (A : Nat → Prop) (E : String) : String → State → State → Prop := vx_X (fun _ : Unit => True) (fun E' _ t => E' = E ∧ va_P D vwCl ws t.heap) A
def RTT (X : Cx) (D : va_G) (mc ms : Nat) (ws : va_W) (E : String) : Prop :=
  match X with
  | (_, _, s, _, args, below, _, _, Q, A, _) => Q = vx_MQ below (fun _ _ _ _ => False) (CtTQ D ws A E) args s mc ms A
/-- a method that throws E, its cells as they were -/
def CtT (l : Launch) (D : va_G) (y : MethodName) (b : ByteArray) (n : Nat) (ret : Option FieldType) (rm : Room) (mc ms : Nat) (avs : List Value) (ws : va_W) (E : String) : Prop :=
  ∀ sz : Nat, vx_Met l y (Cond.code y b n ret :: lw_g) rm (va_Pc avs (fun U => CtPre D ws sz U ∧ XW (va_A ws sz) U)) (fun _ _ _ _ => False) (CtTQ D ws (va_A ws sz) E) mc ms (va_A ws sz)
theorem CtT_blind {D : va_G} {ws : va_W} {sz : Nat} {avs : List Value} {A : Nat → Prop} : FrameBlind (va_Pc avs (fun U => CtPre D ws sz U ∧ XW A U)) := fun a U g mk h => by
  obtain ⟨h1, ⟨h2, h3, h4, h5⟩, h6⟩ := h
  exact ⟨h1, ⟨h2, h3, va_K.moved (u := U) (U := U.calling g mk a) (Vm.Alike.refl U.vm) h4, h5⟩, h6.call g mk a⟩
theorem CtT.of {l : Launch} {D : va_G} {y : MethodName} {b : ByteArray} {n : Nat} {ret : Option FieldType} {rm : Room} {mc ms : Nat} {avs : List Value} {ws : va_W} {E : String} {own : String} {lv : List (Nat × Value)}
    (hy : plainName y.cls = true) (ho : y.cls = own) (hle : (lg_sl avs).length ≤ n) (hlv : lv_args 0 avs = lv)
    (body : ∀ X : Cx, OK X D n b own → XK X → RTT X D mc ms ws E → J X l rm D n 0 0 ws lv 0 []) : CtT l D y b n ret rm mc ms avs ws E := by
  intro sz
  refine vx_ofW (cc := b) (maxL := n) (ret := ret) hy rfl ?_
  intro p e s m args below meth c s₁ B hml htab hv
  obtain ⟨rfl, ⟨hsz, hP, hK, hD0⟩, hXW⟩ := hv
  have hx := B.exec
  have hb := B.bytes
  have hts := atoms_spec (ws := Cond.code y b n ret :: lw_g) B.pre
  have hown : s.vm.findClass y.cls = some m.cls := findClass_of_methodNamed B.named
  have hlocks := B.notSynchronized
  subst hsz
  have hA : ∀ q : Nat, s.heap.size ≤ q → va_A ws s.heap.size q := fun q h => Or.inr h
  have hl := lv_entry avs (n := n) hle
  rw [hlv] at hl
  rw [lg_entry_eq]
  exact body (p, e, s, m, avs.toArray, below, meth, c, vx_MQ below (fun _ _ _ _ => False) (CtTQ D ws (va_A ws s.heap.size) E) avs.toArray s mc ms (va_A ws s.heap.size), va_A ws s.heap.size, s.heap)
    ⟨hx, hb, hml, by rw [← ho]; exact hown, fun w hw => hts w (List.mem_cons_of_mem _ hw), hK, hlocks, hA⟩ ⟨rfl, hXW, htab⟩ rfl s.heap [] _ hP hD0.self va_S.rf hl
abbrev xnms : List String := ["java/lang/RuntimeException", "java/lang/Exception"]
def ThF (E : String) (ik ic : Nat) : Prop := Cond.classLink RX3 ik E ∈ lw_g ∧ Cond.initialized E ∈ lw_g ∧ (∀ w ∈ (vx_atS RX3 ic E xnms).filter goodWord, w ∈ lw_g) ∧ (∀ w ∈ (vx_atS RX3 ic E xnms).filter (fun w => !goodWord w), w ∈ Cond.castable E E :: dcls.map Cond.declares) ∧ (∀ w ∈ Cond.classLink RX3 ik E :: Cond.initialized E :: vx_atS RX3 ic E xnms, vx_ot w = true) ∧ Bundle.fit E = true ∧ (∀ n ∈ xnms, Bundle.fit n = true) ∧ ∃ i, i < 4 ∧ E = exn i
section JT
variable {X : Cx} {l : Launch} {R : Room} {D : va_G} {nL k n : Nat} {cc : ByteArray} {ws ws0 wr : va_W} {lv : List (Nat × Value)} {pc : Nat} {st rest As : List Value} {E : String}
variable {y : MethodName} {C own : String} {b : ByteArray} {m0 np idx mc ms mc1 ms1 : Nat} {ret : Option FieldType} {rm : Room}
theorem lg_atS {args : Array Value} {s : State} {A : Nat → Prop} {ik ic : Nat} (hf : ThF E ik ic) (hts : ∀ w ∈ lw_g, w.before args s = true) (hX : XW A s) : ∀ w ∈ vx_atS RX3 ic E xnms, w.before args s = true := by
  obtain ⟨-, -, h3, h4, -, -, -, i, hi, rfl⟩ := hf
  refine vx_hat (fun w hw => hts w (h3 w hw)) h4 (fun w hw => ?_)
  rcases List.mem_cons.mp hw with rfl | hw
  · exact (hX.2.2.2.1 i hi).use rfl
  · obtain ⟨x, hx, rfl⟩ := List.mem_map.mp hw
    exact (hX.2.2.2.2.2.2.2.2.2 x hx).use rfl
theorem r_throw {ik is ic : Nat} {text : String} (h : OK X D nL cc RX3) (hx : XK X) (ht : RTT X D mc ms ws E) (hl0 : l.stackTraces = false) (hf : ThF E ik ic) (hs : (is, text) ∈ strs)
    (d0 : decode cc pc = .ok (.new ik, 3)) (d3 : decode cc (pc + 3) = .ok (.dup, 1)) (d4 : decode cc (pc + 4) = .ok (.ldc is, 2)) (d6 : decode cc (pc + 6) = .ok (.invokespecial ic, 3)) (d9 : decode cc (pc + 9) = .ok (.athrow, 1))
    (hR : 5 < R.frames ∧ (st.map fun v => v.category).sum + 82 ≤ R.locals ∧ k + 1 ≤ R.cells ∧ n + 6 ≤ R.slots) (hc : k + 1 ≤ mc ∧ n + 6 ≤ ms) : J X l R D nL k n ws lv pc st := by
  obtain ⟨p, e, s, m, args, below, meth, c, Q, A, H0⟩ := X
  obtain ⟨hxx, hb, hml, hown, hts, hK, hlk, hA⟩ := h
  obtain ⟨rfl, hXW, htab⟩ := hx
  have ht : Q = _ := ht
  subst ht
  intro H locs ls hP hD hS hl
  obtain ⟨sa, hstr⟩ := hXW.2.2.1 _ hs
  have hat := lg_atS hf hts hXW
  obtain ⟨f1, f2, -, -, f5, f6, f7, -⟩ := hf
  exact vx_throwS (sa := sa) (names := xnms) hxx hb hl0 hown f6 f7 (hts _ f1) (hts _ f2) hstr hat f5 hXW.1 hXW.2.1 hS (hl.1.trans hml.symm) d0 d3 d4 d6 d9 (fun x hx => (htab x hx).elim) hR.1 hR.2.1 hR.2.2.1 hR.2.2.2 hlk
    (fun t hvm hz hk => ⟨(), trivial, ⟨rfl, hP.kept (fun k q hk' => hk q.1 (hP k q hk').lt)⟩, Nat.le_trans hS.1 hz, fun q h1 h2 => by rw [hk q (Nat.lt_of_lt_of_le h1 hS.1)]; exact hS.2.1 q h1 h2⟩) hS.2.2 hc.1 hc.2
theorem r_throwW {ik is ic : Nat} {text : String} (h : OK X D nL cc RX3) (hx : XK X) (ht : RTT X D mc ms ws E) (hl0 : l.stackTraces = false) (hf : ThF E ik ic) (hs : (is, text) ∈ strs)
    (d0 : decode cc pc = .ok (.new ik, 3)) (d3 : decode cc (pc + 3) = .ok (.dup, 1)) (d4 : decode cc (pc + 4) = .ok (.ldc_w is, 3)) (d6 : decode cc (pc + 7) = .ok (.invokespecial ic, 3)) (d9 : decode cc (pc + 10) = .ok (.athrow, 1))
    (hR : 5 < R.frames ∧ (st.map fun v => v.category).sum + 82 ≤ R.locals ∧ k + 1 ≤ R.cells ∧ n + 6 ≤ R.slots) (hc : k + 1 ≤ mc ∧ n + 6 ≤ ms) : J X l R D nL k n ws lv pc st := by
  obtain ⟨p, e, s, m, args, below, meth, c, Q, A, H0⟩ := X
  obtain ⟨hxx, hb, hml, hown, hts, hK, hlk, hA⟩ := h
  obtain ⟨rfl, hXW, htab⟩ := hx
  have ht : Q = _ := ht
  subst ht
  intro H locs ls hP hD hS hl
  obtain ⟨sa, hstr⟩ := hXW.2.2.1 _ hs
  have hat := lg_atS hf hts hXW
  obtain ⟨f1, f2, -, -, f5, f6, f7, -⟩ := hf
  exact vx_throwSW (sa := sa) (names := xnms) hxx hb hl0 hown f6 f7 (hts _ f1) (hts _ f2) hstr hat f5 hXW.1 hXW.2.1 hS (hl.1.trans hml.symm) d0 d3 d4 d6 d9 (fun x hx => (htab x hx).elim) hR.1 hR.2.1 hR.2.2.1 hR.2.2.2 hlk
    (fun t hvm hz hk => ⟨(), trivial, ⟨rfl, hP.kept (fun k q hk' => hk q.1 (hP k q hk').lt)⟩, Nat.le_trans hS.1 hz, fun q h1 h2 => by rw [hk q (Nat.lt_of_lt_of_le h1 hS.1)]; exact hS.2.1 q h1 h2⟩) hS.2.2 hc.1 hc.2
/-- behind a call that has thrown -/
theorem r_thrown {p : Program} {e : Env} {s : State} {m : MethodId} {args : Array Value} {below : List Frame} {meth : Method} {c : Code} {Q : State → Prop} {A : Nat → Prop} {H0 H : Heap} {locs : List Loc} {ls : Array Slot} {Qa : State → Outcome → State → Prop} (hQa : ∀ a b d, Qa a b d → False) (isC isR : List Nat) (hC : isC.map (fun i => ws[i]?) = ws0.map some) (hR : isR.map (fun i => ws[i]?) = wr.map some) (hn : va_nd isR = true) (hdis : ∀ i ∈ isR, i ∉ isC)
    (hD0 : va_D (va_A ws0 H.size) ws0) (hA : ∀ q, H0.size ≤ q → A q) (hP : va_P D vwCl ws H) (hD : va_D A ws) (hS : va_S A H0 H locs)
    (hrun : vx_Run p l e R s m args below meth c H locs k n mc ms (F0 m pc ls st) rest Qa (CtTQ D ws0 (va_A ws0 H.size) E) (va_A ws0 H.size))
    (kk : ∀ (H1 : Heap) (locs1 : List Loc) (q : Addr) (ce : Cell), va_P D vwCl (wr ++ ws0) H1 → va_D A (wr ++ ws0) → va_S A H0 H1 locs1 → H1[q]? = some ce → ce.vm = .none → s.vm.findClass E = some ce.cls → vx_W p l e R s m args below meth c H1 locs1 (k + mc) (n + ms) Q (F0 m pc ls rest) q) : W p l e R s m args below meth c H locs k n Q (F0 m pc ls st) := by
  intro T hT XX
  have hF : ∀ q, va_A ws0 H.size q → A q := va_free hD hS hA isC hC
  rcases hrun T hT XX with ⟨v, st₀, t, T', L, h0, X', hL, e1, e2, hq, stp⟩ | ⟨q, st₀, t, T', L, E', ce, h0, X', hL, e1, e2, ⟨u, -, ⟨rfl, hP1⟩, hz, hk⟩, hce, hcv, hcl, stp⟩
  · exact (hQa _ _ _ hq).elim
  · rw [h0] at hz hk
    rw [← e1] at hz hP1
    have hk' : ∀ q : Nat, q < H.size → ¬ va_A ws0 H.size q → T'.heap[q]? = H[q]? := fun q h1 h2 => by rw [e1]; exact hk q h1 h2
    obtain ⟨hPj, hDj⟩ := va_join hP hD isC isR hC hR hn hdis hk' hF hP1 hD0
    have hS' : va_S A H0 T'.heap (locs ++ L) := ⟨Nat.le_trans hS.1 hz, fun q h1 h2 => by
        rw [hk' q (Nat.lt_of_lt_of_le h1 hS.1) (fun z => h2 (hF q z))]; exact hS.2.1 q h1 h2, fun q hq => by
        rcases List.mem_append.mp hq with h | h
        · exact hS.2.2 q h
        · exact hF _ (hL q h)⟩
    obtain ⟨t2, a1, b1⟩ := kk T'.heap (locs ++ L) q ce hPj hDj hS' (by rw [e1]; exact hce) hcv hcl T' rfl X'
    exact ⟨t2, stp.trans a1, b1⟩
theorem lg_preT {s : State} {H : Heap} {A : Nat → Prop} {avs : List Value} {locs : List Loc} (hXW : XW A s) (hS : va_S A s.heap H locs) (hF : ∀ q, va_A ws0 H.size q → A q) (hK : va_K D vwCl (tyG D) s) (hP : va_P D vwCl ws0 H) (hD : va_D A ws0) : ∀ U : State, U.heap = H → s.WarmedH U.vm → va_Pc avs (fun U => CtPre D ws0 H.size U ∧ XW (va_A ws0 H.size) U) avs.toArray U :=
  fun U hU hW => ⟨rfl, ⟨by rw [hU], by rw [hU]; exact hP, va_K.moved hW.alike hK, hD.weaken (fun _ _ _ _ => trivial)⟩, hXW.to hS hU hW hF⟩
theorem lg_allP {H1 : Heap} (isB : List Nat) (hB : isB.map (fun i => (wr ++ ws0)[i]?) = ws.map some) (hP : va_P D vwCl (wr ++ ws0) H1) : va_P D vwCl ws H1 := lg_subP isB hB hP
/-- a call that throws through: the caller throws alike -/
theorem r_callTV (h : OK X D nL cc own) (hx : XK X) (ht : RTT X D mc1 ms1 ws E) {a ci q0 : Nat} {T : u_T} {N : Nat} {fs : List Value} (hd0 : HdV y C b m0 ret np) (wl : Cond.methodLink own idx y ∈ lw_g) (hd : decode cc pc = .ok (.invokevirtual idx, 3)) (hc : CtT l D y b m0 ret rm mc ms (.ref a :: As) ws0 E)
    (isC isR isB : List Nat) (hC : isC.map (fun i => ws[i]?) = ws0.map some) (hR : isR.map (fun i => ws[i]?) = wr.map some) (hB : isB.map (fun i => (wr ++ ws0)[i]?) = ws.map some) (hn : (va_nd isC && va_nd isR && isR.all (fun i => !isC.contains i)) = true)
    (hci : vwCl[ci]? = some (C, T, N)) (he : ws0[q0]? = some (a, .inr (ci, fs))) (hnp : As.length = np) (hrc : rm.cells = mc ∧ rm.slots = ms) (hRm : rm.frames + 1 ≤ R.frames ∧ 8 + (m0 + 11) + rm.locals ≤ R.locals) (hst : (rest.map fun v => v.category).sum ≤ 8) (hf : k + mc ≤ R.cells ∧ n + ms ≤ R.slots) (hf1 : k + mc ≤ mc1 ∧ n + ms ≤ ms1) (hstk : st = As.reverse ++ .ref a :: rest) : J X l R D nL k n ws lv pc st := by
  obtain ⟨p, e, s, m, args, below, meth, c, Q, A, H0⟩ := X
  obtain ⟨hxx, hb, hml, hown, hts, hK, hlk, hA⟩ := h
  obtain ⟨rfl, hXW, htab⟩ := hx
  have ht : Q = _ := ht
  subst ht
  obtain ⟨w1, w2, w3, w4, hy⟩ := hd0
  simp only [Bool.and_eq_true] at hn
  obtain ⟨⟨hn1, hn2⟩, hn3⟩ := hn
  intro H locs ls hP hD hS hl
  have hPc := lg_subP isC hC hP
  have hDc := hD.sub isC hn1 hC
  have hF : ∀ q, va_A ws0 H.size q → A q := va_free hD hS hA isC hC
  refine r_thrown (fun _ _ _ z => z) isC isR hC hR hn2 (fun i hi hi2 => ?_) hDc.self hA hP hD hS (vx_runV (As := As) (rest := rest) ⟨hxx, hb, hml, hown, hts⟩ (hc H.size) (cwV np hts (lg_in (fun w hw => hw) ?_) rfl hrc.1 hrc.2 hy hRm) ⟨CtT_blind, va_recv hK hPc hci he, lg_preT hXW hS hF hK hPc hDc⟩ rfl hnp hl.1 hstk (lv_room hst) hd hf)
    (fun H1 locs1 q ce hP1 hD1 hS1 hce hcv hcl => vx_out (fun x hx => (htab x hx).elim) hlk hce hcv hcl (fun t ht hal => ⟨(), trivial, ⟨rfl, by rw [ht]; exact lg_allP isB hB hP1⟩, hS1.F ht⟩) hS1.2.2 hf1.1 hf1.2)
  · have := List.all_eq_true.mp hn3 i hi
    simp [hi2] at this
  · intro w hw
    unfold wsV at hw
    rcases List.mem_append.mp hw with hw | hw
    · simp only [List.mem_cons, List.not_mem_nil, or_false] at hw
      rcases hw with rfl | rfl | rfl | rfl
      · exact wl
      · exact w1
      · exact w2
      · exact w3
    · exact lg_cons w4 w hw
theorem r_callTS (h : OK X D nL cc own) (hx : XK X) (ht : RTT X D mc1 ms1 ws E) (hd0 : HdS y own b m0 ret np) (wl : Cond.methodLink own idx y ∈ lw_g) (hd : decode cc pc = .ok (.invokestatic idx, 3)) (hc : CtT l D y b m0 ret rm mc ms As ws0 E)
    (isC isR isB : List Nat) (hC : isC.map (fun i => ws[i]?) = ws0.map some) (hR : isR.map (fun i => ws[i]?) = wr.map some) (hB : isB.map (fun i => (wr ++ ws0)[i]?) = ws.map some) (hn : (va_nd isC && va_nd isR && isR.all (fun i => !isC.contains i)) = true)
    (hnp : As.length = np) (hrc : rm.cells = mc ∧ rm.slots = ms) (hRm : rm.frames + 1 ≤ R.frames ∧ 8 + (m0 + 11) + rm.locals ≤ R.locals) (hst : (rest.map fun v => v.category).sum ≤ 8) (hf : k + mc ≤ R.cells ∧ n + ms ≤ R.slots) (hf1 : k + mc ≤ mc1 ∧ n + ms ≤ ms1) (hstk : st = As.reverse ++ rest) : J X l R D nL k n ws lv pc st := by
  obtain ⟨p, e, s, m, args, below, meth, c, Q, A, H0⟩ := X
  obtain ⟨hxx, hb, hml, hown, hts, hK, hlk, hA⟩ := h
  obtain ⟨rfl, hXW, htab⟩ := hx
  have ht : Q = _ := ht
  subst ht
  obtain ⟨w1, w3, w4, hy⟩ := hd0
  simp only [Bool.and_eq_true] at hn
  obtain ⟨⟨hn1, hn2⟩, hn3⟩ := hn
  intro H locs ls hP hD hS hl
  have hPc := lg_subP isC hC hP
  have hDc := hD.sub isC hn1 hC
  have hF : ∀ q, va_A ws0 H.size q → A q := va_free hD hS hA isC hC
  refine r_thrown (fun _ _ _ z => z) isC isR hC hR hn2 (fun i hi hi2 => ?_) hDc.self hA hP hD hS (vx_runS (As := As) (rest := rest) ⟨hxx, hb, hml, hown, hts⟩ (hc H.size) (cwS np hts (lg_in (fun w hw => hw) ?_) rfl hrc.1 hrc.2 hy hRm) ⟨CtT_blind, lg_preT hXW hS hF hK hPc hDc⟩ rfl hnp hl.1 hstk (lv_room hst) hd hf)
    (fun H1 locs1 q ce hP1 hD1 hS1 hce hcv hcl => vx_out (fun x hx => (htab x hx).elim) hlk hce hcv hcl (fun t ht hal => ⟨(), trivial, ⟨rfl, by rw [ht]; exact lg_allP isB hB hP1⟩, hS1.F ht⟩) hS1.2.2 hf1.1 hf1.2)
  · have := List.all_eq_true.mp hn3 i hi
    simp [hi2] at this
  · intro w hw
    unfold wsS at hw
    rcases List.mem_append.mp hw with hw | hw
    · simp only [List.mem_cons, List.not_mem_nil, or_false] at hw
      rcases hw with rfl | rfl | rfl
      · exact wl
      · exact w1
      · exact w3
    · exact lg_cons w4 w hw
end JT
def bX {α β : Type} (x : Option (Nat ⊕ α)) (f : α → Option (Nat ⊕ β)) : Option (Nat ⊕ β) :=
  match x with
  | none => none
  | some (.inl k) => some (.inl k)
  | some (.inr v) => f v
theorem o_bX {α β : Type} {x : Option (Nat ⊕ α)} {f : α → Option (Nat ⊕ β)} {r : Nat ⊕ β} (h : bX x f = some r) : (∃ k, x = some (.inl k) ∧ r = .inl k) ∨ ∃ v, x = some (.inr v) ∧ f v = some r := by
  unfold bX at h
  split at h
  · cases h
  · cases h; exact Or.inl ⟨_, rfl, rfl⟩
  · exact Or.inr ⟨_, rfl, h⟩
/-- a call that is known not to throw -/
def bN {α β : Type} (x : Option (Nat ⊕ α)) (f : α → Option β) : Option β :=
  match x with
  | some (.inr v) => f v
  | _ => none
theorem o_bN {α β : Type} {x : Option (Nat ⊕ α)} {f : α → Option β} {r : β} (h : bN x f = some r) : ∃ v, x = some (.inr v) ∧ f v = some r := by
  unfold bN at h
  split at h
  · exact ⟨_, rfl, h⟩
  · cases h
theorem thf_1 : ThF (exn 1) 108 112 := ⟨by decide +kernel, by decide +kernel, by decide +kernel, by decide +kernel, by decide +kernel, by decide +kernel, by decide +kernel, 1, by decide, rfl⟩
theorem thf_2 : ThF (exn 2) 82 86 := ⟨by decide +kernel, by decide +kernel, by decide +kernel, by decide +kernel, by decide +kernel, by decide +kernel, by decide +kernel, 2, by decide, rfl⟩
theorem thf_3 : ThF (exn 3) 116 120 := ⟨by decide +kernel, by decide +kernel, by decide +kernel, by decide +kernel, by decide +kernel, by decide +kernel, by decide +kernel, 3, by decide, rfl⟩
end
section
theorem zz_last : True := trivial
end
