-- ===== PART A: goes FIRST, ahead of the names: the tables' words, and 'selects' of the private methods out of them =====
/-- a private method of a class that the tables say can be made, by its rows of tables_1 -/
def lw_okq (q : MethodName × Nat) : Prop := (q.1.cls ≠ "java/lang/invoke/MethodHandle" ∧ q.1.cls ≠ "java/lang/invoke/VarHandle") ∧ Cond.instantiable q.1.cls q.2 ∈ tables_1 ∧ Cond.privateMethod q.1 ∈ tables_1 ∧ Cond.instanceMethod q.1 ∈ tables_1
theorem lw_p0 : lw_okq (⟨"SwornLane$Pad", "take", "(CI)I"⟩, 6) := ⟨⟨by decide +kernel, by decide +kernel⟩, List.mem_of_getElem? (i := 110) (by decide +kernel), List.mem_of_getElem? (i := 299) (by decide +kernel), List.mem_of_getElem? (i := 300) (by decide +kernel)⟩
theorem lw_p1 : lw_okq (⟨"SwornLane$Pad", "signHere", "()I"⟩, 6) := ⟨⟨by decide +kernel, by decide +kernel⟩, List.mem_of_getElem? (i := 110) (by decide +kernel), List.mem_of_getElem? (i := 303) (by decide +kernel), List.mem_of_getElem? (i := 304) (by decide +kernel)⟩
theorem lw_p2 : lw_okq (⟨"SwornLane$Pad", "readDeed", "()Z"⟩, 6) := ⟨⟨by decide +kernel, by decide +kernel⟩, List.mem_of_getElem? (i := 110) (by decide +kernel), List.mem_of_getElem? (i := 307) (by decide +kernel), List.mem_of_getElem? (i := 308) (by decide +kernel)⟩
theorem lw_p3 : lw_okq (⟨"SwornLane$Pad", "readLone", "(I)Z"⟩, 6) := ⟨⟨by decide +kernel, by decide +kernel⟩, List.mem_of_getElem? (i := 110) (by decide +kernel), List.mem_of_getElem? (i := 311) (by decide +kernel), List.mem_of_getElem? (i := 312) (by decide +kernel)⟩
theorem lw_p4 : lw_okq (⟨"SwornLane$Pad", "readPair", "(ICI)Z"⟩, 6) := ⟨⟨by decide +kernel, by decide +kernel⟩, List.mem_of_getElem? (i := 110) (by decide +kernel), List.mem_of_getElem? (i := 315) (by decide +kernel), List.mem_of_getElem? (i := 316) (by decide +kernel)⟩
theorem lw_p5 : lw_okq (⟨"SwornLane", "playSession", "()I"⟩, 6) := ⟨⟨by decide +kernel, by decide +kernel⟩, List.mem_of_getElem? (i := 15) (by decide +kernel), List.mem_of_getElem? (i := 323) (by decide +kernel), List.mem_of_getElem? (i := 324) (by decide +kernel)⟩
theorem lw_p6 : lw_okq (⟨"SwornLane$Country", "whyNoWay", "(IIZ)I"⟩, 7) := ⟨⟨by decide +kernel, by decide +kernel⟩, List.mem_of_getElem? (i := 29) (by decide +kernel), List.mem_of_getElem? (i := 348) (by decide +kernel), List.mem_of_getElem? (i := 349) (by decide +kernel)⟩
theorem lw_p7 : lw_okq (⟨"SwornLane$Country", "whyNotOver", "(I)I"⟩, 7) := ⟨⟨by decide +kernel, by decide +kernel⟩, List.mem_of_getElem? (i := 29) (by decide +kernel), List.mem_of_getElem? (i := 355) (by decide +kernel), List.mem_of_getElem? (i := 356) (by decide +kernel)⟩
theorem lw_p8 : lw_okq (⟨"SwornLane$Country", "whyNotThere", "(III)I"⟩, 7) := ⟨⟨by decide +kernel, by decide +kernel⟩, List.mem_of_getElem? (i := 29) (by decide +kernel), List.mem_of_getElem? (i := 359) (by decide +kernel), List.mem_of_getElem? (i := 360) (by decide +kernel)⟩
theorem lw_p9 : lw_okq (⟨"SwornLane$Country", "passHour", "()V"⟩, 7) := ⟨⟨by decide +kernel, by decide +kernel⟩, List.mem_of_getElem? (i := 29) (by decide +kernel), List.mem_of_getElem? (i := 368) (by decide +kernel), List.mem_of_getElem? (i := 369) (by decide +kernel)⟩
theorem lw_p10 : lw_okq (⟨"SwornLane$Trial", "noteSitters", "(I)V"⟩, 6) := ⟨⟨by decide +kernel, by decide +kernel⟩, List.mem_of_getElem? (i := 139) (by decide +kernel), List.mem_of_getElem? (i := 376) (by decide +kernel), List.mem_of_getElem? (i := 377) (by decide +kernel)⟩
theorem lw_p11 : lw_okq (⟨"SwornLane$Country", "neighboursOf", "(I)I"⟩, 7) := ⟨⟨by decide +kernel, by decide +kernel⟩, List.mem_of_getElem? (i := 29) (by decide +kernel), List.mem_of_getElem? (i := 430) (by decide +kernel), List.mem_of_getElem? (i := 431) (by decide +kernel)⟩
theorem lw_p12 : lw_okq (⟨"SwornLane$Game", "winningFrom", "([II)I"⟩, 1) := ⟨⟨by decide +kernel, by decide +kernel⟩, List.mem_of_getElem? (i := 172) (by decide +kernel), List.mem_of_getElem? (i := 533) (by decide +kernel), List.mem_of_getElem? (i := 534) (by decide +kernel)⟩
theorem lw_p13 : lw_okq (⟨"SwornLane$Game", "winningStep", "([III)I"⟩, 1) := ⟨⟨by decide +kernel, by decide +kernel⟩, List.mem_of_getElem? (i := 172) (by decide +kernel), List.mem_of_getElem? (i := 538) (by decide +kernel), List.mem_of_getElem? (i := 539) (by decide +kernel)⟩
theorem lw_p14 : lw_okq (⟨"SwornLane$Chance", "apart", "(II)J"⟩, 1) := ⟨⟨by decide +kernel, by decide +kernel⟩, List.mem_of_getElem? (i := 182) (by decide +kernel), List.mem_of_getElem? (i := 558) (by decide +kernel), List.mem_of_getElem? (i := 559) (by decide +kernel)⟩
theorem lw_p15 : lw_okq (⟨"SwornLane", "liveYear", "(II)V"⟩, 6) := ⟨⟨by decide +kernel, by decide +kernel⟩, List.mem_of_getElem? (i := 15) (by decide +kernel), List.mem_of_getElem? (i := 575) (by decide +kernel), List.mem_of_getElem? (i := 576) (by decide +kernel)⟩
def lw_privs_1 : List (MethodName × Nat) := [(⟨"SwornLane$Pad", "take", "(CI)I"⟩, 6), (⟨"SwornLane$Pad", "signHere", "()I"⟩, 6), (⟨"SwornLane$Pad", "readDeed", "()Z"⟩, 6), (⟨"SwornLane$Pad", "readLone", "(I)Z"⟩, 6), (⟨"SwornLane$Pad", "readPair", "(ICI)Z"⟩, 6), (⟨"SwornLane", "playSession", "()I"⟩, 6), (⟨"SwornLane$Country", "whyNoWay", "(IIZ)I"⟩, 7), (⟨"SwornLane$Country", "whyNotOver", "(I)I"⟩, 7), (⟨"SwornLane$Country", "whyNotThere", "(III)I"⟩, 7), (⟨"SwornLane$Country", "passHour", "()V"⟩, 7), (⟨"SwornLane$Trial", "noteSitters", "(I)V"⟩, 6), (⟨"SwornLane$Country", "neighboursOf", "(I)I"⟩, 7), (⟨"SwornLane$Game", "winningFrom", "([II)I"⟩, 1), (⟨"SwornLane$Game", "winningStep", "([III)I"⟩, 1), (⟨"SwornLane$Chance", "apart", "(II)J"⟩, 1), (⟨"SwornLane", "liveYear", "(II)V"⟩, 6)]
theorem lw_r1 : ∀ q ∈ lw_privs_1, lw_okq q := List.forall_mem_cons.mpr ⟨lw_p0, List.forall_mem_cons.mpr ⟨lw_p1, List.forall_mem_cons.mpr ⟨lw_p2, List.forall_mem_cons.mpr ⟨lw_p3, List.forall_mem_cons.mpr ⟨lw_p4, List.forall_mem_cons.mpr ⟨lw_p5, List.forall_mem_cons.mpr ⟨lw_p6, List.forall_mem_cons.mpr ⟨lw_p7, List.forall_mem_cons.mpr ⟨lw_p8, List.forall_mem_cons.mpr ⟨lw_p9, List.forall_mem_cons.mpr ⟨lw_p10, List.forall_mem_cons.mpr ⟨lw_p11, List.forall_mem_cons.mpr ⟨lw_p12, List.forall_mem_cons.mpr ⟨lw_p13, List.forall_mem_cons.mpr ⟨lw_p14, List.forall_mem_cons.mpr ⟨lw_p15, fun _ h => absurd h List.not_mem_nil⟩⟩⟩⟩⟩⟩⟩⟩⟩⟩⟩⟩⟩⟩⟩⟩
theorem lw_p16 : lw_okq (⟨"SwornLane", "attemptDrawn", "(II)V"⟩, 6) := ⟨⟨by decide +kernel, by decide +kernel⟩, List.mem_of_getElem? (i := 15) (by decide +kernel), List.mem_of_getElem? (i := 580) (by decide +kernel), List.mem_of_getElem? (i := 581) (by decide +kernel)⟩
theorem lw_p17 : lw_okq (⟨"SwornLane", "tellOfAll", "(I)I"⟩, 6) := ⟨⟨by decide +kernel, by decide +kernel⟩, List.mem_of_getElem? (i := 15) (by decide +kernel), List.mem_of_getElem? (i := 611) (by decide +kernel), List.mem_of_getElem? (i := 612) (by decide +kernel)⟩
theorem lw_p18 : lw_okq (⟨"SwornLane", "tellOfPerson", "(II)I"⟩, 6) := ⟨⟨by decide +kernel, by decide +kernel⟩, List.mem_of_getElem? (i := 15) (by decide +kernel), List.mem_of_getElem? (i := 615) (by decide +kernel), List.mem_of_getElem? (i := 616) (by decide +kernel)⟩
theorem lw_p19 : lw_okq (⟨"SwornLane", "tellOfThing", "(II)I"⟩, 6) := ⟨⟨by decide +kernel, by decide +kernel⟩, List.mem_of_getElem? (i := 15) (by decide +kernel), List.mem_of_getElem? (i := 619) (by decide +kernel), List.mem_of_getElem? (i := 620) (by decide +kernel)⟩
theorem lw_p20 : lw_okq (⟨"SwornLaneModel", "layWay", "(IIZ)V"⟩, 37) := ⟨⟨by decide +kernel, by decide +kernel⟩, List.mem_of_getElem? (i := 623) (by decide +kernel), List.mem_of_getElem? (i := 753) (by decide +kernel), List.mem_of_getElem? (i := 754) (by decide +kernel)⟩
theorem lw_p21 : lw_okq (⟨"SwornLaneModel", "waysAll", "()I"⟩, 37) := ⟨⟨by decide +kernel, by decide +kernel⟩, List.mem_of_getElem? (i := 623) (by decide +kernel), List.mem_of_getElem? (i := 757) (by decide +kernel), List.mem_of_getElem? (i := 758) (by decide +kernel)⟩
theorem lw_p22 : lw_okq (⟨"SwornLaneModel", "cornerOf", "(I)I"⟩, 37) := ⟨⟨by decide +kernel, by decide +kernel⟩, List.mem_of_getElem? (i := 623) (by decide +kernel), List.mem_of_getElem? (i := 772) (by decide +kernel), List.mem_of_getElem? (i := 773) (by decide +kernel)⟩
theorem lw_p23 : lw_okq (⟨"SwornLaneModel", "drop", "(I)V"⟩, 37) := ⟨⟨by decide +kernel, by decide +kernel⟩, List.mem_of_getElem? (i := 623) (by decide +kernel), List.mem_of_getElem? (i := 785) (by decide +kernel), List.mem_of_getElem? (i := 786) (by decide +kernel)⟩
theorem lw_p24 : lw_okq (⟨"SwornLaneModel", "carrierOf", "(I)I"⟩, 37) := ⟨⟨by decide +kernel, by decide +kernel⟩, List.mem_of_getElem? (i := 623) (by decide +kernel), List.mem_of_getElem? (i := 789) (by decide +kernel), List.mem_of_getElem? (i := 790) (by decide +kernel)⟩
theorem lw_p25 : lw_okq (⟨"SwornLaneModel", "readOn", "(II)I"⟩, 37) := ⟨⟨by decide +kernel, by decide +kernel⟩, List.mem_of_getElem? (i := 623) (by decide +kernel), List.mem_of_getElem? (i := 811) (by decide +kernel), List.mem_of_getElem? (i := 812) (by decide +kernel)⟩
theorem lw_p26 : lw_okq (⟨"SwornLaneModel", "begin", "(I)I"⟩, 37) := ⟨⟨by decide +kernel, by decide +kernel⟩, List.mem_of_getElem? (i := 623) (by decide +kernel), List.mem_of_getElem? (i := 819) (by decide +kernel), List.mem_of_getElem? (i := 820) (by decide +kernel)⟩
theorem lw_p27 : lw_okq (⟨"SwornLaneModel", "opens", "(II)I"⟩, 37) := ⟨⟨by decide +kernel, by decide +kernel⟩, List.mem_of_getElem? (i := 623) (by decide +kernel), List.mem_of_getElem? (i := 825) (by decide +kernel), List.mem_of_getElem? (i := 826) (by decide +kernel)⟩
theorem lw_p28 : lw_okq (⟨"SwornLaneModel", "ends", "(II)I"⟩, 37) := ⟨⟨by decide +kernel, by decide +kernel⟩, List.mem_of_getElem? (i := 623) (by decide +kernel), List.mem_of_getElem? (i := 829) (by decide +kernel), List.mem_of_getElem? (i := 830) (by decide +kernel)⟩
theorem lw_p29 : lw_okq (⟨"SwornLaneModel", "begun", "(II)I"⟩, 37) := ⟨⟨by decide +kernel, by decide +kernel⟩, List.mem_of_getElem? (i := 623) (by decide +kernel), List.mem_of_getElem? (i := 833) (by decide +kernel), List.mem_of_getElem? (i := 834) (by decide +kernel)⟩
theorem lw_p30 : lw_okq (⟨"SwornLaneModel", "deed", "(I)I"⟩, 37) := ⟨⟨by decide +kernel, by decide +kernel⟩, List.mem_of_getElem? (i := 623) (by decide +kernel), List.mem_of_getElem? (i := 837) (by decide +kernel), List.mem_of_getElem? (i := 838) (by decide +kernel)⟩
theorem lw_p31 : lw_okq (⟨"SwornLaneModel", "refusal", "()I"⟩, 37) := ⟨⟨by decide +kernel, by decide +kernel⟩, List.mem_of_getElem? (i := 623) (by decide +kernel), List.mem_of_getElem? (i := 846) (by decide +kernel), List.mem_of_getElem? (i := 847) (by decide +kernel)⟩
def lw_privs_2 : List (MethodName × Nat) := [(⟨"SwornLane", "attemptDrawn", "(II)V"⟩, 6), (⟨"SwornLane", "tellOfAll", "(I)I"⟩, 6), (⟨"SwornLane", "tellOfPerson", "(II)I"⟩, 6), (⟨"SwornLane", "tellOfThing", "(II)I"⟩, 6), (⟨"SwornLaneModel", "layWay", "(IIZ)V"⟩, 37), (⟨"SwornLaneModel", "waysAll", "()I"⟩, 37), (⟨"SwornLaneModel", "cornerOf", "(I)I"⟩, 37), (⟨"SwornLaneModel", "drop", "(I)V"⟩, 37), (⟨"SwornLaneModel", "carrierOf", "(I)I"⟩, 37), (⟨"SwornLaneModel", "readOn", "(II)I"⟩, 37), (⟨"SwornLaneModel", "begin", "(I)I"⟩, 37), (⟨"SwornLaneModel", "opens", "(II)I"⟩, 37), (⟨"SwornLaneModel", "ends", "(II)I"⟩, 37), (⟨"SwornLaneModel", "begun", "(II)I"⟩, 37), (⟨"SwornLaneModel", "deed", "(I)I"⟩, 37), (⟨"SwornLaneModel", "refusal", "()I"⟩, 37)]
theorem lw_r2 : ∀ q ∈ lw_privs_2, lw_okq q := List.forall_mem_cons.mpr ⟨lw_p16, List.forall_mem_cons.mpr ⟨lw_p17, List.forall_mem_cons.mpr ⟨lw_p18, List.forall_mem_cons.mpr ⟨lw_p19, List.forall_mem_cons.mpr ⟨lw_p20, List.forall_mem_cons.mpr ⟨lw_p21, List.forall_mem_cons.mpr ⟨lw_p22, List.forall_mem_cons.mpr ⟨lw_p23, List.forall_mem_cons.mpr ⟨lw_p24, List.forall_mem_cons.mpr ⟨lw_p25, List.forall_mem_cons.mpr ⟨lw_p26, List.forall_mem_cons.mpr ⟨lw_p27, List.forall_mem_cons.mpr ⟨lw_p28, List.forall_mem_cons.mpr ⟨lw_p29, List.forall_mem_cons.mpr ⟨lw_p30, List.forall_mem_cons.mpr ⟨lw_p31, fun _ h => absurd h List.not_mem_nil⟩⟩⟩⟩⟩⟩⟩⟩⟩⟩⟩⟩⟩⟩⟩⟩
theorem lw_p32 : lw_okq (⟨"SwornLaneModel", "carryAll", "(Z)V"⟩, 37) := ⟨⟨by decide +kernel, by decide +kernel⟩, List.mem_of_getElem? (i := 623) (by decide +kernel), List.mem_of_getElem? (i := 850) (by decide +kernel), List.mem_of_getElem? (i := 851) (by decide +kernel)⟩
theorem lw_p33 : lw_okq (⟨"SwornLaneModel", "carry", "(I)I"⟩, 37) := ⟨⟨by decide +kernel, by decide +kernel⟩, List.mem_of_getElem? (i := 623) (by decide +kernel), List.mem_of_getElem? (i := 854) (by decide +kernel), List.mem_of_getElem? (i := 855) (by decide +kernel)⟩
theorem lw_p34 : lw_okq (⟨"SwornLaneModel", "carryRow", "([II)V"⟩, 37) := ⟨⟨by decide +kernel, by decide +kernel⟩, List.mem_of_getElem? (i := 623) (by decide +kernel), List.mem_of_getElem? (i := 858) (by decide +kernel), List.mem_of_getElem? (i := 859) (by decide +kernel)⟩
theorem lw_p35 : lw_okq (⟨"SwornLaneModel", "goSessions", "()V"⟩, 37) := ⟨⟨by decide +kernel, by decide +kernel⟩, List.mem_of_getElem? (i := 623) (by decide +kernel), List.mem_of_getElem? (i := 863) (by decide +kernel), List.mem_of_getElem? (i := 864) (by decide +kernel)⟩
theorem lw_p36 : lw_okq (⟨"SwornLaneModel", "whyNot", "(III)I"⟩, 37) := ⟨⟨by decide +kernel, by decide +kernel⟩, List.mem_of_getElem? (i := 623) (by decide +kernel), List.mem_of_getElem? (i := 867) (by decide +kernel), List.mem_of_getElem? (i := 868) (by decide +kernel)⟩
theorem lw_p37 : lw_okq (⟨"SwornLaneModel", "whyNoWay", "(IIZ)I"⟩, 37) := ⟨⟨by decide +kernel, by decide +kernel⟩, List.mem_of_getElem? (i := 623) (by decide +kernel), List.mem_of_getElem? (i := 871) (by decide +kernel), List.mem_of_getElem? (i := 872) (by decide +kernel)⟩
theorem lw_p38 : lw_okq (⟨"SwornLaneModel", "whyNotDeed", "(III)I"⟩, 37) := ⟨⟨by decide +kernel, by decide +kernel⟩, List.mem_of_getElem? (i := 623) (by decide +kernel), List.mem_of_getElem? (i := 878) (by decide +kernel), List.mem_of_getElem? (i := 879) (by decide +kernel)⟩
theorem lw_p39 : lw_okq (⟨"SwornLaneModel", "whyNotBack", "(I)I"⟩, 37) := ⟨⟨by decide +kernel, by decide +kernel⟩, List.mem_of_getElem? (i := 623) (by decide +kernel), List.mem_of_getElem? (i := 882) (by decide +kernel), List.mem_of_getElem? (i := 883) (by decide +kernel)⟩
theorem lw_p40 : lw_okq (⟨"SwornLaneModel", "goOne", "(I)V"⟩, 37) := ⟨⟨by decide +kernel, by decide +kernel⟩, List.mem_of_getElem? (i := 623) (by decide +kernel), List.mem_of_getElem? (i := 886) (by decide +kernel), List.mem_of_getElem? (i := 887) (by decide +kernel)⟩
theorem lw_p41 : lw_okq (⟨"SwornLaneModel", "happen", "(III)V"⟩, 37) := ⟨⟨by decide +kernel, by decide +kernel⟩, List.mem_of_getElem? (i := 623) (by decide +kernel), List.mem_of_getElem? (i := 890) (by decide +kernel), List.mem_of_getElem? (i := 891) (by decide +kernel)⟩
theorem lw_p42 : lw_okq (⟨"SwornLaneModel", "passHour", "()V"⟩, 37) := ⟨⟨by decide +kernel, by decide +kernel⟩, List.mem_of_getElem? (i := 623) (by decide +kernel), List.mem_of_getElem? (i := 894) (by decide +kernel), List.mem_of_getElem? (i := 895) (by decide +kernel)⟩
theorem lw_p43 : lw_okq (⟨"SwornLaneModel", "fade", "(I)V"⟩, 37) := ⟨⟨by decide +kernel, by decide +kernel⟩, List.mem_of_getElem? (i := 623) (by decide +kernel), List.mem_of_getElem? (i := 898) (by decide +kernel), List.mem_of_getElem? (i := 899) (by decide +kernel)⟩
theorem lw_p44 : lw_okq (⟨"SwornLaneModel", "sit", "(I)V"⟩, 37) := ⟨⟨by decide +kernel, by decide +kernel⟩, List.mem_of_getElem? (i := 623) (by decide +kernel), List.mem_of_getElem? (i := 902) (by decide +kernel), List.mem_of_getElem? (i := 903) (by decide +kernel)⟩
theorem lw_p45 : lw_okq (⟨"SwornLaneModel", "happenToOne", "(III)V"⟩, 37) := ⟨⟨by decide +kernel, by decide +kernel⟩, List.mem_of_getElem? (i := 623) (by decide +kernel), List.mem_of_getElem? (i := 906) (by decide +kernel), List.mem_of_getElem? (i := 907) (by decide +kernel)⟩
theorem lw_p46 : lw_okq (⟨"SwornLaneModel", "comeBack", "(I)V"⟩, 37) := ⟨⟨by decide +kernel, by decide +kernel⟩, List.mem_of_getElem? (i := 623) (by decide +kernel), List.mem_of_getElem? (i := 910) (by decide +kernel), List.mem_of_getElem? (i := 911) (by decide +kernel)⟩
theorem lw_p47 : lw_okq (⟨"SwornLaneModel", "back", "(I)I"⟩, 37) := ⟨⟨by decide +kernel, by decide +kernel⟩, List.mem_of_getElem? (i := 623) (by decide +kernel), List.mem_of_getElem? (i := 914) (by decide +kernel), List.mem_of_getElem? (i := 915) (by decide +kernel)⟩
def lw_privs_3 : List (MethodName × Nat) := [(⟨"SwornLaneModel", "carryAll", "(Z)V"⟩, 37), (⟨"SwornLaneModel", "carry", "(I)I"⟩, 37), (⟨"SwornLaneModel", "carryRow", "([II)V"⟩, 37), (⟨"SwornLaneModel", "goSessions", "()V"⟩, 37), (⟨"SwornLaneModel", "whyNot", "(III)I"⟩, 37), (⟨"SwornLaneModel", "whyNoWay", "(IIZ)I"⟩, 37), (⟨"SwornLaneModel", "whyNotDeed", "(III)I"⟩, 37), (⟨"SwornLaneModel", "whyNotBack", "(I)I"⟩, 37), (⟨"SwornLaneModel", "goOne", "(I)V"⟩, 37), (⟨"SwornLaneModel", "happen", "(III)V"⟩, 37), (⟨"SwornLaneModel", "passHour", "()V"⟩, 37), (⟨"SwornLaneModel", "fade", "(I)V"⟩, 37), (⟨"SwornLaneModel", "sit", "(I)V"⟩, 37), (⟨"SwornLaneModel", "happenToOne", "(III)V"⟩, 37), (⟨"SwornLaneModel", "comeBack", "(I)V"⟩, 37), (⟨"SwornLaneModel", "back", "(I)I"⟩, 37)]
theorem lw_r3 : ∀ q ∈ lw_privs_3, lw_okq q := List.forall_mem_cons.mpr ⟨lw_p32, List.forall_mem_cons.mpr ⟨lw_p33, List.forall_mem_cons.mpr ⟨lw_p34, List.forall_mem_cons.mpr ⟨lw_p35, List.forall_mem_cons.mpr ⟨lw_p36, List.forall_mem_cons.mpr ⟨lw_p37, List.forall_mem_cons.mpr ⟨lw_p38, List.forall_mem_cons.mpr ⟨lw_p39, List.forall_mem_cons.mpr ⟨lw_p40, List.forall_mem_cons.mpr ⟨lw_p41, List.forall_mem_cons.mpr ⟨lw_p42, List.forall_mem_cons.mpr ⟨lw_p43, List.forall_mem_cons.mpr ⟨lw_p44, List.forall_mem_cons.mpr ⟨lw_p45, List.forall_mem_cons.mpr ⟨lw_p46, List.forall_mem_cons.mpr ⟨lw_p47, fun _ h => absurd h List.not_mem_nil⟩⟩⟩⟩⟩⟩⟩⟩⟩⟩⟩⟩⟩⟩⟩⟩
theorem lw_p48 : lw_okq (⟨"SwornLaneModel", "ofPerson", "(II)I"⟩, 37) := ⟨⟨by decide +kernel, by decide +kernel⟩, List.mem_of_getElem? (i := 623) (by decide +kernel), List.mem_of_getElem? (i := 923) (by decide +kernel), List.mem_of_getElem? (i := 924) (by decide +kernel)⟩
theorem lw_p49 : lw_okq (⟨"SwornLaneModel", "carriedBy", "(I)I"⟩, 37) := ⟨⟨by decide +kernel, by decide +kernel⟩, List.mem_of_getElem? (i := 623) (by decide +kernel), List.mem_of_getElem? (i := 927) (by decide +kernel), List.mem_of_getElem? (i := 928) (by decide +kernel)⟩
theorem lw_p50 : lw_okq (⟨"SwornLaneModel", "ofAll", "(I)I"⟩, 37) := ⟨⟨by decide +kernel, by decide +kernel⟩, List.mem_of_getElem? (i := 623) (by decide +kernel), List.mem_of_getElem? (i := 940) (by decide +kernel), List.mem_of_getElem? (i := 941) (by decide +kernel)⟩
theorem lw_p51 : lw_okq (⟨"SwornLaneModel", "whoIsThere", "()I"⟩, 37) := ⟨⟨by decide +kernel, by decide +kernel⟩, List.mem_of_getElem? (i := 623) (by decide +kernel), List.mem_of_getElem? (i := 944) (by decide +kernel), List.mem_of_getElem? (i := 945) (by decide +kernel)⟩
theorem lw_p52 : lw_okq (⟨"SwornLaneModel", "whoSits", "()I"⟩, 37) := ⟨⟨by decide +kernel, by decide +kernel⟩, List.mem_of_getElem? (i := 623) (by decide +kernel), List.mem_of_getElem? (i := 948) (by decide +kernel), List.mem_of_getElem? (i := 949) (by decide +kernel)⟩
theorem lw_p53 : lw_okq (⟨"SwornLaneModel", "besideAll", "(I)I"⟩, 37) := ⟨⟨by decide +kernel, by decide +kernel⟩, List.mem_of_getElem? (i := 623) (by decide +kernel), List.mem_of_getElem? (i := 964) (by decide +kernel), List.mem_of_getElem? (i := 965) (by decide +kernel)⟩
theorem lw_p54 : lw_okq (⟨"SwornLaneModel", "waysOut", "(I)I"⟩, 37) := ⟨⟨by decide +kernel, by decide +kernel⟩, List.mem_of_getElem? (i := 623) (by decide +kernel), List.mem_of_getElem? (i := 972) (by decide +kernel), List.mem_of_getElem? (i := 973) (by decide +kernel)⟩
theorem lw_p55 : lw_okq (⟨"SwornLaneModel", "closedOf", "(I)I"⟩, 37) := ⟨⟨by decide +kernel, by decide +kernel⟩, List.mem_of_getElem? (i := 623) (by decide +kernel), List.mem_of_getElem? (i := 989) (by decide +kernel), List.mem_of_getElem? (i := 990) (by decide +kernel)⟩
theorem lw_p56 : lw_okq (⟨"SwornLaneModel", "onceMore", "(I)I"⟩, 37) := ⟨⟨by decide +kernel, by decide +kernel⟩, List.mem_of_getElem? (i := 623) (by decide +kernel), List.mem_of_getElem? (i := 993) (by decide +kernel), List.mem_of_getElem? (i := 994) (by decide +kernel)⟩
theorem lw_p57 : lw_okq (⟨"SwornLaneModel", "isFit", "(I)Z"⟩, 37) := ⟨⟨by decide +kernel, by decide +kernel⟩, List.mem_of_getElem? (i := 623) (by decide +kernel), List.mem_of_getElem? (i := 1016) (by decide +kernel), List.mem_of_getElem? (i := 1017) (by decide +kernel)⟩
theorem lw_p58 : lw_okq (⟨"SwornLaneModel", "mostLeft", "(III)I"⟩, 37) := ⟨⟨by decide +kernel, by decide +kernel⟩, List.mem_of_getElem? (i := 623) (by decide +kernel), List.mem_of_getElem? (i := 1027) (by decide +kernel), List.mem_of_getElem? (i := 1028) (by decide +kernel)⟩
theorem lw_p59 : lw_okq (⟨"SwornLaneModel", "leastGo", "(II)I"⟩, 37) := ⟨⟨by decide +kernel, by decide +kernel⟩, List.mem_of_getElem? (i := 623) (by decide +kernel), List.mem_of_getElem? (i := 1035) (by decide +kernel), List.mem_of_getElem? (i := 1036) (by decide +kernel)⟩
theorem lw_p60 : lw_okq (⟨"SwornLaneModel", "layNet", "(II)V"⟩, 37) := ⟨⟨by decide +kernel, by decide +kernel⟩, List.mem_of_getElem? (i := 623) (by decide +kernel), List.mem_of_getElem? (i := 1048) (by decide +kernel), List.mem_of_getElem? (i := 1049) (by decide +kernel)⟩
theorem lw_p61 : lw_okq (⟨"SwornLaneModel", "hangs", "(I)Z"⟩, 37) := ⟨⟨by decide +kernel, by decide +kernel⟩, List.mem_of_getElem? (i := 623) (by decide +kernel), List.mem_of_getElem? (i := 1052) (by decide +kernel), List.mem_of_getElem? (i := 1053) (by decide +kernel)⟩
theorem lw_p62 : lw_okq (⟨"SwornLaneModel", "drawn", "(II)V"⟩, 37) := ⟨⟨by decide +kernel, by decide +kernel⟩, List.mem_of_getElem? (i := 623) (by decide +kernel), List.mem_of_getElem? (i := 1068) (by decide +kernel), List.mem_of_getElem? (i := 1069) (by decide +kernel)⟩
theorem lw_p63 : lw_okq (⟨"SwornLaneModel", "passAll", "()V"⟩, 37) := ⟨⟨by decide +kernel, by decide +kernel⟩, List.mem_of_getElem? (i := 623) (by decide +kernel), List.mem_of_getElem? (i := 1079) (by decide +kernel), List.mem_of_getElem? (i := 1080) (by decide +kernel)⟩
def lw_privs_4 : List (MethodName × Nat) := [(⟨"SwornLaneModel", "ofPerson", "(II)I"⟩, 37), (⟨"SwornLaneModel", "carriedBy", "(I)I"⟩, 37), (⟨"SwornLaneModel", "ofAll", "(I)I"⟩, 37), (⟨"SwornLaneModel", "whoIsThere", "()I"⟩, 37), (⟨"SwornLaneModel", "whoSits", "()I"⟩, 37), (⟨"SwornLaneModel", "besideAll", "(I)I"⟩, 37), (⟨"SwornLaneModel", "waysOut", "(I)I"⟩, 37), (⟨"SwornLaneModel", "closedOf", "(I)I"⟩, 37), (⟨"SwornLaneModel", "onceMore", "(I)I"⟩, 37), (⟨"SwornLaneModel", "isFit", "(I)Z"⟩, 37), (⟨"SwornLaneModel", "mostLeft", "(III)I"⟩, 37), (⟨"SwornLaneModel", "leastGo", "(II)I"⟩, 37), (⟨"SwornLaneModel", "layNet", "(II)V"⟩, 37), (⟨"SwornLaneModel", "hangs", "(I)Z"⟩, 37), (⟨"SwornLaneModel", "drawn", "(II)V"⟩, 37), (⟨"SwornLaneModel", "passAll", "()V"⟩, 37)]
theorem lw_r4 : ∀ q ∈ lw_privs_4, lw_okq q := List.forall_mem_cons.mpr ⟨lw_p48, List.forall_mem_cons.mpr ⟨lw_p49, List.forall_mem_cons.mpr ⟨lw_p50, List.forall_mem_cons.mpr ⟨lw_p51, List.forall_mem_cons.mpr ⟨lw_p52, List.forall_mem_cons.mpr ⟨lw_p53, List.forall_mem_cons.mpr ⟨lw_p54, List.forall_mem_cons.mpr ⟨lw_p55, List.forall_mem_cons.mpr ⟨lw_p56, List.forall_mem_cons.mpr ⟨lw_p57, List.forall_mem_cons.mpr ⟨lw_p58, List.forall_mem_cons.mpr ⟨lw_p59, List.forall_mem_cons.mpr ⟨lw_p60, List.forall_mem_cons.mpr ⟨lw_p61, List.forall_mem_cons.mpr ⟨lw_p62, List.forall_mem_cons.mpr ⟨lw_p63, fun _ h => absurd h List.not_mem_nil⟩⟩⟩⟩⟩⟩⟩⟩⟩⟩⟩⟩⟩⟩⟩⟩
theorem lw_p64 : lw_okq (⟨"SwornLaneModel", "pass", "(I)I"⟩, 37) := ⟨⟨by decide +kernel, by decide +kernel⟩, List.mem_of_getElem? (i := 623) (by decide +kernel), List.mem_of_getElem? (i := 1083) (by decide +kernel), List.mem_of_getElem? (i := 1084) (by decide +kernel)⟩
theorem lw_p65 : lw_okq (⟨"SwornLaneModel", "passRow", "([II)V"⟩, 37) := ⟨⟨by decide +kernel, by decide +kernel⟩, List.mem_of_getElem? (i := 623) (by decide +kernel), List.mem_of_getElem? (i := 1087) (by decide +kernel), List.mem_of_getElem? (i := 1088) (by decide +kernel)⟩
theorem lw_p66 : lw_okq (⟨"SwornLaneModel", "toldOfPerson", "(I)I"⟩, 37) := ⟨⟨by decide +kernel, by decide +kernel⟩, List.mem_of_getElem? (i := 623) (by decide +kernel), List.mem_of_getElem? (i := 1100) (by decide +kernel), List.mem_of_getElem? (i := 1101) (by decide +kernel)⟩
theorem lw_p67 : lw_okq (⟨"SwornLaneModel", "toldOfOther", "(I)I"⟩, 37) := ⟨⟨by decide +kernel, by decide +kernel⟩, List.mem_of_getElem? (i := 623) (by decide +kernel), List.mem_of_getElem? (i := 1106) (by decide +kernel), List.mem_of_getElem? (i := 1107) (by decide +kernel)⟩
theorem lw_p68 : lw_okq (⟨"SwornLaneModel", "toldOfAll", "(I)I"⟩, 37) := ⟨⟨by decide +kernel, by decide +kernel⟩, List.mem_of_getElem? (i := 623) (by decide +kernel), List.mem_of_getElem? (i := 1110) (by decide +kernel), List.mem_of_getElem? (i := 1111) (by decide +kernel)⟩
def lw_privs_5 : List (MethodName × Nat) := [(⟨"SwornLaneModel", "pass", "(I)I"⟩, 37), (⟨"SwornLaneModel", "passRow", "([II)V"⟩, 37), (⟨"SwornLaneModel", "toldOfPerson", "(I)I"⟩, 37), (⟨"SwornLaneModel", "toldOfOther", "(I)I"⟩, 37), (⟨"SwornLaneModel", "toldOfAll", "(I)I"⟩, 37)]
theorem lw_r5 : ∀ q ∈ lw_privs_5, lw_okq q := List.forall_mem_cons.mpr ⟨lw_p64, List.forall_mem_cons.mpr ⟨lw_p65, List.forall_mem_cons.mpr ⟨lw_p66, List.forall_mem_cons.mpr ⟨lw_p67, List.forall_mem_cons.mpr ⟨lw_p68, fun _ h => absurd h List.not_mem_nil⟩⟩⟩⟩⟩
def lw_privs : List (MethodName × Nat) := lw_privs_1 ++ (lw_privs_2 ++ (lw_privs_3 ++ (lw_privs_4 ++ (lw_privs_5))))
def lw_tbl : List Cond := k2_sels lw_privs ++ tables_1
theorem lw_privs_ok : ∀ q ∈ lw_privs, lw_okq q := by
  show ∀ q ∈ lw_privs_1 ++ (lw_privs_2 ++ (lw_privs_3 ++ (lw_privs_4 ++ (lw_privs_5)))), lw_okq q
  exact List.forall_mem_append.mpr ⟨lw_r1, List.forall_mem_append.mpr ⟨lw_r2, List.forall_mem_append.mpr ⟨lw_r3, List.forall_mem_append.mpr ⟨lw_r4, lw_r5⟩⟩⟩⟩
def RX0 : String := "SwornLane$Chance"
def TX0 : u_T := fun k => match k with
  | _ => ("SwornLane$Chance", "together", "[J", true)
def tyX0 : Nat → FieldType := fun k => match k with
  | _ => .array .long
abbrev wsX00 : List Cond := u_ws RX0 TX0 1
theorem nmX0 : ∀ a, a < 1 → ∀ b, b < 1 → a ≠ b → (TX0 a).2.1 ≠ (TX0 b).2.1 := by decide +kernel
theorem tyX0_ok : ∀ k, k < 1 → parseFieldDescriptor (TX0 k).2.2.1 = some (tyX0 k) := by decide +kernel
abbrev cX0_init : ByteArray := prog_2_method_1_code
def yX0_init : MethodName := ⟨RX0, "<init>", "()V"⟩
abbrev cX0_hangingTogether : ByteArray := prog_2_method_2_code
def yX0_hangingTogether : MethodName := ⟨RX0, "hangingTogether", "(II)J"⟩
abbrev cX0_apart : ByteArray := prog_2_method_3_code
def yX0_apart : MethodName := ⟨RX0, "apart", "(II)J"⟩
def RX1 : String := "SwornLane$Country"
def TX1 : u_T := fun k => match k with
  | 0 => ("SwornLane$Country", "ways", "[I", true)
  | 1 => ("SwornLane$Country", "thingAt", "[I", true)
  | 2 => ("SwornLane$Country", "personAt", "[I", true)
  | 3 => ("SwornLane$Country", "faint", "[I", true)
  | 4 => ("SwornLane$Country", "sitting", "I", false)
  | 5 => ("SwornLane$Country", "poleUp", "Z", false)
  | _ => ("SwornLane$Country", "hour", "I", false)
def tyX1 : Nat → FieldType := fun k => match k with
  | 0 => .array .int
  | 1 => .array .int
  | 2 => .array .int
  | 3 => .array .int
  | 4 => .int
  | 5 => .boolean
  | _ => .int
abbrev wsX10 : List Cond := u_ws RX1 TX1 7
theorem nmX1 : ∀ a, a < 7 → ∀ b, b < 7 → a ≠ b → (TX1 a).2.1 ≠ (TX1 b).2.1 := by decide +kernel
theorem tyX1_ok : ∀ k, k < 7 → parseFieldDescriptor (TX1 k).2.2.1 = some (tyX1 k) := by decide +kernel
abbrev cX1_init : ByteArray := prog_3_method_1_code
def yX1_init : MethodName := ⟨RX1, "<init>", "()V"⟩
abbrev cX1_copyFrom : ByteArray := prog_3_method_2_code
def yX1_copyFrom : MethodName := ⟨RX1, "copyFrom", "(LSwornLane$Country;)V"⟩
abbrev cX1_countWays : ByteArray := prog_3_method_3_code
def yX1_countWays : MethodName := ⟨RX1, "countWays", "()I"⟩
abbrev cX1_setWay : ByteArray := prog_3_method_4_code
def yX1_setWay : MethodName := ⟨RX1, "setWay", "(IIZ)V"⟩
abbrev cX1_cornerOfThing : ByteArray := prog_3_method_5_code
def yX1_cornerOfThing : MethodName := ⟨RX1, "cornerOfThing", "(I)I"⟩
abbrev cX1_holderOfThing : ByteArray := prog_3_method_6_code
def yX1_holderOfThing : MethodName := ⟨RX1, "holderOfThing", "(I)I"⟩
abbrev cX1_carriedBy : ByteArray := prog_3_method_7_code
def yX1_carriedBy : MethodName := ⟨RX1, "carriedBy", "(I)I"⟩
abbrev cX1_cornerOfPerson : ByteArray := prog_3_method_8_code
def yX1_cornerOfPerson : MethodName := ⟨RX1, "cornerOfPerson", "(I)I"⟩
abbrev cX1_sitsAsNumber : ByteArray := prog_3_method_9_code
def yX1_sitsAsNumber : MethodName := ⟨RX1, "sitsAsNumber", "(I)I"⟩
abbrev cX1_poleAsNumber : ByteArray := prog_3_method_10_code
def yX1_poleAsNumber : MethodName := ⟨RX1, "poleAsNumber", "()I"⟩
abbrev cX1_whoIsThere : ByteArray := prog_3_method_11_code
def yX1_whoIsThere : MethodName := ⟨RX1, "whoIsThere", "()I"⟩
abbrev cX1_put : ByteArray := prog_3_method_12_code
def yX1_put : MethodName := ⟨RX1, "put", "(III)V"⟩
abbrev cX1_whyNot : ByteArray := prog_3_method_13_code
def yX1_whyNot : MethodName := ⟨RX1, "whyNot", "(III)I"⟩
abbrev cX1_whyNoWay : ByteArray := prog_3_method_14_code
def yX1_whyNoWay : MethodName := ⟨RX1, "whyNoWay", "(IIZ)I"⟩
abbrev cX1_whyNotOver : ByteArray := prog_3_method_15_code
def yX1_whyNotOver : MethodName := ⟨RX1, "whyNotOver", "(I)I"⟩
abbrev cX1_whyNotThere : ByteArray := prog_3_method_16_code
def yX1_whyNotThere : MethodName := ⟨RX1, "whyNotThere", "(III)I"⟩
abbrev cX1_perform : ByteArray := prog_3_method_17_code
def yX1_perform : MethodName := ⟨RX1, "perform", "(III)V"⟩
abbrev cX1_passHour : ByteArray := prog_3_method_18_code
def yX1_passHour : MethodName := ⟨RX1, "passHour", "()V"⟩
abbrev cX1_fewestWays : ByteArray := prog_3_method_19_code
def yX1_fewestWays : MethodName := ⟨RX1, "fewestWays", "(II)I"⟩
abbrev cX1_neighboursOf : ByteArray := prog_3_method_20_code
def yX1_neighboursOf : MethodName := ⟨RX1, "neighboursOf", "(I)I"⟩
abbrev cX1_waysOutOf : ByteArray := prog_3_method_21_code
def yX1_waysOutOf : MethodName := ⟨RX1, "waysOutOf", "(I)I"⟩
abbrev cX1_leastCut : ByteArray := prog_3_method_22_code
def yX1_leastCut : MethodName := ⟨RX1, "leastCut", "(II)I"⟩
def RX2 : String := "SwornLane$Game"
def TX2 : u_T := fun k => match k with
  | _ => ("SwornLane$Game", "winning", "[I", true)
def tyX2 : Nat → FieldType := fun k => match k with
  | _ => .array .int
abbrev wsX20 : List Cond := u_ws RX2 TX2 1
theorem nmX2 : ∀ a, a < 1 → ∀ b, b < 1 → a ≠ b → (TX2 a).2.1 ≠ (TX2 b).2.1 := by decide +kernel
theorem tyX2_ok : ∀ k, k < 1 → parseFieldDescriptor (TX2 k).2.2.1 = some (tyX2 k) := by decide +kernel
abbrev cX2_init : ByteArray := prog_4_method_1_code
def yX2_init : MethodName := ⟨RX2, "<init>", "()V"⟩
abbrev cX2_firstStep : ByteArray := prog_4_method_2_code
def yX2_firstStep : MethodName := ⟨RX2, "firstStep", "([II)I"⟩
abbrev cX2_winningFrom : ByteArray := prog_4_method_3_code
def yX2_winningFrom : MethodName := ⟨RX2, "winningFrom", "([II)I"⟩
abbrev cX2_winningStep : ByteArray := prog_4_method_4_code
def yX2_winningStep : MethodName := ⟨RX2, "winningStep", "([III)I"⟩
def RX3 : String := "SwornLane$Pad"
def TX3 : u_T := fun k => match k with
  | 0 => ("SwornLane$Pad", "signs", "[I", true)
  | 1 => ("SwornLane$Pad", "count", "I", false)
  | 2 => ("SwornLane$Pad", "place", "I", false)
  | 3 => ("SwornLane$Pad", "kind", "I", false)
  | 4 => ("SwornLane$Pad", "one", "I", false)
  | _ => ("SwornLane$Pad", "other", "I", false)
def tyX3 : Nat → FieldType := fun k => match k with
  | 0 => .array .int
  | 1 => .int
  | 2 => .int
  | 3 => .int
  | 4 => .int
  | _ => .int
abbrev wsX30 : List Cond := u_ws RX3 TX3 6
theorem nmX3 : ∀ a, a < 6 → ∀ b, b < 6 → a ≠ b → (TX3 a).2.1 ≠ (TX3 b).2.1 := by decide +kernel
theorem tyX3_ok : ∀ k, k < 6 → parseFieldDescriptor (TX3 k).2.2.1 = some (tyX3 k) := by decide +kernel
abbrev cX3_init : ByteArray := prog_5_method_1_code
def yX3_init : MethodName := ⟨RX3, "<init>", "()V"⟩
abbrev cX3_add : ByteArray := prog_5_method_2_code
def yX3_add : MethodName := ⟨RX3, "add", "(I)Z"⟩
abbrev cX3_rewind : ByteArray := prog_5_method_3_code
def yX3_rewind : MethodName := ⟨RX3, "rewind", "()V"⟩
abbrev cX3_findFault : ByteArray := prog_5_method_4_code
def yX3_findFault : MethodName := ⟨RX3, "findFault", "()I"⟩
abbrev cX3_readAct : ByteArray := prog_5_method_5_code
def yX3_readAct : MethodName := ⟨RX3, "readAct", "()Z"⟩
abbrev cX3_readDeed : ByteArray := prog_5_method_6_code
def yX3_readDeed : MethodName := ⟨RX3, "readDeed", "()Z"⟩
abbrev cX3_readLone : ByteArray := prog_5_method_7_code
def yX3_readLone : MethodName := ⟨RX3, "readLone", "(I)Z"⟩
abbrev cX3_readPair : ByteArray := prog_5_method_8_code
def yX3_readPair : MethodName := ⟨RX3, "readPair", "(ICI)Z"⟩
abbrev cX3_signHere : ByteArray := prog_5_method_9_code
def yX3_signHere : MethodName := ⟨RX3, "signHere", "()I"⟩
abbrev cX3_take : ByteArray := prog_5_method_10_code
def yX3_take : MethodName := ⟨RX3, "take", "(CI)I"⟩
def RX4 : String := "SwornLane$Rules"
def TX4 : u_T := fun k => match k with
  | 0 => ("SwornLane$Rules", "grounds", "[I", true)
  | 1 => ("SwornLane$Rules", "claims", "[I", true)
  | _ => ("SwornLane$Rules", "count", "I", false)
def tyX4 : Nat → FieldType := fun k => match k with
  | 0 => .array .int
  | 1 => .array .int
  | _ => .int
abbrev wsX40 : List Cond := u_ws RX4 TX4 3
theorem nmX4 : ∀ a, a < 3 → ∀ b, b < 3 → a ≠ b → (TX4 a).2.1 ≠ (TX4 b).2.1 := by decide +kernel
theorem tyX4_ok : ∀ k, k < 3 → parseFieldDescriptor (TX4 k).2.2.1 = some (tyX4 k) := by decide +kernel
abbrev cX4_init : ByteArray := prog_6_method_1_code
def yX4_init : MethodName := ⟨RX4, "<init>", "()V"⟩
abbrev cX4_copyFrom : ByteArray := prog_6_method_2_code
def yX4_copyFrom : MethodName := ⟨RX4, "copyFrom", "(LSwornLane$Rules;)V"⟩
abbrev cX4_add : ByteArray := prog_6_method_3_code
def yX4_add : MethodName := ⟨RX4, "add", "(III)Z"⟩
abbrev cX4_closure : ByteArray := prog_6_method_4_code
def yX4_closure : MethodName := ⟨RX4, "closure", "(I)I"⟩
abbrev cX4_leastGrounds : ByteArray := prog_6_method_5_code
def yX4_leastGrounds : MethodName := ⟨RX4, "leastGrounds", "(I)I"⟩
def RX5 : String := "SwornLane$Sights"
def TX5 : u_T := fun k => match k with
  | 0 => ("SwornLane$Sights", "sets", "[I", true)
  | _ => ("SwornLane$Sights", "count", "I", false)
def tyX5 : Nat → FieldType := fun k => match k with
  | 0 => .array .int
  | _ => .int
abbrev wsX50 : List Cond := u_ws RX5 TX5 2
theorem nmX5 : ∀ a, a < 2 → ∀ b, b < 2 → a ≠ b → (TX5 a).2.1 ≠ (TX5 b).2.1 := by decide +kernel
theorem tyX5_ok : ∀ k, k < 2 → parseFieldDescriptor (TX5 k).2.2.1 = some (tyX5 k) := by decide +kernel
abbrev cX5_init : ByteArray := prog_7_method_1_code
def yX5_init : MethodName := ⟨RX5, "<init>", "()V"⟩
abbrev cX5_copyFrom : ByteArray := prog_7_method_2_code
def yX5_copyFrom : MethodName := ⟨RX5, "copyFrom", "(LSwornLane$Sights;)V"⟩
abbrev cX5_add : ByteArray := prog_7_method_3_code
def yX5_add : MethodName := ⟨RX5, "add", "(I)Z"⟩
abbrev cX5_fitting : ByteArray := prog_7_method_4_code
def yX5_fitting : MethodName := ⟨RX5, "fitting", "()I"⟩
def RX6 : String := "SwornLane$Trial"
def TX6 : u_T := fun k => match k with
  | 0 => ("SwornLane$Trial", "country", "LSwornLane$Country;", true)
  | 1 => ("SwornLane$Trial", "acts", "I", false)
  | 2 => ("SwornLane$Trial", "why", "I", false)
  | 3 => ("SwornLane$Trial", "sat", "I", false)
  | 4 => ("SwornLane$Trial", "firstAct", "I", false)
  | _ => ("SwornLane$Trial", "firstWho", "I", false)
def tyX6 : Nat → FieldType := fun k => match k with
  | 0 => .object "SwornLane$Country"
  | 1 => .int
  | 2 => .int
  | 3 => .int
  | 4 => .int
  | _ => .int
abbrev wsX60 : List Cond := u_ws RX6 TX6 6
theorem nmX6 : ∀ a, a < 6 → ∀ b, b < 6 → a ≠ b → (TX6 a).2.1 ≠ (TX6 b).2.1 := by decide +kernel
theorem tyX6_ok : ∀ k, k < 6 → parseFieldDescriptor (TX6 k).2.2.1 = some (tyX6 k) := by decide +kernel
abbrev cX6_init : ByteArray := prog_8_method_1_code
def yX6_init : MethodName := ⟨RX6, "<init>", "()V"⟩
abbrev cX6_begin : ByteArray := prog_8_method_2_code
def yX6_begin : MethodName := ⟨RX6, "begin", "(LSwornLane$Country;)V"⟩
abbrev cX6_attempt : ByteArray := prog_8_method_3_code
def yX6_attempt : MethodName := ⟨RX6, "attempt", "(III)Z"⟩
abbrev cX6_noteSitters : ByteArray := prog_8_method_4_code
def yX6_noteSitters : MethodName := ⟨RX6, "noteSitters", "(I)V"⟩
def RX7 : String := "SwornLane$World"
def TX7 : u_T := fun k => match k with
  | 0 => ("SwornLane$World", "country", "LSwornLane$Country;", true)
  | 1 => ("SwornLane$World", "rules", "LSwornLane$Rules;", true)
  | _ => ("SwornLane$World", "sights", "LSwornLane$Sights;", true)
def tyX7 : Nat → FieldType := fun k => match k with
  | 0 => .object "SwornLane$Country"
  | 1 => .object "SwornLane$Rules"
  | _ => .object "SwornLane$Sights"
abbrev wsX70 : List Cond := u_ws RX7 TX7 3
theorem nmX7 : ∀ a, a < 3 → ∀ b, b < 3 → a ≠ b → (TX7 a).2.1 ≠ (TX7 b).2.1 := by decide +kernel
theorem tyX7_ok : ∀ k, k < 3 → parseFieldDescriptor (TX7 k).2.2.1 = some (tyX7 k) := by decide +kernel
abbrev cX7_init : ByteArray := prog_9_method_1_code
def yX7_init : MethodName := ⟨RX7, "<init>", "()V"⟩
abbrev cX7_copyFrom : ByteArray := prog_9_method_2_code
def yX7_copyFrom : MethodName := ⟨RX7, "copyFrom", "(LSwornLane$World;)V"⟩
def RX8 : String := "SwornLane"
def TX8 : u_T := fun k => match k with
  | 0 => ("SwornLane", "now", "LSwornLane$World;", true)
  | 1 => ("SwornLane", "images", "[LSwornLane$World;", true)
  | 2 => ("SwornLane", "pad", "LSwornLane$Pad;", true)
  | 3 => ("SwornLane", "trial", "LSwornLane$Trial;", true)
  | 4 => ("SwornLane", "game", "LSwornLane$Game;", true)
  | _ => ("SwornLane", "chance", "LSwornLane$Chance;", true)
def tyX8 : Nat → FieldType := fun k => match k with
  | 0 => .object "SwornLane$World"
  | 1 => .array (.object "SwornLane$World")
  | 2 => .object "SwornLane$Pad"
  | 3 => .object "SwornLane$Trial"
  | 4 => .object "SwornLane$Game"
  | _ => .object "SwornLane$Chance"
abbrev wsX80 : List Cond := u_ws RX8 TX8 6
theorem nmX8 : ∀ a, a < 6 → ∀ b, b < 6 → a ≠ b → (TX8 a).2.1 ≠ (TX8 b).2.1 := by decide +kernel
theorem tyX8_ok : ∀ k, k < 6 → parseFieldDescriptor (TX8 k).2.2.1 = some (tyX8 k) := by decide +kernel
abbrev cX8_init : ByteArray := prog_1_method_1_code
def yX8_init : MethodName := ⟨RX8, "<init>", "()V"⟩
abbrev cX8_way : ByteArray := prog_1_method_2_code
def yX8_way : MethodName := ⟨RX8, "way", "(IIZ)I"⟩
abbrev cX8_thing : ByteArray := prog_1_method_3_code
def yX8_thing : MethodName := ⟨RX8, "thing", "(II)I"⟩
abbrev cX8_person : ByteArray := prog_1_method_4_code
def yX8_person : MethodName := ⟨RX8, "person", "(III)I"⟩
abbrev cX8_pole : ByteArray := prog_1_method_5_code
def yX8_pole : MethodName := ⟨RX8, "pole", "(Z)I"⟩
abbrev cX8_say : ByteArray := prog_1_method_6_code
def yX8_say : MethodName := ⟨RX8, "say", "(I)I"⟩
abbrev cX8_wipe : ByteArray := prog_1_method_7_code
def yX8_wipe : MethodName := ⟨RX8, "wipe", "()I"⟩
abbrev cX8_fault : ByteArray := prog_1_method_8_code
def yX8_fault : MethodName := ⟨RX8, "fault", "()I"⟩
abbrev cX8_judge : ByteArray := prog_1_method_9_code
def yX8_judge : MethodName := ⟨RX8, "judge", "(I)I"⟩
abbrev cX8_behind : ByteArray := prog_1_method_10_code
def yX8_behind : MethodName := ⟨RX8, "behind", "(II)I"⟩
abbrev cX8_lies : ByteArray := prog_1_method_11_code
def yX8_lies : MethodName := ⟨RX8, "lies", "(II)I"⟩
abbrev cX8_there : ByteArray := prog_1_method_12_code
def yX8_there : MethodName := ⟨RX8, "there", "(I)I"⟩
abbrev cX8_first : ByteArray := prog_1_method_13_code
def yX8_first : MethodName := ⟨RX8, "first", "(I)I"⟩
abbrev cX8_done : ByteArray := prog_1_method_14_code
def yX8_done : MethodName := ⟨RX8, "done", "()I"⟩
abbrev cX8_join : ByteArray := prog_1_method_15_code
def yX8_join : MethodName := ⟨RX8, "join", "(II)I"⟩
abbrev cX8_cut : ByteArray := prog_1_method_16_code
def yX8_cut : MethodName := ⟨RX8, "cut", "(III)I"⟩
abbrev cX8_rule : ByteArray := prog_1_method_17_code
def yX8_rule : MethodName := ⟨RX8, "rule", "(III)I"⟩
abbrev cX8_unrule : ByteArray := prog_1_method_18_code
def yX8_unrule : MethodName := ⟨RX8, "unrule", "()I"⟩
abbrev cX8_close : ByteArray := prog_1_method_19_code
def yX8_close : MethodName := ⟨RX8, "close", "(I)I"⟩
abbrev cX8_least : ByteArray := prog_1_method_20_code
def yX8_least : MethodName := ⟨RX8, "least", "(II)I"⟩
abbrev cX8_swore : ByteArray := prog_1_method_21_code
def yX8_swore : MethodName := ⟨RX8, "swore", "(IIIZ)I"⟩
abbrev cX8_forget : ByteArray := prog_1_method_22_code
def yX8_forget : MethodName := ⟨RX8, "forget", "()I"⟩
abbrev cX8_liars : ByteArray := prog_1_method_23_code
def yX8_liars : MethodName := ⟨RX8, "liars", "(I)I"⟩
abbrev cX8_ask : ByteArray := prog_1_method_24_code
def yX8_ask : MethodName := ⟨RX8, "ask", "(I)I"⟩
abbrev cX8_walk : ByteArray := prog_1_method_25_code
def yX8_walk : MethodName := ⟨RX8, "walk", "(II)I"⟩
abbrev cX8_hang : ByteArray := prog_1_method_26_code
def yX8_hang : MethodName := ⟨RX8, "hang", "(IIII)J"⟩
abbrev cX8_year : ByteArray := prog_1_method_27_code
def yX8_year : MethodName := ⟨RX8, "year", "(III)I"⟩
abbrev cX8_image : ByteArray := prog_1_method_28_code
def yX8_image : MethodName := ⟨RX8, "image", "(I)I"⟩
abbrev cX8_restore : ByteArray := prog_1_method_29_code
def yX8_restore : MethodName := ⟨RX8, "restore", "(I)I"⟩
abbrev cX8_told : ByteArray := prog_1_method_30_code
def yX8_told : MethodName := ⟨RX8, "told", "(I)I"⟩
abbrev cX8_isWithin : ByteArray := prog_1_method_31_code
def yX8_isWithin : MethodName := ⟨RX8, "isWithin", "(III)Z"⟩
abbrev cX8_isCorner : ByteArray := prog_1_method_32_code
def yX8_isCorner : MethodName := ⟨RX8, "isCorner", "(I)Z"⟩
abbrev cX8_isThing : ByteArray := prog_1_method_33_code
def yX8_isThing : MethodName := ⟨RX8, "isThing", "(I)Z"⟩
abbrev cX8_isPerson : ByteArray := prog_1_method_34_code
def yX8_isPerson : MethodName := ⟨RX8, "isPerson", "(I)Z"⟩
abbrev cX8_isClaim : ByteArray := prog_1_method_35_code
def yX8_isClaim : MethodName := ⟨RX8, "isClaim", "(I)Z"⟩
abbrev cX8_isQuestion : ByteArray := prog_1_method_36_code
def yX8_isQuestion : MethodName := ⟨RX8, "isQuestion", "(III)Z"⟩
abbrev cX8_holds : ByteArray := prog_1_method_37_code
def yX8_holds : MethodName := ⟨RX8, "holds", "(II)Z"⟩
abbrev cX8_playSession : ByteArray := prog_1_method_38_code
def yX8_playSession : MethodName := ⟨RX8, "playSession", "()I"⟩
abbrev cX8_tellOfAll : ByteArray := prog_1_method_39_code
def yX8_tellOfAll : MethodName := ⟨RX8, "tellOfAll", "(I)I"⟩
abbrev cX8_tellOfPerson : ByteArray := prog_1_method_40_code
def yX8_tellOfPerson : MethodName := ⟨RX8, "tellOfPerson", "(II)I"⟩
abbrev cX8_tellOfThing : ByteArray := prog_1_method_41_code
def yX8_tellOfThing : MethodName := ⟨RX8, "tellOfThing", "(II)I"⟩
abbrev cX8_liveYear : ByteArray := prog_1_method_42_code
def yX8_liveYear : MethodName := ⟨RX8, "liveYear", "(II)V"⟩
abbrev cX8_attemptDrawn : ByteArray := prog_1_method_43_code
def yX8_attemptDrawn : MethodName := ⟨RX8, "attemptDrawn", "(II)V"⟩
abbrev cX8_setsOfYes : ByteArray := prog_1_method_44_code
def yX8_setsOfYes : MethodName := ⟨RX8, "setsOfYes", "(III)I"⟩
abbrev cX8_isTrue : ByteArray := prog_1_method_45_code
def yX8_isTrue : MethodName := ⟨RX8, "isTrue", "(III)Z"⟩
abbrev cX8_bestQuestion : ByteArray := prog_1_method_46_code
def yX8_bestQuestion : MethodName := ⟨RX8, "bestQuestion", "(I)I"⟩
abbrev cX8_mostLeft : ByteArray := prog_1_method_47_code
def yX8_mostLeft : MethodName := ⟨RX8, "mostLeft", "(II)I"⟩
abbrev cX8_placeOfBit : ByteArray := prog_1_method_48_code
def yX8_placeOfBit : MethodName := ⟨RX8, "placeOfBit", "(II)I"⟩
abbrev cX8_pairs : ByteArray := prog_1_method_49_code
def yX8_pairs : MethodName := ⟨RX8, "pairs", "(I)I"⟩
abbrev cX8_power : ByteArray := prog_1_method_50_code
def yX8_power : MethodName := ⟨RX8, "power", "(JI)J"⟩
abbrev cX8_partOf : ByteArray := prog_1_method_51_code
def yX8_partOf : MethodName := ⟨RX8, "partOf", "(JJI)J"⟩
abbrev cX8_commonDivisor : ByteArray := prog_1_method_52_code
def yX8_commonDivisor : MethodName := ⟨RX8, "commonDivisor", "(JJ)J"⟩
def RX9 : String := "SwornLaneModel"
def TX9 : u_T := fun k => match k with
  | 0 => ("SwornLaneModel", "beside", "[I", true)
  | 1 => ("SwornLaneModel", "place", "[I", true)
  | 2 => ("SwornLaneModel", "stands", "[I", true)
  | 3 => ("SwornLaneModel", "faint", "[I", true)
  | 4 => ("SwornLaneModel", "sits", "[I", true)
  | 5 => ("SwornLaneModel", "isUp", "I", false)
  | 6 => ("SwornLaneModel", "hours", "I", false)
  | 7 => ("SwornLaneModel", "ruleOne", "[I", true)
  | 8 => ("SwornLaneModel", "ruleOther", "[I", true)
  | 9 => ("SwornLaneModel", "ruleThen", "[I", true)
  | 10 => ("SwornLaneModel", "rules", "I", false)
  | 11 => ("SwornLaneModel", "sightWho", "[I", true)
  | 12 => ("SwornLaneModel", "sightWhat", "[I", true)
  | 13 => ("SwornLaneModel", "sightOf", "[I", true)
  | 14 => ("SwornLaneModel", "sightYes", "[I", true)
  | 15 => ("SwornLaneModel", "sights", "I", false)
  | 16 => ("SwornLaneModel", "pad", "[I", true)
  | 17 => ("SwornLaneModel", "padMany", "I", false)
  | 18 => ("SwornLaneModel", "act", "[I", true)
  | 19 => ("SwornLaneModel", "which", "[I", true)
  | 20 => ("SwornLaneModel", "other", "[I", true)
  | 21 => ("SwornLaneModel", "acts", "I", false)
  | 22 => ("SwornLaneModel", "satAll", "I", false)
  | 23 => ("SwornLaneModel", "satNow", "I", false)
  | 24 => ("SwornLaneModel", "had", "[I", true)
  | 25 => ("SwornLaneModel", "at", "I", false)
  | 26 => ("SwornLaneModel", "isBack", "Z", false)
  | 27 => ("SwornLaneModel", "badAct", "I", false)
  | 28 => ("SwornLaneModel", "badWhy", "I", false)
  | 29 => ("SwornLaneModel", "satAct", "I", false)
  | 30 => ("SwornLaneModel", "satWho", "I", false)
  | 31 => ("SwornLaneModel", "wins", "[Z", true)
  | 32 => ("SwornLaneModel", "net", "[I", true)
  | 33 => ("SwornLaneModel", "kept", "[I", true)
  | 34 => ("SwornLaneModel", "isKept", "[Z", true)
  | 35 => ("SwornLaneModel", "keptAt", "I", false)
  | _ => ("SwornLaneModel", "isWriting", "Z", false)
def tyX9 : Nat → FieldType := fun k => match k with
  | 0 => .array .int
  | 1 => .array .int
  | 2 => .array .int
  | 3 => .array .int
  | 4 => .array .int
  | 5 => .int
  | 6 => .int
  | 7 => .array .int
  | 8 => .array .int
  | 9 => .array .int
  | 10 => .int
  | 11 => .array .int
  | 12 => .array .int
  | 13 => .array .int
  | 14 => .array .int
  | 15 => .int
  | 16 => .array .int
  | 17 => .int
  | 18 => .array .int
  | 19 => .array .int
  | 20 => .array .int
  | 21 => .int
  | 22 => .int
  | 23 => .int
  | 24 => .array .int
  | 25 => .int
  | 26 => .boolean
  | 27 => .int
  | 28 => .int
  | 29 => .int
  | 30 => .int
  | 31 => .array .boolean
  | 32 => .array .int
  | 33 => .array .int
  | 34 => .array .boolean
  | 35 => .int
  | _ => .boolean
abbrev wsX90 : List Cond := u_ws RX9 TX9 37
theorem nmX9 : ∀ a, a < 37 → ∀ b, b < 37 → a ≠ b → (TX9 a).2.1 ≠ (TX9 b).2.1 := by decide +kernel
theorem tyX9_ok : ∀ k, k < 37 → parseFieldDescriptor (TX9 k).2.2.1 = some (tyX9 k) := by decide +kernel
abbrev cX9_init : ByteArray := prog_11_method_1_code
def yX9_init : MethodName := ⟨RX9, "<init>", "()V"⟩
abbrev cX9_in : ByteArray := prog_11_method_3_code
def yX9_in : MethodName := ⟨RX9, "in", "(JJJ)Z"⟩
abbrev cX9_isCorner : ByteArray := prog_11_method_4_code
def yX9_isCorner : MethodName := ⟨RX9, "isCorner", "(I)Z"⟩
abbrev cX9_isThing : ByteArray := prog_11_method_5_code
def yX9_isThing : MethodName := ⟨RX9, "isThing", "(I)Z"⟩
abbrev cX9_isPerson : ByteArray := prog_11_method_6_code
def yX9_isPerson : MethodName := ⟨RX9, "isPerson", "(I)Z"⟩
abbrev cX9_ones : ByteArray := prog_11_method_7_code
def yX9_ones : MethodName := ⟨RX9, "ones", "(I)I"⟩
abbrev cX9_has : ByteArray := prog_11_method_8_code
def yX9_has : MethodName := ⟨RX9, "has", "(II)Z"⟩
abbrev cX9_waysAll : ByteArray := prog_11_method_9_code
def yX9_waysAll : MethodName := ⟨RX9, "waysAll", "()I"⟩
abbrev cX9_layWay : ByteArray := prog_11_method_10_code
def yX9_layWay : MethodName := ⟨RX9, "layWay", "(IIZ)V"⟩
abbrev cX9_way : ByteArray := prog_11_method_11_code
def yX9_way : MethodName := ⟨RX9, "way", "(IIZ)I"⟩
abbrev cX9_cornerOf : ByteArray := prog_11_method_12_code
def yX9_cornerOf : MethodName := ⟨RX9, "cornerOf", "(I)I"⟩
abbrev cX9_carrierOf : ByteArray := prog_11_method_13_code
def yX9_carrierOf : MethodName := ⟨RX9, "carrierOf", "(I)I"⟩
abbrev cX9_thing : ByteArray := prog_11_method_14_code
def yX9_thing : MethodName := ⟨RX9, "thing", "(II)I"⟩
abbrev cX9_drop : ByteArray := prog_11_method_15_code
def yX9_drop : MethodName := ⟨RX9, "drop", "(I)V"⟩
abbrev cX9_person : ByteArray := prog_11_method_16_code
def yX9_person : MethodName := ⟨RX9, "person", "(III)I"⟩
abbrev cX9_pole : ByteArray := prog_11_method_17_code
def yX9_pole : MethodName := ⟨RX9, "pole", "(Z)I"⟩
abbrev cX9_say : ByteArray := prog_11_method_18_code
def yX9_say : MethodName := ⟨RX9, "say", "(I)I"⟩
abbrev cX9_wipe : ByteArray := prog_11_method_19_code
def yX9_wipe : MethodName := ⟨RX9, "wipe", "()I"⟩
abbrev cX9_ends : ByteArray := prog_11_method_20_code
def yX9_ends : MethodName := ⟨RX9, "ends", "(II)I"⟩
abbrev cX9_opens : ByteArray := prog_11_method_21_code
def yX9_opens : MethodName := ⟨RX9, "opens", "(II)I"⟩
abbrev cX9_begin : ByteArray := prog_11_method_22_code
def yX9_begin : MethodName := ⟨RX9, "begin", "(I)I"⟩
abbrev cX9_deed : ByteArray := prog_11_method_23_code
def yX9_deed : MethodName := ⟨RX9, "deed", "(I)I"⟩
abbrev cX9_begun : ByteArray := prog_11_method_24_code
def yX9_begun : MethodName := ⟨RX9, "begun", "(II)I"⟩
abbrev cX9_readOn : ByteArray := prog_11_method_25_code
def yX9_readOn : MethodName := ⟨RX9, "readOn", "(II)I"⟩
abbrev cX9_fault : ByteArray := prog_11_method_26_code
def yX9_fault : MethodName := ⟨RX9, "fault", "()I"⟩
abbrev cX9_whyNoWay : ByteArray := prog_11_method_27_code
def yX9_whyNoWay : MethodName := ⟨RX9, "whyNoWay", "(IIZ)I"⟩
abbrev cX9_whyNotBack : ByteArray := prog_11_method_28_code
def yX9_whyNotBack : MethodName := ⟨RX9, "whyNotBack", "(I)I"⟩
abbrev cX9_whyNotDeed : ByteArray := prog_11_method_29_code
def yX9_whyNotDeed : MethodName := ⟨RX9, "whyNotDeed", "(III)I"⟩
abbrev cX9_whyNot : ByteArray := prog_11_method_30_code
def yX9_whyNot : MethodName := ⟨RX9, "whyNot", "(III)I"⟩
abbrev cX9_sit : ByteArray := prog_11_method_31_code
def yX9_sit : MethodName := ⟨RX9, "sit", "(I)V"⟩
abbrev cX9_comeBack : ByteArray := prog_11_method_32_code
def yX9_comeBack : MethodName := ⟨RX9, "comeBack", "(I)V"⟩
abbrev cX9_fade : ByteArray := prog_11_method_33_code
def yX9_fade : MethodName := ⟨RX9, "fade", "(I)V"⟩
abbrev cX9_passHour : ByteArray := prog_11_method_34_code
def yX9_passHour : MethodName := ⟨RX9, "passHour", "()V"⟩
abbrev cX9_happenToOne : ByteArray := prog_11_method_35_code
def yX9_happenToOne : MethodName := ⟨RX9, "happenToOne", "(III)V"⟩
abbrev cX9_happen : ByteArray := prog_11_method_36_code
def yX9_happen : MethodName := ⟨RX9, "happen", "(III)V"⟩
abbrev cX9_carry : ByteArray := prog_11_method_37_code
def yX9_carry : MethodName := ⟨RX9, "carry", "(I)I"⟩
abbrev cX9_carryRow : ByteArray := prog_11_method_38_code
def yX9_carryRow : MethodName := ⟨RX9, "carryRow", "([II)V"⟩
abbrev cX9_carryAll : ByteArray := prog_11_method_39_code
def yX9_carryAll : MethodName := ⟨RX9, "carryAll", "(Z)V"⟩
abbrev cX9_back : ByteArray := prog_11_method_40_code
def yX9_back : MethodName := ⟨RX9, "back", "(I)I"⟩
abbrev cX9_goOne : ByteArray := prog_11_method_41_code
def yX9_goOne : MethodName := ⟨RX9, "goOne", "(I)V"⟩
abbrev cX9_goSessions : ByteArray := prog_11_method_42_code
def yX9_goSessions : MethodName := ⟨RX9, "goSessions", "()V"⟩
abbrev cX9_refusal : ByteArray := prog_11_method_43_code
def yX9_refusal : MethodName := ⟨RX9, "refusal", "()I"⟩
abbrev cX9_judge : ByteArray := prog_11_method_44_code
def yX9_judge : MethodName := ⟨RX9, "judge", "(I)I"⟩
abbrev cX9_carriedBy : ByteArray := prog_11_method_45_code
def yX9_carriedBy : MethodName := ⟨RX9, "carriedBy", "(I)I"⟩
abbrev cX9_ofPerson : ByteArray := prog_11_method_46_code
def yX9_ofPerson : MethodName := ⟨RX9, "ofPerson", "(II)I"⟩
abbrev cX9_behind : ByteArray := prog_11_method_47_code
def yX9_behind : MethodName := ⟨RX9, "behind", "(II)I"⟩
abbrev cX9_lies : ByteArray := prog_11_method_48_code
def yX9_lies : MethodName := ⟨RX9, "lies", "(II)I"⟩
abbrev cX9_whoIsThere : ByteArray := prog_11_method_49_code
def yX9_whoIsThere : MethodName := ⟨RX9, "whoIsThere", "()I"⟩
abbrev cX9_whoSits : ByteArray := prog_11_method_50_code
def yX9_whoSits : MethodName := ⟨RX9, "whoSits", "()I"⟩
abbrev cX9_ofAll : ByteArray := prog_11_method_51_code
def yX9_ofAll : MethodName := ⟨RX9, "ofAll", "(I)I"⟩
abbrev cX9_there : ByteArray := prog_11_method_52_code
def yX9_there : MethodName := ⟨RX9, "there", "(I)I"⟩
abbrev cX9_first : ByteArray := prog_11_method_53_code
def yX9_first : MethodName := ⟨RX9, "first", "(I)I"⟩
abbrev cX9_done : ByteArray := prog_11_method_54_code
def yX9_done : MethodName := ⟨RX9, "done", "()I"⟩
abbrev cX9_besideAll : ByteArray := prog_11_method_55_code
def yX9_besideAll : MethodName := ⟨RX9, "besideAll", "(I)I"⟩
abbrev cX9_join : ByteArray := prog_11_method_56_code
def yX9_join : MethodName := ⟨RX9, "join", "(II)I"⟩
abbrev cX9_waysOut : ByteArray := prog_11_method_57_code
def yX9_waysOut : MethodName := ⟨RX9, "waysOut", "(I)I"⟩
abbrev cX9_cut : ByteArray := prog_11_method_58_code
def yX9_cut : MethodName := ⟨RX9, "cut", "(III)I"⟩
abbrev cX9_rule : ByteArray := prog_11_method_59_code
def yX9_rule : MethodName := ⟨RX9, "rule", "(III)I"⟩
abbrev cX9_unrule : ByteArray := prog_11_method_60_code
def yX9_unrule : MethodName := ⟨RX9, "unrule", "()I"⟩
abbrev cX9_onceMore : ByteArray := prog_11_method_61_code
def yX9_onceMore : MethodName := ⟨RX9, "onceMore", "(I)I"⟩
abbrev cX9_closedOf : ByteArray := prog_11_method_62_code
def yX9_closedOf : MethodName := ⟨RX9, "closedOf", "(I)I"⟩
abbrev cX9_close : ByteArray := prog_11_method_63_code
def yX9_close : MethodName := ⟨RX9, "close", "(I)I"⟩
abbrev cX9_least : ByteArray := prog_11_method_64_code
def yX9_least : MethodName := ⟨RX9, "least", "(II)I"⟩
abbrev cX9_isQuestion : ByteArray := prog_11_method_65_code
def yX9_isQuestion : MethodName := ⟨RX9, "isQuestion", "(III)Z"⟩
abbrev cX9_swore : ByteArray := prog_11_method_66_code
def yX9_swore : MethodName := ⟨RX9, "swore", "(IIIZ)I"⟩
abbrev cX9_forget : ByteArray := prog_11_method_67_code
def yX9_forget : MethodName := ⟨RX9, "forget", "()I"⟩
abbrev cX9_says : ByteArray := prog_11_method_68_code
def yX9_says : MethodName := ⟨RX9, "says", "(IIII)I"⟩
abbrev cX9_isFit : ByteArray := prog_11_method_69_code
def yX9_isFit : MethodName := ⟨RX9, "isFit", "(I)Z"⟩
abbrev cX9_liars : ByteArray := prog_11_method_70_code
def yX9_liars : MethodName := ⟨RX9, "liars", "(I)I"⟩
abbrev cX9_mostLeft : ByteArray := prog_11_method_71_code
def yX9_mostLeft : MethodName := ⟨RX9, "mostLeft", "(III)I"⟩
abbrev cX9_ask : ByteArray := prog_11_method_72_code
def yX9_ask : MethodName := ⟨RX9, "ask", "(I)I"⟩
abbrev cX9_leastGo : ByteArray := prog_11_method_73_code
def yX9_leastGo : MethodName := ⟨RX9, "leastGo", "(II)I"⟩
abbrev cX9_walk : ByteArray := prog_11_method_74_code
def yX9_walk : MethodName := ⟨RX9, "walk", "(II)I"⟩
abbrev cX9_layNet : ByteArray := prog_11_method_75_code
def yX9_layNet : MethodName := ⟨RX9, "layNet", "(II)V"⟩
abbrev cX9_hangs : ByteArray := prog_11_method_76_code
def yX9_hangs : MethodName := ⟨RX9, "hangs", "(I)Z"⟩
abbrev cX9_power : ByteArray := prog_11_method_77_code
def yX9_power : MethodName := ⟨RX9, "power", "(JI)J"⟩
abbrev cX9_lowest : ByteArray := prog_11_method_78_code
def yX9_lowest : MethodName := ⟨RX9, "lowest", "(JJI)J"⟩
abbrev cX9_hang : ByteArray := prog_11_method_79_code
def yX9_hang : MethodName := ⟨RX9, "hang", "(IIII)J"⟩
abbrev cX9_actBy : ByteArray := prog_11_method_80_code
def yX9_actBy : MethodName := ⟨RX9, "actBy", "(II)I"⟩
abbrev cX9_drawn : ByteArray := prog_11_method_81_code
def yX9_drawn : MethodName := ⟨RX9, "drawn", "(II)V"⟩
abbrev cX9_year : ByteArray := prog_11_method_82_code
def yX9_year : MethodName := ⟨RX9, "year", "(III)I"⟩
abbrev cX9_pass : ByteArray := prog_11_method_83_code
def yX9_pass : MethodName := ⟨RX9, "pass", "(I)I"⟩
abbrev cX9_passRow : ByteArray := prog_11_method_84_code
def yX9_passRow : MethodName := ⟨RX9, "passRow", "([II)V"⟩
abbrev cX9_passAll : ByteArray := prog_11_method_85_code
def yX9_passAll : MethodName := ⟨RX9, "passAll", "()V"⟩
abbrev cX9_image : ByteArray := prog_11_method_86_code
def yX9_image : MethodName := ⟨RX9, "image", "(I)I"⟩
abbrev cX9_restore : ByteArray := prog_11_method_87_code
def yX9_restore : MethodName := ⟨RX9, "restore", "(I)I"⟩
abbrev cX9_toldOfPerson : ByteArray := prog_11_method_88_code
def yX9_toldOfPerson : MethodName := ⟨RX9, "toldOfPerson", "(I)I"⟩
abbrev cX9_toldOfOther : ByteArray := prog_11_method_89_code
def yX9_toldOfOther : MethodName := ⟨RX9, "toldOfOther", "(I)I"⟩
abbrev cX9_toldOfAll : ByteArray := prog_11_method_90_code
def yX9_toldOfAll : MethodName := ⟨RX9, "toldOfAll", "(I)I"⟩
abbrev cX9_told : ByteArray := prog_11_method_91_code
def yX9_told : MethodName := ⟨RX9, "told", "(I)I"⟩
def RJ6 : String := "java/lang/Integer"
def TJ6 : u_T := fun k => match k with
  | _ => ("", "", "", false)
def tyJ6 : Nat → FieldType := fun k => match k with
  | _ => .int
abbrev wsJ60 : List Cond := u_ws RJ6 TJ6 0
theorem nmJ6 : ∀ a, a < 0 → ∀ b, b < 0 → a ≠ b → (TJ6 a).2.1 ≠ (TJ6 b).2.1 := by decide +kernel
theorem tyJ6_ok : ∀ k, k < 0 → parseFieldDescriptor (TJ6 k).2.2.1 = some (tyJ6 k) := by decide +kernel
abbrev cJ6_bitCount_0f7a4 : ByteArray := prog_12_method_49_code
def yJ6_bitCount_0f7a4 : MethodName := ⟨RJ6, "bitCount", "(I)I"⟩
def RJ9 : String := "java/lang/Math"
def TJ9 : u_T := fun k => match k with
  | _ => ("", "", "", false)
def tyJ9 : Nat → FieldType := fun k => match k with
  | _ => .int
abbrev wsJ90 : List Cond := u_ws RJ9 TJ9 0
theorem nmJ9 : ∀ a, a < 0 → ∀ b, b < 0 → a ≠ b → (TJ9 a).2.1 ≠ (TJ9 b).2.1 := by decide +kernel
theorem tyJ9_ok : ∀ k, k < 0 → parseFieldDescriptor (TJ9 k).2.2.1 = some (tyJ9 k) := by decide +kernel
abbrev cJ9_max_7cf53 : ByteArray := prog_13_method_65_code
def yJ9_max_7cf53 : MethodName := ⟨RJ9, "max", "(II)I"⟩
abbrev cJ9_min_7cf53 : ByteArray := prog_13_method_69_code
def yJ9_min_7cf53 : MethodName := ⟨RJ9, "min", "(II)I"⟩
def RJ10 : String := "java/lang/System"
def TJ10 : u_T := fun k => match k with
  | _ => ("", "", "", false)
def tyJ10 : Nat → FieldType := fun k => match k with
  | _ => .int
abbrev wsJ100 : List Cond := u_ws RJ10 TJ10 0
theorem nmJ10 : ∀ a, a < 0 → ∀ b, b < 0 → a ≠ b → (TJ10 a).2.1 ≠ (TJ10 b).2.1 := by decide +kernel
theorem tyJ10_ok : ∀ k, k < 0 → parseFieldDescriptor (TJ10 k).2.2.1 = some (tyJ10 k) := by decide +kernel
def RL : String := "SwornLaneLaw"
abbrev cL_law : ByteArray := code
def yL_law : MethodName := ⟨RL, "law", "([I)Z"⟩
abbrev vwCl : List vw_C := [(RX0, TX0, 1), (RX1, TX1, 7), (RX2, TX2, 1), (RX3, TX3, 6), (RX4, TX4, 3), (RX5, TX5, 2), (RX6, TX6, 6), (RX7, TX7, 3), (RX8, TX8, 6), (RX9, TX9, 37)]
