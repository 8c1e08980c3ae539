section
-- ===== PART A: goes FIRST, ahead of the names: the tables' words, and 'selects' of the private methods out of them =====
/-- a private method of a class that the tables say can be made, by its rows of tables_1 -/
def lw_okq (q : MethodName × Nat) : Prop := (q.1.cls ≠ "java/lang/invoke/MethodHandle" ∧ q.1.cls ≠ "java/lang/invoke/VarHandle") ∧ Cond.instantiable q.1.cls q.2 ∈ tables_1 ∧ Cond.privateMethod q.1 ∈ tables_1 ∧ Cond.instanceMethod q.1 ∈ tables_1
theorem lw_p0 : lw_okq (⟨"SwornLane$Pad", "take", "(CI)I"⟩, 6) := ⟨⟨by decide +kernel, by decide +kernel⟩, List.mem_of_getElem? (i := 110) (by decide +kernel), List.mem_of_getElem? (i := 299) (by decide +kernel), List.mem_of_getElem? (i := 300) (by decide +kernel)⟩
theorem lw_p1 : lw_okq (⟨"SwornLane$Pad", "signHere", "()I"⟩, 6) := ⟨⟨by decide +kernel, by decide +kernel⟩, List.mem_of_getElem? (i := 110) (by decide +kernel), List.mem_of_getElem? (i := 303) (by decide +kernel), List.mem_of_getElem? (i := 304) (by decide +kernel)⟩
theorem lw_p2 : lw_okq (⟨"SwornLane$Pad", "readDeed", "()Z"⟩, 6) := ⟨⟨by decide +kernel, by decide +kernel⟩, List.mem_of_getElem? (i := 110) (by decide +kernel), List.mem_of_getElem? (i := 307) (by decide +kernel), List.mem_of_getElem? (i := 308) (by decide +kernel)⟩
theorem lw_p3 : lw_okq (⟨"SwornLane$Pad", "readLone", "(I)Z"⟩, 6) := ⟨⟨by decide +kernel, by decide +kernel⟩, List.mem_of_getElem? (i := 110) (by decide +kernel), List.mem_of_getElem? (i := 311) (by decide +kernel), List.mem_of_getElem? (i := 312) (by decide +kernel)⟩
theorem lw_p4 : lw_okq (⟨"SwornLane$Pad", "readPair", "(ICI)Z"⟩, 6) := ⟨⟨by decide +kernel, by decide +kernel⟩, List.mem_of_getElem? (i := 110) (by decide +kernel), List.mem_of_getElem? (i := 315) (by decide +kernel), List.mem_of_getElem? (i := 316) (by decide +kernel)⟩
theorem lw_p5 : lw_okq (⟨"SwornLane", "playSession", "()I"⟩, 6) := ⟨⟨by decide +kernel, by decide +kernel⟩, List.mem_of_getElem? (i := 15) (by decide +kernel), List.mem_of_getElem? (i := 323) (by decide +kernel), List.mem_of_getElem? (i := 324) (by decide +kernel)⟩
theorem lw_p6 : lw_okq (⟨"SwornLane$Country", "whyNoWay", "(IIZ)I"⟩, 7) := ⟨⟨by decide +kernel, by decide +kernel⟩, List.mem_of_getElem? (i := 29) (by decide +kernel), List.mem_of_getElem? (i := 348) (by decide +kernel), List.mem_of_getElem? (i := 349) (by decide +kernel)⟩
theorem lw_p7 : lw_okq (⟨"SwornLane$Country", "whyNotOver", "(I)I"⟩, 7) := ⟨⟨by decide +kernel, by decide +kernel⟩, List.mem_of_getElem? (i := 29) (by decide +kernel), List.mem_of_getElem? (i := 355) (by decide +kernel), List.mem_of_getElem? (i := 356) (by decide +kernel)⟩
theorem lw_p8 : lw_okq (⟨"SwornLane$Country", "whyNotThere", "(III)I"⟩, 7) := ⟨⟨by decide +kernel, by decide +kernel⟩, List.mem_of_getElem? (i := 29) (by decide +kernel), List.mem_of_getElem? (i := 359) (by decide +kernel), List.mem_of_getElem? (i := 360) (by decide +kernel)⟩
theorem lw_p9 : lw_okq (⟨"SwornLane$Country", "passHour", "()V"⟩, 7) := ⟨⟨by decide +kernel, by decide +kernel⟩, List.mem_of_getElem? (i := 29) (by decide +kernel), List.mem_of_getElem? (i := 368) (by decide +kernel), List.mem_of_getElem? (i := 369) (by decide +kernel)⟩
theorem lw_p10 : lw_okq (⟨"SwornLane$Trial", "noteSitters", "(I)V"⟩, 6) := ⟨⟨by decide +kernel, by decide +kernel⟩, List.mem_of_getElem? (i := 139) (by decide +kernel), List.mem_of_getElem? (i := 376) (by decide +kernel), List.mem_of_getElem? (i := 377) (by decide +kernel)⟩
theorem lw_p11 : lw_okq (⟨"SwornLane$Country", "neighboursOf", "(I)I"⟩, 7) := ⟨⟨by decide +kernel, by decide +kernel⟩, List.mem_of_getElem? (i := 29) (by decide +kernel), List.mem_of_getElem? (i := 430) (by decide +kernel), List.mem_of_getElem? (i := 431) (by decide +kernel)⟩
theorem lw_p12 : lw_okq (⟨"SwornLane$Game", "winningFrom", "([II)I"⟩, 1) := ⟨⟨by decide +kernel, by decide +kernel⟩, List.mem_of_getElem? (i := 172) (by decide +kernel), List.mem_of_getElem? (i := 533) (by decide +kernel), List.mem_of_getElem? (i := 534) (by decide +kernel)⟩
theorem lw_p13 : lw_okq (⟨"SwornLane$Game", "winningStep", "([III)I"⟩, 1) := ⟨⟨by decide +kernel, by decide +kernel⟩, List.mem_of_getElem? (i := 172) (by decide +kernel), List.mem_of_getElem? (i := 538) (by decide +kernel), List.mem_of_getElem? (i := 539) (by decide +kernel)⟩
theorem lw_p14 : lw_okq (⟨"SwornLane$Chance", "apart", "(II)J"⟩, 1) := ⟨⟨by decide +kernel, by decide +kernel⟩, List.mem_of_getElem? (i := 182) (by decide +kernel), List.mem_of_getElem? (i := 558) (by decide +kernel), List.mem_of_getElem? (i := 559) (by decide +kernel)⟩
theorem lw_p15 : lw_okq (⟨"SwornLane", "liveYear", "(II)V"⟩, 6) := ⟨⟨by decide +kernel, by decide +kernel⟩, List.mem_of_getElem? (i := 15) (by decide +kernel), List.mem_of_getElem? (i := 575) (by decide +kernel), List.mem_of_getElem? (i := 576) (by decide +kernel)⟩
def lw_privs_1 : List (MethodName × Nat) := [(⟨"SwornLane$Pad", "take", "(CI)I"⟩, 6), (⟨"SwornLane$Pad", "signHere", "()I"⟩, 6), (⟨"SwornLane$Pad", "readDeed", "()Z"⟩, 6), (⟨"SwornLane$Pad", "readLone", "(I)Z"⟩, 6), (⟨"SwornLane$Pad", "readPair", "(ICI)Z"⟩, 6), (⟨"SwornLane", "playSession", "()I"⟩, 6), (⟨"SwornLane$Country", "whyNoWay", "(IIZ)I"⟩, 7), (⟨"SwornLane$Country", "whyNotOver", "(I)I"⟩, 7), (⟨"SwornLane$Country", "whyNotThere", "(III)I"⟩, 7), (⟨"SwornLane$Country", "passHour", "()V"⟩, 7), (⟨"SwornLane$Trial", "noteSitters", "(I)V"⟩, 6), (⟨"SwornLane$Country", "neighboursOf", "(I)I"⟩, 7), (⟨"SwornLane$Game", "winningFrom", "([II)I"⟩, 1), (⟨"SwornLane$Game", "winningStep", "([III)I"⟩, 1), (⟨"SwornLane$Chance", "apart", "(II)J"⟩, 1), (⟨"SwornLane", "liveYear", "(II)V"⟩, 6)]
theorem lw_r1 : ∀ q ∈ lw_privs_1, lw_okq q := List.forall_mem_cons.mpr ⟨lw_p0, List.forall_mem_cons.mpr ⟨lw_p1, List.forall_mem_cons.mpr ⟨lw_p2, List.forall_mem_cons.mpr ⟨lw_p3, List.forall_mem_cons.mpr ⟨lw_p4, List.forall_mem_cons.mpr ⟨lw_p5, List.forall_mem_cons.mpr ⟨lw_p6, List.forall_mem_cons.mpr ⟨lw_p7, List.forall_mem_cons.mpr ⟨lw_p8, List.forall_mem_cons.mpr ⟨lw_p9, List.forall_mem_cons.mpr ⟨lw_p10, List.forall_mem_cons.mpr ⟨lw_p11, List.forall_mem_cons.mpr ⟨lw_p12, List.forall_mem_cons.mpr ⟨lw_p13, List.forall_mem_cons.mpr ⟨lw_p14, List.forall_mem_cons.mpr ⟨lw_p15, fun _ h => absurd h List.not_mem_nil⟩⟩⟩⟩⟩⟩⟩⟩⟩⟩⟩⟩⟩⟩⟩⟩
theorem lw_p16 : lw_okq (⟨"SwornLane", "attemptDrawn", "(II)V"⟩, 6) := ⟨⟨by decide +kernel, by decide +kernel⟩, List.mem_of_getElem? (i := 15) (by decide +kernel), List.mem_of_getElem? (i := 580) (by decide +kernel), List.mem_of_getElem? (i := 581) (by decide +kernel)⟩
theorem lw_p17 : lw_okq (⟨"SwornLane", "tellOfAll", "(I)I"⟩, 6) := ⟨⟨by decide +kernel, by decide +kernel⟩, List.mem_of_getElem? (i := 15) (by decide +kernel), List.mem_of_getElem? (i := 611) (by decide +kernel), List.mem_of_getElem? (i := 612) (by decide +kernel)⟩
theorem lw_p18 : lw_okq (⟨"SwornLane", "tellOfPerson", "(II)I"⟩, 6) := ⟨⟨by decide +kernel, by decide +kernel⟩, List.mem_of_getElem? (i := 15) (by decide +kernel), List.mem_of_getElem? (i := 615) (by decide +kernel), List.mem_of_getElem? (i := 616) (by decide +kernel)⟩
theorem lw_p19 : lw_okq (⟨"SwornLane", "tellOfThing", "(II)I"⟩, 6) := ⟨⟨by decide +kernel, by decide +kernel⟩, List.mem_of_getElem? (i := 15) (by decide +kernel), List.mem_of_getElem? (i := 619) (by decide +kernel), List.mem_of_getElem? (i := 620) (by decide +kernel)⟩
theorem lw_p20 : lw_okq (⟨"SwornLaneModel", "layWay", "(IIZ)V"⟩, 37) := ⟨⟨by decide +kernel, by decide +kernel⟩, List.mem_of_getElem? (i := 623) (by decide +kernel), List.mem_of_getElem? (i := 753) (by decide +kernel), List.mem_of_getElem? (i := 754) (by decide +kernel)⟩
theorem lw_p21 : lw_okq (⟨"SwornLaneModel", "waysAll", "()I"⟩, 37) := ⟨⟨by decide +kernel, by decide +kernel⟩, List.mem_of_getElem? (i := 623) (by decide +kernel), List.mem_of_getElem? (i := 757) (by decide +kernel), List.mem_of_getElem? (i := 758) (by decide +kernel)⟩
theorem lw_p22 : lw_okq (⟨"SwornLaneModel", "cornerOf", "(I)I"⟩, 37) := ⟨⟨by decide +kernel, by decide +kernel⟩, List.mem_of_getElem? (i := 623) (by decide +kernel), List.mem_of_getElem? (i := 772) (by decide +kernel), List.mem_of_getElem? (i := 773) (by decide +kernel)⟩
theorem lw_p23 : lw_okq (⟨"SwornLaneModel", "drop", "(I)V"⟩, 37) := ⟨⟨by decide +kernel, by decide +kernel⟩, List.mem_of_getElem? (i := 623) (by decide +kernel), List.mem_of_getElem? (i := 785) (by decide +kernel), List.mem_of_getElem? (i := 786) (by decide +kernel)⟩
theorem lw_p24 : lw_okq (⟨"SwornLaneModel", "carrierOf", "(I)I"⟩, 37) := ⟨⟨by decide +kernel, by decide +kernel⟩, List.mem_of_getElem? (i := 623) (by decide +kernel), List.mem_of_getElem? (i := 789) (by decide +kernel), List.mem_of_getElem? (i := 790) (by decide +kernel)⟩
theorem lw_p25 : lw_okq (⟨"SwornLaneModel", "readOn", "(II)I"⟩, 37) := ⟨⟨by decide +kernel, by decide +kernel⟩, List.mem_of_getElem? (i := 623) (by decide +kernel), List.mem_of_getElem? (i := 811) (by decide +kernel), List.mem_of_getElem? (i := 812) (by decide +kernel)⟩
theorem lw_p26 : lw_okq (⟨"SwornLaneModel", "begin", "(I)I"⟩, 37) := ⟨⟨by decide +kernel, by decide +kernel⟩, List.mem_of_getElem? (i := 623) (by decide +kernel), List.mem_of_getElem? (i := 819) (by decide +kernel), List.mem_of_getElem? (i := 820) (by decide +kernel)⟩
theorem lw_p27 : lw_okq (⟨"SwornLaneModel", "opens", "(II)I"⟩, 37) := ⟨⟨by decide +kernel, by decide +kernel⟩, List.mem_of_getElem? (i := 623) (by decide +kernel), List.mem_of_getElem? (i := 825) (by decide +kernel), List.mem_of_getElem? (i := 826) (by decide +kernel)⟩
theorem lw_p28 : lw_okq (⟨"SwornLaneModel", "ends", "(II)I"⟩, 37) := ⟨⟨by decide +kernel, by decide +kernel⟩, List.mem_of_getElem? (i := 623) (by decide +kernel), List.mem_of_getElem? (i := 829) (by decide +kernel), List.mem_of_getElem? (i := 830) (by decide +kernel)⟩
theorem lw_p29 : lw_okq (⟨"SwornLaneModel", "begun", "(II)I"⟩, 37) := ⟨⟨by decide +kernel, by decide +kernel⟩, List.mem_of_getElem? (i := 623) (by decide +kernel), List.mem_of_getElem? (i := 833) (by decide +kernel), List.mem_of_getElem? (i := 834) (by decide +kernel)⟩
theorem lw_p30 : lw_okq (⟨"SwornLaneModel", "deed", "(I)I"⟩, 37) := ⟨⟨by decide +kernel, by decide +kernel⟩, List.mem_of_getElem? (i := 623) (by decide +kernel), List.mem_of_getElem? (i := 837) (by decide +kernel), List.mem_of_getElem? (i := 838) (by decide +kernel)⟩
theorem lw_p31 : lw_okq (⟨"SwornLaneModel", "refusal", "()I"⟩, 37) := ⟨⟨by decide +kernel, by decide +kernel⟩, List.mem_of_getElem? (i := 623) (by decide +kernel), List.mem_of_getElem? (i := 846) (by decide +kernel), List.mem_of_getElem? (i := 847) (by decide +kernel)⟩
def lw_privs_2 : List (MethodName × Nat) := [(⟨"SwornLane", "attemptDrawn", "(II)V"⟩, 6), (⟨"SwornLane", "tellOfAll", "(I)I"⟩, 6), (⟨"SwornLane", "tellOfPerson", "(II)I"⟩, 6), (⟨"SwornLane", "tellOfThing", "(II)I"⟩, 6), (⟨"SwornLaneModel", "layWay", "(IIZ)V"⟩, 37), (⟨"SwornLaneModel", "waysAll", "()I"⟩, 37), (⟨"SwornLaneModel", "cornerOf", "(I)I"⟩, 37), (⟨"SwornLaneModel", "drop", "(I)V"⟩, 37), (⟨"SwornLaneModel", "carrierOf", "(I)I"⟩, 37), (⟨"SwornLaneModel", "readOn", "(II)I"⟩, 37), (⟨"SwornLaneModel", "begin", "(I)I"⟩, 37), (⟨"SwornLaneModel", "opens", "(II)I"⟩, 37), (⟨"SwornLaneModel", "ends", "(II)I"⟩, 37), (⟨"SwornLaneModel", "begun", "(II)I"⟩, 37), (⟨"SwornLaneModel", "deed", "(I)I"⟩, 37), (⟨"SwornLaneModel", "refusal", "()I"⟩, 37)]
theorem lw_r2 : ∀ q ∈ lw_privs_2, lw_okq q := List.forall_mem_cons.mpr ⟨lw_p16, List.forall_mem_cons.mpr ⟨lw_p17, List.forall_mem_cons.mpr ⟨lw_p18, List.forall_mem_cons.mpr ⟨lw_p19, List.forall_mem_cons.mpr ⟨lw_p20, List.forall_mem_cons.mpr ⟨lw_p21, List.forall_mem_cons.mpr ⟨lw_p22, List.forall_mem_cons.mpr ⟨lw_p23, List.forall_mem_cons.mpr ⟨lw_p24, List.forall_mem_cons.mpr ⟨lw_p25, List.forall_mem_cons.mpr ⟨lw_p26, List.forall_mem_cons.mpr ⟨lw_p27, List.forall_mem_cons.mpr ⟨lw_p28, List.forall_mem_cons.mpr ⟨lw_p29, List.forall_mem_cons.mpr ⟨lw_p30, List.forall_mem_cons.mpr ⟨lw_p31, fun _ h => absurd h List.not_mem_nil⟩⟩⟩⟩⟩⟩⟩⟩⟩⟩⟩⟩⟩⟩⟩⟩
theorem lw_p32 : lw_okq (⟨"SwornLaneModel", "carryAll", "(Z)V"⟩, 37) := ⟨⟨by decide +kernel, by decide +kernel⟩, List.mem_of_getElem? (i := 623) (by decide +kernel), List.mem_of_getElem? (i := 850) (by decide +kernel), List.mem_of_getElem? (i := 851) (by decide +kernel)⟩
theorem lw_p33 : lw_okq (⟨"SwornLaneModel", "carry", "(I)I"⟩, 37) := ⟨⟨by decide +kernel, by decide +kernel⟩, List.mem_of_getElem? (i := 623) (by decide +kernel), List.mem_of_getElem? (i := 854) (by decide +kernel), List.mem_of_getElem? (i := 855) (by decide +kernel)⟩
theorem lw_p34 : lw_okq (⟨"SwornLaneModel", "carryRow", "([II)V"⟩, 37) := ⟨⟨by decide +kernel, by decide +kernel⟩, List.mem_of_getElem? (i := 623) (by decide +kernel), List.mem_of_getElem? (i := 858) (by decide +kernel), List.mem_of_getElem? (i := 859) (by decide +kernel)⟩
theorem lw_p35 : lw_okq (⟨"SwornLaneModel", "goSessions", "()V"⟩, 37) := ⟨⟨by decide +kernel, by decide +kernel⟩, List.mem_of_getElem? (i := 623) (by decide +kernel), List.mem_of_getElem? (i := 863) (by decide +kernel), List.mem_of_getElem? (i := 864) (by decide +kernel)⟩
theorem lw_p36 : lw_okq (⟨"SwornLaneModel", "whyNot", "(III)I"⟩, 37) := ⟨⟨by decide +kernel, by decide +kernel⟩, List.mem_of_getElem? (i := 623) (by decide +kernel), List.mem_of_getElem? (i := 867) (by decide +kernel), List.mem_of_getElem? (i := 868) (by decide +kernel)⟩
theorem lw_p37 : lw_okq (⟨"SwornLaneModel", "whyNoWay", "(IIZ)I"⟩, 37) := ⟨⟨by decide +kernel, by decide +kernel⟩, List.mem_of_getElem? (i := 623) (by decide +kernel), List.mem_of_getElem? (i := 871) (by decide +kernel), List.mem_of_getElem? (i := 872) (by decide +kernel)⟩
theorem lw_p38 : lw_okq (⟨"SwornLaneModel", "whyNotDeed", "(III)I"⟩, 37) := ⟨⟨by decide +kernel, by decide +kernel⟩, List.mem_of_getElem? (i := 623) (by decide +kernel), List.mem_of_getElem? (i := 878) (by decide +kernel), List.mem_of_getElem? (i := 879) (by decide +kernel)⟩
theorem lw_p39 : lw_okq (⟨"SwornLaneModel", "whyNotBack", "(I)I"⟩, 37) := ⟨⟨by decide +kernel, by decide +kernel⟩, List.mem_of_getElem? (i := 623) (by decide +kernel), List.mem_of_getElem? (i := 882) (by decide +kernel), List.mem_of_getElem? (i := 883) (by decide +kernel)⟩
theorem lw_p40 : lw_okq (⟨"SwornLaneModel", "goOne", "(I)V"⟩, 37) := ⟨⟨by decide +kernel, by decide +kernel⟩, List.mem_of_getElem? (i := 623) (by decide +kernel), List.mem_of_getElem? (i := 886) (by decide +kernel), List.mem_of_getElem? (i := 887) (by decide +kernel)⟩
theorem lw_p41 : lw_okq (⟨"SwornLaneModel", "happen", "(III)V"⟩, 37) := ⟨⟨by decide +kernel, by decide +kernel⟩, List.mem_of_getElem? (i := 623) (by decide +kernel), List.mem_of_getElem? (i := 890) (by decide +kernel), List.mem_of_getElem? (i := 891) (by decide +kernel)⟩
theorem lw_p42 : lw_okq (⟨"SwornLaneModel", "passHour", "()V"⟩, 37) := ⟨⟨by decide +kernel, by decide +kernel⟩, List.mem_of_getElem? (i := 623) (by decide +kernel), List.mem_of_getElem? (i := 894) (by decide +kernel), List.mem_of_getElem? (i := 895) (by decide +kernel)⟩
theorem lw_p43 : lw_okq (⟨"SwornLaneModel", "fade", "(I)V"⟩, 37) := ⟨⟨by decide +kernel, by decide +kernel⟩, List.mem_of_getElem? (i := 623) (by decide +kernel), List.mem_of_getElem? (i := 898) (by decide +kernel), List.mem_of_getElem? (i := 899) (by decide +kernel)⟩
theorem lw_p44 : lw_okq (⟨"SwornLaneModel", "sit", "(I)V"⟩, 37) := ⟨⟨by decide +kernel, by decide +kernel⟩, List.mem_of_getElem? (i := 623) (by decide +kernel), List.mem_of_getElem? (i := 902) (by decide +kernel), List.mem_of_getElem? (i := 903) (by decide +kernel)⟩
theorem lw_p45 : lw_okq (⟨"SwornLaneModel", "happenToOne", "(III)V"⟩, 37) := ⟨⟨by decide +kernel, by decide +kernel⟩, List.mem_of_getElem? (i := 623) (by decide +kernel), List.mem_of_getElem? (i := 906) (by decide +kernel), List.mem_of_getElem? (i := 907) (by decide +kernel)⟩
theorem lw_p46 : lw_okq (⟨"SwornLaneModel", "comeBack", "(I)V"⟩, 37) := ⟨⟨by decide +kernel, by decide +kernel⟩, List.mem_of_getElem? (i := 623) (by decide +kernel), List.mem_of_getElem? (i := 910) (by decide +kernel), List.mem_of_getElem? (i := 911) (by decide +kernel)⟩
theorem lw_p47 : lw_okq (⟨"SwornLaneModel", "back", "(I)I"⟩, 37) := ⟨⟨by decide +kernel, by decide +kernel⟩, List.mem_of_getElem? (i := 623) (by decide +kernel), List.mem_of_getElem? (i := 914) (by decide +kernel), List.mem_of_getElem? (i := 915) (by decide +kernel)⟩
def lw_privs_3 : List (MethodName × Nat) := [(⟨"SwornLaneModel", "carryAll", "(Z)V"⟩, 37), (⟨"SwornLaneModel", "carry", "(I)I"⟩, 37), (⟨"SwornLaneModel", "carryRow", "([II)V"⟩, 37), (⟨"SwornLaneModel", "goSessions", "()V"⟩, 37), (⟨"SwornLaneModel", "whyNot", "(III)I"⟩, 37), (⟨"SwornLaneModel", "whyNoWay", "(IIZ)I"⟩, 37), (⟨"SwornLaneModel", "whyNotDeed", "(III)I"⟩, 37), (⟨"SwornLaneModel", "whyNotBack", "(I)I"⟩, 37), (⟨"SwornLaneModel", "goOne", "(I)V"⟩, 37), (⟨"SwornLaneModel", "happen", "(III)V"⟩, 37), (⟨"SwornLaneModel", "passHour", "()V"⟩, 37), (⟨"SwornLaneModel", "fade", "(I)V"⟩, 37), (⟨"SwornLaneModel", "sit", "(I)V"⟩, 37), (⟨"SwornLaneModel", "happenToOne", "(III)V"⟩, 37), (⟨"SwornLaneModel", "comeBack", "(I)V"⟩, 37), (⟨"SwornLaneModel", "back", "(I)I"⟩, 37)]
theorem lw_r3 : ∀ q ∈ lw_privs_3, lw_okq q := List.forall_mem_cons.mpr ⟨lw_p32, List.forall_mem_cons.mpr ⟨lw_p33, List.forall_mem_cons.mpr ⟨lw_p34, List.forall_mem_cons.mpr ⟨lw_p35, List.forall_mem_cons.mpr ⟨lw_p36, List.forall_mem_cons.mpr ⟨lw_p37, List.forall_mem_cons.mpr ⟨lw_p38, List.forall_mem_cons.mpr ⟨lw_p39, List.forall_mem_cons.mpr ⟨lw_p40, List.forall_mem_cons.mpr ⟨lw_p41, List.forall_mem_cons.mpr ⟨lw_p42, List.forall_mem_cons.mpr ⟨lw_p43, List.forall_mem_cons.mpr ⟨lw_p44, List.forall_mem_cons.mpr ⟨lw_p45, List.forall_mem_cons.mpr ⟨lw_p46, List.forall_mem_cons.mpr ⟨lw_p47, fun _ h => absurd h List.not_mem_nil⟩⟩⟩⟩⟩⟩⟩⟩⟩⟩⟩⟩⟩⟩⟩⟩
theorem lw_p48 : lw_okq (⟨"SwornLaneModel", "ofPerson", "(II)I"⟩, 37) := ⟨⟨by decide +kernel, by decide +kernel⟩, List.mem_of_getElem? (i := 623) (by decide +kernel), List.mem_of_getElem? (i := 923) (by decide +kernel), List.mem_of_getElem? (i := 924) (by decide +kernel)⟩
theorem lw_p49 : lw_okq (⟨"SwornLaneModel", "carriedBy", "(I)I"⟩, 37) := ⟨⟨by decide +kernel, by decide +kernel⟩, List.mem_of_getElem? (i := 623) (by decide +kernel), List.mem_of_getElem? (i := 927) (by decide +kernel), List.mem_of_getElem? (i := 928) (by decide +kernel)⟩
theorem lw_p50 : lw_okq (⟨"SwornLaneModel", "ofAll", "(I)I"⟩, 37) := ⟨⟨by decide +kernel, by decide +kernel⟩, List.mem_of_getElem? (i := 623) (by decide +kernel), List.mem_of_getElem? (i := 940) (by decide +kernel), List.mem_of_getElem? (i := 941) (by decide +kernel)⟩
theorem lw_p51 : lw_okq (⟨"SwornLaneModel", "whoIsThere", "()I"⟩, 37) := ⟨⟨by decide +kernel, by decide +kernel⟩, List.mem_of_getElem? (i := 623) (by decide +kernel), List.mem_of_getElem? (i := 944) (by decide +kernel), List.mem_of_getElem? (i := 945) (by decide +kernel)⟩
theorem lw_p52 : lw_okq (⟨"SwornLaneModel", "whoSits", "()I"⟩, 37) := ⟨⟨by decide +kernel, by decide +kernel⟩, List.mem_of_getElem? (i := 623) (by decide +kernel), List.mem_of_getElem? (i := 948) (by decide +kernel), List.mem_of_getElem? (i := 949) (by decide +kernel)⟩
theorem lw_p53 : lw_okq (⟨"SwornLaneModel", "besideAll", "(I)I"⟩, 37) := ⟨⟨by decide +kernel, by decide +kernel⟩, List.mem_of_getElem? (i := 623) (by decide +kernel), List.mem_of_getElem? (i := 964) (by decide +kernel), List.mem_of_getElem? (i := 965) (by decide +kernel)⟩
theorem lw_p54 : lw_okq (⟨"SwornLaneModel", "waysOut", "(I)I"⟩, 37) := ⟨⟨by decide +kernel, by decide +kernel⟩, List.mem_of_getElem? (i := 623) (by decide +kernel), List.mem_of_getElem? (i := 972) (by decide +kernel), List.mem_of_getElem? (i := 973) (by decide +kernel)⟩
theorem lw_p55 : lw_okq (⟨"SwornLaneModel", "closedOf", "(I)I"⟩, 37) := ⟨⟨by decide +kernel, by decide +kernel⟩, List.mem_of_getElem? (i := 623) (by decide +kernel), List.mem_of_getElem? (i := 989) (by decide +kernel), List.mem_of_getElem? (i := 990) (by decide +kernel)⟩
theorem lw_p56 : lw_okq (⟨"SwornLaneModel", "onceMore", "(I)I"⟩, 37) := ⟨⟨by decide +kernel, by decide +kernel⟩, List.mem_of_getElem? (i := 623) (by decide +kernel), List.mem_of_getElem? (i := 993) (by decide +kernel), List.mem_of_getElem? (i := 994) (by decide +kernel)⟩
theorem lw_p57 : lw_okq (⟨"SwornLaneModel", "isFit", "(I)Z"⟩, 37) := ⟨⟨by decide +kernel, by decide +kernel⟩, List.mem_of_getElem? (i := 623) (by decide +kernel), List.mem_of_getElem? (i := 1016) (by decide +kernel), List.mem_of_getElem? (i := 1017) (by decide +kernel)⟩
theorem lw_p58 : lw_okq (⟨"SwornLaneModel", "mostLeft", "(III)I"⟩, 37) := ⟨⟨by decide +kernel, by decide +kernel⟩, List.mem_of_getElem? (i := 623) (by decide +kernel), List.mem_of_getElem? (i := 1027) (by decide +kernel), List.mem_of_getElem? (i := 1028) (by decide +kernel)⟩
theorem lw_p59 : lw_okq (⟨"SwornLaneModel", "leastGo", "(II)I"⟩, 37) := ⟨⟨by decide +kernel, by decide +kernel⟩, List.mem_of_getElem? (i := 623) (by decide +kernel), List.mem_of_getElem? (i := 1035) (by decide +kernel), List.mem_of_getElem? (i := 1036) (by decide +kernel)⟩
theorem lw_p60 : lw_okq (⟨"SwornLaneModel", "layNet", "(II)V"⟩, 37) := ⟨⟨by decide +kernel, by decide +kernel⟩, List.mem_of_getElem? (i := 623) (by decide +kernel), List.mem_of_getElem? (i := 1048) (by decide +kernel), List.mem_of_getElem? (i := 1049) (by decide +kernel)⟩
theorem lw_p61 : lw_okq (⟨"SwornLaneModel", "hangs", "(I)Z"⟩, 37) := ⟨⟨by decide +kernel, by decide +kernel⟩, List.mem_of_getElem? (i := 623) (by decide +kernel), List.mem_of_getElem? (i := 1052) (by decide +kernel), List.mem_of_getElem? (i := 1053) (by decide +kernel)⟩
theorem lw_p62 : lw_okq (⟨"SwornLaneModel", "drawn", "(II)V"⟩, 37) := ⟨⟨by decide +kernel, by decide +kernel⟩, List.mem_of_getElem? (i := 623) (by decide +kernel), List.mem_of_getElem? (i := 1068) (by decide +kernel), List.mem_of_getElem? (i := 1069) (by decide +kernel)⟩
theorem lw_p63 : lw_okq (⟨"SwornLaneModel", "passAll", "()V"⟩, 37) := ⟨⟨by decide +kernel, by decide +kernel⟩, List.mem_of_getElem? (i := 623) (by decide +kernel), List.mem_of_getElem? (i := 1079) (by decide +kernel), List.mem_of_getElem? (i := 1080) (by decide +kernel)⟩
def lw_privs_4 : List (MethodName × Nat) := [(⟨"SwornLaneModel", "ofPerson", "(II)I"⟩, 37), (⟨"SwornLaneModel", "carriedBy", "(I)I"⟩, 37), (⟨"SwornLaneModel", "ofAll", "(I)I"⟩, 37), (⟨"SwornLaneModel", "whoIsThere", "()I"⟩, 37), (⟨"SwornLaneModel", "whoSits", "()I"⟩, 37), (⟨"SwornLaneModel", "besideAll", "(I)I"⟩, 37), (⟨"SwornLaneModel", "waysOut", "(I)I"⟩, 37), (⟨"SwornLaneModel", "closedOf", "(I)I"⟩, 37), (⟨"SwornLaneModel", "onceMore", "(I)I"⟩, 37), (⟨"SwornLaneModel", "isFit", "(I)Z"⟩, 37), (⟨"SwornLaneModel", "mostLeft", "(III)I"⟩, 37), (⟨"SwornLaneModel", "leastGo", "(II)I"⟩, 37), (⟨"SwornLaneModel", "layNet", "(II)V"⟩, 37), (⟨"SwornLaneModel", "hangs", "(I)Z"⟩, 37), (⟨"SwornLaneModel", "drawn", "(II)V"⟩, 37), (⟨"SwornLaneModel", "passAll", "()V"⟩, 37)]
theorem lw_r4 : ∀ q ∈ lw_privs_4, lw_okq q := List.forall_mem_cons.mpr ⟨lw_p48, List.forall_mem_cons.mpr ⟨lw_p49, List.forall_mem_cons.mpr ⟨lw_p50, List.forall_mem_cons.mpr ⟨lw_p51, List.forall_mem_cons.mpr ⟨lw_p52, List.forall_mem_cons.mpr ⟨lw_p53, List.forall_mem_cons.mpr ⟨lw_p54, List.forall_mem_cons.mpr ⟨lw_p55, List.forall_mem_cons.mpr ⟨lw_p56, List.forall_mem_cons.mpr ⟨lw_p57, List.forall_mem_cons.mpr ⟨lw_p58, List.forall_mem_cons.mpr ⟨lw_p59, List.forall_mem_cons.mpr ⟨lw_p60, List.forall_mem_cons.mpr ⟨lw_p61, List.forall_mem_cons.mpr ⟨lw_p62, List.forall_mem_cons.mpr ⟨lw_p63, fun _ h => absurd h List.not_mem_nil⟩⟩⟩⟩⟩⟩⟩⟩⟩⟩⟩⟩⟩⟩⟩⟩
theorem lw_p64 : lw_okq (⟨"SwornLaneModel", "pass", "(I)I"⟩, 37) := ⟨⟨by decide +kernel, by decide +kernel⟩, List.mem_of_getElem? (i := 623) (by decide +kernel), List.mem_of_getElem? (i := 1083) (by decide +kernel), List.mem_of_getElem? (i := 1084) (by decide +kernel)⟩
theorem lw_p65 : lw_okq (⟨"SwornLaneModel", "passRow", "([II)V"⟩, 37) := ⟨⟨by decide +kernel, by decide +kernel⟩, List.mem_of_getElem? (i := 623) (by decide +kernel), List.mem_of_getElem? (i := 1087) (by decide +kernel), List.mem_of_getElem? (i := 1088) (by decide +kernel)⟩
theorem lw_p66 : lw_okq (⟨"SwornLaneModel", "toldOfPerson", "(I)I"⟩, 37) := ⟨⟨by decide +kernel, by decide +kernel⟩, List.mem_of_getElem? (i := 623) (by decide +kernel), List.mem_of_getElem? (i := 1100) (by decide +kernel), List.mem_of_getElem? (i := 1101) (by decide +kernel)⟩
theorem lw_p67 : lw_okq (⟨"SwornLaneModel", "toldOfOther", "(I)I"⟩, 37) := ⟨⟨by decide +kernel, by decide +kernel⟩, List.mem_of_getElem? (i := 623) (by decide +kernel), List.mem_of_getElem? (i := 1106) (by decide +kernel), List.mem_of_getElem? (i := 1107) (by decide +kernel)⟩
theorem lw_p68 : lw_okq (⟨"SwornLaneModel", "toldOfAll", "(I)I"⟩, 37) := ⟨⟨by decide +kernel, by decide +kernel⟩, List.mem_of_getElem? (i := 623) (by decide +kernel), List.mem_of_getElem? (i := 1110) (by decide +kernel), List.mem_of_getElem? (i := 1111) (by decide +kernel)⟩
def lw_privs_5 : List (MethodName × Nat) := [(⟨"SwornLaneModel", "pass", "(I)I"⟩, 37), (⟨"SwornLaneModel", "passRow", "([II)V"⟩, 37), (⟨"SwornLaneModel", "toldOfPerson", "(I)I"⟩, 37), (⟨"SwornLaneModel", "toldOfOther", "(I)I"⟩, 37), (⟨"SwornLaneModel", "toldOfAll", "(I)I"⟩, 37)]
theorem lw_r5 : ∀ q ∈ lw_privs_5, lw_okq q := List.forall_mem_cons.mpr ⟨lw_p64, List.forall_mem_cons.mpr ⟨lw_p65, List.forall_mem_cons.mpr ⟨lw_p66, List.forall_mem_cons.mpr ⟨lw_p67, List.forall_mem_cons.mpr ⟨lw_p68, fun _ h => absurd h List.not_mem_nil⟩⟩⟩⟩⟩
def lw_privs : List (MethodName × Nat) := lw_privs_1 ++ (lw_privs_2 ++ (lw_privs_3 ++ (lw_privs_4 ++ (lw_privs_5))))
def lw_tbl : List Cond := k2_sels lw_privs ++ tables_1
theorem lw_privs_ok : ∀ q ∈ lw_privs, lw_okq q := by
  show ∀ q ∈ lw_privs_1 ++ (lw_privs_2 ++ (lw_privs_3 ++ (lw_privs_4 ++ (lw_privs_5)))), lw_okq q
  exact List.forall_mem_append.mpr ⟨lw_r1, List.forall_mem_append.mpr ⟨lw_r2, List.forall_mem_append.mpr ⟨lw_r3, List.forall_mem_append.mpr ⟨lw_r4, lw_r5⟩⟩⟩⟩
def RX0 : String := "SwornLane$Chance"
def TX0 : u_T := fun k => match k with
  | _ => ("SwornLane$Chance", "together", "[J", true)
def tyX0 : Nat → FieldType := fun k => match k with
  | _ => .array .long
abbrev wsX00 : List Cond := u_ws RX0 TX0 1
theorem nmX0 : ∀ a, a < 1 → ∀ b, b < 1 → a ≠ b → (TX0 a).2.1 ≠ (TX0 b).2.1 := by decide +kernel
theorem tyX0_ok : ∀ k, k < 1 → parseFieldDescriptor (TX0 k).2.2.1 = some (tyX0 k) := by decide +kernel
abbrev cX0_init : ByteArray := prog_2_method_1_code
def yX0_init : MethodName := ⟨RX0, "<init>", "()V"⟩
abbrev cX0_hangingTogether : ByteArray := prog_2_method_2_code
def yX0_hangingTogether : MethodName := ⟨RX0, "hangingTogether", "(II)J"⟩
abbrev cX0_apart : ByteArray := prog_2_method_3_code
def yX0_apart : MethodName := ⟨RX0, "apart", "(II)J"⟩
def RX1 : String := "SwornLane$Country"
def TX1 : u_T := fun k => match k with
  | 0 => ("SwornLane$Country", "ways", "[I", true)
  | 1 => ("SwornLane$Country", "thingAt", "[I", true)
  | 2 => ("SwornLane$Country", "personAt", "[I", true)
  | 3 => ("SwornLane$Country", "faint", "[I", true)
  | 4 => ("SwornLane$Country", "sitting", "I", false)
  | 5 => ("SwornLane$Country", "poleUp", "Z", false)
  | _ => ("SwornLane$Country", "hour", "I", false)
def tyX1 : Nat → FieldType := fun k => match k with
  | 0 => .array .int
  | 1 => .array .int
  | 2 => .array .int
  | 3 => .array .int
  | 4 => .int
  | 5 => .boolean
  | _ => .int
abbrev wsX10 : List Cond := u_ws RX1 TX1 7
theorem nmX1 : ∀ a, a < 7 → ∀ b, b < 7 → a ≠ b → (TX1 a).2.1 ≠ (TX1 b).2.1 := by decide +kernel
theorem tyX1_ok : ∀ k, k < 7 → parseFieldDescriptor (TX1 k).2.2.1 = some (tyX1 k) := by decide +kernel
abbrev cX1_init : ByteArray := prog_3_method_1_code
def yX1_init : MethodName := ⟨RX1, "<init>", "()V"⟩
abbrev cX1_copyFrom : ByteArray := prog_3_method_2_code
def yX1_copyFrom : MethodName := ⟨RX1, "copyFrom", "(LSwornLane$Country;)V"⟩
abbrev cX1_countWays : ByteArray := prog_3_method_3_code
def yX1_countWays : MethodName := ⟨RX1, "countWays", "()I"⟩
abbrev cX1_setWay : ByteArray := prog_3_method_4_code
def yX1_setWay : MethodName := ⟨RX1, "setWay", "(IIZ)V"⟩
abbrev cX1_cornerOfThing : ByteArray := prog_3_method_5_code
def yX1_cornerOfThing : MethodName := ⟨RX1, "cornerOfThing", "(I)I"⟩
abbrev cX1_holderOfThing : ByteArray := prog_3_method_6_code
def yX1_holderOfThing : MethodName := ⟨RX1, "holderOfThing", "(I)I"⟩
abbrev cX1_carriedBy : ByteArray := prog_3_method_7_code
def yX1_carriedBy : MethodName := ⟨RX1, "carriedBy", "(I)I"⟩
abbrev cX1_cornerOfPerson : ByteArray := prog_3_method_8_code
def yX1_cornerOfPerson : MethodName := ⟨RX1, "cornerOfPerson", "(I)I"⟩
abbrev cX1_sitsAsNumber : ByteArray := prog_3_method_9_code
def yX1_sitsAsNumber : MethodName := ⟨RX1, "sitsAsNumber", "(I)I"⟩
abbrev cX1_poleAsNumber : ByteArray := prog_3_method_10_code
def yX1_poleAsNumber : MethodName := ⟨RX1, "poleAsNumber", "()I"⟩
abbrev cX1_whoIsThere : ByteArray := prog_3_method_11_code
def yX1_whoIsThere : MethodName := ⟨RX1, "whoIsThere", "()I"⟩
abbrev cX1_put : ByteArray := prog_3_method_12_code
def yX1_put : MethodName := ⟨RX1, "put", "(III)V"⟩
abbrev cX1_whyNot : ByteArray := prog_3_method_13_code
def yX1_whyNot : MethodName := ⟨RX1, "whyNot", "(III)I"⟩
abbrev cX1_whyNoWay : ByteArray := prog_3_method_14_code
def yX1_whyNoWay : MethodName := ⟨RX1, "whyNoWay", "(IIZ)I"⟩
abbrev cX1_whyNotOver : ByteArray := prog_3_method_15_code
def yX1_whyNotOver : MethodName := ⟨RX1, "whyNotOver", "(I)I"⟩
abbrev cX1_whyNotThere : ByteArray := prog_3_method_16_code
def yX1_whyNotThere : MethodName := ⟨RX1, "whyNotThere", "(III)I"⟩
abbrev cX1_perform : ByteArray := prog_3_method_17_code
def yX1_perform : MethodName := ⟨RX1, "perform", "(III)V"⟩
abbrev cX1_passHour : ByteArray := prog_3_method_18_code
def yX1_passHour : MethodName := ⟨RX1, "passHour", "()V"⟩
abbrev cX1_fewestWays : ByteArray := prog_3_method_19_code
def yX1_fewestWays : MethodName := ⟨RX1, "fewestWays", "(II)I"⟩
abbrev cX1_neighboursOf : ByteArray := prog_3_method_20_code
def yX1_neighboursOf : MethodName := ⟨RX1, "neighboursOf", "(I)I"⟩
abbrev cX1_waysOutOf : ByteArray := prog_3_method_21_code
def yX1_waysOutOf : MethodName := ⟨RX1, "waysOutOf", "(I)I"⟩
abbrev cX1_leastCut : ByteArray := prog_3_method_22_code
def yX1_leastCut : MethodName := ⟨RX1, "leastCut", "(II)I"⟩
def RX2 : String := "SwornLane$Game"
def TX2 : u_T := fun k => match k with
  | _ => ("SwornLane$Game", "winning", "[I", true)
def tyX2 : Nat → FieldType := fun k => match k with
  | _ => .array .int
abbrev wsX20 : List Cond := u_ws RX2 TX2 1
theorem nmX2 : ∀ a, a < 1 → ∀ b, b < 1 → a ≠ b → (TX2 a).2.1 ≠ (TX2 b).2.1 := by decide +kernel
theorem tyX2_ok : ∀ k, k < 1 → parseFieldDescriptor (TX2 k).2.2.1 = some (tyX2 k) := by decide +kernel
abbrev cX2_init : ByteArray := prog_4_method_1_code
def yX2_init : MethodName := ⟨RX2, "<init>", "()V"⟩
abbrev cX2_firstStep : ByteArray := prog_4_method_2_code
def yX2_firstStep : MethodName := ⟨RX2, "firstStep", "([II)I"⟩
abbrev cX2_winningFrom : ByteArray := prog_4_method_3_code
def yX2_winningFrom : MethodName := ⟨RX2, "winningFrom", "([II)I"⟩
abbrev cX2_winningStep : ByteArray := prog_4_method_4_code
def yX2_winningStep : MethodName := ⟨RX2, "winningStep", "([III)I"⟩
def RX3 : String := "SwornLane$Pad"
def TX3 : u_T := fun k => match k with
  | 0 => ("SwornLane$Pad", "signs", "[I", true)
  | 1 => ("SwornLane$Pad", "count", "I", false)
  | 2 => ("SwornLane$Pad", "place", "I", false)
  | 3 => ("SwornLane$Pad", "kind", "I", false)
  | 4 => ("SwornLane$Pad", "one", "I", false)
  | _ => ("SwornLane$Pad", "other", "I", false)
def tyX3 : Nat → FieldType := fun k => match k with
  | 0 => .array .int
  | 1 => .int
  | 2 => .int
  | 3 => .int
  | 4 => .int
  | _ => .int
abbrev wsX30 : List Cond := u_ws RX3 TX3 6
theorem nmX3 : ∀ a, a < 6 → ∀ b, b < 6 → a ≠ b → (TX3 a).2.1 ≠ (TX3 b).2.1 := by decide +kernel
theorem tyX3_ok : ∀ k, k < 6 → parseFieldDescriptor (TX3 k).2.2.1 = some (tyX3 k) := by decide +kernel
abbrev cX3_init : ByteArray := prog_5_method_1_code
def yX3_init : MethodName := ⟨RX3, "<init>", "()V"⟩
abbrev cX3_add : ByteArray := prog_5_method_2_code
def yX3_add : MethodName := ⟨RX3, "add", "(I)Z"⟩
abbrev cX3_rewind : ByteArray := prog_5_method_3_code
def yX3_rewind : MethodName := ⟨RX3, "rewind", "()V"⟩
abbrev cX3_findFault : ByteArray := prog_5_method_4_code
def yX3_findFault : MethodName := ⟨RX3, "findFault", "()I"⟩
abbrev cX3_readAct : ByteArray := prog_5_method_5_code
def yX3_readAct : MethodName := ⟨RX3, "readAct", "()Z"⟩
abbrev cX3_readDeed : ByteArray := prog_5_method_6_code
def yX3_readDeed : MethodName := ⟨RX3, "readDeed", "()Z"⟩
abbrev cX3_readLone : ByteArray := prog_5_method_7_code
def yX3_readLone : MethodName := ⟨RX3, "readLone", "(I)Z"⟩
abbrev cX3_readPair : ByteArray := prog_5_method_8_code
def yX3_readPair : MethodName := ⟨RX3, "readPair", "(ICI)Z"⟩
abbrev cX3_signHere : ByteArray := prog_5_method_9_code
def yX3_signHere : MethodName := ⟨RX3, "signHere", "()I"⟩
abbrev cX3_take : ByteArray := prog_5_method_10_code
def yX3_take : MethodName := ⟨RX3, "take", "(CI)I"⟩
def RX4 : String := "SwornLane$Rules"
def TX4 : u_T := fun k => match k with
  | 0 => ("SwornLane$Rules", "grounds", "[I", true)
  | 1 => ("SwornLane$Rules", "claims", "[I", true)
  | _ => ("SwornLane$Rules", "count", "I", false)
def tyX4 : Nat → FieldType := fun k => match k with
  | 0 => .array .int
  | 1 => .array .int
  | _ => .int
abbrev wsX40 : List Cond := u_ws RX4 TX4 3
theorem nmX4 : ∀ a, a < 3 → ∀ b, b < 3 → a ≠ b → (TX4 a).2.1 ≠ (TX4 b).2.1 := by decide +kernel
theorem tyX4_ok : ∀ k, k < 3 → parseFieldDescriptor (TX4 k).2.2.1 = some (tyX4 k) := by decide +kernel
abbrev cX4_init : ByteArray := prog_6_method_1_code
def yX4_init : MethodName := ⟨RX4, "<init>", "()V"⟩
abbrev cX4_copyFrom : ByteArray := prog_6_method_2_code
def yX4_copyFrom : MethodName := ⟨RX4, "copyFrom", "(LSwornLane$Rules;)V"⟩
abbrev cX4_add : ByteArray := prog_6_method_3_code
def yX4_add : MethodName := ⟨RX4, "add", "(III)Z"⟩
abbrev cX4_closure : ByteArray := prog_6_method_4_code
def yX4_closure : MethodName := ⟨RX4, "closure", "(I)I"⟩
abbrev cX4_leastGrounds : ByteArray := prog_6_method_5_code
def yX4_leastGrounds : MethodName := ⟨RX4, "leastGrounds", "(I)I"⟩
def RX5 : String := "SwornLane$Sights"
def TX5 : u_T := fun k => match k with
  | 0 => ("SwornLane$Sights", "sets", "[I", true)
  | _ => ("SwornLane$Sights", "count", "I", false)
def tyX5 : Nat → FieldType := fun k => match k with
  | 0 => .array .int
  | _ => .int
abbrev wsX50 : List Cond := u_ws RX5 TX5 2
theorem nmX5 : ∀ a, a < 2 → ∀ b, b < 2 → a ≠ b → (TX5 a).2.1 ≠ (TX5 b).2.1 := by decide +kernel
theorem tyX5_ok : ∀ k, k < 2 → parseFieldDescriptor (TX5 k).2.2.1 = some (tyX5 k) := by decide +kernel
abbrev cX5_init : ByteArray := prog_7_method_1_code
def yX5_init : MethodName := ⟨RX5, "<init>", "()V"⟩
abbrev cX5_copyFrom : ByteArray := prog_7_method_2_code
def yX5_copyFrom : MethodName := ⟨RX5, "copyFrom", "(LSwornLane$Sights;)V"⟩
abbrev cX5_add : ByteArray := prog_7_method_3_code
def yX5_add : MethodName := ⟨RX5, "add", "(I)Z"⟩
abbrev cX5_fitting : ByteArray := prog_7_method_4_code
def yX5_fitting : MethodName := ⟨RX5, "fitting", "()I"⟩
def RX6 : String := "SwornLane$Trial"
def TX6 : u_T := fun k => match k with
  | 0 => ("SwornLane$Trial", "country", "LSwornLane$Country;", true)
  | 1 => ("SwornLane$Trial", "acts", "I", false)
  | 2 => ("SwornLane$Trial", "why", "I", false)
  | 3 => ("SwornLane$Trial", "sat", "I", false)
  | 4 => ("SwornLane$Trial", "firstAct", "I", false)
  | _ => ("SwornLane$Trial", "firstWho", "I", false)
def tyX6 : Nat → FieldType := fun k => match k with
  | 0 => .object "SwornLane$Country"
  | 1 => .int
  | 2 => .int
  | 3 => .int
  | 4 => .int
  | _ => .int
abbrev wsX60 : List Cond := u_ws RX6 TX6 6
theorem nmX6 : ∀ a, a < 6 → ∀ b, b < 6 → a ≠ b → (TX6 a).2.1 ≠ (TX6 b).2.1 := by decide +kernel
theorem tyX6_ok : ∀ k, k < 6 → parseFieldDescriptor (TX6 k).2.2.1 = some (tyX6 k) := by decide +kernel
abbrev cX6_init : ByteArray := prog_8_method_1_code
def yX6_init : MethodName := ⟨RX6, "<init>", "()V"⟩
abbrev cX6_begin : ByteArray := prog_8_method_2_code
def yX6_begin : MethodName := ⟨RX6, "begin", "(LSwornLane$Country;)V"⟩
abbrev cX6_attempt : ByteArray := prog_8_method_3_code
def yX6_attempt : MethodName := ⟨RX6, "attempt", "(III)Z"⟩
abbrev cX6_noteSitters : ByteArray := prog_8_method_4_code
def yX6_noteSitters : MethodName := ⟨RX6, "noteSitters", "(I)V"⟩
def RX7 : String := "SwornLane$World"
def TX7 : u_T := fun k => match k with
  | 0 => ("SwornLane$World", "country", "LSwornLane$Country;", true)
  | 1 => ("SwornLane$World", "rules", "LSwornLane$Rules;", true)
  | _ => ("SwornLane$World", "sights", "LSwornLane$Sights;", true)
def tyX7 : Nat → FieldType := fun k => match k with
  | 0 => .object "SwornLane$Country"
  | 1 => .object "SwornLane$Rules"
  | _ => .object "SwornLane$Sights"
abbrev wsX70 : List Cond := u_ws RX7 TX7 3
theorem nmX7 : ∀ a, a < 3 → ∀ b, b < 3 → a ≠ b → (TX7 a).2.1 ≠ (TX7 b).2.1 := by decide +kernel
theorem tyX7_ok : ∀ k, k < 3 → parseFieldDescriptor (TX7 k).2.2.1 = some (tyX7 k) := by decide +kernel
abbrev cX7_init : ByteArray := prog_9_method_1_code
def yX7_init : MethodName := ⟨RX7, "<init>", "()V"⟩
abbrev cX7_copyFrom : ByteArray := prog_9_method_2_code
def yX7_copyFrom : MethodName := ⟨RX7, "copyFrom", "(LSwornLane$World;)V"⟩
def RX8 : String := "SwornLane"
def TX8 : u_T := fun k => match k with
  | 0 => ("SwornLane", "now", "LSwornLane$World;", true)
  | 1 => ("SwornLane", "images", "[LSwornLane$World;", true)
  | 2 => ("SwornLane", "pad", "LSwornLane$Pad;", true)
  | 3 => ("SwornLane", "trial", "LSwornLane$Trial;", true)
  | 4 => ("SwornLane", "game", "LSwornLane$Game;", true)
  | _ => ("SwornLane", "chance", "LSwornLane$Chance;", true)
def tyX8 : Nat → FieldType := fun k => match k with
  | 0 => .object "SwornLane$World"
  | 1 => .array (.object "SwornLane$World")
  | 2 => .object "SwornLane$Pad"
  | 3 => .object "SwornLane$Trial"
  | 4 => .object "SwornLane$Game"
  | _ => .object "SwornLane$Chance"
abbrev wsX80 : List Cond := u_ws RX8 TX8 6
theorem nmX8 : ∀ a, a < 6 → ∀ b, b < 6 → a ≠ b → (TX8 a).2.1 ≠ (TX8 b).2.1 := by decide +kernel
theorem tyX8_ok : ∀ k, k < 6 → parseFieldDescriptor (TX8 k).2.2.1 = some (tyX8 k) := by decide +kernel
abbrev cX8_init : ByteArray := prog_1_method_1_code
def yX8_init : MethodName := ⟨RX8, "<init>", "()V"⟩
abbrev cX8_way : ByteArray := prog_1_method_2_code
def yX8_way : MethodName := ⟨RX8, "way", "(IIZ)I"⟩
abbrev cX8_thing : ByteArray := prog_1_method_3_code
def yX8_thing : MethodName := ⟨RX8, "thing", "(II)I"⟩
abbrev cX8_person : ByteArray := prog_1_method_4_code
def yX8_person : MethodName := ⟨RX8, "person", "(III)I"⟩
abbrev cX8_pole : ByteArray := prog_1_method_5_code
def yX8_pole : MethodName := ⟨RX8, "pole", "(Z)I"⟩
abbrev cX8_say : ByteArray := prog_1_method_6_code
def yX8_say : MethodName := ⟨RX8, "say", "(I)I"⟩
abbrev cX8_wipe : ByteArray := prog_1_method_7_code
def yX8_wipe : MethodName := ⟨RX8, "wipe", "()I"⟩
abbrev cX8_fault : ByteArray := prog_1_method_8_code
def yX8_fault : MethodName := ⟨RX8, "fault", "()I"⟩
abbrev cX8_judge : ByteArray := prog_1_method_9_code
def yX8_judge : MethodName := ⟨RX8, "judge", "(I)I"⟩
abbrev cX8_behind : ByteArray := prog_1_method_10_code
def yX8_behind : MethodName := ⟨RX8, "behind", "(II)I"⟩
abbrev cX8_lies : ByteArray := prog_1_method_11_code
def yX8_lies : MethodName := ⟨RX8, "lies", "(II)I"⟩
abbrev cX8_there : ByteArray := prog_1_method_12_code
def yX8_there : MethodName := ⟨RX8, "there", "(I)I"⟩
abbrev cX8_first : ByteArray := prog_1_method_13_code
def yX8_first : MethodName := ⟨RX8, "first", "(I)I"⟩
abbrev cX8_done : ByteArray := prog_1_method_14_code
def yX8_done : MethodName := ⟨RX8, "done", "()I"⟩
abbrev cX8_join : ByteArray := prog_1_method_15_code
def yX8_join : MethodName := ⟨RX8, "join", "(II)I"⟩
abbrev cX8_cut : ByteArray := prog_1_method_16_code
def yX8_cut : MethodName := ⟨RX8, "cut", "(III)I"⟩
abbrev cX8_rule : ByteArray := prog_1_method_17_code
def yX8_rule : MethodName := ⟨RX8, "rule", "(III)I"⟩
abbrev cX8_unrule : ByteArray := prog_1_method_18_code
def yX8_unrule : MethodName := ⟨RX8, "unrule", "()I"⟩
abbrev cX8_close : ByteArray := prog_1_method_19_code
def yX8_close : MethodName := ⟨RX8, "close", "(I)I"⟩
abbrev cX8_least : ByteArray := prog_1_method_20_code
def yX8_least : MethodName := ⟨RX8, "least", "(II)I"⟩
abbrev cX8_swore : ByteArray := prog_1_method_21_code
def yX8_swore : MethodName := ⟨RX8, "swore", "(IIIZ)I"⟩
abbrev cX8_forget : ByteArray := prog_1_method_22_code
def yX8_forget : MethodName := ⟨RX8, "forget", "()I"⟩
abbrev cX8_liars : ByteArray := prog_1_method_23_code
def yX8_liars : MethodName := ⟨RX8, "liars", "(I)I"⟩
abbrev cX8_ask : ByteArray := prog_1_method_24_code
def yX8_ask : MethodName := ⟨RX8, "ask", "(I)I"⟩
abbrev cX8_walk : ByteArray := prog_1_method_25_code
def yX8_walk : MethodName := ⟨RX8, "walk", "(II)I"⟩
abbrev cX8_hang : ByteArray := prog_1_method_26_code
def yX8_hang : MethodName := ⟨RX8, "hang", "(IIII)J"⟩
abbrev cX8_year : ByteArray := prog_1_method_27_code
def yX8_year : MethodName := ⟨RX8, "year", "(III)I"⟩
abbrev cX8_image : ByteArray := prog_1_method_28_code
def yX8_image : MethodName := ⟨RX8, "image", "(I)I"⟩
abbrev cX8_restore : ByteArray := prog_1_method_29_code
def yX8_restore : MethodName := ⟨RX8, "restore", "(I)I"⟩
abbrev cX8_told : ByteArray := prog_1_method_30_code
def yX8_told : MethodName := ⟨RX8, "told", "(I)I"⟩
abbrev cX8_isWithin : ByteArray := prog_1_method_31_code
def yX8_isWithin : MethodName := ⟨RX8, "isWithin", "(III)Z"⟩
abbrev cX8_isCorner : ByteArray := prog_1_method_32_code
def yX8_isCorner : MethodName := ⟨RX8, "isCorner", "(I)Z"⟩
abbrev cX8_isThing : ByteArray := prog_1_method_33_code
def yX8_isThing : MethodName := ⟨RX8, "isThing", "(I)Z"⟩
abbrev cX8_isPerson : ByteArray := prog_1_method_34_code
def yX8_isPerson : MethodName := ⟨RX8, "isPerson", "(I)Z"⟩
abbrev cX8_isClaim : ByteArray := prog_1_method_35_code
def yX8_isClaim : MethodName := ⟨RX8, "isClaim", "(I)Z"⟩
abbrev cX8_isQuestion : ByteArray := prog_1_method_36_code
def yX8_isQuestion : MethodName := ⟨RX8, "isQuestion", "(III)Z"⟩
abbrev cX8_holds : ByteArray := prog_1_method_37_code
def yX8_holds : MethodName := ⟨RX8, "holds", "(II)Z"⟩
abbrev cX8_playSession : ByteArray := prog_1_method_38_code
def yX8_playSession : MethodName := ⟨RX8, "playSession", "()I"⟩
abbrev cX8_tellOfAll : ByteArray := prog_1_method_39_code
def yX8_tellOfAll : MethodName := ⟨RX8, "tellOfAll", "(I)I"⟩
abbrev cX8_tellOfPerson : ByteArray := prog_1_method_40_code
def yX8_tellOfPerson : MethodName := ⟨RX8, "tellOfPerson", "(II)I"⟩
abbrev cX8_tellOfThing : ByteArray := prog_1_method_41_code
def yX8_tellOfThing : MethodName := ⟨RX8, "tellOfThing", "(II)I"⟩
abbrev cX8_liveYear : ByteArray := prog_1_method_42_code
def yX8_liveYear : MethodName := ⟨RX8, "liveYear", "(II)V"⟩
abbrev cX8_attemptDrawn : ByteArray := prog_1_method_43_code
def yX8_attemptDrawn : MethodName := ⟨RX8, "attemptDrawn", "(II)V"⟩
abbrev cX8_setsOfYes : ByteArray := prog_1_method_44_code
def yX8_setsOfYes : MethodName := ⟨RX8, "setsOfYes", "(III)I"⟩
abbrev cX8_isTrue : ByteArray := prog_1_method_45_code
def yX8_isTrue : MethodName := ⟨RX8, "isTrue", "(III)Z"⟩
abbrev cX8_bestQuestion : ByteArray := prog_1_method_46_code
def yX8_bestQuestion : MethodName := ⟨RX8, "bestQuestion", "(I)I"⟩
abbrev cX8_mostLeft : ByteArray := prog_1_method_47_code
def yX8_mostLeft : MethodName := ⟨RX8, "mostLeft", "(II)I"⟩
abbrev cX8_placeOfBit : ByteArray := prog_1_method_48_code
def yX8_placeOfBit : MethodName := ⟨RX8, "placeOfBit", "(II)I"⟩
abbrev cX8_pairs : ByteArray := prog_1_method_49_code
def yX8_pairs : MethodName := ⟨RX8, "pairs", "(I)I"⟩
abbrev cX8_power : ByteArray := prog_1_method_50_code
def yX8_power : MethodName := ⟨RX8, "power", "(JI)J"⟩
abbrev cX8_partOf : ByteArray := prog_1_method_51_code
def yX8_partOf : MethodName := ⟨RX8, "partOf", "(JJI)J"⟩
abbrev cX8_commonDivisor : ByteArray := prog_1_method_52_code
def yX8_commonDivisor : MethodName := ⟨RX8, "commonDivisor", "(JJ)J"⟩
def RX9 : String := "SwornLaneModel"
def TX9 : u_T := fun k => match k with
  | 0 => ("SwornLaneModel", "beside", "[I", true)
  | 1 => ("SwornLaneModel", "place", "[I", true)
  | 2 => ("SwornLaneModel", "stands", "[I", true)
  | 3 => ("SwornLaneModel", "faint", "[I", true)
  | 4 => ("SwornLaneModel", "sits", "[I", true)
  | 5 => ("SwornLaneModel", "isUp", "I", false)
  | 6 => ("SwornLaneModel", "hours", "I", false)
  | 7 => ("SwornLaneModel", "ruleOne", "[I", true)
  | 8 => ("SwornLaneModel", "ruleOther", "[I", true)
  | 9 => ("SwornLaneModel", "ruleThen", "[I", true)
  | 10 => ("SwornLaneModel", "rules", "I", false)
  | 11 => ("SwornLaneModel", "sightWho", "[I", true)
  | 12 => ("SwornLaneModel", "sightWhat", "[I", true)
  | 13 => ("SwornLaneModel", "sightOf", "[I", true)
  | 14 => ("SwornLaneModel", "sightYes", "[I", true)
  | 15 => ("SwornLaneModel", "sights", "I", false)
  | 16 => ("SwornLaneModel", "pad", "[I", true)
  | 17 => ("SwornLaneModel", "padMany", "I", false)
  | 18 => ("SwornLaneModel", "act", "[I", true)
  | 19 => ("SwornLaneModel", "which", "[I", true)
  | 20 => ("SwornLaneModel", "other", "[I", true)
  | 21 => ("SwornLaneModel", "acts", "I", false)
  | 22 => ("SwornLaneModel", "satAll", "I", false)
  | 23 => ("SwornLaneModel", "satNow", "I", false)
  | 24 => ("SwornLaneModel", "had", "[I", true)
  | 25 => ("SwornLaneModel", "at", "I", false)
  | 26 => ("SwornLaneModel", "isBack", "Z", false)
  | 27 => ("SwornLaneModel", "badAct", "I", false)
  | 28 => ("SwornLaneModel", "badWhy", "I", false)
  | 29 => ("SwornLaneModel", "satAct", "I", false)
  | 30 => ("SwornLaneModel", "satWho", "I", false)
  | 31 => ("SwornLaneModel", "wins", "[Z", true)
  | 32 => ("SwornLaneModel", "net", "[I", true)
  | 33 => ("SwornLaneModel", "kept", "[I", true)
  | 34 => ("SwornLaneModel", "isKept", "[Z", true)
  | 35 => ("SwornLaneModel", "keptAt", "I", false)
  | _ => ("SwornLaneModel", "isWriting", "Z", false)
def tyX9 : Nat → FieldType := fun k => match k with
  | 0 => .array .int
  | 1 => .array .int
  | 2 => .array .int
  | 3 => .array .int
  | 4 => .array .int
  | 5 => .int
  | 6 => .int
  | 7 => .array .int
  | 8 => .array .int
  | 9 => .array .int
  | 10 => .int
  | 11 => .array .int
  | 12 => .array .int
  | 13 => .array .int
  | 14 => .array .int
  | 15 => .int
  | 16 => .array .int
  | 17 => .int
  | 18 => .array .int
  | 19 => .array .int
  | 20 => .array .int
  | 21 => .int
  | 22 => .int
  | 23 => .int
  | 24 => .array .int
  | 25 => .int
  | 26 => .boolean
  | 27 => .int
  | 28 => .int
  | 29 => .int
  | 30 => .int
  | 31 => .array .boolean
  | 32 => .array .int
  | 33 => .array .int
  | 34 => .array .boolean
  | 35 => .int
  | _ => .boolean
abbrev wsX90 : List Cond := u_ws RX9 TX9 37
theorem nmX9 : ∀ a, a < 37 → ∀ b, b < 37 → a ≠ b → (TX9 a).2.1 ≠ (TX9 b).2.1 := by decide +kernel
theorem tyX9_ok : ∀ k, k < 37 → parseFieldDescriptor (TX9 k).2.2.1 = some (tyX9 k) := by decide +kernel
abbrev cX9_init : ByteArray := prog_11_method_1_code
def yX9_init : MethodName := ⟨RX9, "<init>", "()V"⟩
abbrev cX9_in : ByteArray := prog_11_method_3_code
def yX9_in : MethodName := ⟨RX9, "in", "(JJJ)Z"⟩
abbrev cX9_isCorner : ByteArray := prog_11_method_4_code
def yX9_isCorner : MethodName := ⟨RX9, "isCorner", "(I)Z"⟩
abbrev cX9_isThing : ByteArray := prog_11_method_5_code
def yX9_isThing : MethodName := ⟨RX9, "isThing", "(I)Z"⟩
abbrev cX9_isPerson : ByteArray := prog_11_method_6_code
def yX9_isPerson : MethodName := ⟨RX9, "isPerson", "(I)Z"⟩
abbrev cX9_ones : ByteArray := prog_11_method_7_code
def yX9_ones : MethodName := ⟨RX9, "ones", "(I)I"⟩
abbrev cX9_has : ByteArray := prog_11_method_8_code
def yX9_has : MethodName := ⟨RX9, "has", "(II)Z"⟩
abbrev cX9_waysAll : ByteArray := prog_11_method_9_code
def yX9_waysAll : MethodName := ⟨RX9, "waysAll", "()I"⟩
abbrev cX9_layWay : ByteArray := prog_11_method_10_code
def yX9_layWay : MethodName := ⟨RX9, "layWay", "(IIZ)V"⟩
abbrev cX9_way : ByteArray := prog_11_method_11_code
def yX9_way : MethodName := ⟨RX9, "way", "(IIZ)I"⟩
abbrev cX9_cornerOf : ByteArray := prog_11_method_12_code
def yX9_cornerOf : MethodName := ⟨RX9, "cornerOf", "(I)I"⟩
abbrev cX9_carrierOf : ByteArray := prog_11_method_13_code
def yX9_carrierOf : MethodName := ⟨RX9, "carrierOf", "(I)I"⟩
abbrev cX9_thing : ByteArray := prog_11_method_14_code
def yX9_thing : MethodName := ⟨RX9, "thing", "(II)I"⟩
abbrev cX9_drop : ByteArray := prog_11_method_15_code
def yX9_drop : MethodName := ⟨RX9, "drop", "(I)V"⟩
abbrev cX9_person : ByteArray := prog_11_method_16_code
def yX9_person : MethodName := ⟨RX9, "person", "(III)I"⟩
abbrev cX9_pole : ByteArray := prog_11_method_17_code
def yX9_pole : MethodName := ⟨RX9, "pole", "(Z)I"⟩
abbrev cX9_say : ByteArray := prog_11_method_18_code
def yX9_say : MethodName := ⟨RX9, "say", "(I)I"⟩
abbrev cX9_wipe : ByteArray := prog_11_method_19_code
def yX9_wipe : MethodName := ⟨RX9, "wipe", "()I"⟩
abbrev cX9_ends : ByteArray := prog_11_method_20_code
def yX9_ends : MethodName := ⟨RX9, "ends", "(II)I"⟩
abbrev cX9_opens : ByteArray := prog_11_method_21_code
def yX9_opens : MethodName := ⟨RX9, "opens", "(II)I"⟩
abbrev cX9_begin : ByteArray := prog_11_method_22_code
def yX9_begin : MethodName := ⟨RX9, "begin", "(I)I"⟩
abbrev cX9_deed : ByteArray := prog_11_method_23_code
def yX9_deed : MethodName := ⟨RX9, "deed", "(I)I"⟩
abbrev cX9_begun : ByteArray := prog_11_method_24_code
def yX9_begun : MethodName := ⟨RX9, "begun", "(II)I"⟩
abbrev cX9_readOn : ByteArray := prog_11_method_25_code
def yX9_readOn : MethodName := ⟨RX9, "readOn", "(II)I"⟩
abbrev cX9_fault : ByteArray := prog_11_method_26_code
def yX9_fault : MethodName := ⟨RX9, "fault", "()I"⟩
abbrev cX9_whyNoWay : ByteArray := prog_11_method_27_code
def yX9_whyNoWay : MethodName := ⟨RX9, "whyNoWay", "(IIZ)I"⟩
abbrev cX9_whyNotBack : ByteArray := prog_11_method_28_code
def yX9_whyNotBack : MethodName := ⟨RX9, "whyNotBack", "(I)I"⟩
abbrev cX9_whyNotDeed : ByteArray := prog_11_method_29_code
def yX9_whyNotDeed : MethodName := ⟨RX9, "whyNotDeed", "(III)I"⟩
abbrev cX9_whyNot : ByteArray := prog_11_method_30_code
def yX9_whyNot : MethodName := ⟨RX9, "whyNot", "(III)I"⟩
abbrev cX9_sit : ByteArray := prog_11_method_31_code
def yX9_sit : MethodName := ⟨RX9, "sit", "(I)V"⟩
abbrev cX9_comeBack : ByteArray := prog_11_method_32_code
def yX9_comeBack : MethodName := ⟨RX9, "comeBack", "(I)V"⟩
abbrev cX9_fade : ByteArray := prog_11_method_33_code
def yX9_fade : MethodName := ⟨RX9, "fade", "(I)V"⟩
abbrev cX9_passHour : ByteArray := prog_11_method_34_code
def yX9_passHour : MethodName := ⟨RX9, "passHour", "()V"⟩
abbrev cX9_happenToOne : ByteArray := prog_11_method_35_code
def yX9_happenToOne : MethodName := ⟨RX9, "happenToOne", "(III)V"⟩
abbrev cX9_happen : ByteArray := prog_11_method_36_code
def yX9_happen : MethodName := ⟨RX9, "happen", "(III)V"⟩
abbrev cX9_carry : ByteArray := prog_11_method_37_code
def yX9_carry : MethodName := ⟨RX9, "carry", "(I)I"⟩
abbrev cX9_carryRow : ByteArray := prog_11_method_38_code
def yX9_carryRow : MethodName := ⟨RX9, "carryRow", "([II)V"⟩
abbrev cX9_carryAll : ByteArray := prog_11_method_39_code
def yX9_carryAll : MethodName := ⟨RX9, "carryAll", "(Z)V"⟩
abbrev cX9_back : ByteArray := prog_11_method_40_code
def yX9_back : MethodName := ⟨RX9, "back", "(I)I"⟩
abbrev cX9_goOne : ByteArray := prog_11_method_41_code
def yX9_goOne : MethodName := ⟨RX9, "goOne", "(I)V"⟩
abbrev cX9_goSessions : ByteArray := prog_11_method_42_code
def yX9_goSessions : MethodName := ⟨RX9, "goSessions", "()V"⟩
abbrev cX9_refusal : ByteArray := prog_11_method_43_code
def yX9_refusal : MethodName := ⟨RX9, "refusal", "()I"⟩
abbrev cX9_judge : ByteArray := prog_11_method_44_code
def yX9_judge : MethodName := ⟨RX9, "judge", "(I)I"⟩
abbrev cX9_carriedBy : ByteArray := prog_11_method_45_code
def yX9_carriedBy : MethodName := ⟨RX9, "carriedBy", "(I)I"⟩
abbrev cX9_ofPerson : ByteArray := prog_11_method_46_code
def yX9_ofPerson : MethodName := ⟨RX9, "ofPerson", "(II)I"⟩
abbrev cX9_behind : ByteArray := prog_11_method_47_code
def yX9_behind : MethodName := ⟨RX9, "behind", "(II)I"⟩
abbrev cX9_lies : ByteArray := prog_11_method_48_code
def yX9_lies : MethodName := ⟨RX9, "lies", "(II)I"⟩
abbrev cX9_whoIsThere : ByteArray := prog_11_method_49_code
def yX9_whoIsThere : MethodName := ⟨RX9, "whoIsThere", "()I"⟩
abbrev cX9_whoSits : ByteArray := prog_11_method_50_code
def yX9_whoSits : MethodName := ⟨RX9, "whoSits", "()I"⟩
abbrev cX9_ofAll : ByteArray := prog_11_method_51_code
def yX9_ofAll : MethodName := ⟨RX9, "ofAll", "(I)I"⟩
abbrev cX9_there : ByteArray := prog_11_method_52_code
def yX9_there : MethodName := ⟨RX9, "there", "(I)I"⟩
abbrev cX9_first : ByteArray := prog_11_method_53_code
def yX9_first : MethodName := ⟨RX9, "first", "(I)I"⟩
abbrev cX9_done : ByteArray := prog_11_method_54_code
def yX9_done : MethodName := ⟨RX9, "done", "()I"⟩
abbrev cX9_besideAll : ByteArray := prog_11_method_55_code
def yX9_besideAll : MethodName := ⟨RX9, "besideAll", "(I)I"⟩
abbrev cX9_join : ByteArray := prog_11_method_56_code
def yX9_join : MethodName := ⟨RX9, "join", "(II)I"⟩
abbrev cX9_waysOut : ByteArray := prog_11_method_57_code
def yX9_waysOut : MethodName := ⟨RX9, "waysOut", "(I)I"⟩
abbrev cX9_cut : ByteArray := prog_11_method_58_code
def yX9_cut : MethodName := ⟨RX9, "cut", "(III)I"⟩
abbrev cX9_rule : ByteArray := prog_11_method_59_code
def yX9_rule : MethodName := ⟨RX9, "rule", "(III)I"⟩
abbrev cX9_unrule : ByteArray := prog_11_method_60_code
def yX9_unrule : MethodName := ⟨RX9, "unrule", "()I"⟩
abbrev cX9_onceMore : ByteArray := prog_11_method_61_code
def yX9_onceMore : MethodName := ⟨RX9, "onceMore", "(I)I"⟩
abbrev cX9_closedOf : ByteArray := prog_11_method_62_code
def yX9_closedOf : MethodName := ⟨RX9, "closedOf", "(I)I"⟩
abbrev cX9_close : ByteArray := prog_11_method_63_code
def yX9_close : MethodName := ⟨RX9, "close", "(I)I"⟩
abbrev cX9_least : ByteArray := prog_11_method_64_code
def yX9_least : MethodName := ⟨RX9, "least", "(II)I"⟩
abbrev cX9_isQuestion : ByteArray := prog_11_method_65_code
def yX9_isQuestion : MethodName := ⟨RX9, "isQuestion", "(III)Z"⟩
abbrev cX9_swore : ByteArray := prog_11_method_66_code
def yX9_swore : MethodName := ⟨RX9, "swore", "(IIIZ)I"⟩
abbrev cX9_forget : ByteArray := prog_11_method_67_code
def yX9_forget : MethodName := ⟨RX9, "forget", "()I"⟩
abbrev cX9_says : ByteArray := prog_11_method_68_code
def yX9_says : MethodName := ⟨RX9, "says", "(IIII)I"⟩
abbrev cX9_isFit : ByteArray := prog_11_method_69_code
def yX9_isFit : MethodName := ⟨RX9, "isFit", "(I)Z"⟩
abbrev cX9_liars : ByteArray := prog_11_method_70_code
def yX9_liars : MethodName := ⟨RX9, "liars", "(I)I"⟩
abbrev cX9_mostLeft : ByteArray := prog_11_method_71_code
def yX9_mostLeft : MethodName := ⟨RX9, "mostLeft", "(III)I"⟩
abbrev cX9_ask : ByteArray := prog_11_method_72_code
def yX9_ask : MethodName := ⟨RX9, "ask", "(I)I"⟩
abbrev cX9_leastGo : ByteArray := prog_11_method_73_code
def yX9_leastGo : MethodName := ⟨RX9, "leastGo", "(II)I"⟩
abbrev cX9_walk : ByteArray := prog_11_method_74_code
def yX9_walk : MethodName := ⟨RX9, "walk", "(II)I"⟩
abbrev cX9_layNet : ByteArray := prog_11_method_75_code
def yX9_layNet : MethodName := ⟨RX9, "layNet", "(II)V"⟩
abbrev cX9_hangs : ByteArray := prog_11_method_76_code
def yX9_hangs : MethodName := ⟨RX9, "hangs", "(I)Z"⟩
abbrev cX9_power : ByteArray := prog_11_method_77_code
def yX9_power : MethodName := ⟨RX9, "power", "(JI)J"⟩
abbrev cX9_lowest : ByteArray := prog_11_method_78_code
def yX9_lowest : MethodName := ⟨RX9, "lowest", "(JJI)J"⟩
abbrev cX9_hang : ByteArray := prog_11_method_79_code
def yX9_hang : MethodName := ⟨RX9, "hang", "(IIII)J"⟩
abbrev cX9_actBy : ByteArray := prog_11_method_80_code
def yX9_actBy : MethodName := ⟨RX9, "actBy", "(II)I"⟩
abbrev cX9_drawn : ByteArray := prog_11_method_81_code
def yX9_drawn : MethodName := ⟨RX9, "drawn", "(II)V"⟩
abbrev cX9_year : ByteArray := prog_11_method_82_code
def yX9_year : MethodName := ⟨RX9, "year", "(III)I"⟩
abbrev cX9_pass : ByteArray := prog_11_method_83_code
def yX9_pass : MethodName := ⟨RX9, "pass", "(I)I"⟩
abbrev cX9_passRow : ByteArray := prog_11_method_84_code
def yX9_passRow : MethodName := ⟨RX9, "passRow", "([II)V"⟩
abbrev cX9_passAll : ByteArray := prog_11_method_85_code
def yX9_passAll : MethodName := ⟨RX9, "passAll", "()V"⟩
abbrev cX9_image : ByteArray := prog_11_method_86_code
def yX9_image : MethodName := ⟨RX9, "image", "(I)I"⟩
abbrev cX9_restore : ByteArray := prog_11_method_87_code
def yX9_restore : MethodName := ⟨RX9, "restore", "(I)I"⟩
abbrev cX9_toldOfPerson : ByteArray := prog_11_method_88_code
def yX9_toldOfPerson : MethodName := ⟨RX9, "toldOfPerson", "(I)I"⟩
abbrev cX9_toldOfOther : ByteArray := prog_11_method_89_code
def yX9_toldOfOther : MethodName := ⟨RX9, "toldOfOther", "(I)I"⟩
abbrev cX9_toldOfAll : ByteArray := prog_11_method_90_code
def yX9_toldOfAll : MethodName := ⟨RX9, "toldOfAll", "(I)I"⟩
abbrev cX9_told : ByteArray := prog_11_method_91_code
def yX9_told : MethodName := ⟨RX9, "told", "(I)I"⟩
def RJ6 : String := "java/lang/Integer"
def TJ6 : u_T := fun k => match k with
  | _ => ("", "", "", false)
def tyJ6 : Nat → FieldType := fun k => match k with
  | _ => .int
abbrev wsJ60 : List Cond := u_ws RJ6 TJ6 0
theorem nmJ6 : ∀ a, a < 0 → ∀ b, b < 0 → a ≠ b → (TJ6 a).2.1 ≠ (TJ6 b).2.1 := by decide +kernel
theorem tyJ6_ok : ∀ k, k < 0 → parseFieldDescriptor (TJ6 k).2.2.1 = some (tyJ6 k) := by decide +kernel
abbrev cJ6_bitCount_0f7a4 : ByteArray := prog_12_method_49_code
def yJ6_bitCount_0f7a4 : MethodName := ⟨RJ6, "bitCount", "(I)I"⟩
def RJ9 : String := "java/lang/Math"
def TJ9 : u_T := fun k => match k with
  | _ => ("", "", "", false)
def tyJ9 : Nat → FieldType := fun k => match k with
  | _ => .int
abbrev wsJ90 : List Cond := u_ws RJ9 TJ9 0
theorem nmJ9 : ∀ a, a < 0 → ∀ b, b < 0 → a ≠ b → (TJ9 a).2.1 ≠ (TJ9 b).2.1 := by decide +kernel
theorem tyJ9_ok : ∀ k, k < 0 → parseFieldDescriptor (TJ9 k).2.2.1 = some (tyJ9 k) := by decide +kernel
abbrev cJ9_max_7cf53 : ByteArray := prog_13_method_65_code
def yJ9_max_7cf53 : MethodName := ⟨RJ9, "max", "(II)I"⟩
abbrev cJ9_min_7cf53 : ByteArray := prog_13_method_69_code
def yJ9_min_7cf53 : MethodName := ⟨RJ9, "min", "(II)I"⟩
def RJ10 : String := "java/lang/System"
def TJ10 : u_T := fun k => match k with
  | _ => ("", "", "", false)
def tyJ10 : Nat → FieldType := fun k => match k with
  | _ => .int
abbrev wsJ100 : List Cond := u_ws RJ10 TJ10 0
theorem nmJ10 : ∀ a, a < 0 → ∀ b, b < 0 → a ≠ b → (TJ10 a).2.1 ≠ (TJ10 b).2.1 := by decide +kernel
theorem tyJ10_ok : ∀ k, k < 0 → parseFieldDescriptor (TJ10 k).2.2.1 = some (tyJ10 k) := by decide +kernel
def RL : String := "SwornLaneLaw"
abbrev cL_law : ByteArray := code
def yL_law : MethodName := ⟨RL, "law", "([I)Z"⟩
abbrev vwCl : List vw_C := [(RX0, TX0, 1), (RX1, TX1, 7), (RX2, TX2, 1), (RX3, TX3, 6), (RX4, TX4, 3), (RX5, TX5, 2), (RX6, TX6, 6), (RX7, TX7, 3), (RX8, TX8, 6), (RX9, TX9, 37)]
end
section
theorem dX0_init_0 : decode cX0_init 0 = .ok (.aload_n 0, 1) := by decide +kernel
theorem dX0_init_1 : decode cX0_init 1 = .ok (.invokespecial 3, 3) := by decide +kernel
theorem dX0_init_4 : decode cX0_init 4 = .ok (.aload_n 0, 1) := by decide +kernel
theorem dX0_init_5 : decode cX0_init 5 = .ok (.bipush 6, 2) := by decide +kernel
theorem dX0_init_7 : decode cX0_init 7 = .ok (.newarray .long, 2) := by decide +kernel
theorem dX0_init_9 : decode cX0_init 9 = .ok (.putfield 9, 3) := by decide +kernel
theorem dX0_init_12 : decode cX0_init 12 = .ok (.return_, 1) := by decide +kernel
theorem dX0_hangingTogether_0 : decode cX0_hangingTogether 0 = .ok (.iconst 1, 1) := by decide +kernel
theorem dX0_hangingTogether_1 : decode cX0_hangingTogether 1 = .ok (.istore_n 3, 1) := by decide +kernel
theorem dX0_hangingTogether_2 : decode cX0_hangingTogether 2 = .ok (.iload_n 3, 1) := by decide +kernel
theorem dX0_hangingTogether_3 : decode cX0_hangingTogether 3 = .ok (.iload_n 1, 1) := by decide +kernel
theorem dX0_hangingTogether_4 : decode cX0_hangingTogether 4 = .ok (.if_icmp .gt 32, 3) := by decide +kernel
theorem dX0_hangingTogether_7 : decode cX0_hangingTogether 7 = .ok (.aload_n 0, 1) := by decide +kernel
theorem dX0_hangingTogether_8 : decode cX0_hangingTogether 8 = .ok (.getfield 9, 3) := by decide +kernel
theorem dX0_hangingTogether_11 : decode cX0_hangingTogether 11 = .ok (.iload_n 3, 1) := by decide +kernel
theorem dX0_hangingTogether_12 : decode cX0_hangingTogether 12 = .ok (.ldc2_w 15, 3) := by decide +kernel
theorem dX0_hangingTogether_15 : decode cX0_hangingTogether 15 = .ok (.iload_n 3, 1) := by decide +kernel
theorem dX0_hangingTogether_16 : decode cX0_hangingTogether 16 = .ok (.invokestatic 17, 3) := by decide +kernel
theorem dX0_hangingTogether_19 : decode cX0_hangingTogether 19 = .ok (.invokestatic 21, 3) := by decide +kernel
theorem dX0_hangingTogether_22 : decode cX0_hangingTogether 22 = .ok (.aload_n 0, 1) := by decide +kernel
theorem dX0_hangingTogether_23 : decode cX0_hangingTogether 23 = .ok (.iload_n 3, 1) := by decide +kernel
theorem dX0_hangingTogether_24 : decode cX0_hangingTogether 24 = .ok (.iload_n 2, 1) := by decide +kernel
theorem dX0_hangingTogether_25 : decode cX0_hangingTogether 25 = .ok (.invokevirtual 25, 3) := by decide +kernel
theorem dX0_hangingTogether_28 : decode cX0_hangingTogether 28 = .ok (.lsub, 1) := by decide +kernel
theorem dX0_hangingTogether_29 : decode cX0_hangingTogether 29 = .ok (.lastore, 1) := by decide +kernel
theorem dX0_hangingTogether_30 : decode cX0_hangingTogether 30 = .ok (.iinc 3 1, 3) := by decide +kernel
theorem dX0_hangingTogether_33 : decode cX0_hangingTogether 33 = .ok (.goto (-31), 3) := by decide +kernel
theorem dX0_hangingTogether_36 : decode cX0_hangingTogether 36 = .ok (.aload_n 0, 1) := by decide +kernel
theorem dX0_hangingTogether_37 : decode cX0_hangingTogether 37 = .ok (.getfield 9, 3) := by decide +kernel
theorem dX0_hangingTogether_40 : decode cX0_hangingTogether 40 = .ok (.iload_n 1, 1) := by decide +kernel
theorem dX0_hangingTogether_41 : decode cX0_hangingTogether 41 = .ok (.laload, 1) := by decide +kernel
theorem dX0_hangingTogether_42 : decode cX0_hangingTogether 42 = .ok (.lreturn, 1) := by decide +kernel
theorem dX0_apart_0 : decode cX0_apart 0 = .ok (.lconst 0, 1) := by decide +kernel
theorem dX0_apart_1 : decode cX0_apart 1 = .ok (.lstore_n 3, 1) := by decide +kernel
theorem dX0_apart_2 : decode cX0_apart 2 = .ok (.lconst 1, 1) := by decide +kernel
theorem dX0_apart_3 : decode cX0_apart 3 = .ok (.lstore 5, 2) := by decide +kernel
theorem dX0_apart_5 : decode cX0_apart 5 = .ok (.iconst 1, 1) := by decide +kernel
theorem dX0_apart_6 : decode cX0_apart 6 = .ok (.istore 7, 2) := by decide +kernel
theorem dX0_apart_8 : decode cX0_apart 8 = .ok (.iload 7, 2) := by decide +kernel
theorem dX0_apart_10 : decode cX0_apart 10 = .ok (.iload_n 1, 1) := by decide +kernel
theorem dX0_apart_11 : decode cX0_apart 11 = .ok (.if_icmp .ge 66, 3) := by decide +kernel
theorem dX0_apart_14 : decode cX0_apart 14 = .ok (.iload_n 1, 1) := by decide +kernel
theorem dX0_apart_15 : decode cX0_apart 15 = .ok (.iload 7, 2) := by decide +kernel
theorem dX0_apart_17 : decode cX0_apart 17 = .ok (.isub, 1) := by decide +kernel
theorem dX0_apart_18 : decode cX0_apart 18 = .ok (.istore 8, 2) := by decide +kernel
theorem dX0_apart_20 : decode cX0_apart 20 = .ok (.lload_n 3, 1) := by decide +kernel
theorem dX0_apart_21 : decode cX0_apart 21 = .ok (.lload 5, 2) := by decide +kernel
theorem dX0_apart_23 : decode cX0_apart 23 = .ok (.aload_n 0, 1) := by decide +kernel
theorem dX0_apart_24 : decode cX0_apart 24 = .ok (.getfield 9, 3) := by decide +kernel
theorem dX0_apart_27 : decode cX0_apart 27 = .ok (.iload 7, 2) := by decide +kernel
theorem dX0_apart_29 : decode cX0_apart 29 = .ok (.laload, 1) := by decide +kernel
theorem dX0_apart_30 : decode cX0_apart 30 = .ok (.lmul, 1) := by decide +kernel
theorem dX0_apart_31 : decode cX0_apart 31 = .ok (.bipush 10, 2) := by decide +kernel
theorem dX0_apart_33 : decode cX0_apart 33 = .ok (.iload_n 2, 1) := by decide +kernel
theorem dX0_apart_34 : decode cX0_apart 34 = .ok (.isub, 1) := by decide +kernel
theorem dX0_apart_35 : decode cX0_apart 35 = .ok (.i2l, 1) := by decide +kernel
theorem dX0_apart_36 : decode cX0_apart 36 = .ok (.iload 7, 2) := by decide +kernel
theorem dX0_apart_38 : decode cX0_apart 38 = .ok (.iload 8, 2) := by decide +kernel
theorem dX0_apart_40 : decode cX0_apart 40 = .ok (.imul, 1) := by decide +kernel
theorem dX0_apart_41 : decode cX0_apart 41 = .ok (.invokestatic 21, 3) := by decide +kernel
theorem dX0_apart_44 : decode cX0_apart 44 = .ok (.lmul, 1) := by decide +kernel
theorem dX0_apart_45 : decode cX0_apart 45 = .ok (.ldc2_w 15, 3) := by decide +kernel
theorem dX0_apart_48 : decode cX0_apart 48 = .ok (.iload 8, 2) := by decide +kernel
theorem dX0_apart_50 : decode cX0_apart 50 = .ok (.invokestatic 17, 3) := by decide +kernel
theorem dX0_apart_53 : decode cX0_apart 53 = .ok (.invokestatic 21, 3) := by decide +kernel
theorem dX0_apart_56 : decode cX0_apart 56 = .ok (.lmul, 1) := by decide +kernel
theorem dX0_apart_57 : decode cX0_apart 57 = .ok (.ladd, 1) := by decide +kernel
theorem dX0_apart_58 : decode cX0_apart 58 = .ok (.lstore_n 3, 1) := by decide +kernel
theorem dX0_apart_59 : decode cX0_apart 59 = .ok (.lload 5, 2) := by decide +kernel
theorem dX0_apart_61 : decode cX0_apart 61 = .ok (.iload 8, 2) := by decide +kernel
theorem dX0_apart_63 : decode cX0_apart 63 = .ok (.i2l, 1) := by decide +kernel
theorem dX0_apart_64 : decode cX0_apart 64 = .ok (.lmul, 1) := by decide +kernel
theorem dX0_apart_65 : decode cX0_apart 65 = .ok (.iload 7, 2) := by decide +kernel
theorem dX0_apart_67 : decode cX0_apart 67 = .ok (.i2l, 1) := by decide +kernel
theorem dX0_apart_68 : decode cX0_apart 68 = .ok (.ldiv, 1) := by decide +kernel
theorem dX0_apart_69 : decode cX0_apart 69 = .ok (.lstore 5, 2) := by decide +kernel
theorem dX0_apart_71 : decode cX0_apart 71 = .ok (.iinc 7 1, 3) := by decide +kernel
theorem dX0_apart_74 : decode cX0_apart 74 = .ok (.goto (-66), 3) := by decide +kernel
theorem dX0_apart_77 : decode cX0_apart 77 = .ok (.lload_n 3, 1) := by decide +kernel
theorem dX0_apart_78 : decode cX0_apart 78 = .ok (.lreturn, 1) := by decide +kernel
theorem dX1_init_0 : decode cX1_init 0 = .ok (.aload_n 0, 1) := by decide +kernel
theorem dX1_init_1 : decode cX1_init 1 = .ok (.invokespecial 3, 3) := by decide +kernel
theorem dX1_init_4 : decode cX1_init 4 = .ok (.aload_n 0, 1) := by decide +kernel
theorem dX1_init_5 : decode cX1_init 5 = .ok (.bipush 8, 2) := by decide +kernel
theorem dX1_init_7 : decode cX1_init 7 = .ok (.newarray .int, 2) := by decide +kernel
theorem dX1_init_9 : decode cX1_init 9 = .ok (.putfield 9, 3) := by decide +kernel
theorem dX1_init_12 : decode cX1_init 12 = .ok (.aload_n 0, 1) := by decide +kernel
theorem dX1_init_13 : decode cX1_init 13 = .ok (.bipush 8, 2) := by decide +kernel
theorem dX1_init_15 : decode cX1_init 15 = .ok (.newarray .int, 2) := by decide +kernel
theorem dX1_init_17 : decode cX1_init 17 = .ok (.putfield 15, 3) := by decide +kernel
theorem dX1_init_20 : decode cX1_init 20 = .ok (.aload_n 0, 1) := by decide +kernel
theorem dX1_init_21 : decode cX1_init 21 = .ok (.bipush 6, 2) := by decide +kernel
theorem dX1_init_23 : decode cX1_init 23 = .ok (.newarray .int, 2) := by decide +kernel
theorem dX1_init_25 : decode cX1_init 25 = .ok (.putfield 18, 3) := by decide +kernel
theorem dX1_init_28 : decode cX1_init 28 = .ok (.aload_n 0, 1) := by decide +kernel
theorem dX1_init_29 : decode cX1_init 29 = .ok (.bipush 6, 2) := by decide +kernel
theorem dX1_init_31 : decode cX1_init 31 = .ok (.newarray .int, 2) := by decide +kernel
theorem dX1_init_33 : decode cX1_init 33 = .ok (.putfield 21, 3) := by decide +kernel
theorem dX1_init_36 : decode cX1_init 36 = .ok (.aload_n 0, 1) := by decide +kernel
theorem dX1_init_37 : decode cX1_init 37 = .ok (.iconst 1, 1) := by decide +kernel
theorem dX1_init_38 : decode cX1_init 38 = .ok (.putfield 24, 3) := by decide +kernel
theorem dX1_init_41 : decode cX1_init 41 = .ok (.iconst 0, 1) := by decide +kernel
theorem dX1_init_42 : decode cX1_init 42 = .ok (.istore_n 1, 1) := by decide +kernel
theorem dX1_init_43 : decode cX1_init 43 = .ok (.iload_n 1, 1) := by decide +kernel
theorem dX1_init_44 : decode cX1_init 44 = .ok (.bipush 8, 2) := by decide +kernel
theorem dX1_init_46 : decode cX1_init 46 = .ok (.if_icmp .ge 16, 3) := by decide +kernel
theorem dX1_init_49 : decode cX1_init 49 = .ok (.aload_n 0, 1) := by decide +kernel
theorem dX1_init_50 : decode cX1_init 50 = .ok (.getfield 15, 3) := by decide +kernel
theorem dX1_init_53 : decode cX1_init 53 = .ok (.iload_n 1, 1) := by decide +kernel
theorem dX1_init_54 : decode cX1_init 54 = .ok (.iconst (-1), 1) := by decide +kernel
theorem dX1_init_55 : decode cX1_init 55 = .ok (.iastore, 1) := by decide +kernel
theorem dX1_init_56 : decode cX1_init 56 = .ok (.iinc 1 1, 3) := by decide +kernel
theorem dX1_init_59 : decode cX1_init 59 = .ok (.goto (-16), 3) := by decide +kernel
theorem dX1_init_62 : decode cX1_init 62 = .ok (.iconst 0, 1) := by decide +kernel
theorem dX1_init_63 : decode cX1_init 63 = .ok (.istore_n 1, 1) := by decide +kernel
theorem dX1_init_64 : decode cX1_init 64 = .ok (.iload_n 1, 1) := by decide +kernel
theorem dX1_init_65 : decode cX1_init 65 = .ok (.bipush 6, 2) := by decide +kernel
theorem dX1_init_67 : decode cX1_init 67 = .ok (.if_icmp .ge 16, 3) := by decide +kernel
theorem dX1_init_70 : decode cX1_init 70 = .ok (.aload_n 0, 1) := by decide +kernel
theorem dX1_init_71 : decode cX1_init 71 = .ok (.getfield 18, 3) := by decide +kernel
theorem dX1_init_74 : decode cX1_init 74 = .ok (.iload_n 1, 1) := by decide +kernel
theorem dX1_init_75 : decode cX1_init 75 = .ok (.iconst (-1), 1) := by decide +kernel
theorem dX1_init_76 : decode cX1_init 76 = .ok (.iastore, 1) := by decide +kernel
theorem dX1_init_77 : decode cX1_init 77 = .ok (.iinc 1 1, 3) := by decide +kernel
theorem dX1_init_80 : decode cX1_init 80 = .ok (.goto (-16), 3) := by decide +kernel
theorem dX1_init_83 : decode cX1_init 83 = .ok (.return_, 1) := by decide +kernel
theorem dX1_copyFrom_0 : decode cX1_copyFrom 0 = .ok (.aload_n 1, 1) := by decide +kernel
theorem dX1_copyFrom_1 : decode cX1_copyFrom 1 = .ok (.getfield 9, 3) := by decide +kernel
theorem dX1_copyFrom_4 : decode cX1_copyFrom 4 = .ok (.iconst 0, 1) := by decide +kernel
theorem dX1_copyFrom_5 : decode cX1_copyFrom 5 = .ok (.aload_n 0, 1) := by decide +kernel
theorem dX1_copyFrom_6 : decode cX1_copyFrom 6 = .ok (.getfield 9, 3) := by decide +kernel
theorem dX1_copyFrom_9 : decode cX1_copyFrom 9 = .ok (.iconst 0, 1) := by decide +kernel
theorem dX1_copyFrom_10 : decode cX1_copyFrom 10 = .ok (.bipush 8, 2) := by decide +kernel
theorem dX1_copyFrom_12 : decode cX1_copyFrom 12 = .ok (.invokestatic 28, 3) := by decide +kernel
theorem dX1_copyFrom_15 : decode cX1_copyFrom 15 = .ok (.aload_n 1, 1) := by decide +kernel
theorem dX1_copyFrom_16 : decode cX1_copyFrom 16 = .ok (.getfield 15, 3) := by decide +kernel
theorem dX1_copyFrom_19 : decode cX1_copyFrom 19 = .ok (.iconst 0, 1) := by decide +kernel
theorem dX1_copyFrom_20 : decode cX1_copyFrom 20 = .ok (.aload_n 0, 1) := by decide +kernel
theorem dX1_copyFrom_21 : decode cX1_copyFrom 21 = .ok (.getfield 15, 3) := by decide +kernel
theorem dX1_copyFrom_24 : decode cX1_copyFrom 24 = .ok (.iconst 0, 1) := by decide +kernel
theorem dX1_copyFrom_25 : decode cX1_copyFrom 25 = .ok (.bipush 8, 2) := by decide +kernel
theorem dX1_copyFrom_27 : decode cX1_copyFrom 27 = .ok (.invokestatic 28, 3) := by decide +kernel
theorem dX1_copyFrom_30 : decode cX1_copyFrom 30 = .ok (.aload_n 1, 1) := by decide +kernel
theorem dX1_copyFrom_31 : decode cX1_copyFrom 31 = .ok (.getfield 18, 3) := by decide +kernel
theorem dX1_copyFrom_34 : decode cX1_copyFrom 34 = .ok (.iconst 0, 1) := by decide +kernel
theorem dX1_copyFrom_35 : decode cX1_copyFrom 35 = .ok (.aload_n 0, 1) := by decide +kernel
theorem dX1_copyFrom_36 : decode cX1_copyFrom 36 = .ok (.getfield 18, 3) := by decide +kernel
theorem dX1_copyFrom_39 : decode cX1_copyFrom 39 = .ok (.iconst 0, 1) := by decide +kernel
theorem dX1_copyFrom_40 : decode cX1_copyFrom 40 = .ok (.bipush 6, 2) := by decide +kernel
theorem dX1_copyFrom_42 : decode cX1_copyFrom 42 = .ok (.invokestatic 28, 3) := by decide +kernel
theorem dX1_copyFrom_45 : decode cX1_copyFrom 45 = .ok (.aload_n 1, 1) := by decide +kernel
theorem dX1_copyFrom_46 : decode cX1_copyFrom 46 = .ok (.getfield 21, 3) := by decide +kernel
theorem dX1_copyFrom_49 : decode cX1_copyFrom 49 = .ok (.iconst 0, 1) := by decide +kernel
theorem dX1_copyFrom_50 : decode cX1_copyFrom 50 = .ok (.aload_n 0, 1) := by decide +kernel
theorem dX1_copyFrom_51 : decode cX1_copyFrom 51 = .ok (.getfield 21, 3) := by decide +kernel
theorem dX1_copyFrom_54 : decode cX1_copyFrom 54 = .ok (.iconst 0, 1) := by decide +kernel
theorem dX1_copyFrom_55 : decode cX1_copyFrom 55 = .ok (.bipush 6, 2) := by decide +kernel
theorem dX1_copyFrom_57 : decode cX1_copyFrom 57 = .ok (.invokestatic 28, 3) := by decide +kernel
theorem dX1_copyFrom_60 : decode cX1_copyFrom 60 = .ok (.aload_n 0, 1) := by decide +kernel
theorem dX1_copyFrom_61 : decode cX1_copyFrom 61 = .ok (.aload_n 1, 1) := by decide +kernel
theorem dX1_copyFrom_62 : decode cX1_copyFrom 62 = .ok (.getfield 34, 3) := by decide +kernel
theorem dX1_copyFrom_65 : decode cX1_copyFrom 65 = .ok (.putfield 34, 3) := by decide +kernel
theorem dX1_copyFrom_68 : decode cX1_copyFrom 68 = .ok (.aload_n 0, 1) := by decide +kernel
theorem dX1_copyFrom_69 : decode cX1_copyFrom 69 = .ok (.aload_n 1, 1) := by decide +kernel
theorem dX1_copyFrom_70 : decode cX1_copyFrom 70 = .ok (.getfield 24, 3) := by decide +kernel
theorem dX1_copyFrom_73 : decode cX1_copyFrom 73 = .ok (.putfield 24, 3) := by decide +kernel
theorem dX1_copyFrom_76 : decode cX1_copyFrom 76 = .ok (.aload_n 0, 1) := by decide +kernel
theorem dX1_copyFrom_77 : decode cX1_copyFrom 77 = .ok (.aload_n 1, 1) := by decide +kernel
theorem dX1_copyFrom_78 : decode cX1_copyFrom 78 = .ok (.getfield 38, 3) := by decide +kernel
theorem dX1_copyFrom_81 : decode cX1_copyFrom 81 = .ok (.putfield 38, 3) := by decide +kernel
theorem dX1_copyFrom_84 : decode cX1_copyFrom 84 = .ok (.return_, 1) := by decide +kernel
theorem dX1_countWays_0 : decode cX1_countWays 0 = .ok (.iconst 0, 1) := by decide +kernel
theorem dX1_countWays_1 : decode cX1_countWays 1 = .ok (.istore_n 1, 1) := by decide +kernel
theorem dX1_countWays_2 : decode cX1_countWays 2 = .ok (.iconst 0, 1) := by decide +kernel
theorem dX1_countWays_3 : decode cX1_countWays 3 = .ok (.istore_n 2, 1) := by decide +kernel
theorem dX1_countWays_4 : decode cX1_countWays 4 = .ok (.iload_n 2, 1) := by decide +kernel
theorem dX1_countWays_5 : decode cX1_countWays 5 = .ok (.bipush 8, 2) := by decide +kernel
theorem dX1_countWays_7 : decode cX1_countWays 7 = .ok (.if_icmp .ge 21, 3) := by decide +kernel
theorem dX1_countWays_10 : decode cX1_countWays 10 = .ok (.iload_n 1, 1) := by decide +kernel
theorem dX1_countWays_11 : decode cX1_countWays 11 = .ok (.aload_n 0, 1) := by decide +kernel
theorem dX1_countWays_12 : decode cX1_countWays 12 = .ok (.getfield 9, 3) := by decide +kernel
theorem dX1_countWays_15 : decode cX1_countWays 15 = .ok (.iload_n 2, 1) := by decide +kernel
theorem dX1_countWays_16 : decode cX1_countWays 16 = .ok (.iaload, 1) := by decide +kernel
theorem dX1_countWays_17 : decode cX1_countWays 17 = .ok (.invokestatic 41, 3) := by decide +kernel
theorem dX1_countWays_20 : decode cX1_countWays 20 = .ok (.iadd, 1) := by decide +kernel
theorem dX1_countWays_21 : decode cX1_countWays 21 = .ok (.istore_n 1, 1) := by decide +kernel
theorem dX1_countWays_22 : decode cX1_countWays 22 = .ok (.iinc 2 1, 3) := by decide +kernel
theorem dX1_countWays_25 : decode cX1_countWays 25 = .ok (.goto (-21), 3) := by decide +kernel
theorem dX1_countWays_28 : decode cX1_countWays 28 = .ok (.iload_n 1, 1) := by decide +kernel
theorem dX1_countWays_29 : decode cX1_countWays 29 = .ok (.iconst 2, 1) := by decide +kernel
theorem dX1_countWays_30 : decode cX1_countWays 30 = .ok (.idiv, 1) := by decide +kernel
theorem dX1_countWays_31 : decode cX1_countWays 31 = .ok (.ireturn, 1) := by decide +kernel
theorem dX1_setWay_0 : decode cX1_setWay 0 = .ok (.iload_n 3, 1) := by decide +kernel
theorem dX1_setWay_1 : decode cX1_setWay 1 = .ok (.ifCond .eq 30, 3) := by decide +kernel
theorem dX1_setWay_4 : decode cX1_setWay 4 = .ok (.aload_n 0, 1) := by decide +kernel
theorem dX1_setWay_5 : decode cX1_setWay 5 = .ok (.getfield 9, 3) := by decide +kernel
theorem dX1_setWay_8 : decode cX1_setWay 8 = .ok (.iload_n 1, 1) := by decide +kernel
theorem dX1_setWay_9 : decode cX1_setWay 9 = .ok (.dup2, 1) := by decide +kernel
theorem dX1_setWay_10 : decode cX1_setWay 10 = .ok (.iaload, 1) := by decide +kernel
theorem dX1_setWay_11 : decode cX1_setWay 11 = .ok (.iconst 1, 1) := by decide +kernel
theorem dX1_setWay_12 : decode cX1_setWay 12 = .ok (.iload_n 2, 1) := by decide +kernel
theorem dX1_setWay_13 : decode cX1_setWay 13 = .ok (.ishl, 1) := by decide +kernel
theorem dX1_setWay_14 : decode cX1_setWay 14 = .ok (.ior, 1) := by decide +kernel
theorem dX1_setWay_15 : decode cX1_setWay 15 = .ok (.iastore, 1) := by decide +kernel
theorem dX1_setWay_16 : decode cX1_setWay 16 = .ok (.aload_n 0, 1) := by decide +kernel
theorem dX1_setWay_17 : decode cX1_setWay 17 = .ok (.getfield 9, 3) := by decide +kernel
theorem dX1_setWay_20 : decode cX1_setWay 20 = .ok (.iload_n 2, 1) := by decide +kernel
theorem dX1_setWay_21 : decode cX1_setWay 21 = .ok (.dup2, 1) := by decide +kernel
theorem dX1_setWay_22 : decode cX1_setWay 22 = .ok (.iaload, 1) := by decide +kernel
theorem dX1_setWay_23 : decode cX1_setWay 23 = .ok (.iconst 1, 1) := by decide +kernel
theorem dX1_setWay_24 : decode cX1_setWay 24 = .ok (.iload_n 1, 1) := by decide +kernel
theorem dX1_setWay_25 : decode cX1_setWay 25 = .ok (.ishl, 1) := by decide +kernel
theorem dX1_setWay_26 : decode cX1_setWay 26 = .ok (.ior, 1) := by decide +kernel
theorem dX1_setWay_27 : decode cX1_setWay 27 = .ok (.iastore, 1) := by decide +kernel
theorem dX1_setWay_28 : decode cX1_setWay 28 = .ok (.goto 31, 3) := by decide +kernel
theorem dX1_setWay_31 : decode cX1_setWay 31 = .ok (.aload_n 0, 1) := by decide +kernel
theorem dX1_setWay_32 : decode cX1_setWay 32 = .ok (.getfield 9, 3) := by decide +kernel
theorem dX1_setWay_35 : decode cX1_setWay 35 = .ok (.iload_n 1, 1) := by decide +kernel
theorem dX1_setWay_36 : decode cX1_setWay 36 = .ok (.dup2, 1) := by decide +kernel
theorem dX1_setWay_37 : decode cX1_setWay 37 = .ok (.iaload, 1) := by decide +kernel
theorem dX1_setWay_38 : decode cX1_setWay 38 = .ok (.iconst 1, 1) := by decide +kernel
theorem dX1_setWay_39 : decode cX1_setWay 39 = .ok (.iload_n 2, 1) := by decide +kernel
theorem dX1_setWay_40 : decode cX1_setWay 40 = .ok (.ishl, 1) := by decide +kernel
theorem dX1_setWay_41 : decode cX1_setWay 41 = .ok (.iconst (-1), 1) := by decide +kernel
theorem dX1_setWay_42 : decode cX1_setWay 42 = .ok (.ixor, 1) := by decide +kernel
theorem dX1_setWay_43 : decode cX1_setWay 43 = .ok (.iand, 1) := by decide +kernel
theorem dX1_setWay_44 : decode cX1_setWay 44 = .ok (.iastore, 1) := by decide +kernel
theorem dX1_setWay_45 : decode cX1_setWay 45 = .ok (.aload_n 0, 1) := by decide +kernel
theorem dX1_setWay_46 : decode cX1_setWay 46 = .ok (.getfield 9, 3) := by decide +kernel
theorem dX1_setWay_49 : decode cX1_setWay 49 = .ok (.iload_n 2, 1) := by decide +kernel
theorem dX1_setWay_50 : decode cX1_setWay 50 = .ok (.dup2, 1) := by decide +kernel
theorem dX1_setWay_51 : decode cX1_setWay 51 = .ok (.iaload, 1) := by decide +kernel
theorem dX1_setWay_52 : decode cX1_setWay 52 = .ok (.iconst 1, 1) := by decide +kernel
theorem dX1_setWay_53 : decode cX1_setWay 53 = .ok (.iload_n 1, 1) := by decide +kernel
theorem dX1_setWay_54 : decode cX1_setWay 54 = .ok (.ishl, 1) := by decide +kernel
theorem dX1_setWay_55 : decode cX1_setWay 55 = .ok (.iconst (-1), 1) := by decide +kernel
theorem dX1_setWay_56 : decode cX1_setWay 56 = .ok (.ixor, 1) := by decide +kernel
theorem dX1_setWay_57 : decode cX1_setWay 57 = .ok (.iand, 1) := by decide +kernel
theorem dX1_setWay_58 : decode cX1_setWay 58 = .ok (.iastore, 1) := by decide +kernel
theorem dX1_setWay_59 : decode cX1_setWay 59 = .ok (.return_, 1) := by decide +kernel
theorem dX1_cornerOfThing_0 : decode cX1_cornerOfThing 0 = .ok (.aload_n 0, 1) := by decide +kernel
theorem dX1_cornerOfThing_1 : decode cX1_cornerOfThing 1 = .ok (.getfield 15, 3) := by decide +kernel
theorem dX1_cornerOfThing_4 : decode cX1_cornerOfThing 4 = .ok (.iload_n 1, 1) := by decide +kernel
theorem dX1_cornerOfThing_5 : decode cX1_cornerOfThing 5 = .ok (.iaload, 1) := by decide +kernel
theorem dX1_cornerOfThing_6 : decode cX1_cornerOfThing 6 = .ok (.invokestatic 47, 3) := by decide +kernel
theorem dX1_cornerOfThing_9 : decode cX1_cornerOfThing 9 = .ok (.ifCond .eq 12, 3) := by decide +kernel
theorem dX1_cornerOfThing_12 : decode cX1_cornerOfThing 12 = .ok (.aload_n 0, 1) := by decide +kernel
theorem dX1_cornerOfThing_13 : decode cX1_cornerOfThing 13 = .ok (.getfield 15, 3) := by decide +kernel
theorem dX1_cornerOfThing_16 : decode cX1_cornerOfThing 16 = .ok (.iload_n 1, 1) := by decide +kernel
theorem dX1_cornerOfThing_17 : decode cX1_cornerOfThing 17 = .ok (.iaload, 1) := by decide +kernel
theorem dX1_cornerOfThing_18 : decode cX1_cornerOfThing 18 = .ok (.goto 5, 3) := by decide +kernel
theorem dX1_cornerOfThing_21 : decode cX1_cornerOfThing 21 = .ok (.bipush (-6), 2) := by decide +kernel
theorem dX1_cornerOfThing_23 : decode cX1_cornerOfThing 23 = .ok (.ireturn, 1) := by decide +kernel
theorem dX1_holderOfThing_0 : decode cX1_holderOfThing 0 = .ok (.aload_n 0, 1) := by decide +kernel
theorem dX1_holderOfThing_1 : decode cX1_holderOfThing 1 = .ok (.getfield 15, 3) := by decide +kernel
theorem dX1_holderOfThing_4 : decode cX1_holderOfThing 4 = .ok (.iload_n 1, 1) := by decide +kernel
theorem dX1_holderOfThing_5 : decode cX1_holderOfThing 5 = .ok (.iaload, 1) := by decide +kernel
theorem dX1_holderOfThing_6 : decode cX1_holderOfThing 6 = .ok (.bipush 8, 2) := by decide +kernel
theorem dX1_holderOfThing_8 : decode cX1_holderOfThing 8 = .ok (.if_icmp .lt 15, 3) := by decide +kernel
theorem dX1_holderOfThing_11 : decode cX1_holderOfThing 11 = .ok (.aload_n 0, 1) := by decide +kernel
theorem dX1_holderOfThing_12 : decode cX1_holderOfThing 12 = .ok (.getfield 15, 3) := by decide +kernel
theorem dX1_holderOfThing_15 : decode cX1_holderOfThing 15 = .ok (.iload_n 1, 1) := by decide +kernel
theorem dX1_holderOfThing_16 : decode cX1_holderOfThing 16 = .ok (.iaload, 1) := by decide +kernel
theorem dX1_holderOfThing_17 : decode cX1_holderOfThing 17 = .ok (.bipush 8, 2) := by decide +kernel
theorem dX1_holderOfThing_19 : decode cX1_holderOfThing 19 = .ok (.isub, 1) := by decide +kernel
theorem dX1_holderOfThing_20 : decode cX1_holderOfThing 20 = .ok (.goto 5, 3) := by decide +kernel
theorem dX1_holderOfThing_23 : decode cX1_holderOfThing 23 = .ok (.bipush (-6), 2) := by decide +kernel
theorem dX1_holderOfThing_25 : decode cX1_holderOfThing 25 = .ok (.ireturn, 1) := by decide +kernel
theorem dX1_carriedBy_0 : decode cX1_carriedBy 0 = .ok (.iconst 0, 1) := by decide +kernel
theorem dX1_carriedBy_1 : decode cX1_carriedBy 1 = .ok (.istore_n 2, 1) := by decide +kernel
theorem dX1_carriedBy_2 : decode cX1_carriedBy 2 = .ok (.iconst 0, 1) := by decide +kernel
theorem dX1_carriedBy_3 : decode cX1_carriedBy 3 = .ok (.istore_n 3, 1) := by decide +kernel
theorem dX1_carriedBy_4 : decode cX1_carriedBy 4 = .ok (.iload_n 3, 1) := by decide +kernel
theorem dX1_carriedBy_5 : decode cX1_carriedBy 5 = .ok (.bipush 8, 2) := by decide +kernel
theorem dX1_carriedBy_7 : decode cX1_carriedBy 7 = .ok (.if_icmp .ge 28, 3) := by decide +kernel
theorem dX1_carriedBy_10 : decode cX1_carriedBy 10 = .ok (.aload_n 0, 1) := by decide +kernel
theorem dX1_carriedBy_11 : decode cX1_carriedBy 11 = .ok (.getfield 15, 3) := by decide +kernel
theorem dX1_carriedBy_14 : decode cX1_carriedBy 14 = .ok (.iload_n 3, 1) := by decide +kernel
theorem dX1_carriedBy_15 : decode cX1_carriedBy 15 = .ok (.iaload, 1) := by decide +kernel
theorem dX1_carriedBy_16 : decode cX1_carriedBy 16 = .ok (.bipush 8, 2) := by decide +kernel
theorem dX1_carriedBy_18 : decode cX1_carriedBy 18 = .ok (.iload_n 1, 1) := by decide +kernel
theorem dX1_carriedBy_19 : decode cX1_carriedBy 19 = .ok (.iadd, 1) := by decide +kernel
theorem dX1_carriedBy_20 : decode cX1_carriedBy 20 = .ok (.if_icmp .ne 9, 3) := by decide +kernel
theorem dX1_carriedBy_23 : decode cX1_carriedBy 23 = .ok (.iload_n 2, 1) := by decide +kernel
theorem dX1_carriedBy_24 : decode cX1_carriedBy 24 = .ok (.iconst 1, 1) := by decide +kernel
theorem dX1_carriedBy_25 : decode cX1_carriedBy 25 = .ok (.iload_n 3, 1) := by decide +kernel
theorem dX1_carriedBy_26 : decode cX1_carriedBy 26 = .ok (.ishl, 1) := by decide +kernel
theorem dX1_carriedBy_27 : decode cX1_carriedBy 27 = .ok (.ior, 1) := by decide +kernel
theorem dX1_carriedBy_28 : decode cX1_carriedBy 28 = .ok (.istore_n 2, 1) := by decide +kernel
theorem dX1_carriedBy_29 : decode cX1_carriedBy 29 = .ok (.iinc 3 1, 3) := by decide +kernel
theorem dX1_carriedBy_32 : decode cX1_carriedBy 32 = .ok (.goto (-28), 3) := by decide +kernel
theorem dX1_carriedBy_35 : decode cX1_carriedBy 35 = .ok (.iload_n 2, 1) := by decide +kernel
theorem dX1_carriedBy_36 : decode cX1_carriedBy 36 = .ok (.ireturn, 1) := by decide +kernel
theorem dX1_cornerOfPerson_0 : decode cX1_cornerOfPerson 0 = .ok (.aload_n 0, 1) := by decide +kernel
theorem dX1_cornerOfPerson_1 : decode cX1_cornerOfPerson 1 = .ok (.getfield 18, 3) := by decide +kernel
theorem dX1_cornerOfPerson_4 : decode cX1_cornerOfPerson 4 = .ok (.iload_n 1, 1) := by decide +kernel
theorem dX1_cornerOfPerson_5 : decode cX1_cornerOfPerson 5 = .ok (.iaload, 1) := by decide +kernel
theorem dX1_cornerOfPerson_6 : decode cX1_cornerOfPerson 6 = .ok (.iconst (-1), 1) := by decide +kernel
theorem dX1_cornerOfPerson_7 : decode cX1_cornerOfPerson 7 = .ok (.if_icmp .ne 8, 3) := by decide +kernel
theorem dX1_cornerOfPerson_10 : decode cX1_cornerOfPerson 10 = .ok (.bipush (-6), 2) := by decide +kernel
theorem dX1_cornerOfPerson_12 : decode cX1_cornerOfPerson 12 = .ok (.goto 9, 3) := by decide +kernel
theorem dX1_cornerOfPerson_15 : decode cX1_cornerOfPerson 15 = .ok (.aload_n 0, 1) := by decide +kernel
theorem dX1_cornerOfPerson_16 : decode cX1_cornerOfPerson 16 = .ok (.getfield 18, 3) := by decide +kernel
theorem dX1_cornerOfPerson_19 : decode cX1_cornerOfPerson 19 = .ok (.iload_n 1, 1) := by decide +kernel
theorem dX1_cornerOfPerson_20 : decode cX1_cornerOfPerson 20 = .ok (.iaload, 1) := by decide +kernel
theorem dX1_cornerOfPerson_21 : decode cX1_cornerOfPerson 21 = .ok (.ireturn, 1) := by decide +kernel
theorem dX1_sitsAsNumber_0 : decode cX1_sitsAsNumber 0 = .ok (.aload_n 0, 1) := by decide +kernel
theorem dX1_sitsAsNumber_1 : decode cX1_sitsAsNumber 1 = .ok (.getfield 34, 3) := by decide +kernel
theorem dX1_sitsAsNumber_4 : decode cX1_sitsAsNumber 4 = .ok (.iload_n 1, 1) := by decide +kernel
theorem dX1_sitsAsNumber_5 : decode cX1_sitsAsNumber 5 = .ok (.invokestatic 51, 3) := by decide +kernel
theorem dX1_sitsAsNumber_8 : decode cX1_sitsAsNumber 8 = .ok (.ifCond .eq 7, 3) := by decide +kernel
theorem dX1_sitsAsNumber_11 : decode cX1_sitsAsNumber 11 = .ok (.iconst 1, 1) := by decide +kernel
theorem dX1_sitsAsNumber_12 : decode cX1_sitsAsNumber 12 = .ok (.goto 4, 3) := by decide +kernel
theorem dX1_sitsAsNumber_15 : decode cX1_sitsAsNumber 15 = .ok (.iconst 0, 1) := by decide +kernel
theorem dX1_sitsAsNumber_16 : decode cX1_sitsAsNumber 16 = .ok (.ireturn, 1) := by decide +kernel
theorem dX1_poleAsNumber_0 : decode cX1_poleAsNumber 0 = .ok (.aload_n 0, 1) := by decide +kernel
theorem dX1_poleAsNumber_1 : decode cX1_poleAsNumber 1 = .ok (.getfield 24, 3) := by decide +kernel
theorem dX1_poleAsNumber_4 : decode cX1_poleAsNumber 4 = .ok (.ifCond .eq 7, 3) := by decide +kernel
theorem dX1_poleAsNumber_7 : decode cX1_poleAsNumber 7 = .ok (.iconst 1, 1) := by decide +kernel
theorem dX1_poleAsNumber_8 : decode cX1_poleAsNumber 8 = .ok (.goto 4, 3) := by decide +kernel
theorem dX1_poleAsNumber_11 : decode cX1_poleAsNumber 11 = .ok (.iconst 0, 1) := by decide +kernel
theorem dX1_poleAsNumber_12 : decode cX1_poleAsNumber 12 = .ok (.ireturn, 1) := by decide +kernel
theorem dX1_whoIsThere_0 : decode cX1_whoIsThere 0 = .ok (.iconst 0, 1) := by decide +kernel
theorem dX1_whoIsThere_1 : decode cX1_whoIsThere 1 = .ok (.istore_n 1, 1) := by decide +kernel
theorem dX1_whoIsThere_2 : decode cX1_whoIsThere 2 = .ok (.iconst 0, 1) := by decide +kernel
theorem dX1_whoIsThere_3 : decode cX1_whoIsThere 3 = .ok (.istore_n 2, 1) := by decide +kernel
theorem dX1_whoIsThere_4 : decode cX1_whoIsThere 4 = .ok (.iload_n 2, 1) := by decide +kernel
theorem dX1_whoIsThere_5 : decode cX1_whoIsThere 5 = .ok (.bipush 6, 2) := by decide +kernel
theorem dX1_whoIsThere_7 : decode cX1_whoIsThere 7 = .ok (.if_icmp .ge 25, 3) := by decide +kernel
theorem dX1_whoIsThere_10 : decode cX1_whoIsThere 10 = .ok (.aload_n 0, 1) := by decide +kernel
theorem dX1_whoIsThere_11 : decode cX1_whoIsThere 11 = .ok (.getfield 18, 3) := by decide +kernel
theorem dX1_whoIsThere_14 : decode cX1_whoIsThere 14 = .ok (.iload_n 2, 1) := by decide +kernel
theorem dX1_whoIsThere_15 : decode cX1_whoIsThere 15 = .ok (.iaload, 1) := by decide +kernel
theorem dX1_whoIsThere_16 : decode cX1_whoIsThere 16 = .ok (.iconst (-1), 1) := by decide +kernel
theorem dX1_whoIsThere_17 : decode cX1_whoIsThere 17 = .ok (.if_icmp .eq 9, 3) := by decide +kernel
theorem dX1_whoIsThere_20 : decode cX1_whoIsThere 20 = .ok (.iload_n 1, 1) := by decide +kernel
theorem dX1_whoIsThere_21 : decode cX1_whoIsThere 21 = .ok (.iconst 1, 1) := by decide +kernel
theorem dX1_whoIsThere_22 : decode cX1_whoIsThere 22 = .ok (.iload_n 2, 1) := by decide +kernel
theorem dX1_whoIsThere_23 : decode cX1_whoIsThere 23 = .ok (.ishl, 1) := by decide +kernel
theorem dX1_whoIsThere_24 : decode cX1_whoIsThere 24 = .ok (.ior, 1) := by decide +kernel
theorem dX1_whoIsThere_25 : decode cX1_whoIsThere 25 = .ok (.istore_n 1, 1) := by decide +kernel
theorem dX1_whoIsThere_26 : decode cX1_whoIsThere 26 = .ok (.iinc 2 1, 3) := by decide +kernel
theorem dX1_whoIsThere_29 : decode cX1_whoIsThere 29 = .ok (.goto (-25), 3) := by decide +kernel
theorem dX1_whoIsThere_32 : decode cX1_whoIsThere 32 = .ok (.iload_n 1, 1) := by decide +kernel
theorem dX1_whoIsThere_33 : decode cX1_whoIsThere 33 = .ok (.ireturn, 1) := by decide +kernel
theorem dX1_put_0 : decode cX1_put 0 = .ok (.iconst 0, 1) := by decide +kernel
theorem dX1_put_1 : decode cX1_put 1 = .ok (.istore 4, 2) := by decide +kernel
theorem dX1_put_3 : decode cX1_put 3 = .ok (.iload 4, 2) := by decide +kernel
theorem dX1_put_5 : decode cX1_put 5 = .ok (.bipush 8, 2) := by decide +kernel
theorem dX1_put_7 : decode cX1_put 7 = .ok (.if_icmp .ge 31, 3) := by decide +kernel
theorem dX1_put_10 : decode cX1_put 10 = .ok (.aload_n 0, 1) := by decide +kernel
theorem dX1_put_11 : decode cX1_put 11 = .ok (.getfield 15, 3) := by decide +kernel
theorem dX1_put_14 : decode cX1_put 14 = .ok (.iload 4, 2) := by decide +kernel
theorem dX1_put_16 : decode cX1_put 16 = .ok (.iaload, 1) := by decide +kernel
theorem dX1_put_17 : decode cX1_put 17 = .ok (.bipush 8, 2) := by decide +kernel
theorem dX1_put_19 : decode cX1_put 19 = .ok (.iload_n 1, 1) := by decide +kernel
theorem dX1_put_20 : decode cX1_put 20 = .ok (.iadd, 1) := by decide +kernel
theorem dX1_put_21 : decode cX1_put 21 = .ok (.if_icmp .ne 11, 3) := by decide +kernel
theorem dX1_put_24 : decode cX1_put 24 = .ok (.aload_n 0, 1) := by decide +kernel
theorem dX1_put_25 : decode cX1_put 25 = .ok (.getfield 15, 3) := by decide +kernel
theorem dX1_put_28 : decode cX1_put 28 = .ok (.iload 4, 2) := by decide +kernel
theorem dX1_put_30 : decode cX1_put 30 = .ok (.iconst (-1), 1) := by decide +kernel
theorem dX1_put_31 : decode cX1_put 31 = .ok (.iastore, 1) := by decide +kernel
theorem dX1_put_32 : decode cX1_put 32 = .ok (.iinc 4 1, 3) := by decide +kernel
theorem dX1_put_35 : decode cX1_put 35 = .ok (.goto (-32), 3) := by decide +kernel
theorem dX1_put_38 : decode cX1_put 38 = .ok (.aload_n 0, 1) := by decide +kernel
theorem dX1_put_39 : decode cX1_put 39 = .ok (.getfield 18, 3) := by decide +kernel
theorem dX1_put_42 : decode cX1_put 42 = .ok (.iload_n 1, 1) := by decide +kernel
theorem dX1_put_43 : decode cX1_put 43 = .ok (.iload_n 2, 1) := by decide +kernel
theorem dX1_put_44 : decode cX1_put 44 = .ok (.iastore, 1) := by decide +kernel
theorem dX1_put_45 : decode cX1_put 45 = .ok (.aload_n 0, 1) := by decide +kernel
theorem dX1_put_46 : decode cX1_put 46 = .ok (.getfield 21, 3) := by decide +kernel
theorem dX1_put_49 : decode cX1_put 49 = .ok (.iload_n 1, 1) := by decide +kernel
theorem dX1_put_50 : decode cX1_put 50 = .ok (.iload_n 3, 1) := by decide +kernel
theorem dX1_put_51 : decode cX1_put 51 = .ok (.iastore, 1) := by decide +kernel
theorem dX1_put_52 : decode cX1_put 52 = .ok (.aload_n 0, 1) := by decide +kernel
theorem dX1_put_53 : decode cX1_put 53 = .ok (.dup, 1) := by decide +kernel
theorem dX1_put_54 : decode cX1_put 54 = .ok (.getfield 34, 3) := by decide +kernel
theorem dX1_put_57 : decode cX1_put 57 = .ok (.iconst 1, 1) := by decide +kernel
theorem dX1_put_58 : decode cX1_put 58 = .ok (.iload_n 1, 1) := by decide +kernel
theorem dX1_put_59 : decode cX1_put 59 = .ok (.ishl, 1) := by decide +kernel
theorem dX1_put_60 : decode cX1_put 60 = .ok (.iconst (-1), 1) := by decide +kernel
theorem dX1_put_61 : decode cX1_put 61 = .ok (.ixor, 1) := by decide +kernel
theorem dX1_put_62 : decode cX1_put 62 = .ok (.iand, 1) := by decide +kernel
theorem dX1_put_63 : decode cX1_put 63 = .ok (.putfield 34, 3) := by decide +kernel
theorem dX1_put_66 : decode cX1_put 66 = .ok (.return_, 1) := by decide +kernel
theorem dX1_whyNot_0 : decode cX1_whyNot 0 = .ok (.iload_n 1, 1) := by decide +kernel
theorem dX1_whyNot_1 : decode cX1_whyNot 1 = .ok (.tableswitch 95 0 5 #[39, 47, 55, 71, 73, 89], 39) := by decide +kernel
theorem dX1_whyNot_40 : decode cX1_whyNot 40 = .ok (.aload_n 0, 1) := by decide +kernel
theorem dX1_whyNot_41 : decode cX1_whyNot 41 = .ok (.iload_n 2, 1) := by decide +kernel
theorem dX1_whyNot_42 : decode cX1_whyNot 42 = .ok (.iload_n 3, 1) := by decide +kernel
theorem dX1_whyNot_43 : decode cX1_whyNot 43 = .ok (.iconst 0, 1) := by decide +kernel
theorem dX1_whyNot_44 : decode cX1_whyNot 44 = .ok (.invokevirtual 55, 3) := by decide +kernel
theorem dX1_whyNot_47 : decode cX1_whyNot 47 = .ok (.ireturn, 1) := by decide +kernel
theorem dX1_whyNot_48 : decode cX1_whyNot 48 = .ok (.aload_n 0, 1) := by decide +kernel
theorem dX1_whyNot_49 : decode cX1_whyNot 49 = .ok (.iload_n 2, 1) := by decide +kernel
theorem dX1_whyNot_50 : decode cX1_whyNot 50 = .ok (.iload_n 3, 1) := by decide +kernel
theorem dX1_whyNot_51 : decode cX1_whyNot 51 = .ok (.iconst 1, 1) := by decide +kernel
theorem dX1_whyNot_52 : decode cX1_whyNot 52 = .ok (.invokevirtual 55, 3) := by decide +kernel
theorem dX1_whyNot_55 : decode cX1_whyNot 55 = .ok (.ireturn, 1) := by decide +kernel
theorem dX1_whyNot_56 : decode cX1_whyNot 56 = .ok (.aload_n 0, 1) := by decide +kernel
theorem dX1_whyNot_57 : decode cX1_whyNot 57 = .ok (.getfield 15, 3) := by decide +kernel
theorem dX1_whyNot_60 : decode cX1_whyNot 60 = .ok (.iload_n 2, 1) := by decide +kernel
theorem dX1_whyNot_61 : decode cX1_whyNot 61 = .ok (.iaload, 1) := by decide +kernel
theorem dX1_whyNot_62 : decode cX1_whyNot 62 = .ok (.iconst (-1), 1) := by decide +kernel
theorem dX1_whyNot_63 : decode cX1_whyNot 63 = .ok (.if_icmp .ne 7, 3) := by decide +kernel
theorem dX1_whyNot_66 : decode cX1_whyNot 66 = .ok (.iconst 0, 1) := by decide +kernel
theorem dX1_whyNot_67 : decode cX1_whyNot 67 = .ok (.goto 4, 3) := by decide +kernel
theorem dX1_whyNot_70 : decode cX1_whyNot 70 = .ok (.iconst 3, 1) := by decide +kernel
theorem dX1_whyNot_71 : decode cX1_whyNot 71 = .ok (.ireturn, 1) := by decide +kernel
theorem dX1_whyNot_72 : decode cX1_whyNot 72 = .ok (.iconst 0, 1) := by decide +kernel
theorem dX1_whyNot_73 : decode cX1_whyNot 73 = .ok (.ireturn, 1) := by decide +kernel
theorem dX1_whyNot_74 : decode cX1_whyNot 74 = .ok (.aload_n 0, 1) := by decide +kernel
theorem dX1_whyNot_75 : decode cX1_whyNot 75 = .ok (.getfield 38, 3) := by decide +kernel
theorem dX1_whyNot_78 : decode cX1_whyNot 78 = .ok (.bipush 99, 2) := by decide +kernel
theorem dX1_whyNot_80 : decode cX1_whyNot 80 = .ok (.if_icmp .ge 7, 3) := by decide +kernel
theorem dX1_whyNot_83 : decode cX1_whyNot 83 = .ok (.iconst 0, 1) := by decide +kernel
theorem dX1_whyNot_84 : decode cX1_whyNot 84 = .ok (.goto 5, 3) := by decide +kernel
theorem dX1_whyNot_87 : decode cX1_whyNot 87 = .ok (.bipush 10, 2) := by decide +kernel
theorem dX1_whyNot_89 : decode cX1_whyNot 89 = .ok (.ireturn, 1) := by decide +kernel
theorem dX1_whyNot_90 : decode cX1_whyNot 90 = .ok (.aload_n 0, 1) := by decide +kernel
theorem dX1_whyNot_91 : decode cX1_whyNot 91 = .ok (.iload_n 2, 1) := by decide +kernel
theorem dX1_whyNot_92 : decode cX1_whyNot 92 = .ok (.invokevirtual 59, 3) := by decide +kernel
theorem dX1_whyNot_95 : decode cX1_whyNot 95 = .ok (.ireturn, 1) := by decide +kernel
theorem dX1_whyNot_96 : decode cX1_whyNot 96 = .ok (.aload_n 0, 1) := by decide +kernel
theorem dX1_whyNot_97 : decode cX1_whyNot 97 = .ok (.iload_n 1, 1) := by decide +kernel
theorem dX1_whyNot_98 : decode cX1_whyNot 98 = .ok (.iload_n 2, 1) := by decide +kernel
theorem dX1_whyNot_99 : decode cX1_whyNot 99 = .ok (.iload_n 3, 1) := by decide +kernel
theorem dX1_whyNot_100 : decode cX1_whyNot 100 = .ok (.invokevirtual 62, 3) := by decide +kernel
theorem dX1_whyNot_103 : decode cX1_whyNot 103 = .ok (.ireturn, 1) := by decide +kernel
theorem dX1_whyNoWay_0 : decode cX1_whyNoWay 0 = .ok (.iload_n 1, 1) := by decide +kernel
theorem dX1_whyNoWay_1 : decode cX1_whyNoWay 1 = .ok (.iload_n 2, 1) := by decide +kernel
theorem dX1_whyNoWay_2 : decode cX1_whyNoWay 2 = .ok (.if_icmp .ne 5, 3) := by decide +kernel
theorem dX1_whyNoWay_5 : decode cX1_whyNoWay 5 = .ok (.iconst 1, 1) := by decide +kernel
theorem dX1_whyNoWay_6 : decode cX1_whyNoWay 6 = .ok (.ireturn, 1) := by decide +kernel
theorem dX1_whyNoWay_7 : decode cX1_whyNoWay 7 = .ok (.aload_n 0, 1) := by decide +kernel
theorem dX1_whyNoWay_8 : decode cX1_whyNoWay 8 = .ok (.getfield 9, 3) := by decide +kernel
theorem dX1_whyNoWay_11 : decode cX1_whyNoWay 11 = .ok (.iload_n 1, 1) := by decide +kernel
theorem dX1_whyNoWay_12 : decode cX1_whyNoWay 12 = .ok (.iaload, 1) := by decide +kernel
theorem dX1_whyNoWay_13 : decode cX1_whyNoWay 13 = .ok (.iload_n 2, 1) := by decide +kernel
theorem dX1_whyNoWay_14 : decode cX1_whyNoWay 14 = .ok (.invokestatic 51, 3) := by decide +kernel
theorem dX1_whyNoWay_17 : decode cX1_whyNoWay 17 = .ok (.iload_n 3, 1) := by decide +kernel
theorem dX1_whyNoWay_18 : decode cX1_whyNoWay 18 = .ok (.if_icmp .ne 7, 3) := by decide +kernel
theorem dX1_whyNoWay_21 : decode cX1_whyNoWay 21 = .ok (.iconst 0, 1) := by decide +kernel
theorem dX1_whyNoWay_22 : decode cX1_whyNoWay 22 = .ok (.goto 4, 3) := by decide +kernel
theorem dX1_whyNoWay_25 : decode cX1_whyNoWay 25 = .ok (.iconst 2, 1) := by decide +kernel
theorem dX1_whyNoWay_26 : decode cX1_whyNoWay 26 = .ok (.ireturn, 1) := by decide +kernel
theorem dX1_whyNotOver_0 : decode cX1_whyNotOver 0 = .ok (.aload_n 0, 1) := by decide +kernel
theorem dX1_whyNotOver_1 : decode cX1_whyNotOver 1 = .ok (.getfield 18, 3) := by decide +kernel
theorem dX1_whyNotOver_4 : decode cX1_whyNotOver 4 = .ok (.iload_n 1, 1) := by decide +kernel
theorem dX1_whyNotOver_5 : decode cX1_whyNotOver 5 = .ok (.iaload, 1) := by decide +kernel
theorem dX1_whyNotOver_6 : decode cX1_whyNotOver 6 = .ok (.iconst (-1), 1) := by decide +kernel
theorem dX1_whyNotOver_7 : decode cX1_whyNotOver 7 = .ok (.if_icmp .eq 5, 3) := by decide +kernel
theorem dX1_whyNotOver_10 : decode cX1_whyNotOver 10 = .ok (.iconst 4, 1) := by decide +kernel
theorem dX1_whyNotOver_11 : decode cX1_whyNotOver 11 = .ok (.ireturn, 1) := by decide +kernel
theorem dX1_whyNotOver_12 : decode cX1_whyNotOver 12 = .ok (.aload_n 0, 1) := by decide +kernel
theorem dX1_whyNotOver_13 : decode cX1_whyNotOver 13 = .ok (.getfield 24, 3) := by decide +kernel
theorem dX1_whyNotOver_16 : decode cX1_whyNotOver 16 = .ok (.ifCond .eq 7, 3) := by decide +kernel
theorem dX1_whyNotOver_19 : decode cX1_whyNotOver 19 = .ok (.iconst 0, 1) := by decide +kernel
theorem dX1_whyNotOver_20 : decode cX1_whyNotOver 20 = .ok (.goto 5, 3) := by decide +kernel
theorem dX1_whyNotOver_23 : decode cX1_whyNotOver 23 = .ok (.bipush 6, 2) := by decide +kernel
theorem dX1_whyNotOver_25 : decode cX1_whyNotOver 25 = .ok (.ireturn, 1) := by decide +kernel
theorem dX1_whyNotThere_0 : decode cX1_whyNotThere 0 = .ok (.aload_n 0, 1) := by decide +kernel
theorem dX1_whyNotThere_1 : decode cX1_whyNotThere 1 = .ok (.getfield 18, 3) := by decide +kernel
theorem dX1_whyNotThere_4 : decode cX1_whyNotThere 4 = .ok (.iload_n 2, 1) := by decide +kernel
theorem dX1_whyNotThere_5 : decode cX1_whyNotThere 5 = .ok (.iaload, 1) := by decide +kernel
theorem dX1_whyNotThere_6 : decode cX1_whyNotThere 6 = .ok (.istore 4, 2) := by decide +kernel
theorem dX1_whyNotThere_8 : decode cX1_whyNotThere 8 = .ok (.iload 4, 2) := by decide +kernel
theorem dX1_whyNotThere_10 : decode cX1_whyNotThere 10 = .ok (.iconst (-1), 1) := by decide +kernel
theorem dX1_whyNotThere_11 : decode cX1_whyNotThere 11 = .ok (.if_icmp .ne 5, 3) := by decide +kernel
theorem dX1_whyNotThere_14 : decode cX1_whyNotThere 14 = .ok (.iconst 4, 1) := by decide +kernel
theorem dX1_whyNotThere_15 : decode cX1_whyNotThere 15 = .ok (.ireturn, 1) := by decide +kernel
theorem dX1_whyNotThere_16 : decode cX1_whyNotThere 16 = .ok (.aload_n 0, 1) := by decide +kernel
theorem dX1_whyNotThere_17 : decode cX1_whyNotThere 17 = .ok (.getfield 34, 3) := by decide +kernel
theorem dX1_whyNotThere_20 : decode cX1_whyNotThere 20 = .ok (.iload_n 2, 1) := by decide +kernel
theorem dX1_whyNotThere_21 : decode cX1_whyNotThere 21 = .ok (.invokestatic 51, 3) := by decide +kernel
theorem dX1_whyNotThere_24 : decode cX1_whyNotThere 24 = .ok (.ifCond .eq 5, 3) := by decide +kernel
theorem dX1_whyNotThere_27 : decode cX1_whyNotThere 27 = .ok (.iconst 5, 1) := by decide +kernel
theorem dX1_whyNotThere_28 : decode cX1_whyNotThere 28 = .ok (.ireturn, 1) := by decide +kernel
theorem dX1_whyNotThere_29 : decode cX1_whyNotThere 29 = .ok (.iload_n 1, 1) := by decide +kernel
theorem dX1_whyNotThere_30 : decode cX1_whyNotThere 30 = .ok (.tableswitch 87 6 8 #[26, 48, 69], 26) := by decide +kernel
theorem dX1_whyNotThere_56 : decode cX1_whyNotThere 56 = .ok (.aload_n 0, 1) := by decide +kernel
theorem dX1_whyNotThere_57 : decode cX1_whyNotThere 57 = .ok (.getfield 24, 3) := by decide +kernel
theorem dX1_whyNotThere_60 : decode cX1_whyNotThere 60 = .ok (.ifCond .ne 6, 3) := by decide +kernel
theorem dX1_whyNotThere_63 : decode cX1_whyNotThere 63 = .ok (.bipush 6, 2) := by decide +kernel
theorem dX1_whyNotThere_65 : decode cX1_whyNotThere 65 = .ok (.ireturn, 1) := by decide +kernel
theorem dX1_whyNotThere_66 : decode cX1_whyNotThere 66 = .ok (.iload 4, 2) := by decide +kernel
theorem dX1_whyNotThere_68 : decode cX1_whyNotThere 68 = .ok (.ifCond .ne 7, 3) := by decide +kernel
theorem dX1_whyNotThere_71 : decode cX1_whyNotThere 71 = .ok (.iconst 0, 1) := by decide +kernel
theorem dX1_whyNotThere_72 : decode cX1_whyNotThere 72 = .ok (.goto 5, 3) := by decide +kernel
theorem dX1_whyNotThere_75 : decode cX1_whyNotThere 75 = .ok (.bipush 7, 2) := by decide +kernel
theorem dX1_whyNotThere_77 : decode cX1_whyNotThere 77 = .ok (.ireturn, 1) := by decide +kernel
theorem dX1_whyNotThere_78 : decode cX1_whyNotThere 78 = .ok (.aload_n 0, 1) := by decide +kernel
theorem dX1_whyNotThere_79 : decode cX1_whyNotThere 79 = .ok (.getfield 9, 3) := by decide +kernel
theorem dX1_whyNotThere_82 : decode cX1_whyNotThere 82 = .ok (.iload 4, 2) := by decide +kernel
theorem dX1_whyNotThere_84 : decode cX1_whyNotThere 84 = .ok (.iaload, 1) := by decide +kernel
theorem dX1_whyNotThere_85 : decode cX1_whyNotThere 85 = .ok (.iload_n 3, 1) := by decide +kernel
theorem dX1_whyNotThere_86 : decode cX1_whyNotThere 86 = .ok (.invokestatic 51, 3) := by decide +kernel
theorem dX1_whyNotThere_89 : decode cX1_whyNotThere 89 = .ok (.ifCond .eq 7, 3) := by decide +kernel
theorem dX1_whyNotThere_92 : decode cX1_whyNotThere 92 = .ok (.iconst 0, 1) := by decide +kernel
theorem dX1_whyNotThere_93 : decode cX1_whyNotThere 93 = .ok (.goto 5, 3) := by decide +kernel
theorem dX1_whyNotThere_96 : decode cX1_whyNotThere 96 = .ok (.bipush 8, 2) := by decide +kernel
theorem dX1_whyNotThere_98 : decode cX1_whyNotThere 98 = .ok (.ireturn, 1) := by decide +kernel
theorem dX1_whyNotThere_99 : decode cX1_whyNotThere 99 = .ok (.aload_n 0, 1) := by decide +kernel
theorem dX1_whyNotThere_100 : decode cX1_whyNotThere 100 = .ok (.getfield 15, 3) := by decide +kernel
theorem dX1_whyNotThere_103 : decode cX1_whyNotThere 103 = .ok (.iload_n 3, 1) := by decide +kernel
theorem dX1_whyNotThere_104 : decode cX1_whyNotThere 104 = .ok (.iaload, 1) := by decide +kernel
theorem dX1_whyNotThere_105 : decode cX1_whyNotThere 105 = .ok (.iload 4, 2) := by decide +kernel
theorem dX1_whyNotThere_107 : decode cX1_whyNotThere 107 = .ok (.if_icmp .ne 7, 3) := by decide +kernel
theorem dX1_whyNotThere_110 : decode cX1_whyNotThere 110 = .ok (.iconst 0, 1) := by decide +kernel
theorem dX1_whyNotThere_111 : decode cX1_whyNotThere 111 = .ok (.goto 5, 3) := by decide +kernel
theorem dX1_whyNotThere_114 : decode cX1_whyNotThere 114 = .ok (.bipush 9, 2) := by decide +kernel
theorem dX1_whyNotThere_116 : decode cX1_whyNotThere 116 = .ok (.ireturn, 1) := by decide +kernel
theorem dX1_whyNotThere_117 : decode cX1_whyNotThere 117 = .ok (.iconst 0, 1) := by decide +kernel
theorem dX1_whyNotThere_118 : decode cX1_whyNotThere 118 = .ok (.ireturn, 1) := by decide +kernel
theorem dX1_perform_0 : decode cX1_perform 0 = .ok (.iload_n 1, 1) := by decide +kernel
theorem dX1_perform_1 : decode cX1_perform 1 = .ok (.tableswitch 148 0 8 #[51, 51, 69, 79, 98, 105, 115, 125, 135], 51) := by decide +kernel
theorem dX1_perform_52 : decode cX1_perform 52 = .ok (.aload_n 0, 1) := by decide +kernel
theorem dX1_perform_53 : decode cX1_perform 53 = .ok (.iload_n 2, 1) := by decide +kernel
theorem dX1_perform_54 : decode cX1_perform 54 = .ok (.iload_n 3, 1) := by decide +kernel
theorem dX1_perform_55 : decode cX1_perform 55 = .ok (.iload_n 1, 1) := by decide +kernel
theorem dX1_perform_56 : decode cX1_perform 56 = .ok (.ifCond .ne 7, 3) := by decide +kernel
theorem dX1_perform_59 : decode cX1_perform 59 = .ok (.iconst 1, 1) := by decide +kernel
theorem dX1_perform_60 : decode cX1_perform 60 = .ok (.goto 4, 3) := by decide +kernel
theorem dX1_perform_63 : decode cX1_perform 63 = .ok (.iconst 0, 1) := by decide +kernel
theorem dX1_perform_64 : decode cX1_perform 64 = .ok (.invokevirtual 66, 3) := by decide +kernel
theorem dX1_perform_67 : decode cX1_perform 67 = .ok (.goto 94, 3) := by decide +kernel
theorem dX1_perform_70 : decode cX1_perform 70 = .ok (.aload_n 0, 1) := by decide +kernel
theorem dX1_perform_71 : decode cX1_perform 71 = .ok (.getfield 15, 3) := by decide +kernel
theorem dX1_perform_74 : decode cX1_perform 74 = .ok (.iload_n 2, 1) := by decide +kernel
theorem dX1_perform_75 : decode cX1_perform 75 = .ok (.iload_n 3, 1) := by decide +kernel
theorem dX1_perform_76 : decode cX1_perform 76 = .ok (.iastore, 1) := by decide +kernel
theorem dX1_perform_77 : decode cX1_perform 77 = .ok (.goto 84, 3) := by decide +kernel
theorem dX1_perform_80 : decode cX1_perform 80 = .ok (.aload_n 0, 1) := by decide +kernel
theorem dX1_perform_81 : decode cX1_perform 81 = .ok (.aload_n 0, 1) := by decide +kernel
theorem dX1_perform_82 : decode cX1_perform 82 = .ok (.getfield 24, 3) := by decide +kernel
theorem dX1_perform_85 : decode cX1_perform 85 = .ok (.ifCond .ne 7, 3) := by decide +kernel
theorem dX1_perform_88 : decode cX1_perform 88 = .ok (.iconst 1, 1) := by decide +kernel
theorem dX1_perform_89 : decode cX1_perform 89 = .ok (.goto 4, 3) := by decide +kernel
theorem dX1_perform_92 : decode cX1_perform 92 = .ok (.iconst 0, 1) := by decide +kernel
theorem dX1_perform_93 : decode cX1_perform 93 = .ok (.putfield 24, 3) := by decide +kernel
theorem dX1_perform_96 : decode cX1_perform 96 = .ok (.goto 65, 3) := by decide +kernel
theorem dX1_perform_99 : decode cX1_perform 99 = .ok (.aload_n 0, 1) := by decide +kernel
theorem dX1_perform_100 : decode cX1_perform 100 = .ok (.invokevirtual 70, 3) := by decide +kernel
theorem dX1_perform_103 : decode cX1_perform 103 = .ok (.goto 58, 3) := by decide +kernel
theorem dX1_perform_106 : decode cX1_perform 106 = .ok (.aload_n 0, 1) := by decide +kernel
theorem dX1_perform_107 : decode cX1_perform 107 = .ok (.iload_n 2, 1) := by decide +kernel
theorem dX1_perform_108 : decode cX1_perform 108 = .ok (.iconst 0, 1) := by decide +kernel
theorem dX1_perform_109 : decode cX1_perform 109 = .ok (.iconst 0, 1) := by decide +kernel
theorem dX1_perform_110 : decode cX1_perform 110 = .ok (.invokevirtual 73, 3) := by decide +kernel
theorem dX1_perform_113 : decode cX1_perform 113 = .ok (.goto 48, 3) := by decide +kernel
theorem dX1_perform_116 : decode cX1_perform 116 = .ok (.aload_n 0, 1) := by decide +kernel
theorem dX1_perform_117 : decode cX1_perform 117 = .ok (.iload_n 2, 1) := by decide +kernel
theorem dX1_perform_118 : decode cX1_perform 118 = .ok (.iconst (-1), 1) := by decide +kernel
theorem dX1_perform_119 : decode cX1_perform 119 = .ok (.iconst 0, 1) := by decide +kernel
theorem dX1_perform_120 : decode cX1_perform 120 = .ok (.invokevirtual 73, 3) := by decide +kernel
theorem dX1_perform_123 : decode cX1_perform 123 = .ok (.goto 38, 3) := by decide +kernel
theorem dX1_perform_126 : decode cX1_perform 126 = .ok (.aload_n 0, 1) := by decide +kernel
theorem dX1_perform_127 : decode cX1_perform 127 = .ok (.getfield 18, 3) := by decide +kernel
theorem dX1_perform_130 : decode cX1_perform 130 = .ok (.iload_n 2, 1) := by decide +kernel
theorem dX1_perform_131 : decode cX1_perform 131 = .ok (.iload_n 3, 1) := by decide +kernel
theorem dX1_perform_132 : decode cX1_perform 132 = .ok (.iastore, 1) := by decide +kernel
theorem dX1_perform_133 : decode cX1_perform 133 = .ok (.goto 28, 3) := by decide +kernel
theorem dX1_perform_136 : decode cX1_perform 136 = .ok (.aload_n 0, 1) := by decide +kernel
theorem dX1_perform_137 : decode cX1_perform 137 = .ok (.getfield 15, 3) := by decide +kernel
theorem dX1_perform_140 : decode cX1_perform 140 = .ok (.iload_n 3, 1) := by decide +kernel
theorem dX1_perform_141 : decode cX1_perform 141 = .ok (.bipush 8, 2) := by decide +kernel
theorem dX1_perform_143 : decode cX1_perform 143 = .ok (.iload_n 2, 1) := by decide +kernel
theorem dX1_perform_144 : decode cX1_perform 144 = .ok (.iadd, 1) := by decide +kernel
theorem dX1_perform_145 : decode cX1_perform 145 = .ok (.iastore, 1) := by decide +kernel
theorem dX1_perform_146 : decode cX1_perform 146 = .ok (.goto 15, 3) := by decide +kernel
theorem dX1_perform_149 : decode cX1_perform 149 = .ok (.aload_n 0, 1) := by decide +kernel
theorem dX1_perform_150 : decode cX1_perform 150 = .ok (.dup, 1) := by decide +kernel
theorem dX1_perform_151 : decode cX1_perform 151 = .ok (.getfield 34, 3) := by decide +kernel
theorem dX1_perform_154 : decode cX1_perform 154 = .ok (.iconst 1, 1) := by decide +kernel
theorem dX1_perform_155 : decode cX1_perform 155 = .ok (.iload_n 2, 1) := by decide +kernel
theorem dX1_perform_156 : decode cX1_perform 156 = .ok (.ishl, 1) := by decide +kernel
theorem dX1_perform_157 : decode cX1_perform 157 = .ok (.ior, 1) := by decide +kernel
theorem dX1_perform_158 : decode cX1_perform 158 = .ok (.putfield 34, 3) := by decide +kernel
theorem dX1_perform_161 : decode cX1_perform 161 = .ok (.return_, 1) := by decide +kernel
theorem dX1_passHour_0 : decode cX1_passHour 0 = .ok (.aload_n 0, 1) := by decide +kernel
theorem dX1_passHour_1 : decode cX1_passHour 1 = .ok (.dup, 1) := by decide +kernel
theorem dX1_passHour_2 : decode cX1_passHour 2 = .ok (.getfield 38, 3) := by decide +kernel
theorem dX1_passHour_5 : decode cX1_passHour 5 = .ok (.iconst 1, 1) := by decide +kernel
theorem dX1_passHour_6 : decode cX1_passHour 6 = .ok (.iadd, 1) := by decide +kernel
theorem dX1_passHour_7 : decode cX1_passHour 7 = .ok (.putfield 38, 3) := by decide +kernel
theorem dX1_passHour_10 : decode cX1_passHour 10 = .ok (.iconst 0, 1) := by decide +kernel
theorem dX1_passHour_11 : decode cX1_passHour 11 = .ok (.istore_n 1, 1) := by decide +kernel
theorem dX1_passHour_12 : decode cX1_passHour 12 = .ok (.iload_n 1, 1) := by decide +kernel
theorem dX1_passHour_13 : decode cX1_passHour 13 = .ok (.bipush 6, 2) := by decide +kernel
theorem dX1_passHour_15 : decode cX1_passHour 15 = .ok (.if_icmp .ge 72, 3) := by decide +kernel
theorem dX1_passHour_18 : decode cX1_passHour 18 = .ok (.aload_n 0, 1) := by decide +kernel
theorem dX1_passHour_19 : decode cX1_passHour 19 = .ok (.getfield 18, 3) := by decide +kernel
theorem dX1_passHour_22 : decode cX1_passHour 22 = .ok (.iload_n 1, 1) := by decide +kernel
theorem dX1_passHour_23 : decode cX1_passHour 23 = .ok (.iaload, 1) := by decide +kernel
theorem dX1_passHour_24 : decode cX1_passHour 24 = .ok (.iconst (-1), 1) := by decide +kernel
theorem dX1_passHour_25 : decode cX1_passHour 25 = .ok (.if_icmp .eq 56, 3) := by decide +kernel
theorem dX1_passHour_28 : decode cX1_passHour 28 = .ok (.aload_n 0, 1) := by decide +kernel
theorem dX1_passHour_29 : decode cX1_passHour 29 = .ok (.getfield 34, 3) := by decide +kernel
theorem dX1_passHour_32 : decode cX1_passHour 32 = .ok (.iload_n 1, 1) := by decide +kernel
theorem dX1_passHour_33 : decode cX1_passHour 33 = .ok (.invokestatic 51, 3) := by decide +kernel
theorem dX1_passHour_36 : decode cX1_passHour 36 = .ok (.ifCond .ne 45, 3) := by decide +kernel
theorem dX1_passHour_39 : decode cX1_passHour 39 = .ok (.aload_n 0, 1) := by decide +kernel
theorem dX1_passHour_40 : decode cX1_passHour 40 = .ok (.getfield 21, 3) := by decide +kernel
theorem dX1_passHour_43 : decode cX1_passHour 43 = .ok (.iload_n 1, 1) := by decide +kernel
theorem dX1_passHour_44 : decode cX1_passHour 44 = .ok (.aload_n 0, 1) := by decide +kernel
theorem dX1_passHour_45 : decode cX1_passHour 45 = .ok (.getfield 21, 3) := by decide +kernel
theorem dX1_passHour_48 : decode cX1_passHour 48 = .ok (.iload_n 1, 1) := by decide +kernel
theorem dX1_passHour_49 : decode cX1_passHour 49 = .ok (.iaload, 1) := by decide +kernel
theorem dX1_passHour_50 : decode cX1_passHour 50 = .ok (.iconst 1, 1) := by decide +kernel
theorem dX1_passHour_51 : decode cX1_passHour 51 = .ok (.iadd, 1) := by decide +kernel
theorem dX1_passHour_52 : decode cX1_passHour 52 = .ok (.bipush 9, 2) := by decide +kernel
theorem dX1_passHour_54 : decode cX1_passHour 54 = .ok (.invokestatic 77, 3) := by decide +kernel
theorem dX1_passHour_57 : decode cX1_passHour 57 = .ok (.iastore, 1) := by decide +kernel
theorem dX1_passHour_58 : decode cX1_passHour 58 = .ok (.aload_n 0, 1) := by decide +kernel
theorem dX1_passHour_59 : decode cX1_passHour 59 = .ok (.getfield 21, 3) := by decide +kernel
theorem dX1_passHour_62 : decode cX1_passHour 62 = .ok (.iload_n 1, 1) := by decide +kernel
theorem dX1_passHour_63 : decode cX1_passHour 63 = .ok (.iaload, 1) := by decide +kernel
theorem dX1_passHour_64 : decode cX1_passHour 64 = .ok (.bipush 9, 2) := by decide +kernel
theorem dX1_passHour_66 : decode cX1_passHour 66 = .ok (.if_icmp .ne 15, 3) := by decide +kernel
theorem dX1_passHour_69 : decode cX1_passHour 69 = .ok (.aload_n 0, 1) := by decide +kernel
theorem dX1_passHour_70 : decode cX1_passHour 70 = .ok (.dup, 1) := by decide +kernel
theorem dX1_passHour_71 : decode cX1_passHour 71 = .ok (.getfield 34, 3) := by decide +kernel
theorem dX1_passHour_74 : decode cX1_passHour 74 = .ok (.iconst 1, 1) := by decide +kernel
theorem dX1_passHour_75 : decode cX1_passHour 75 = .ok (.iload_n 1, 1) := by decide +kernel
theorem dX1_passHour_76 : decode cX1_passHour 76 = .ok (.ishl, 1) := by decide +kernel
theorem dX1_passHour_77 : decode cX1_passHour 77 = .ok (.ior, 1) := by decide +kernel
theorem dX1_passHour_78 : decode cX1_passHour 78 = .ok (.putfield 34, 3) := by decide +kernel
theorem dX1_passHour_81 : decode cX1_passHour 81 = .ok (.iinc 1 1, 3) := by decide +kernel
theorem dX1_passHour_84 : decode cX1_passHour 84 = .ok (.goto (-72), 3) := by decide +kernel
theorem dX1_passHour_87 : decode cX1_passHour 87 = .ok (.return_, 1) := by decide +kernel
theorem dX1_fewestWays_0 : decode cX1_fewestWays 0 = .ok (.iconst 1, 1) := by decide +kernel
theorem dX1_fewestWays_1 : decode cX1_fewestWays 1 = .ok (.iload_n 1, 1) := by decide +kernel
theorem dX1_fewestWays_2 : decode cX1_fewestWays 2 = .ok (.ishl, 1) := by decide +kernel
theorem dX1_fewestWays_3 : decode cX1_fewestWays 3 = .ok (.istore_n 3, 1) := by decide +kernel
theorem dX1_fewestWays_4 : decode cX1_fewestWays 4 = .ok (.iconst 0, 1) := by decide +kernel
theorem dX1_fewestWays_5 : decode cX1_fewestWays 5 = .ok (.istore 4, 2) := by decide +kernel
theorem dX1_fewestWays_7 : decode cX1_fewestWays 7 = .ok (.iload 4, 2) := by decide +kernel
theorem dX1_fewestWays_9 : decode cX1_fewestWays 9 = .ok (.bipush 8, 2) := by decide +kernel
theorem dX1_fewestWays_11 : decode cX1_fewestWays 11 = .ok (.if_icmp .ge 28, 3) := by decide +kernel
theorem dX1_fewestWays_14 : decode cX1_fewestWays 14 = .ok (.iload_n 3, 1) := by decide +kernel
theorem dX1_fewestWays_15 : decode cX1_fewestWays 15 = .ok (.iload_n 2, 1) := by decide +kernel
theorem dX1_fewestWays_16 : decode cX1_fewestWays 16 = .ok (.invokestatic 51, 3) := by decide +kernel
theorem dX1_fewestWays_19 : decode cX1_fewestWays 19 = .ok (.ifCond .eq 6, 3) := by decide +kernel
theorem dX1_fewestWays_22 : decode cX1_fewestWays 22 = .ok (.iload 4, 2) := by decide +kernel
theorem dX1_fewestWays_24 : decode cX1_fewestWays 24 = .ok (.ireturn, 1) := by decide +kernel
theorem dX1_fewestWays_25 : decode cX1_fewestWays 25 = .ok (.iload_n 3, 1) := by decide +kernel
theorem dX1_fewestWays_26 : decode cX1_fewestWays 26 = .ok (.aload_n 0, 1) := by decide +kernel
theorem dX1_fewestWays_27 : decode cX1_fewestWays 27 = .ok (.iload_n 3, 1) := by decide +kernel
theorem dX1_fewestWays_28 : decode cX1_fewestWays 28 = .ok (.invokevirtual 83, 3) := by decide +kernel
theorem dX1_fewestWays_31 : decode cX1_fewestWays 31 = .ok (.ior, 1) := by decide +kernel
theorem dX1_fewestWays_32 : decode cX1_fewestWays 32 = .ok (.istore_n 3, 1) := by decide +kernel
theorem dX1_fewestWays_33 : decode cX1_fewestWays 33 = .ok (.iinc 4 1, 3) := by decide +kernel
theorem dX1_fewestWays_36 : decode cX1_fewestWays 36 = .ok (.goto (-29), 3) := by decide +kernel
theorem dX1_fewestWays_39 : decode cX1_fewestWays 39 = .ok (.bipush (-6), 2) := by decide +kernel
theorem dX1_fewestWays_41 : decode cX1_fewestWays 41 = .ok (.ireturn, 1) := by decide +kernel
theorem dX1_neighboursOf_0 : decode cX1_neighboursOf 0 = .ok (.iconst 0, 1) := by decide +kernel
theorem dX1_neighboursOf_1 : decode cX1_neighboursOf 1 = .ok (.istore_n 2, 1) := by decide +kernel
theorem dX1_neighboursOf_2 : decode cX1_neighboursOf 2 = .ok (.iconst 0, 1) := by decide +kernel
theorem dX1_neighboursOf_3 : decode cX1_neighboursOf 3 = .ok (.istore_n 3, 1) := by decide +kernel
theorem dX1_neighboursOf_4 : decode cX1_neighboursOf 4 = .ok (.iload_n 3, 1) := by decide +kernel
theorem dX1_neighboursOf_5 : decode cX1_neighboursOf 5 = .ok (.bipush 8, 2) := by decide +kernel
theorem dX1_neighboursOf_7 : decode cX1_neighboursOf 7 = .ok (.if_icmp .ge 26, 3) := by decide +kernel
theorem dX1_neighboursOf_10 : decode cX1_neighboursOf 10 = .ok (.iload_n 1, 1) := by decide +kernel
theorem dX1_neighboursOf_11 : decode cX1_neighboursOf 11 = .ok (.iload_n 3, 1) := by decide +kernel
theorem dX1_neighboursOf_12 : decode cX1_neighboursOf 12 = .ok (.invokestatic 51, 3) := by decide +kernel
theorem dX1_neighboursOf_15 : decode cX1_neighboursOf 15 = .ok (.ifCond .eq 12, 3) := by decide +kernel
theorem dX1_neighboursOf_18 : decode cX1_neighboursOf 18 = .ok (.iload_n 2, 1) := by decide +kernel
theorem dX1_neighboursOf_19 : decode cX1_neighboursOf 19 = .ok (.aload_n 0, 1) := by decide +kernel
theorem dX1_neighboursOf_20 : decode cX1_neighboursOf 20 = .ok (.getfield 9, 3) := by decide +kernel
theorem dX1_neighboursOf_23 : decode cX1_neighboursOf 23 = .ok (.iload_n 3, 1) := by decide +kernel
theorem dX1_neighboursOf_24 : decode cX1_neighboursOf 24 = .ok (.iaload, 1) := by decide +kernel
theorem dX1_neighboursOf_25 : decode cX1_neighboursOf 25 = .ok (.ior, 1) := by decide +kernel
theorem dX1_neighboursOf_26 : decode cX1_neighboursOf 26 = .ok (.istore_n 2, 1) := by decide +kernel
theorem dX1_neighboursOf_27 : decode cX1_neighboursOf 27 = .ok (.iinc 3 1, 3) := by decide +kernel
theorem dX1_neighboursOf_30 : decode cX1_neighboursOf 30 = .ok (.goto (-26), 3) := by decide +kernel
theorem dX1_neighboursOf_33 : decode cX1_neighboursOf 33 = .ok (.iload_n 2, 1) := by decide +kernel
theorem dX1_neighboursOf_34 : decode cX1_neighboursOf 34 = .ok (.ireturn, 1) := by decide +kernel
theorem dX1_waysOutOf_0 : decode cX1_waysOutOf 0 = .ok (.iconst 0, 1) := by decide +kernel
theorem dX1_waysOutOf_1 : decode cX1_waysOutOf 1 = .ok (.istore_n 2, 1) := by decide +kernel
theorem dX1_waysOutOf_2 : decode cX1_waysOutOf 2 = .ok (.iconst 0, 1) := by decide +kernel
theorem dX1_waysOutOf_3 : decode cX1_waysOutOf 3 = .ok (.istore_n 3, 1) := by decide +kernel
theorem dX1_waysOutOf_4 : decode cX1_waysOutOf 4 = .ok (.iload_n 3, 1) := by decide +kernel
theorem dX1_waysOutOf_5 : decode cX1_waysOutOf 5 = .ok (.bipush 8, 2) := by decide +kernel
theorem dX1_waysOutOf_7 : decode cX1_waysOutOf 7 = .ok (.if_icmp .ge 33, 3) := by decide +kernel
theorem dX1_waysOutOf_10 : decode cX1_waysOutOf 10 = .ok (.iload_n 1, 1) := by decide +kernel
theorem dX1_waysOutOf_11 : decode cX1_waysOutOf 11 = .ok (.iload_n 3, 1) := by decide +kernel
theorem dX1_waysOutOf_12 : decode cX1_waysOutOf 12 = .ok (.invokestatic 51, 3) := by decide +kernel
theorem dX1_waysOutOf_15 : decode cX1_waysOutOf 15 = .ok (.ifCond .eq 19, 3) := by decide +kernel
theorem dX1_waysOutOf_18 : decode cX1_waysOutOf 18 = .ok (.iload_n 2, 1) := by decide +kernel
theorem dX1_waysOutOf_19 : decode cX1_waysOutOf 19 = .ok (.aload_n 0, 1) := by decide +kernel
theorem dX1_waysOutOf_20 : decode cX1_waysOutOf 20 = .ok (.getfield 9, 3) := by decide +kernel
theorem dX1_waysOutOf_23 : decode cX1_waysOutOf 23 = .ok (.iload_n 3, 1) := by decide +kernel
theorem dX1_waysOutOf_24 : decode cX1_waysOutOf 24 = .ok (.iaload, 1) := by decide +kernel
theorem dX1_waysOutOf_25 : decode cX1_waysOutOf 25 = .ok (.iload_n 1, 1) := by decide +kernel
theorem dX1_waysOutOf_26 : decode cX1_waysOutOf 26 = .ok (.iconst (-1), 1) := by decide +kernel
theorem dX1_waysOutOf_27 : decode cX1_waysOutOf 27 = .ok (.ixor, 1) := by decide +kernel
theorem dX1_waysOutOf_28 : decode cX1_waysOutOf 28 = .ok (.iand, 1) := by decide +kernel
theorem dX1_waysOutOf_29 : decode cX1_waysOutOf 29 = .ok (.invokestatic 41, 3) := by decide +kernel
theorem dX1_waysOutOf_32 : decode cX1_waysOutOf 32 = .ok (.iadd, 1) := by decide +kernel
theorem dX1_waysOutOf_33 : decode cX1_waysOutOf 33 = .ok (.istore_n 2, 1) := by decide +kernel
theorem dX1_waysOutOf_34 : decode cX1_waysOutOf 34 = .ok (.iinc 3 1, 3) := by decide +kernel
theorem dX1_waysOutOf_37 : decode cX1_waysOutOf 37 = .ok (.goto (-33), 3) := by decide +kernel
theorem dX1_waysOutOf_40 : decode cX1_waysOutOf 40 = .ok (.iload_n 2, 1) := by decide +kernel
theorem dX1_waysOutOf_41 : decode cX1_waysOutOf 41 = .ok (.ireturn, 1) := by decide +kernel
theorem dX1_leastCut_0 : decode cX1_leastCut 0 = .ok (.iconst 1, 1) := by decide +kernel
theorem dX1_leastCut_1 : decode cX1_leastCut 1 = .ok (.iload_n 1, 1) := by decide +kernel
theorem dX1_leastCut_2 : decode cX1_leastCut 2 = .ok (.ishl, 1) := by decide +kernel
theorem dX1_leastCut_3 : decode cX1_leastCut 3 = .ok (.istore_n 3, 1) := by decide +kernel
theorem dX1_leastCut_4 : decode cX1_leastCut 4 = .ok (.aload_n 0, 1) := by decide +kernel
theorem dX1_leastCut_5 : decode cX1_leastCut 5 = .ok (.iload_n 3, 1) := by decide +kernel
theorem dX1_leastCut_6 : decode cX1_leastCut 6 = .ok (.invokevirtual 86, 3) := by decide +kernel
theorem dX1_leastCut_9 : decode cX1_leastCut 9 = .ok (.istore 4, 2) := by decide +kernel
theorem dX1_leastCut_11 : decode cX1_leastCut 11 = .ok (.iload_n 3, 1) := by decide +kernel
theorem dX1_leastCut_12 : decode cX1_leastCut 12 = .ok (.istore 5, 2) := by decide +kernel
theorem dX1_leastCut_14 : decode cX1_leastCut 14 = .ok (.iload 5, 2) := by decide +kernel
theorem dX1_leastCut_16 : decode cX1_leastCut 16 = .ok (.sipush 256, 3) := by decide +kernel
theorem dX1_leastCut_19 : decode cX1_leastCut 19 = .ok (.if_icmp .ge 49, 3) := by decide +kernel
theorem dX1_leastCut_22 : decode cX1_leastCut 22 = .ok (.iload 5, 2) := by decide +kernel
theorem dX1_leastCut_24 : decode cX1_leastCut 24 = .ok (.iload_n 1, 1) := by decide +kernel
theorem dX1_leastCut_25 : decode cX1_leastCut 25 = .ok (.invokestatic 51, 3) := by decide +kernel
theorem dX1_leastCut_28 : decode cX1_leastCut 28 = .ok (.ifCond .eq 34, 3) := by decide +kernel
theorem dX1_leastCut_31 : decode cX1_leastCut 31 = .ok (.iload 5, 2) := by decide +kernel
theorem dX1_leastCut_33 : decode cX1_leastCut 33 = .ok (.iload_n 2, 1) := by decide +kernel
theorem dX1_leastCut_34 : decode cX1_leastCut 34 = .ok (.invokestatic 51, 3) := by decide +kernel
theorem dX1_leastCut_37 : decode cX1_leastCut 37 = .ok (.ifCond .ne 25, 3) := by decide +kernel
theorem dX1_leastCut_40 : decode cX1_leastCut 40 = .ok (.aload_n 0, 1) := by decide +kernel
theorem dX1_leastCut_41 : decode cX1_leastCut 41 = .ok (.iload 5, 2) := by decide +kernel
theorem dX1_leastCut_43 : decode cX1_leastCut 43 = .ok (.invokevirtual 86, 3) := by decide +kernel
theorem dX1_leastCut_46 : decode cX1_leastCut 46 = .ok (.istore 6, 2) := by decide +kernel
theorem dX1_leastCut_48 : decode cX1_leastCut 48 = .ok (.iload 6, 2) := by decide +kernel
theorem dX1_leastCut_50 : decode cX1_leastCut 50 = .ok (.iload 4, 2) := by decide +kernel
theorem dX1_leastCut_52 : decode cX1_leastCut 52 = .ok (.if_icmp .ge 10, 3) := by decide +kernel
theorem dX1_leastCut_55 : decode cX1_leastCut 55 = .ok (.iload 6, 2) := by decide +kernel
theorem dX1_leastCut_57 : decode cX1_leastCut 57 = .ok (.istore 4, 2) := by decide +kernel
theorem dX1_leastCut_59 : decode cX1_leastCut 59 = .ok (.iload 5, 2) := by decide +kernel
theorem dX1_leastCut_61 : decode cX1_leastCut 61 = .ok (.istore_n 3, 1) := by decide +kernel
theorem dX1_leastCut_62 : decode cX1_leastCut 62 = .ok (.iinc 5 1, 3) := by decide +kernel
theorem dX1_leastCut_65 : decode cX1_leastCut 65 = .ok (.goto (-51), 3) := by decide +kernel
theorem dX1_leastCut_68 : decode cX1_leastCut 68 = .ok (.iload_n 3, 1) := by decide +kernel
theorem dX1_leastCut_69 : decode cX1_leastCut 69 = .ok (.ireturn, 1) := by decide +kernel
theorem dX2_init_0 : decode cX2_init 0 = .ok (.aload_n 0, 1) := by decide +kernel
theorem dX2_init_1 : decode cX2_init 1 = .ok (.invokespecial 3, 3) := by decide +kernel
theorem dX2_init_4 : decode cX2_init 4 = .ok (.aload_n 0, 1) := by decide +kernel
theorem dX2_init_5 : decode cX2_init 5 = .ok (.sipush 256, 3) := by decide +kernel
theorem dX2_init_8 : decode cX2_init 8 = .ok (.newarray .int, 2) := by decide +kernel
theorem dX2_init_10 : decode cX2_init 10 = .ok (.putfield 9, 3) := by decide +kernel
theorem dX2_init_13 : decode cX2_init 13 = .ok (.return_, 1) := by decide +kernel
theorem dX2_firstStep_0 : decode cX2_firstStep 0 = .ok (.aload_n 0, 1) := by decide +kernel
theorem dX2_firstStep_1 : decode cX2_firstStep 1 = .ok (.getfield 9, 3) := by decide +kernel
theorem dX2_firstStep_4 : decode cX2_firstStep 4 = .ok (.arraylength, 1) := by decide +kernel
theorem dX2_firstStep_5 : decode cX2_firstStep 5 = .ok (.iconst 1, 1) := by decide +kernel
theorem dX2_firstStep_6 : decode cX2_firstStep 6 = .ok (.isub, 1) := by decide +kernel
theorem dX2_firstStep_7 : decode cX2_firstStep 7 = .ok (.istore_n 3, 1) := by decide +kernel
theorem dX2_firstStep_8 : decode cX2_firstStep 8 = .ok (.iload_n 3, 1) := by decide +kernel
theorem dX2_firstStep_9 : decode cX2_firstStep 9 = .ok (.ifCond .le 21, 3) := by decide +kernel
theorem dX2_firstStep_12 : decode cX2_firstStep 12 = .ok (.aload_n 0, 1) := by decide +kernel
theorem dX2_firstStep_13 : decode cX2_firstStep 13 = .ok (.getfield 9, 3) := by decide +kernel
theorem dX2_firstStep_16 : decode cX2_firstStep 16 = .ok (.iload_n 3, 1) := by decide +kernel
theorem dX2_firstStep_17 : decode cX2_firstStep 17 = .ok (.aload_n 0, 1) := by decide +kernel
theorem dX2_firstStep_18 : decode cX2_firstStep 18 = .ok (.aload_n 1, 1) := by decide +kernel
theorem dX2_firstStep_19 : decode cX2_firstStep 19 = .ok (.iload_n 3, 1) := by decide +kernel
theorem dX2_firstStep_20 : decode cX2_firstStep 20 = .ok (.invokevirtual 15, 3) := by decide +kernel
theorem dX2_firstStep_23 : decode cX2_firstStep 23 = .ok (.iastore, 1) := by decide +kernel
theorem dX2_firstStep_24 : decode cX2_firstStep 24 = .ok (.iinc 3 (-1), 3) := by decide +kernel
theorem dX2_firstStep_27 : decode cX2_firstStep 27 = .ok (.goto (-19), 3) := by decide +kernel
theorem dX2_firstStep_30 : decode cX2_firstStep 30 = .ok (.aload_n 0, 1) := by decide +kernel
theorem dX2_firstStep_31 : decode cX2_firstStep 31 = .ok (.aload_n 1, 1) := by decide +kernel
theorem dX2_firstStep_32 : decode cX2_firstStep 32 = .ok (.iload_n 2, 1) := by decide +kernel
theorem dX2_firstStep_33 : decode cX2_firstStep 33 = .ok (.iconst 1, 1) := by decide +kernel
theorem dX2_firstStep_34 : decode cX2_firstStep 34 = .ok (.iload_n 2, 1) := by decide +kernel
theorem dX2_firstStep_35 : decode cX2_firstStep 35 = .ok (.ishl, 1) := by decide +kernel
theorem dX2_firstStep_36 : decode cX2_firstStep 36 = .ok (.invokevirtual 19, 3) := by decide +kernel
theorem dX2_firstStep_39 : decode cX2_firstStep 39 = .ok (.ireturn, 1) := by decide +kernel
theorem dX2_winningFrom_0 : decode cX2_winningFrom 0 = .ok (.iconst 0, 1) := by decide +kernel
theorem dX2_winningFrom_1 : decode cX2_winningFrom 1 = .ok (.istore_n 3, 1) := by decide +kernel
theorem dX2_winningFrom_2 : decode cX2_winningFrom 2 = .ok (.iconst 0, 1) := by decide +kernel
theorem dX2_winningFrom_3 : decode cX2_winningFrom 3 = .ok (.istore 4, 2) := by decide +kernel
theorem dX2_winningFrom_5 : decode cX2_winningFrom 5 = .ok (.iload 4, 2) := by decide +kernel
theorem dX2_winningFrom_7 : decode cX2_winningFrom 7 = .ok (.bipush 8, 2) := by decide +kernel
theorem dX2_winningFrom_9 : decode cX2_winningFrom 9 = .ok (.if_icmp .ge 38, 3) := by decide +kernel
theorem dX2_winningFrom_12 : decode cX2_winningFrom 12 = .ok (.iload_n 2, 1) := by decide +kernel
theorem dX2_winningFrom_13 : decode cX2_winningFrom 13 = .ok (.iload 4, 2) := by decide +kernel
theorem dX2_winningFrom_15 : decode cX2_winningFrom 15 = .ok (.invokestatic 23, 3) := by decide +kernel
theorem dX2_winningFrom_18 : decode cX2_winningFrom 18 = .ok (.ifCond .eq 23, 3) := by decide +kernel
theorem dX2_winningFrom_21 : decode cX2_winningFrom 21 = .ok (.aload_n 0, 1) := by decide +kernel
theorem dX2_winningFrom_22 : decode cX2_winningFrom 22 = .ok (.aload_n 1, 1) := by decide +kernel
theorem dX2_winningFrom_23 : decode cX2_winningFrom 23 = .ok (.iload 4, 2) := by decide +kernel
theorem dX2_winningFrom_25 : decode cX2_winningFrom 25 = .ok (.iload_n 2, 1) := by decide +kernel
theorem dX2_winningFrom_26 : decode cX2_winningFrom 26 = .ok (.invokevirtual 19, 3) := by decide +kernel
theorem dX2_winningFrom_29 : decode cX2_winningFrom 29 = .ok (.bipush (-6), 2) := by decide +kernel
theorem dX2_winningFrom_31 : decode cX2_winningFrom 31 = .ok (.if_icmp .eq 10, 3) := by decide +kernel
theorem dX2_winningFrom_34 : decode cX2_winningFrom 34 = .ok (.iload_n 3, 1) := by decide +kernel
theorem dX2_winningFrom_35 : decode cX2_winningFrom 35 = .ok (.iconst 1, 1) := by decide +kernel
theorem dX2_winningFrom_36 : decode cX2_winningFrom 36 = .ok (.iload 4, 2) := by decide +kernel
theorem dX2_winningFrom_38 : decode cX2_winningFrom 38 = .ok (.ishl, 1) := by decide +kernel
theorem dX2_winningFrom_39 : decode cX2_winningFrom 39 = .ok (.ior, 1) := by decide +kernel
theorem dX2_winningFrom_40 : decode cX2_winningFrom 40 = .ok (.istore_n 3, 1) := by decide +kernel
theorem dX2_winningFrom_41 : decode cX2_winningFrom 41 = .ok (.iinc 4 1, 3) := by decide +kernel
theorem dX2_winningFrom_44 : decode cX2_winningFrom 44 = .ok (.goto (-39), 3) := by decide +kernel
theorem dX2_winningFrom_47 : decode cX2_winningFrom 47 = .ok (.iload_n 3, 1) := by decide +kernel
theorem dX2_winningFrom_48 : decode cX2_winningFrom 48 = .ok (.ireturn, 1) := by decide +kernel
theorem dX2_winningStep_0 : decode cX2_winningStep 0 = .ok (.aload_n 1, 1) := by decide +kernel
theorem dX2_winningStep_1 : decode cX2_winningStep 1 = .ok (.iload_n 2, 1) := by decide +kernel
theorem dX2_winningStep_2 : decode cX2_winningStep 2 = .ok (.iaload, 1) := by decide +kernel
theorem dX2_winningStep_3 : decode cX2_winningStep 3 = .ok (.iload_n 3, 1) := by decide +kernel
theorem dX2_winningStep_4 : decode cX2_winningStep 4 = .ok (.iconst (-1), 1) := by decide +kernel
theorem dX2_winningStep_5 : decode cX2_winningStep 5 = .ok (.ixor, 1) := by decide +kernel
theorem dX2_winningStep_6 : decode cX2_winningStep 6 = .ok (.iand, 1) := by decide +kernel
theorem dX2_winningStep_7 : decode cX2_winningStep 7 = .ok (.istore 4, 2) := by decide +kernel
theorem dX2_winningStep_9 : decode cX2_winningStep 9 = .ok (.iconst 0, 1) := by decide +kernel
theorem dX2_winningStep_10 : decode cX2_winningStep 10 = .ok (.istore 5, 2) := by decide +kernel
theorem dX2_winningStep_12 : decode cX2_winningStep 12 = .ok (.iload 5, 2) := by decide +kernel
theorem dX2_winningStep_14 : decode cX2_winningStep 14 = .ok (.bipush 8, 2) := by decide +kernel
theorem dX2_winningStep_16 : decode cX2_winningStep 16 = .ok (.if_icmp .ge 41, 3) := by decide +kernel
theorem dX2_winningStep_19 : decode cX2_winningStep 19 = .ok (.iload 4, 2) := by decide +kernel
theorem dX2_winningStep_21 : decode cX2_winningStep 21 = .ok (.iload 5, 2) := by decide +kernel
theorem dX2_winningStep_23 : decode cX2_winningStep 23 = .ok (.invokestatic 23, 3) := by decide +kernel
theorem dX2_winningStep_26 : decode cX2_winningStep 26 = .ok (.ifCond .eq 25, 3) := by decide +kernel
theorem dX2_winningStep_29 : decode cX2_winningStep 29 = .ok (.aload_n 0, 1) := by decide +kernel
theorem dX2_winningStep_30 : decode cX2_winningStep 30 = .ok (.getfield 9, 3) := by decide +kernel
theorem dX2_winningStep_33 : decode cX2_winningStep 33 = .ok (.iload_n 3, 1) := by decide +kernel
theorem dX2_winningStep_34 : decode cX2_winningStep 34 = .ok (.iconst 1, 1) := by decide +kernel
theorem dX2_winningStep_35 : decode cX2_winningStep 35 = .ok (.iload 5, 2) := by decide +kernel
theorem dX2_winningStep_37 : decode cX2_winningStep 37 = .ok (.ishl, 1) := by decide +kernel
theorem dX2_winningStep_38 : decode cX2_winningStep 38 = .ok (.ior, 1) := by decide +kernel
theorem dX2_winningStep_39 : decode cX2_winningStep 39 = .ok (.iaload, 1) := by decide +kernel
theorem dX2_winningStep_40 : decode cX2_winningStep 40 = .ok (.iload 5, 2) := by decide +kernel
theorem dX2_winningStep_42 : decode cX2_winningStep 42 = .ok (.invokestatic 23, 3) := by decide +kernel
theorem dX2_winningStep_45 : decode cX2_winningStep 45 = .ok (.ifCond .ne 6, 3) := by decide +kernel
theorem dX2_winningStep_48 : decode cX2_winningStep 48 = .ok (.iload 5, 2) := by decide +kernel
theorem dX2_winningStep_50 : decode cX2_winningStep 50 = .ok (.ireturn, 1) := by decide +kernel
theorem dX2_winningStep_51 : decode cX2_winningStep 51 = .ok (.iinc 5 1, 3) := by decide +kernel
theorem dX2_winningStep_54 : decode cX2_winningStep 54 = .ok (.goto (-42), 3) := by decide +kernel
theorem dX2_winningStep_57 : decode cX2_winningStep 57 = .ok (.bipush (-6), 2) := by decide +kernel
theorem dX2_winningStep_59 : decode cX2_winningStep 59 = .ok (.ireturn, 1) := by decide +kernel
theorem dX3_init_0 : decode cX3_init 0 = .ok (.aload_n 0, 1) := by decide +kernel
theorem dX3_init_1 : decode cX3_init 1 = .ok (.invokespecial 3, 3) := by decide +kernel
theorem dX3_init_4 : decode cX3_init 4 = .ok (.aload_n 0, 1) := by decide +kernel
theorem dX3_init_5 : decode cX3_init 5 = .ok (.bipush 60, 2) := by decide +kernel
theorem dX3_init_7 : decode cX3_init 7 = .ok (.newarray .int, 2) := by decide +kernel
theorem dX3_init_9 : decode cX3_init 9 = .ok (.putfield 9, 3) := by decide +kernel
theorem dX3_init_12 : decode cX3_init 12 = .ok (.return_, 1) := by decide +kernel
theorem dX3_add_0 : decode cX3_add 0 = .ok (.aload_n 0, 1) := by decide +kernel
theorem dX3_add_1 : decode cX3_add 1 = .ok (.getfield 15, 3) := by decide +kernel
theorem dX3_add_4 : decode cX3_add 4 = .ok (.bipush 60, 2) := by decide +kernel
theorem dX3_add_6 : decode cX3_add 6 = .ok (.if_icmp .lt 5, 3) := by decide +kernel
theorem dX3_add_9 : decode cX3_add 9 = .ok (.iconst 0, 1) := by decide +kernel
theorem dX3_add_10 : decode cX3_add 10 = .ok (.ireturn, 1) := by decide +kernel
theorem dX3_add_11 : decode cX3_add 11 = .ok (.aload_n 0, 1) := by decide +kernel
theorem dX3_add_12 : decode cX3_add 12 = .ok (.getfield 9, 3) := by decide +kernel
theorem dX3_add_15 : decode cX3_add 15 = .ok (.aload_n 0, 1) := by decide +kernel
theorem dX3_add_16 : decode cX3_add 16 = .ok (.getfield 15, 3) := by decide +kernel
theorem dX3_add_19 : decode cX3_add 19 = .ok (.iload_n 1, 1) := by decide +kernel
theorem dX3_add_20 : decode cX3_add 20 = .ok (.iastore, 1) := by decide +kernel
theorem dX3_add_21 : decode cX3_add 21 = .ok (.aload_n 0, 1) := by decide +kernel
theorem dX3_add_22 : decode cX3_add 22 = .ok (.dup, 1) := by decide +kernel
theorem dX3_add_23 : decode cX3_add 23 = .ok (.getfield 15, 3) := by decide +kernel
theorem dX3_add_26 : decode cX3_add 26 = .ok (.iconst 1, 1) := by decide +kernel
theorem dX3_add_27 : decode cX3_add 27 = .ok (.iadd, 1) := by decide +kernel
theorem dX3_add_28 : decode cX3_add 28 = .ok (.putfield 15, 3) := by decide +kernel
theorem dX3_add_31 : decode cX3_add 31 = .ok (.iconst 1, 1) := by decide +kernel
theorem dX3_add_32 : decode cX3_add 32 = .ok (.ireturn, 1) := by decide +kernel
theorem dX3_rewind_0 : decode cX3_rewind 0 = .ok (.aload_n 0, 1) := by decide +kernel
theorem dX3_rewind_1 : decode cX3_rewind 1 = .ok (.iconst 0, 1) := by decide +kernel
theorem dX3_rewind_2 : decode cX3_rewind 2 = .ok (.putfield 19, 3) := by decide +kernel
theorem dX3_rewind_5 : decode cX3_rewind 5 = .ok (.return_, 1) := by decide +kernel
theorem dX3_findFault_0 : decode cX3_findFault 0 = .ok (.aload_n 0, 1) := by decide +kernel
theorem dX3_findFault_1 : decode cX3_findFault 1 = .ok (.invokevirtual 22, 3) := by decide +kernel
theorem dX3_findFault_4 : decode cX3_findFault 4 = .ok (.iconst 0, 1) := by decide +kernel
theorem dX3_findFault_5 : decode cX3_findFault 5 = .ok (.istore_n 1, 1) := by decide +kernel
theorem dX3_findFault_6 : decode cX3_findFault 6 = .ok (.iload_n 1, 1) := by decide +kernel
theorem dX3_findFault_7 : decode cX3_findFault 7 = .ok (.bipush 60, 2) := by decide +kernel
theorem dX3_findFault_9 : decode cX3_findFault 9 = .ok (.if_icmp .ge 32, 3) := by decide +kernel
theorem dX3_findFault_12 : decode cX3_findFault 12 = .ok (.aload_n 0, 1) := by decide +kernel
theorem dX3_findFault_13 : decode cX3_findFault 13 = .ok (.getfield 19, 3) := by decide +kernel
theorem dX3_findFault_16 : decode cX3_findFault 16 = .ok (.aload_n 0, 1) := by decide +kernel
theorem dX3_findFault_17 : decode cX3_findFault 17 = .ok (.getfield 15, 3) := by decide +kernel
theorem dX3_findFault_20 : decode cX3_findFault 20 = .ok (.if_icmp .ge 21, 3) := by decide +kernel
theorem dX3_findFault_23 : decode cX3_findFault 23 = .ok (.aload_n 0, 1) := by decide +kernel
theorem dX3_findFault_24 : decode cX3_findFault 24 = .ok (.invokevirtual 25, 3) := by decide +kernel
theorem dX3_findFault_27 : decode cX3_findFault 27 = .ok (.ifCond .ne 8, 3) := by decide +kernel
theorem dX3_findFault_30 : decode cX3_findFault 30 = .ok (.aload_n 0, 1) := by decide +kernel
theorem dX3_findFault_31 : decode cX3_findFault 31 = .ok (.getfield 19, 3) := by decide +kernel
theorem dX3_findFault_34 : decode cX3_findFault 34 = .ok (.ireturn, 1) := by decide +kernel
theorem dX3_findFault_35 : decode cX3_findFault 35 = .ok (.iinc 1 1, 3) := by decide +kernel
theorem dX3_findFault_38 : decode cX3_findFault 38 = .ok (.goto (-32), 3) := by decide +kernel
theorem dX3_findFault_41 : decode cX3_findFault 41 = .ok (.bipush (-6), 2) := by decide +kernel
theorem dX3_findFault_43 : decode cX3_findFault 43 = .ok (.ireturn, 1) := by decide +kernel
theorem dX3_readAct_0 : decode cX3_readAct 0 = .ok (.aload_n 0, 1) := by decide +kernel
theorem dX3_readAct_1 : decode cX3_readAct 1 = .ok (.aload_n 0, 1) := by decide +kernel
theorem dX3_readAct_2 : decode cX3_readAct 2 = .ok (.bipush 65, 2) := by decide +kernel
theorem dX3_readAct_4 : decode cX3_readAct 4 = .ok (.bipush 6, 2) := by decide +kernel
theorem dX3_readAct_6 : decode cX3_readAct 6 = .ok (.invokevirtual 29, 3) := by decide +kernel
theorem dX3_readAct_9 : decode cX3_readAct 9 = .ok (.putfield 33, 3) := by decide +kernel
theorem dX3_readAct_12 : decode cX3_readAct 12 = .ok (.aload_n 0, 1) := by decide +kernel
theorem dX3_readAct_13 : decode cX3_readAct 13 = .ok (.getfield 33, 3) := by decide +kernel
theorem dX3_readAct_16 : decode cX3_readAct 16 = .ok (.bipush (-6), 2) := by decide +kernel
theorem dX3_readAct_18 : decode cX3_readAct 18 = .ok (.if_icmp .eq 8, 3) := by decide +kernel
theorem dX3_readAct_21 : decode cX3_readAct 21 = .ok (.aload_n 0, 1) := by decide +kernel
theorem dX3_readAct_22 : decode cX3_readAct 22 = .ok (.invokevirtual 36, 3) := by decide +kernel
theorem dX3_readAct_25 : decode cX3_readAct 25 = .ok (.ireturn, 1) := by decide +kernel
theorem dX3_readAct_26 : decode cX3_readAct 26 = .ok (.aload_n 0, 1) := by decide +kernel
theorem dX3_readAct_27 : decode cX3_readAct 27 = .ok (.invokevirtual 39, 3) := by decide +kernel
theorem dX3_readAct_30 : decode cX3_readAct 30 = .ok (.lookupswitch 92 #[(46, 86), (112, 80), (116, 70), (119, 50), (120, 60)], 50) := by decide +kernel
theorem dX3_readAct_80 : decode cX3_readAct 80 = .ok (.aload_n 0, 1) := by decide +kernel
theorem dX3_readAct_81 : decode cX3_readAct 81 = .ok (.iconst 0, 1) := by decide +kernel
theorem dX3_readAct_82 : decode cX3_readAct 82 = .ok (.bipush 97, 2) := by decide +kernel
theorem dX3_readAct_84 : decode cX3_readAct 84 = .ok (.bipush 8, 2) := by decide +kernel
theorem dX3_readAct_86 : decode cX3_readAct 86 = .ok (.invokevirtual 43, 3) := by decide +kernel
theorem dX3_readAct_89 : decode cX3_readAct 89 = .ok (.ireturn, 1) := by decide +kernel
theorem dX3_readAct_90 : decode cX3_readAct 90 = .ok (.aload_n 0, 1) := by decide +kernel
theorem dX3_readAct_91 : decode cX3_readAct 91 = .ok (.iconst 1, 1) := by decide +kernel
theorem dX3_readAct_92 : decode cX3_readAct 92 = .ok (.bipush 97, 2) := by decide +kernel
theorem dX3_readAct_94 : decode cX3_readAct 94 = .ok (.bipush 8, 2) := by decide +kernel
theorem dX3_readAct_96 : decode cX3_readAct 96 = .ok (.invokevirtual 43, 3) := by decide +kernel
theorem dX3_readAct_99 : decode cX3_readAct 99 = .ok (.ireturn, 1) := by decide +kernel
theorem dX3_readAct_100 : decode cX3_readAct 100 = .ok (.aload_n 0, 1) := by decide +kernel
theorem dX3_readAct_101 : decode cX3_readAct 101 = .ok (.iconst 2, 1) := by decide +kernel
theorem dX3_readAct_102 : decode cX3_readAct 102 = .ok (.bipush 48, 2) := by decide +kernel
theorem dX3_readAct_104 : decode cX3_readAct 104 = .ok (.bipush 8, 2) := by decide +kernel
theorem dX3_readAct_106 : decode cX3_readAct 106 = .ok (.invokevirtual 43, 3) := by decide +kernel
theorem dX3_readAct_109 : decode cX3_readAct 109 = .ok (.ireturn, 1) := by decide +kernel
theorem dX3_readAct_110 : decode cX3_readAct 110 = .ok (.aload_n 0, 1) := by decide +kernel
theorem dX3_readAct_111 : decode cX3_readAct 111 = .ok (.iconst 3, 1) := by decide +kernel
theorem dX3_readAct_112 : decode cX3_readAct 112 = .ok (.invokevirtual 47, 3) := by decide +kernel
theorem dX3_readAct_115 : decode cX3_readAct 115 = .ok (.ireturn, 1) := by decide +kernel
theorem dX3_readAct_116 : decode cX3_readAct 116 = .ok (.aload_n 0, 1) := by decide +kernel
theorem dX3_readAct_117 : decode cX3_readAct 117 = .ok (.iconst 4, 1) := by decide +kernel
theorem dX3_readAct_118 : decode cX3_readAct 118 = .ok (.invokevirtual 47, 3) := by decide +kernel
theorem dX3_readAct_121 : decode cX3_readAct 121 = .ok (.ireturn, 1) := by decide +kernel
theorem dX3_readAct_122 : decode cX3_readAct 122 = .ok (.iconst 0, 1) := by decide +kernel
theorem dX3_readAct_123 : decode cX3_readAct 123 = .ok (.ireturn, 1) := by decide +kernel
theorem dX3_readDeed_0 : decode cX3_readDeed 0 = .ok (.aload_n 0, 1) := by decide +kernel
theorem dX3_readDeed_1 : decode cX3_readDeed 1 = .ok (.aload_n 0, 1) := by decide +kernel
theorem dX3_readDeed_2 : decode cX3_readDeed 2 = .ok (.bipush 97, 2) := by decide +kernel
theorem dX3_readDeed_4 : decode cX3_readDeed 4 = .ok (.bipush 8, 2) := by decide +kernel
theorem dX3_readDeed_6 : decode cX3_readDeed 6 = .ok (.invokevirtual 29, 3) := by decide +kernel
theorem dX3_readDeed_9 : decode cX3_readDeed 9 = .ok (.putfield 51, 3) := by decide +kernel
theorem dX3_readDeed_12 : decode cX3_readDeed 12 = .ok (.aload_n 0, 1) := by decide +kernel
theorem dX3_readDeed_13 : decode cX3_readDeed 13 = .ok (.getfield 51, 3) := by decide +kernel
theorem dX3_readDeed_16 : decode cX3_readDeed 16 = .ok (.bipush (-6), 2) := by decide +kernel
theorem dX3_readDeed_18 : decode cX3_readDeed 18 = .ok (.if_icmp .eq 11, 3) := by decide +kernel
theorem dX3_readDeed_21 : decode cX3_readDeed 21 = .ok (.aload_n 0, 1) := by decide +kernel
theorem dX3_readDeed_22 : decode cX3_readDeed 22 = .ok (.bipush 7, 2) := by decide +kernel
theorem dX3_readDeed_24 : decode cX3_readDeed 24 = .ok (.putfield 54, 3) := by decide +kernel
theorem dX3_readDeed_27 : decode cX3_readDeed 27 = .ok (.iconst 1, 1) := by decide +kernel
theorem dX3_readDeed_28 : decode cX3_readDeed 28 = .ok (.ireturn, 1) := by decide +kernel
theorem dX3_readDeed_29 : decode cX3_readDeed 29 = .ok (.aload_n 0, 1) := by decide +kernel
theorem dX3_readDeed_30 : decode cX3_readDeed 30 = .ok (.invokevirtual 39, 3) := by decide +kernel
theorem dX3_readDeed_33 : decode cX3_readDeed 33 = .ok (.tableswitch 105 33 41 #[64, 105, 105, 71, 105, 105, 105, 51, 57], 51) := by decide +kernel
theorem dX3_readDeed_84 : decode cX3_readDeed 84 = .ok (.aload_n 0, 1) := by decide +kernel
theorem dX3_readDeed_85 : decode cX3_readDeed 85 = .ok (.iconst 5, 1) := by decide +kernel
theorem dX3_readDeed_86 : decode cX3_readDeed 86 = .ok (.invokevirtual 47, 3) := by decide +kernel
theorem dX3_readDeed_89 : decode cX3_readDeed 89 = .ok (.ireturn, 1) := by decide +kernel
theorem dX3_readDeed_90 : decode cX3_readDeed 90 = .ok (.aload_n 0, 1) := by decide +kernel
theorem dX3_readDeed_91 : decode cX3_readDeed 91 = .ok (.bipush 6, 2) := by decide +kernel
theorem dX3_readDeed_93 : decode cX3_readDeed 93 = .ok (.invokevirtual 47, 3) := by decide +kernel
theorem dX3_readDeed_96 : decode cX3_readDeed 96 = .ok (.ireturn, 1) := by decide +kernel
theorem dX3_readDeed_97 : decode cX3_readDeed 97 = .ok (.aload_n 0, 1) := by decide +kernel
theorem dX3_readDeed_98 : decode cX3_readDeed 98 = .ok (.bipush 9, 2) := by decide +kernel
theorem dX3_readDeed_100 : decode cX3_readDeed 100 = .ok (.invokevirtual 47, 3) := by decide +kernel
theorem dX3_readDeed_103 : decode cX3_readDeed 103 = .ok (.ireturn, 1) := by decide +kernel
theorem dX3_readDeed_104 : decode cX3_readDeed 104 = .ok (.aload_n 0, 1) := by decide +kernel
theorem dX3_readDeed_105 : decode cX3_readDeed 105 = .ok (.bipush 8, 2) := by decide +kernel
theorem dX3_readDeed_107 : decode cX3_readDeed 107 = .ok (.invokevirtual 47, 3) := by decide +kernel
theorem dX3_readDeed_110 : decode cX3_readDeed 110 = .ok (.pop, 1) := by decide +kernel
theorem dX3_readDeed_111 : decode cX3_readDeed 111 = .ok (.aload_n 0, 1) := by decide +kernel
theorem dX3_readDeed_112 : decode cX3_readDeed 112 = .ok (.aload_n 0, 1) := by decide +kernel
theorem dX3_readDeed_113 : decode cX3_readDeed 113 = .ok (.bipush 48, 2) := by decide +kernel
theorem dX3_readDeed_115 : decode cX3_readDeed 115 = .ok (.bipush 8, 2) := by decide +kernel
theorem dX3_readDeed_117 : decode cX3_readDeed 117 = .ok (.invokevirtual 29, 3) := by decide +kernel
theorem dX3_readDeed_120 : decode cX3_readDeed 120 = .ok (.putfield 51, 3) := by decide +kernel
theorem dX3_readDeed_123 : decode cX3_readDeed 123 = .ok (.aload_n 0, 1) := by decide +kernel
theorem dX3_readDeed_124 : decode cX3_readDeed 124 = .ok (.getfield 51, 3) := by decide +kernel
theorem dX3_readDeed_127 : decode cX3_readDeed 127 = .ok (.bipush (-6), 2) := by decide +kernel
theorem dX3_readDeed_129 : decode cX3_readDeed 129 = .ok (.if_icmp .eq 7, 3) := by decide +kernel
theorem dX3_readDeed_132 : decode cX3_readDeed 132 = .ok (.iconst 1, 1) := by decide +kernel
theorem dX3_readDeed_133 : decode cX3_readDeed 133 = .ok (.goto 4, 3) := by decide +kernel
theorem dX3_readDeed_136 : decode cX3_readDeed 136 = .ok (.iconst 0, 1) := by decide +kernel
theorem dX3_readDeed_137 : decode cX3_readDeed 137 = .ok (.ireturn, 1) := by decide +kernel
theorem dX3_readDeed_138 : decode cX3_readDeed 138 = .ok (.iconst 0, 1) := by decide +kernel
theorem dX3_readDeed_139 : decode cX3_readDeed 139 = .ok (.ireturn, 1) := by decide +kernel
theorem dX3_readLone_0 : decode cX3_readLone 0 = .ok (.aload_n 0, 1) := by decide +kernel
theorem dX3_readLone_1 : decode cX3_readLone 1 = .ok (.iload_n 1, 1) := by decide +kernel
theorem dX3_readLone_2 : decode cX3_readLone 2 = .ok (.putfield 54, 3) := by decide +kernel
theorem dX3_readLone_5 : decode cX3_readLone 5 = .ok (.aload_n 0, 1) := by decide +kernel
theorem dX3_readLone_6 : decode cX3_readLone 6 = .ok (.dup, 1) := by decide +kernel
theorem dX3_readLone_7 : decode cX3_readLone 7 = .ok (.getfield 19, 3) := by decide +kernel
theorem dX3_readLone_10 : decode cX3_readLone 10 = .ok (.iconst 1, 1) := by decide +kernel
theorem dX3_readLone_11 : decode cX3_readLone 11 = .ok (.iadd, 1) := by decide +kernel
theorem dX3_readLone_12 : decode cX3_readLone 12 = .ok (.putfield 19, 3) := by decide +kernel
theorem dX3_readLone_15 : decode cX3_readLone 15 = .ok (.iconst 1, 1) := by decide +kernel
theorem dX3_readLone_16 : decode cX3_readLone 16 = .ok (.ireturn, 1) := by decide +kernel
theorem dX3_readPair_0 : decode cX3_readPair 0 = .ok (.aload_n 0, 1) := by decide +kernel
theorem dX3_readPair_1 : decode cX3_readPair 1 = .ok (.iload_n 1, 1) := by decide +kernel
theorem dX3_readPair_2 : decode cX3_readPair 2 = .ok (.invokevirtual 47, 3) := by decide +kernel
theorem dX3_readPair_5 : decode cX3_readPair 5 = .ok (.pop, 1) := by decide +kernel
theorem dX3_readPair_6 : decode cX3_readPair 6 = .ok (.aload_n 0, 1) := by decide +kernel
theorem dX3_readPair_7 : decode cX3_readPair 7 = .ok (.aload_n 0, 1) := by decide +kernel
theorem dX3_readPair_8 : decode cX3_readPair 8 = .ok (.iload_n 2, 1) := by decide +kernel
theorem dX3_readPair_9 : decode cX3_readPair 9 = .ok (.iload_n 3, 1) := by decide +kernel
theorem dX3_readPair_10 : decode cX3_readPair 10 = .ok (.invokevirtual 29, 3) := by decide +kernel
theorem dX3_readPair_13 : decode cX3_readPair 13 = .ok (.putfield 33, 3) := by decide +kernel
theorem dX3_readPair_16 : decode cX3_readPair 16 = .ok (.aload_n 0, 1) := by decide +kernel
theorem dX3_readPair_17 : decode cX3_readPair 17 = .ok (.getfield 33, 3) := by decide +kernel
theorem dX3_readPair_20 : decode cX3_readPair 20 = .ok (.bipush (-6), 2) := by decide +kernel
theorem dX3_readPair_22 : decode cX3_readPair 22 = .ok (.if_icmp .ne 5, 3) := by decide +kernel
theorem dX3_readPair_25 : decode cX3_readPair 25 = .ok (.iconst 0, 1) := by decide +kernel
theorem dX3_readPair_26 : decode cX3_readPair 26 = .ok (.ireturn, 1) := by decide +kernel
theorem dX3_readPair_27 : decode cX3_readPair 27 = .ok (.aload_n 0, 1) := by decide +kernel
theorem dX3_readPair_28 : decode cX3_readPair 28 = .ok (.aload_n 0, 1) := by decide +kernel
theorem dX3_readPair_29 : decode cX3_readPair 29 = .ok (.bipush 97, 2) := by decide +kernel
theorem dX3_readPair_31 : decode cX3_readPair 31 = .ok (.bipush 8, 2) := by decide +kernel
theorem dX3_readPair_33 : decode cX3_readPair 33 = .ok (.invokevirtual 29, 3) := by decide +kernel
theorem dX3_readPair_36 : decode cX3_readPair 36 = .ok (.putfield 51, 3) := by decide +kernel
theorem dX3_readPair_39 : decode cX3_readPair 39 = .ok (.aload_n 0, 1) := by decide +kernel
theorem dX3_readPair_40 : decode cX3_readPair 40 = .ok (.getfield 51, 3) := by decide +kernel
theorem dX3_readPair_43 : decode cX3_readPair 43 = .ok (.bipush (-6), 2) := by decide +kernel
theorem dX3_readPair_45 : decode cX3_readPair 45 = .ok (.if_icmp .eq 7, 3) := by decide +kernel
theorem dX3_readPair_48 : decode cX3_readPair 48 = .ok (.iconst 1, 1) := by decide +kernel
theorem dX3_readPair_49 : decode cX3_readPair 49 = .ok (.goto 4, 3) := by decide +kernel
theorem dX3_readPair_52 : decode cX3_readPair 52 = .ok (.iconst 0, 1) := by decide +kernel
theorem dX3_readPair_53 : decode cX3_readPair 53 = .ok (.ireturn, 1) := by decide +kernel
theorem dX3_signHere_0 : decode cX3_signHere 0 = .ok (.aload_n 0, 1) := by decide +kernel
theorem dX3_signHere_1 : decode cX3_signHere 1 = .ok (.getfield 19, 3) := by decide +kernel
theorem dX3_signHere_4 : decode cX3_signHere 4 = .ok (.ifCond .lt 26, 3) := by decide +kernel
theorem dX3_signHere_7 : decode cX3_signHere 7 = .ok (.aload_n 0, 1) := by decide +kernel
theorem dX3_signHere_8 : decode cX3_signHere 8 = .ok (.getfield 19, 3) := by decide +kernel
theorem dX3_signHere_11 : decode cX3_signHere 11 = .ok (.aload_n 0, 1) := by decide +kernel
theorem dX3_signHere_12 : decode cX3_signHere 12 = .ok (.getfield 15, 3) := by decide +kernel
theorem dX3_signHere_15 : decode cX3_signHere 15 = .ok (.if_icmp .ge 15, 3) := by decide +kernel
theorem dX3_signHere_18 : decode cX3_signHere 18 = .ok (.aload_n 0, 1) := by decide +kernel
theorem dX3_signHere_19 : decode cX3_signHere 19 = .ok (.getfield 9, 3) := by decide +kernel
theorem dX3_signHere_22 : decode cX3_signHere 22 = .ok (.aload_n 0, 1) := by decide +kernel
theorem dX3_signHere_23 : decode cX3_signHere 23 = .ok (.getfield 19, 3) := by decide +kernel
theorem dX3_signHere_26 : decode cX3_signHere 26 = .ok (.iaload, 1) := by decide +kernel
theorem dX3_signHere_27 : decode cX3_signHere 27 = .ok (.goto 4, 3) := by decide +kernel
theorem dX3_signHere_30 : decode cX3_signHere 30 = .ok (.iconst 0, 1) := by decide +kernel
theorem dX3_signHere_31 : decode cX3_signHere 31 = .ok (.ireturn, 1) := by decide +kernel
theorem dX3_take_0 : decode cX3_take 0 = .ok (.aload_n 0, 1) := by decide +kernel
theorem dX3_take_1 : decode cX3_take 1 = .ok (.invokevirtual 39, 3) := by decide +kernel
theorem dX3_take_4 : decode cX3_take 4 = .ok (.iload_n 1, 1) := by decide +kernel
theorem dX3_take_5 : decode cX3_take 5 = .ok (.isub, 1) := by decide +kernel
theorem dX3_take_6 : decode cX3_take 6 = .ok (.istore_n 3, 1) := by decide +kernel
theorem dX3_take_7 : decode cX3_take 7 = .ok (.iload_n 3, 1) := by decide +kernel
theorem dX3_take_8 : decode cX3_take 8 = .ok (.ifCond .lt 8, 3) := by decide +kernel
theorem dX3_take_11 : decode cX3_take 11 = .ok (.iload_n 3, 1) := by decide +kernel
theorem dX3_take_12 : decode cX3_take 12 = .ok (.iload_n 2, 1) := by decide +kernel
theorem dX3_take_13 : decode cX3_take 13 = .ok (.if_icmp .lt 6, 3) := by decide +kernel
theorem dX3_take_16 : decode cX3_take 16 = .ok (.bipush (-6), 2) := by decide +kernel
theorem dX3_take_18 : decode cX3_take 18 = .ok (.ireturn, 1) := by decide +kernel
theorem dX3_take_19 : decode cX3_take 19 = .ok (.aload_n 0, 1) := by decide +kernel
theorem dX3_take_20 : decode cX3_take 20 = .ok (.dup, 1) := by decide +kernel
theorem dX3_take_21 : decode cX3_take 21 = .ok (.getfield 19, 3) := by decide +kernel
theorem dX3_take_24 : decode cX3_take 24 = .ok (.iconst 1, 1) := by decide +kernel
theorem dX3_take_25 : decode cX3_take 25 = .ok (.iadd, 1) := by decide +kernel
theorem dX3_take_26 : decode cX3_take 26 = .ok (.putfield 19, 3) := by decide +kernel
theorem dX3_take_29 : decode cX3_take 29 = .ok (.iload_n 3, 1) := by decide +kernel
theorem dX3_take_30 : decode cX3_take 30 = .ok (.ireturn, 1) := by decide +kernel
theorem dX4_init_0 : decode cX4_init 0 = .ok (.aload_n 0, 1) := by decide +kernel
theorem dX4_init_1 : decode cX4_init 1 = .ok (.invokespecial 3, 3) := by decide +kernel
theorem dX4_init_4 : decode cX4_init 4 = .ok (.aload_n 0, 1) := by decide +kernel
theorem dX4_init_5 : decode cX4_init 5 = .ok (.bipush 12, 2) := by decide +kernel
theorem dX4_init_7 : decode cX4_init 7 = .ok (.newarray .int, 2) := by decide +kernel
theorem dX4_init_9 : decode cX4_init 9 = .ok (.putfield 9, 3) := by decide +kernel
theorem dX4_init_12 : decode cX4_init 12 = .ok (.aload_n 0, 1) := by decide +kernel
theorem dX4_init_13 : decode cX4_init 13 = .ok (.bipush 12, 2) := by decide +kernel
theorem dX4_init_15 : decode cX4_init 15 = .ok (.newarray .int, 2) := by decide +kernel
theorem dX4_init_17 : decode cX4_init 17 = .ok (.putfield 15, 3) := by decide +kernel
theorem dX4_init_20 : decode cX4_init 20 = .ok (.return_, 1) := by decide +kernel
theorem dX4_copyFrom_0 : decode cX4_copyFrom 0 = .ok (.aload_n 1, 1) := by decide +kernel
theorem dX4_copyFrom_1 : decode cX4_copyFrom 1 = .ok (.getfield 9, 3) := by decide +kernel
theorem dX4_copyFrom_4 : decode cX4_copyFrom 4 = .ok (.iconst 0, 1) := by decide +kernel
theorem dX4_copyFrom_5 : decode cX4_copyFrom 5 = .ok (.aload_n 0, 1) := by decide +kernel
theorem dX4_copyFrom_6 : decode cX4_copyFrom 6 = .ok (.getfield 9, 3) := by decide +kernel
theorem dX4_copyFrom_9 : decode cX4_copyFrom 9 = .ok (.iconst 0, 1) := by decide +kernel
theorem dX4_copyFrom_10 : decode cX4_copyFrom 10 = .ok (.bipush 12, 2) := by decide +kernel
theorem dX4_copyFrom_12 : decode cX4_copyFrom 12 = .ok (.invokestatic 18, 3) := by decide +kernel
theorem dX4_copyFrom_15 : decode cX4_copyFrom 15 = .ok (.aload_n 1, 1) := by decide +kernel
theorem dX4_copyFrom_16 : decode cX4_copyFrom 16 = .ok (.getfield 15, 3) := by decide +kernel
theorem dX4_copyFrom_19 : decode cX4_copyFrom 19 = .ok (.iconst 0, 1) := by decide +kernel
theorem dX4_copyFrom_20 : decode cX4_copyFrom 20 = .ok (.aload_n 0, 1) := by decide +kernel
theorem dX4_copyFrom_21 : decode cX4_copyFrom 21 = .ok (.getfield 15, 3) := by decide +kernel
theorem dX4_copyFrom_24 : decode cX4_copyFrom 24 = .ok (.iconst 0, 1) := by decide +kernel
theorem dX4_copyFrom_25 : decode cX4_copyFrom 25 = .ok (.bipush 12, 2) := by decide +kernel
theorem dX4_copyFrom_27 : decode cX4_copyFrom 27 = .ok (.invokestatic 18, 3) := by decide +kernel
theorem dX4_copyFrom_30 : decode cX4_copyFrom 30 = .ok (.aload_n 0, 1) := by decide +kernel
theorem dX4_copyFrom_31 : decode cX4_copyFrom 31 = .ok (.aload_n 1, 1) := by decide +kernel
theorem dX4_copyFrom_32 : decode cX4_copyFrom 32 = .ok (.getfield 24, 3) := by decide +kernel
theorem dX4_copyFrom_35 : decode cX4_copyFrom 35 = .ok (.putfield 24, 3) := by decide +kernel
theorem dX4_copyFrom_38 : decode cX4_copyFrom 38 = .ok (.return_, 1) := by decide +kernel
theorem dX4_add_0 : decode cX4_add 0 = .ok (.aload_n 0, 1) := by decide +kernel
theorem dX4_add_1 : decode cX4_add 1 = .ok (.getfield 24, 3) := by decide +kernel
theorem dX4_add_4 : decode cX4_add 4 = .ok (.bipush 12, 2) := by decide +kernel
theorem dX4_add_6 : decode cX4_add 6 = .ok (.if_icmp .lt 5, 3) := by decide +kernel
theorem dX4_add_9 : decode cX4_add 9 = .ok (.iconst 0, 1) := by decide +kernel
theorem dX4_add_10 : decode cX4_add 10 = .ok (.ireturn, 1) := by decide +kernel
theorem dX4_add_11 : decode cX4_add 11 = .ok (.aload_n 0, 1) := by decide +kernel
theorem dX4_add_12 : decode cX4_add 12 = .ok (.getfield 9, 3) := by decide +kernel
theorem dX4_add_15 : decode cX4_add 15 = .ok (.aload_n 0, 1) := by decide +kernel
theorem dX4_add_16 : decode cX4_add 16 = .ok (.getfield 24, 3) := by decide +kernel
theorem dX4_add_19 : decode cX4_add 19 = .ok (.iconst 1, 1) := by decide +kernel
theorem dX4_add_20 : decode cX4_add 20 = .ok (.iload_n 1, 1) := by decide +kernel
theorem dX4_add_21 : decode cX4_add 21 = .ok (.ishl, 1) := by decide +kernel
theorem dX4_add_22 : decode cX4_add 22 = .ok (.iconst 1, 1) := by decide +kernel
theorem dX4_add_23 : decode cX4_add 23 = .ok (.iload_n 2, 1) := by decide +kernel
theorem dX4_add_24 : decode cX4_add 24 = .ok (.ishl, 1) := by decide +kernel
theorem dX4_add_25 : decode cX4_add 25 = .ok (.ior, 1) := by decide +kernel
theorem dX4_add_26 : decode cX4_add 26 = .ok (.iastore, 1) := by decide +kernel
theorem dX4_add_27 : decode cX4_add 27 = .ok (.aload_n 0, 1) := by decide +kernel
theorem dX4_add_28 : decode cX4_add 28 = .ok (.getfield 15, 3) := by decide +kernel
theorem dX4_add_31 : decode cX4_add 31 = .ok (.aload_n 0, 1) := by decide +kernel
theorem dX4_add_32 : decode cX4_add 32 = .ok (.getfield 24, 3) := by decide +kernel
theorem dX4_add_35 : decode cX4_add 35 = .ok (.iconst 1, 1) := by decide +kernel
theorem dX4_add_36 : decode cX4_add 36 = .ok (.iload_n 3, 1) := by decide +kernel
theorem dX4_add_37 : decode cX4_add 37 = .ok (.ishl, 1) := by decide +kernel
theorem dX4_add_38 : decode cX4_add 38 = .ok (.iastore, 1) := by decide +kernel
theorem dX4_add_39 : decode cX4_add 39 = .ok (.aload_n 0, 1) := by decide +kernel
theorem dX4_add_40 : decode cX4_add 40 = .ok (.dup, 1) := by decide +kernel
theorem dX4_add_41 : decode cX4_add 41 = .ok (.getfield 24, 3) := by decide +kernel
theorem dX4_add_44 : decode cX4_add 44 = .ok (.iconst 1, 1) := by decide +kernel
theorem dX4_add_45 : decode cX4_add 45 = .ok (.iadd, 1) := by decide +kernel
theorem dX4_add_46 : decode cX4_add 46 = .ok (.putfield 24, 3) := by decide +kernel
theorem dX4_add_49 : decode cX4_add 49 = .ok (.iconst 1, 1) := by decide +kernel
theorem dX4_add_50 : decode cX4_add 50 = .ok (.ireturn, 1) := by decide +kernel
theorem dX4_closure_0 : decode cX4_closure 0 = .ok (.iload_n 1, 1) := by decide +kernel
theorem dX4_closure_1 : decode cX4_closure 1 = .ok (.istore_n 2, 1) := by decide +kernel
theorem dX4_closure_2 : decode cX4_closure 2 = .ok (.iconst 0, 1) := by decide +kernel
theorem dX4_closure_3 : decode cX4_closure 3 = .ok (.istore_n 3, 1) := by decide +kernel
theorem dX4_closure_4 : decode cX4_closure 4 = .ok (.iload_n 3, 1) := by decide +kernel
theorem dX4_closure_5 : decode cX4_closure 5 = .ok (.bipush 10, 2) := by decide +kernel
theorem dX4_closure_7 : decode cX4_closure 7 = .ok (.if_icmp .ge 68, 3) := by decide +kernel
theorem dX4_closure_10 : decode cX4_closure 10 = .ok (.iload_n 2, 1) := by decide +kernel
theorem dX4_closure_11 : decode cX4_closure 11 = .ok (.istore 4, 2) := by decide +kernel
theorem dX4_closure_13 : decode cX4_closure 13 = .ok (.iconst 0, 1) := by decide +kernel
theorem dX4_closure_14 : decode cX4_closure 14 = .ok (.istore 5, 2) := by decide +kernel
theorem dX4_closure_16 : decode cX4_closure 16 = .ok (.iload 5, 2) := by decide +kernel
theorem dX4_closure_18 : decode cX4_closure 18 = .ok (.aload_n 0, 1) := by decide +kernel
theorem dX4_closure_19 : decode cX4_closure 19 = .ok (.getfield 24, 3) := by decide +kernel
theorem dX4_closure_22 : decode cX4_closure 22 = .ok (.if_icmp .ge 38, 3) := by decide +kernel
theorem dX4_closure_25 : decode cX4_closure 25 = .ok (.aload_n 0, 1) := by decide +kernel
theorem dX4_closure_26 : decode cX4_closure 26 = .ok (.getfield 9, 3) := by decide +kernel
theorem dX4_closure_29 : decode cX4_closure 29 = .ok (.iload 5, 2) := by decide +kernel
theorem dX4_closure_31 : decode cX4_closure 31 = .ok (.iaload, 1) := by decide +kernel
theorem dX4_closure_32 : decode cX4_closure 32 = .ok (.iload_n 2, 1) := by decide +kernel
theorem dX4_closure_33 : decode cX4_closure 33 = .ok (.iand, 1) := by decide +kernel
theorem dX4_closure_34 : decode cX4_closure 34 = .ok (.aload_n 0, 1) := by decide +kernel
theorem dX4_closure_35 : decode cX4_closure 35 = .ok (.getfield 9, 3) := by decide +kernel
theorem dX4_closure_38 : decode cX4_closure 38 = .ok (.iload 5, 2) := by decide +kernel
theorem dX4_closure_40 : decode cX4_closure 40 = .ok (.iaload, 1) := by decide +kernel
theorem dX4_closure_41 : decode cX4_closure 41 = .ok (.if_icmp .ne 13, 3) := by decide +kernel
theorem dX4_closure_44 : decode cX4_closure 44 = .ok (.iload_n 2, 1) := by decide +kernel
theorem dX4_closure_45 : decode cX4_closure 45 = .ok (.aload_n 0, 1) := by decide +kernel
theorem dX4_closure_46 : decode cX4_closure 46 = .ok (.getfield 15, 3) := by decide +kernel
theorem dX4_closure_49 : decode cX4_closure 49 = .ok (.iload 5, 2) := by decide +kernel
theorem dX4_closure_51 : decode cX4_closure 51 = .ok (.iaload, 1) := by decide +kernel
theorem dX4_closure_52 : decode cX4_closure 52 = .ok (.ior, 1) := by decide +kernel
theorem dX4_closure_53 : decode cX4_closure 53 = .ok (.istore_n 2, 1) := by decide +kernel
theorem dX4_closure_54 : decode cX4_closure 54 = .ok (.iinc 5 1, 3) := by decide +kernel
theorem dX4_closure_57 : decode cX4_closure 57 = .ok (.goto (-41), 3) := by decide +kernel
theorem dX4_closure_60 : decode cX4_closure 60 = .ok (.iload_n 2, 1) := by decide +kernel
theorem dX4_closure_61 : decode cX4_closure 61 = .ok (.iload 4, 2) := by decide +kernel
theorem dX4_closure_63 : decode cX4_closure 63 = .ok (.if_icmp .ne 6, 3) := by decide +kernel
theorem dX4_closure_66 : decode cX4_closure 66 = .ok (.goto 9, 3) := by decide +kernel
theorem dX4_closure_69 : decode cX4_closure 69 = .ok (.iinc 3 1, 3) := by decide +kernel
theorem dX4_closure_72 : decode cX4_closure 72 = .ok (.goto (-68), 3) := by decide +kernel
theorem dX4_closure_75 : decode cX4_closure 75 = .ok (.iload_n 2, 1) := by decide +kernel
theorem dX4_closure_76 : decode cX4_closure 76 = .ok (.ireturn, 1) := by decide +kernel
theorem dX4_leastGrounds_0 : decode cX4_leastGrounds 0 = .ok (.sipush 1023, 3) := by decide +kernel
theorem dX4_leastGrounds_3 : decode cX4_leastGrounds 3 = .ok (.iconst 1, 1) := by decide +kernel
theorem dX4_leastGrounds_4 : decode cX4_leastGrounds 4 = .ok (.iload_n 1, 1) := by decide +kernel
theorem dX4_leastGrounds_5 : decode cX4_leastGrounds 5 = .ok (.ishl, 1) := by decide +kernel
theorem dX4_leastGrounds_6 : decode cX4_leastGrounds 6 = .ok (.iconst (-1), 1) := by decide +kernel
theorem dX4_leastGrounds_7 : decode cX4_leastGrounds 7 = .ok (.ixor, 1) := by decide +kernel
theorem dX4_leastGrounds_8 : decode cX4_leastGrounds 8 = .ok (.iand, 1) := by decide +kernel
theorem dX4_leastGrounds_9 : decode cX4_leastGrounds 9 = .ok (.istore_n 2, 1) := by decide +kernel
theorem dX4_leastGrounds_10 : decode cX4_leastGrounds 10 = .ok (.aload_n 0, 1) := by decide +kernel
theorem dX4_leastGrounds_11 : decode cX4_leastGrounds 11 = .ok (.iload_n 2, 1) := by decide +kernel
theorem dX4_leastGrounds_12 : decode cX4_leastGrounds 12 = .ok (.invokevirtual 28, 3) := by decide +kernel
theorem dX4_leastGrounds_15 : decode cX4_leastGrounds 15 = .ok (.iload_n 1, 1) := by decide +kernel
theorem dX4_leastGrounds_16 : decode cX4_leastGrounds 16 = .ok (.invokestatic 32, 3) := by decide +kernel
theorem dX4_leastGrounds_19 : decode cX4_leastGrounds 19 = .ok (.ifCond .ne 6, 3) := by decide +kernel
theorem dX4_leastGrounds_22 : decode cX4_leastGrounds 22 = .ok (.bipush (-6), 2) := by decide +kernel
theorem dX4_leastGrounds_24 : decode cX4_leastGrounds 24 = .ok (.ireturn, 1) := by decide +kernel
theorem dX4_leastGrounds_25 : decode cX4_leastGrounds 25 = .ok (.iload_n 2, 1) := by decide +kernel
theorem dX4_leastGrounds_26 : decode cX4_leastGrounds 26 = .ok (.invokestatic 36, 3) := by decide +kernel
theorem dX4_leastGrounds_29 : decode cX4_leastGrounds 29 = .ok (.istore_n 3, 1) := by decide +kernel
theorem dX4_leastGrounds_30 : decode cX4_leastGrounds 30 = .ok (.iconst 0, 1) := by decide +kernel
theorem dX4_leastGrounds_31 : decode cX4_leastGrounds 31 = .ok (.istore 4, 2) := by decide +kernel
theorem dX4_leastGrounds_33 : decode cX4_leastGrounds 33 = .ok (.iload 4, 2) := by decide +kernel
theorem dX4_leastGrounds_35 : decode cX4_leastGrounds 35 = .ok (.sipush 1024, 3) := by decide +kernel
theorem dX4_leastGrounds_38 : decode cX4_leastGrounds 38 = .ok (.if_icmp .ge 50, 3) := by decide +kernel
theorem dX4_leastGrounds_41 : decode cX4_leastGrounds 41 = .ok (.iload 4, 2) := by decide +kernel
theorem dX4_leastGrounds_43 : decode cX4_leastGrounds 43 = .ok (.invokestatic 36, 3) := by decide +kernel
theorem dX4_leastGrounds_46 : decode cX4_leastGrounds 46 = .ok (.istore 5, 2) := by decide +kernel
theorem dX4_leastGrounds_48 : decode cX4_leastGrounds 48 = .ok (.iload 5, 2) := by decide +kernel
theorem dX4_leastGrounds_50 : decode cX4_leastGrounds 50 = .ok (.iload_n 3, 1) := by decide +kernel
theorem dX4_leastGrounds_51 : decode cX4_leastGrounds 51 = .ok (.if_icmp .ge 31, 3) := by decide +kernel
theorem dX4_leastGrounds_54 : decode cX4_leastGrounds 54 = .ok (.iload 4, 2) := by decide +kernel
theorem dX4_leastGrounds_56 : decode cX4_leastGrounds 56 = .ok (.iload_n 1, 1) := by decide +kernel
theorem dX4_leastGrounds_57 : decode cX4_leastGrounds 57 = .ok (.invokestatic 32, 3) := by decide +kernel
theorem dX4_leastGrounds_60 : decode cX4_leastGrounds 60 = .ok (.ifCond .ne 22, 3) := by decide +kernel
theorem dX4_leastGrounds_63 : decode cX4_leastGrounds 63 = .ok (.aload_n 0, 1) := by decide +kernel
theorem dX4_leastGrounds_64 : decode cX4_leastGrounds 64 = .ok (.iload 4, 2) := by decide +kernel
theorem dX4_leastGrounds_66 : decode cX4_leastGrounds 66 = .ok (.invokevirtual 28, 3) := by decide +kernel
theorem dX4_leastGrounds_69 : decode cX4_leastGrounds 69 = .ok (.iload_n 1, 1) := by decide +kernel
theorem dX4_leastGrounds_70 : decode cX4_leastGrounds 70 = .ok (.invokestatic 32, 3) := by decide +kernel
theorem dX4_leastGrounds_73 : decode cX4_leastGrounds 73 = .ok (.ifCond .eq 9, 3) := by decide +kernel
theorem dX4_leastGrounds_76 : decode cX4_leastGrounds 76 = .ok (.iload 5, 2) := by decide +kernel
theorem dX4_leastGrounds_78 : decode cX4_leastGrounds 78 = .ok (.istore_n 3, 1) := by decide +kernel
theorem dX4_leastGrounds_79 : decode cX4_leastGrounds 79 = .ok (.iload 4, 2) := by decide +kernel
theorem dX4_leastGrounds_81 : decode cX4_leastGrounds 81 = .ok (.istore_n 2, 1) := by decide +kernel
theorem dX4_leastGrounds_82 : decode cX4_leastGrounds 82 = .ok (.iinc 4 1, 3) := by decide +kernel
theorem dX4_leastGrounds_85 : decode cX4_leastGrounds 85 = .ok (.goto (-52), 3) := by decide +kernel
theorem dX4_leastGrounds_88 : decode cX4_leastGrounds 88 = .ok (.iload_n 2, 1) := by decide +kernel
theorem dX4_leastGrounds_89 : decode cX4_leastGrounds 89 = .ok (.ireturn, 1) := by decide +kernel
theorem dX5_init_0 : decode cX5_init 0 = .ok (.aload_n 0, 1) := by decide +kernel
theorem dX5_init_1 : decode cX5_init 1 = .ok (.invokespecial 3, 3) := by decide +kernel
theorem dX5_init_4 : decode cX5_init 4 = .ok (.aload_n 0, 1) := by decide +kernel
theorem dX5_init_5 : decode cX5_init 5 = .ok (.bipush 8, 2) := by decide +kernel
theorem dX5_init_7 : decode cX5_init 7 = .ok (.newarray .int, 2) := by decide +kernel
theorem dX5_init_9 : decode cX5_init 9 = .ok (.putfield 9, 3) := by decide +kernel
theorem dX5_init_12 : decode cX5_init 12 = .ok (.return_, 1) := by decide +kernel
theorem dX5_copyFrom_0 : decode cX5_copyFrom 0 = .ok (.aload_n 1, 1) := by decide +kernel
theorem dX5_copyFrom_1 : decode cX5_copyFrom 1 = .ok (.getfield 9, 3) := by decide +kernel
theorem dX5_copyFrom_4 : decode cX5_copyFrom 4 = .ok (.iconst 0, 1) := by decide +kernel
theorem dX5_copyFrom_5 : decode cX5_copyFrom 5 = .ok (.aload_n 0, 1) := by decide +kernel
theorem dX5_copyFrom_6 : decode cX5_copyFrom 6 = .ok (.getfield 9, 3) := by decide +kernel
theorem dX5_copyFrom_9 : decode cX5_copyFrom 9 = .ok (.iconst 0, 1) := by decide +kernel
theorem dX5_copyFrom_10 : decode cX5_copyFrom 10 = .ok (.bipush 8, 2) := by decide +kernel
theorem dX5_copyFrom_12 : decode cX5_copyFrom 12 = .ok (.invokestatic 15, 3) := by decide +kernel
theorem dX5_copyFrom_15 : decode cX5_copyFrom 15 = .ok (.aload_n 0, 1) := by decide +kernel
theorem dX5_copyFrom_16 : decode cX5_copyFrom 16 = .ok (.aload_n 1, 1) := by decide +kernel
theorem dX5_copyFrom_17 : decode cX5_copyFrom 17 = .ok (.getfield 21, 3) := by decide +kernel
theorem dX5_copyFrom_20 : decode cX5_copyFrom 20 = .ok (.putfield 21, 3) := by decide +kernel
theorem dX5_copyFrom_23 : decode cX5_copyFrom 23 = .ok (.return_, 1) := by decide +kernel
theorem dX5_add_0 : decode cX5_add 0 = .ok (.aload_n 0, 1) := by decide +kernel
theorem dX5_add_1 : decode cX5_add 1 = .ok (.getfield 21, 3) := by decide +kernel
theorem dX5_add_4 : decode cX5_add 4 = .ok (.bipush 8, 2) := by decide +kernel
theorem dX5_add_6 : decode cX5_add 6 = .ok (.if_icmp .lt 5, 3) := by decide +kernel
theorem dX5_add_9 : decode cX5_add 9 = .ok (.iconst 0, 1) := by decide +kernel
theorem dX5_add_10 : decode cX5_add 10 = .ok (.ireturn, 1) := by decide +kernel
theorem dX5_add_11 : decode cX5_add 11 = .ok (.aload_n 0, 1) := by decide +kernel
theorem dX5_add_12 : decode cX5_add 12 = .ok (.getfield 9, 3) := by decide +kernel
theorem dX5_add_15 : decode cX5_add 15 = .ok (.aload_n 0, 1) := by decide +kernel
theorem dX5_add_16 : decode cX5_add 16 = .ok (.getfield 21, 3) := by decide +kernel
theorem dX5_add_19 : decode cX5_add 19 = .ok (.iload_n 1, 1) := by decide +kernel
theorem dX5_add_20 : decode cX5_add 20 = .ok (.iastore, 1) := by decide +kernel
theorem dX5_add_21 : decode cX5_add 21 = .ok (.aload_n 0, 1) := by decide +kernel
theorem dX5_add_22 : decode cX5_add 22 = .ok (.dup, 1) := by decide +kernel
theorem dX5_add_23 : decode cX5_add 23 = .ok (.getfield 21, 3) := by decide +kernel
theorem dX5_add_26 : decode cX5_add 26 = .ok (.iconst 1, 1) := by decide +kernel
theorem dX5_add_27 : decode cX5_add 27 = .ok (.iadd, 1) := by decide +kernel
theorem dX5_add_28 : decode cX5_add 28 = .ok (.putfield 21, 3) := by decide +kernel
theorem dX5_add_31 : decode cX5_add 31 = .ok (.iconst 1, 1) := by decide +kernel
theorem dX5_add_32 : decode cX5_add 32 = .ok (.ireturn, 1) := by decide +kernel
theorem dX5_fitting_0 : decode cX5_fitting 0 = .ok (.iconst (-1), 1) := by decide +kernel
theorem dX5_fitting_1 : decode cX5_fitting 1 = .ok (.istore_n 1, 1) := by decide +kernel
theorem dX5_fitting_2 : decode cX5_fitting 2 = .ok (.iconst 0, 1) := by decide +kernel
theorem dX5_fitting_3 : decode cX5_fitting 3 = .ok (.istore_n 2, 1) := by decide +kernel
theorem dX5_fitting_4 : decode cX5_fitting 4 = .ok (.iload_n 2, 1) := by decide +kernel
theorem dX5_fitting_5 : decode cX5_fitting 5 = .ok (.aload_n 0, 1) := by decide +kernel
theorem dX5_fitting_6 : decode cX5_fitting 6 = .ok (.getfield 21, 3) := by decide +kernel
theorem dX5_fitting_9 : decode cX5_fitting 9 = .ok (.if_icmp .ge 18, 3) := by decide +kernel
theorem dX5_fitting_12 : decode cX5_fitting 12 = .ok (.iload_n 1, 1) := by decide +kernel
theorem dX5_fitting_13 : decode cX5_fitting 13 = .ok (.aload_n 0, 1) := by decide +kernel
theorem dX5_fitting_14 : decode cX5_fitting 14 = .ok (.getfield 9, 3) := by decide +kernel
theorem dX5_fitting_17 : decode cX5_fitting 17 = .ok (.iload_n 2, 1) := by decide +kernel
theorem dX5_fitting_18 : decode cX5_fitting 18 = .ok (.iaload, 1) := by decide +kernel
theorem dX5_fitting_19 : decode cX5_fitting 19 = .ok (.iand, 1) := by decide +kernel
theorem dX5_fitting_20 : decode cX5_fitting 20 = .ok (.istore_n 1, 1) := by decide +kernel
theorem dX5_fitting_21 : decode cX5_fitting 21 = .ok (.iinc 2 1, 3) := by decide +kernel
theorem dX5_fitting_24 : decode cX5_fitting 24 = .ok (.goto (-20), 3) := by decide +kernel
theorem dX5_fitting_27 : decode cX5_fitting 27 = .ok (.iload_n 1, 1) := by decide +kernel
theorem dX5_fitting_28 : decode cX5_fitting 28 = .ok (.ireturn, 1) := by decide +kernel
theorem dX6_init_0 : decode cX6_init 0 = .ok (.aload_n 0, 1) := by decide +kernel
theorem dX6_init_1 : decode cX6_init 1 = .ok (.invokespecial 3, 3) := by decide +kernel
theorem dX6_init_4 : decode cX6_init 4 = .ok (.aload_n 0, 1) := by decide +kernel
theorem dX6_init_5 : decode cX6_init 5 = .ok (.new 9, 3) := by decide +kernel
theorem dX6_init_8 : decode cX6_init 8 = .ok (.dup, 1) := by decide +kernel
theorem dX6_init_9 : decode cX6_init 9 = .ok (.invokespecial 11, 3) := by decide +kernel
theorem dX6_init_12 : decode cX6_init 12 = .ok (.putfield 12, 3) := by decide +kernel
theorem dX6_init_15 : decode cX6_init 15 = .ok (.return_, 1) := by decide +kernel
theorem dX6_begin_0 : decode cX6_begin 0 = .ok (.aload_n 0, 1) := by decide +kernel
theorem dX6_begin_1 : decode cX6_begin 1 = .ok (.getfield 12, 3) := by decide +kernel
theorem dX6_begin_4 : decode cX6_begin 4 = .ok (.aload_n 1, 1) := by decide +kernel
theorem dX6_begin_5 : decode cX6_begin 5 = .ok (.invokevirtual 18, 3) := by decide +kernel
theorem dX6_begin_8 : decode cX6_begin 8 = .ok (.aload_n 0, 1) := by decide +kernel
theorem dX6_begin_9 : decode cX6_begin 9 = .ok (.iconst 0, 1) := by decide +kernel
theorem dX6_begin_10 : decode cX6_begin 10 = .ok (.putfield 22, 3) := by decide +kernel
theorem dX6_begin_13 : decode cX6_begin 13 = .ok (.aload_n 0, 1) := by decide +kernel
theorem dX6_begin_14 : decode cX6_begin 14 = .ok (.iconst 0, 1) := by decide +kernel
theorem dX6_begin_15 : decode cX6_begin 15 = .ok (.putfield 26, 3) := by decide +kernel
theorem dX6_begin_18 : decode cX6_begin 18 = .ok (.aload_n 0, 1) := by decide +kernel
theorem dX6_begin_19 : decode cX6_begin 19 = .ok (.iconst 0, 1) := by decide +kernel
theorem dX6_begin_20 : decode cX6_begin 20 = .ok (.putfield 29, 3) := by decide +kernel
theorem dX6_begin_23 : decode cX6_begin 23 = .ok (.aload_n 0, 1) := by decide +kernel
theorem dX6_begin_24 : decode cX6_begin 24 = .ok (.bipush (-6), 2) := by decide +kernel
theorem dX6_begin_26 : decode cX6_begin 26 = .ok (.putfield 32, 3) := by decide +kernel
theorem dX6_begin_29 : decode cX6_begin 29 = .ok (.aload_n 0, 1) := by decide +kernel
theorem dX6_begin_30 : decode cX6_begin 30 = .ok (.bipush (-6), 2) := by decide +kernel
theorem dX6_begin_32 : decode cX6_begin 32 = .ok (.putfield 35, 3) := by decide +kernel
theorem dX6_begin_35 : decode cX6_begin 35 = .ok (.return_, 1) := by decide +kernel
theorem dX6_attempt_0 : decode cX6_attempt 0 = .ok (.aload_n 0, 1) := by decide +kernel
theorem dX6_attempt_1 : decode cX6_attempt 1 = .ok (.aload_n 0, 1) := by decide +kernel
theorem dX6_attempt_2 : decode cX6_attempt 2 = .ok (.getfield 12, 3) := by decide +kernel
theorem dX6_attempt_5 : decode cX6_attempt 5 = .ok (.iload_n 1, 1) := by decide +kernel
theorem dX6_attempt_6 : decode cX6_attempt 6 = .ok (.iload_n 2, 1) := by decide +kernel
theorem dX6_attempt_7 : decode cX6_attempt 7 = .ok (.iload_n 3, 1) := by decide +kernel
theorem dX6_attempt_8 : decode cX6_attempt 8 = .ok (.invokevirtual 38, 3) := by decide +kernel
theorem dX6_attempt_11 : decode cX6_attempt 11 = .ok (.putfield 26, 3) := by decide +kernel
theorem dX6_attempt_14 : decode cX6_attempt 14 = .ok (.aload_n 0, 1) := by decide +kernel
theorem dX6_attempt_15 : decode cX6_attempt 15 = .ok (.getfield 26, 3) := by decide +kernel
theorem dX6_attempt_18 : decode cX6_attempt 18 = .ok (.ifCond .eq 5, 3) := by decide +kernel
theorem dX6_attempt_21 : decode cX6_attempt 21 = .ok (.iconst 0, 1) := by decide +kernel
theorem dX6_attempt_22 : decode cX6_attempt 22 = .ok (.ireturn, 1) := by decide +kernel
theorem dX6_attempt_23 : decode cX6_attempt 23 = .ok (.aload_n 0, 1) := by decide +kernel
theorem dX6_attempt_24 : decode cX6_attempt 24 = .ok (.getfield 12, 3) := by decide +kernel
theorem dX6_attempt_27 : decode cX6_attempt 27 = .ok (.getfield 42, 3) := by decide +kernel
theorem dX6_attempt_30 : decode cX6_attempt 30 = .ok (.istore 4, 2) := by decide +kernel
theorem dX6_attempt_32 : decode cX6_attempt 32 = .ok (.aload_n 0, 1) := by decide +kernel
theorem dX6_attempt_33 : decode cX6_attempt 33 = .ok (.getfield 12, 3) := by decide +kernel
theorem dX6_attempt_36 : decode cX6_attempt 36 = .ok (.iload_n 1, 1) := by decide +kernel
theorem dX6_attempt_37 : decode cX6_attempt 37 = .ok (.iload_n 2, 1) := by decide +kernel
theorem dX6_attempt_38 : decode cX6_attempt 38 = .ok (.iload_n 3, 1) := by decide +kernel
theorem dX6_attempt_39 : decode cX6_attempt 39 = .ok (.invokevirtual 45, 3) := by decide +kernel
theorem dX6_attempt_42 : decode cX6_attempt 42 = .ok (.aload_n 0, 1) := by decide +kernel
theorem dX6_attempt_43 : decode cX6_attempt 43 = .ok (.aload_n 0, 1) := by decide +kernel
theorem dX6_attempt_44 : decode cX6_attempt 44 = .ok (.getfield 12, 3) := by decide +kernel
theorem dX6_attempt_47 : decode cX6_attempt 47 = .ok (.getfield 42, 3) := by decide +kernel
theorem dX6_attempt_50 : decode cX6_attempt 50 = .ok (.iload 4, 2) := by decide +kernel
theorem dX6_attempt_52 : decode cX6_attempt 52 = .ok (.iconst (-1), 1) := by decide +kernel
theorem dX6_attempt_53 : decode cX6_attempt 53 = .ok (.ixor, 1) := by decide +kernel
theorem dX6_attempt_54 : decode cX6_attempt 54 = .ok (.iand, 1) := by decide +kernel
theorem dX6_attempt_55 : decode cX6_attempt 55 = .ok (.invokevirtual 49, 3) := by decide +kernel
theorem dX6_attempt_58 : decode cX6_attempt 58 = .ok (.aload_n 0, 1) := by decide +kernel
theorem dX6_attempt_59 : decode cX6_attempt 59 = .ok (.dup, 1) := by decide +kernel
theorem dX6_attempt_60 : decode cX6_attempt 60 = .ok (.getfield 22, 3) := by decide +kernel
theorem dX6_attempt_63 : decode cX6_attempt 63 = .ok (.iconst 1, 1) := by decide +kernel
theorem dX6_attempt_64 : decode cX6_attempt 64 = .ok (.iadd, 1) := by decide +kernel
theorem dX6_attempt_65 : decode cX6_attempt 65 = .ok (.putfield 22, 3) := by decide +kernel
theorem dX6_attempt_68 : decode cX6_attempt 68 = .ok (.iconst 1, 1) := by decide +kernel
theorem dX6_attempt_69 : decode cX6_attempt 69 = .ok (.ireturn, 1) := by decide +kernel
theorem dX6_noteSitters_0 : decode cX6_noteSitters 0 = .ok (.iload_n 1, 1) := by decide +kernel
theorem dX6_noteSitters_1 : decode cX6_noteSitters 1 = .ok (.ifCond .eq 27, 3) := by decide +kernel
theorem dX6_noteSitters_4 : decode cX6_noteSitters 4 = .ok (.aload_n 0, 1) := by decide +kernel
theorem dX6_noteSitters_5 : decode cX6_noteSitters 5 = .ok (.getfield 29, 3) := by decide +kernel
theorem dX6_noteSitters_8 : decode cX6_noteSitters 8 = .ok (.ifCond .ne 20, 3) := by decide +kernel
theorem dX6_noteSitters_11 : decode cX6_noteSitters 11 = .ok (.aload_n 0, 1) := by decide +kernel
theorem dX6_noteSitters_12 : decode cX6_noteSitters 12 = .ok (.aload_n 0, 1) := by decide +kernel
theorem dX6_noteSitters_13 : decode cX6_noteSitters 13 = .ok (.getfield 22, 3) := by decide +kernel
theorem dX6_noteSitters_16 : decode cX6_noteSitters 16 = .ok (.putfield 32, 3) := by decide +kernel
theorem dX6_noteSitters_19 : decode cX6_noteSitters 19 = .ok (.aload_n 0, 1) := by decide +kernel
theorem dX6_noteSitters_20 : decode cX6_noteSitters 20 = .ok (.iload_n 1, 1) := by decide +kernel
theorem dX6_noteSitters_21 : decode cX6_noteSitters 21 = .ok (.iconst 0, 1) := by decide +kernel
theorem dX6_noteSitters_22 : decode cX6_noteSitters 22 = .ok (.invokestatic 53, 3) := by decide +kernel
theorem dX6_noteSitters_25 : decode cX6_noteSitters 25 = .ok (.putfield 35, 3) := by decide +kernel
theorem dX6_noteSitters_28 : decode cX6_noteSitters 28 = .ok (.aload_n 0, 1) := by decide +kernel
theorem dX6_noteSitters_29 : decode cX6_noteSitters 29 = .ok (.dup, 1) := by decide +kernel
theorem dX6_noteSitters_30 : decode cX6_noteSitters 30 = .ok (.getfield 29, 3) := by decide +kernel
theorem dX6_noteSitters_33 : decode cX6_noteSitters 33 = .ok (.iload_n 1, 1) := by decide +kernel
theorem dX6_noteSitters_34 : decode cX6_noteSitters 34 = .ok (.invokestatic 57, 3) := by decide +kernel
theorem dX6_noteSitters_37 : decode cX6_noteSitters 37 = .ok (.iadd, 1) := by decide +kernel
theorem dX6_noteSitters_38 : decode cX6_noteSitters 38 = .ok (.putfield 29, 3) := by decide +kernel
theorem dX6_noteSitters_41 : decode cX6_noteSitters 41 = .ok (.return_, 1) := by decide +kernel
theorem dX7_init_0 : decode cX7_init 0 = .ok (.aload_n 0, 1) := by decide +kernel
theorem dX7_init_1 : decode cX7_init 1 = .ok (.invokespecial 1, 3) := by decide +kernel
theorem dX7_init_4 : decode cX7_init 4 = .ok (.aload_n 0, 1) := by decide +kernel
theorem dX7_init_5 : decode cX7_init 5 = .ok (.new 7, 3) := by decide +kernel
theorem dX7_init_8 : decode cX7_init 8 = .ok (.dup, 1) := by decide +kernel
theorem dX7_init_9 : decode cX7_init 9 = .ok (.invokespecial 9, 3) := by decide +kernel
theorem dX7_init_12 : decode cX7_init 12 = .ok (.putfield 10, 3) := by decide +kernel
theorem dX7_init_15 : decode cX7_init 15 = .ok (.aload_n 0, 1) := by decide +kernel
theorem dX7_init_16 : decode cX7_init 16 = .ok (.new 16, 3) := by decide +kernel
theorem dX7_init_19 : decode cX7_init 19 = .ok (.dup, 1) := by decide +kernel
theorem dX7_init_20 : decode cX7_init 20 = .ok (.invokespecial 18, 3) := by decide +kernel
theorem dX7_init_23 : decode cX7_init 23 = .ok (.putfield 19, 3) := by decide +kernel
theorem dX7_init_26 : decode cX7_init 26 = .ok (.aload_n 0, 1) := by decide +kernel
theorem dX7_init_27 : decode cX7_init 27 = .ok (.new 23, 3) := by decide +kernel
theorem dX7_init_30 : decode cX7_init 30 = .ok (.dup, 1) := by decide +kernel
theorem dX7_init_31 : decode cX7_init 31 = .ok (.invokespecial 25, 3) := by decide +kernel
theorem dX7_init_34 : decode cX7_init 34 = .ok (.putfield 26, 3) := by decide +kernel
theorem dX7_init_37 : decode cX7_init 37 = .ok (.return_, 1) := by decide +kernel
theorem dX7_copyFrom_0 : decode cX7_copyFrom 0 = .ok (.aload_n 0, 1) := by decide +kernel
theorem dX7_copyFrom_1 : decode cX7_copyFrom 1 = .ok (.getfield 10, 3) := by decide +kernel
theorem dX7_copyFrom_4 : decode cX7_copyFrom 4 = .ok (.aload_n 1, 1) := by decide +kernel
theorem dX7_copyFrom_5 : decode cX7_copyFrom 5 = .ok (.getfield 10, 3) := by decide +kernel
theorem dX7_copyFrom_8 : decode cX7_copyFrom 8 = .ok (.invokevirtual 30, 3) := by decide +kernel
theorem dX7_copyFrom_11 : decode cX7_copyFrom 11 = .ok (.aload_n 0, 1) := by decide +kernel
theorem dX7_copyFrom_12 : decode cX7_copyFrom 12 = .ok (.getfield 19, 3) := by decide +kernel
theorem dX7_copyFrom_15 : decode cX7_copyFrom 15 = .ok (.aload_n 1, 1) := by decide +kernel
theorem dX7_copyFrom_16 : decode cX7_copyFrom 16 = .ok (.getfield 19, 3) := by decide +kernel
theorem dX7_copyFrom_19 : decode cX7_copyFrom 19 = .ok (.invokevirtual 34, 3) := by decide +kernel
theorem dX7_copyFrom_22 : decode cX7_copyFrom 22 = .ok (.aload_n 0, 1) := by decide +kernel
theorem dX7_copyFrom_23 : decode cX7_copyFrom 23 = .ok (.getfield 26, 3) := by decide +kernel
theorem dX7_copyFrom_26 : decode cX7_copyFrom 26 = .ok (.aload_n 1, 1) := by decide +kernel
theorem dX7_copyFrom_27 : decode cX7_copyFrom 27 = .ok (.getfield 26, 3) := by decide +kernel
theorem dX7_copyFrom_30 : decode cX7_copyFrom 30 = .ok (.invokevirtual 37, 3) := by decide +kernel
theorem dX7_copyFrom_33 : decode cX7_copyFrom 33 = .ok (.return_, 1) := by decide +kernel
theorem dX8_init_0 : decode cX8_init 0 = .ok (.aload_n 0, 1) := by decide +kernel
theorem dX8_init_1 : decode cX8_init 1 = .ok (.invokespecial 3, 3) := by decide +kernel
theorem dX8_init_4 : decode cX8_init 4 = .ok (.aload_n 0, 1) := by decide +kernel
theorem dX8_init_5 : decode cX8_init 5 = .ok (.new 9, 3) := by decide +kernel
theorem dX8_init_8 : decode cX8_init 8 = .ok (.dup, 1) := by decide +kernel
theorem dX8_init_9 : decode cX8_init 9 = .ok (.invokespecial 11, 3) := by decide +kernel
theorem dX8_init_12 : decode cX8_init 12 = .ok (.putfield 12, 3) := by decide +kernel
theorem dX8_init_15 : decode cX8_init 15 = .ok (.aload_n 0, 1) := by decide +kernel
theorem dX8_init_16 : decode cX8_init 16 = .ok (.iconst 2, 1) := by decide +kernel
theorem dX8_init_17 : decode cX8_init 17 = .ok (.anewarray 9, 3) := by decide +kernel
theorem dX8_init_20 : decode cX8_init 20 = .ok (.putfield 16, 3) := by decide +kernel
theorem dX8_init_23 : decode cX8_init 23 = .ok (.aload_n 0, 1) := by decide +kernel
theorem dX8_init_24 : decode cX8_init 24 = .ok (.new 20, 3) := by decide +kernel
theorem dX8_init_27 : decode cX8_init 27 = .ok (.dup, 1) := by decide +kernel
theorem dX8_init_28 : decode cX8_init 28 = .ok (.invokespecial 22, 3) := by decide +kernel
theorem dX8_init_31 : decode cX8_init 31 = .ok (.putfield 23, 3) := by decide +kernel
theorem dX8_init_34 : decode cX8_init 34 = .ok (.aload_n 0, 1) := by decide +kernel
theorem dX8_init_35 : decode cX8_init 35 = .ok (.new 27, 3) := by decide +kernel
theorem dX8_init_38 : decode cX8_init 38 = .ok (.dup, 1) := by decide +kernel
theorem dX8_init_39 : decode cX8_init 39 = .ok (.invokespecial 29, 3) := by decide +kernel
theorem dX8_init_42 : decode cX8_init 42 = .ok (.putfield 30, 3) := by decide +kernel
theorem dX8_init_45 : decode cX8_init 45 = .ok (.aload_n 0, 1) := by decide +kernel
theorem dX8_init_46 : decode cX8_init 46 = .ok (.new 34, 3) := by decide +kernel
theorem dX8_init_49 : decode cX8_init 49 = .ok (.dup, 1) := by decide +kernel
theorem dX8_init_50 : decode cX8_init 50 = .ok (.invokespecial 36, 3) := by decide +kernel
theorem dX8_init_53 : decode cX8_init 53 = .ok (.putfield 37, 3) := by decide +kernel
theorem dX8_init_56 : decode cX8_init 56 = .ok (.aload_n 0, 1) := by decide +kernel
theorem dX8_init_57 : decode cX8_init 57 = .ok (.new 41, 3) := by decide +kernel
theorem dX8_init_60 : decode cX8_init 60 = .ok (.dup, 1) := by decide +kernel
theorem dX8_init_61 : decode cX8_init 61 = .ok (.invokespecial 43, 3) := by decide +kernel
theorem dX8_init_64 : decode cX8_init 64 = .ok (.putfield 44, 3) := by decide +kernel
theorem dX8_init_67 : decode cX8_init 67 = .ok (.return_, 1) := by decide +kernel
theorem dX8_way_0 : decode cX8_way 0 = .ok (.iload_n 1, 1) := by decide +kernel
theorem dX8_way_1 : decode cX8_way 1 = .ok (.invokestatic 48, 3) := by decide +kernel
theorem dX8_way_4 : decode cX8_way 4 = .ok (.ifCond .eq 10, 3) := by decide +kernel
theorem dX8_way_7 : decode cX8_way 7 = .ok (.iload_n 2, 1) := by decide +kernel
theorem dX8_way_8 : decode cX8_way 8 = .ok (.invokestatic 48, 3) := by decide +kernel
theorem dX8_way_11 : decode cX8_way 11 = .ok (.ifCond .ne 5, 3) := by decide +kernel
theorem dX8_way_14 : decode cX8_way 14 = .ok (.iconst (-1), 1) := by decide +kernel
theorem dX8_way_15 : decode cX8_way 15 = .ok (.ireturn, 1) := by decide +kernel
theorem dX8_way_16 : decode cX8_way 16 = .ok (.iload_n 1, 1) := by decide +kernel
theorem dX8_way_17 : decode cX8_way 17 = .ok (.iload_n 2, 1) := by decide +kernel
theorem dX8_way_18 : decode cX8_way 18 = .ok (.if_icmp .ne 6, 3) := by decide +kernel
theorem dX8_way_21 : decode cX8_way 21 = .ok (.bipush (-2), 2) := by decide +kernel
theorem dX8_way_23 : decode cX8_way 23 = .ok (.ireturn, 1) := by decide +kernel
theorem dX8_way_24 : decode cX8_way 24 = .ok (.aload_n 0, 1) := by decide +kernel
theorem dX8_way_25 : decode cX8_way 25 = .ok (.getfield 12, 3) := by decide +kernel
theorem dX8_way_28 : decode cX8_way 28 = .ok (.getfield 52, 3) := by decide +kernel
theorem dX8_way_31 : decode cX8_way 31 = .ok (.iload_n 1, 1) := by decide +kernel
theorem dX8_way_32 : decode cX8_way 32 = .ok (.iload_n 2, 1) := by decide +kernel
theorem dX8_way_33 : decode cX8_way 33 = .ok (.iload_n 3, 1) := by decide +kernel
theorem dX8_way_34 : decode cX8_way 34 = .ok (.invokevirtual 56, 3) := by decide +kernel
theorem dX8_way_37 : decode cX8_way 37 = .ok (.aload_n 0, 1) := by decide +kernel
theorem dX8_way_38 : decode cX8_way 38 = .ok (.getfield 12, 3) := by decide +kernel
theorem dX8_way_41 : decode cX8_way 41 = .ok (.getfield 52, 3) := by decide +kernel
theorem dX8_way_44 : decode cX8_way 44 = .ok (.invokevirtual 62, 3) := by decide +kernel
theorem dX8_way_47 : decode cX8_way 47 = .ok (.ireturn, 1) := by decide +kernel
theorem dX8_thing_0 : decode cX8_thing 0 = .ok (.iload_n 1, 1) := by decide +kernel
theorem dX8_thing_1 : decode cX8_thing 1 = .ok (.invokestatic 66, 3) := by decide +kernel
theorem dX8_thing_4 : decode cX8_thing 4 = .ok (.ifCond .eq 15, 3) := by decide +kernel
theorem dX8_thing_7 : decode cX8_thing 7 = .ok (.iload_n 2, 1) := by decide +kernel
theorem dX8_thing_8 : decode cX8_thing 8 = .ok (.invokestatic 48, 3) := by decide +kernel
theorem dX8_thing_11 : decode cX8_thing 11 = .ok (.ifCond .ne 10, 3) := by decide +kernel
theorem dX8_thing_14 : decode cX8_thing 14 = .ok (.iload_n 2, 1) := by decide +kernel
theorem dX8_thing_15 : decode cX8_thing 15 = .ok (.iconst (-1), 1) := by decide +kernel
theorem dX8_thing_16 : decode cX8_thing 16 = .ok (.if_icmp .eq 5, 3) := by decide +kernel
theorem dX8_thing_19 : decode cX8_thing 19 = .ok (.iconst (-1), 1) := by decide +kernel
theorem dX8_thing_20 : decode cX8_thing 20 = .ok (.ireturn, 1) := by decide +kernel
theorem dX8_thing_21 : decode cX8_thing 21 = .ok (.aload_n 0, 1) := by decide +kernel
theorem dX8_thing_22 : decode cX8_thing 22 = .ok (.getfield 12, 3) := by decide +kernel
theorem dX8_thing_25 : decode cX8_thing 25 = .ok (.getfield 52, 3) := by decide +kernel
theorem dX8_thing_28 : decode cX8_thing 28 = .ok (.iload_n 1, 1) := by decide +kernel
theorem dX8_thing_29 : decode cX8_thing 29 = .ok (.invokevirtual 69, 3) := by decide +kernel
theorem dX8_thing_32 : decode cX8_thing 32 = .ok (.istore_n 3, 1) := by decide +kernel
theorem dX8_thing_33 : decode cX8_thing 33 = .ok (.aload_n 0, 1) := by decide +kernel
theorem dX8_thing_34 : decode cX8_thing 34 = .ok (.getfield 12, 3) := by decide +kernel
theorem dX8_thing_37 : decode cX8_thing 37 = .ok (.getfield 52, 3) := by decide +kernel
theorem dX8_thing_40 : decode cX8_thing 40 = .ok (.getfield 73, 3) := by decide +kernel
theorem dX8_thing_43 : decode cX8_thing 43 = .ok (.iload_n 1, 1) := by decide +kernel
theorem dX8_thing_44 : decode cX8_thing 44 = .ok (.iload_n 2, 1) := by decide +kernel
theorem dX8_thing_45 : decode cX8_thing 45 = .ok (.iastore, 1) := by decide +kernel
theorem dX8_thing_46 : decode cX8_thing 46 = .ok (.iload_n 3, 1) := by decide +kernel
theorem dX8_thing_47 : decode cX8_thing 47 = .ok (.ireturn, 1) := by decide +kernel
theorem dX8_person_0 : decode cX8_person 0 = .ok (.iload_n 1, 1) := by decide +kernel
theorem dX8_person_1 : decode cX8_person 1 = .ok (.invokestatic 77, 3) := by decide +kernel
theorem dX8_person_4 : decode cX8_person 4 = .ok (.ifCond .eq 15, 3) := by decide +kernel
theorem dX8_person_7 : decode cX8_person 7 = .ok (.iload_n 2, 1) := by decide +kernel
theorem dX8_person_8 : decode cX8_person 8 = .ok (.invokestatic 48, 3) := by decide +kernel
theorem dX8_person_11 : decode cX8_person 11 = .ok (.ifCond .ne 10, 3) := by decide +kernel
theorem dX8_person_14 : decode cX8_person 14 = .ok (.iload_n 2, 1) := by decide +kernel
theorem dX8_person_15 : decode cX8_person 15 = .ok (.iconst (-1), 1) := by decide +kernel
theorem dX8_person_16 : decode cX8_person 16 = .ok (.if_icmp .eq 5, 3) := by decide +kernel
theorem dX8_person_19 : decode cX8_person 19 = .ok (.iconst (-1), 1) := by decide +kernel
theorem dX8_person_20 : decode cX8_person 20 = .ok (.ireturn, 1) := by decide +kernel
theorem dX8_person_21 : decode cX8_person 21 = .ok (.iload_n 3, 1) := by decide +kernel
theorem dX8_person_22 : decode cX8_person 22 = .ok (.iconst 0, 1) := by decide +kernel
theorem dX8_person_23 : decode cX8_person 23 = .ok (.iload_n 2, 1) := by decide +kernel
theorem dX8_person_24 : decode cX8_person 24 = .ok (.iconst (-1), 1) := by decide +kernel
theorem dX8_person_25 : decode cX8_person 25 = .ok (.if_icmp .ne 7, 3) := by decide +kernel
theorem dX8_person_28 : decode cX8_person 28 = .ok (.iconst 0, 1) := by decide +kernel
theorem dX8_person_29 : decode cX8_person 29 = .ok (.goto 5, 3) := by decide +kernel
theorem dX8_person_32 : decode cX8_person 32 = .ok (.bipush 9, 2) := by decide +kernel
theorem dX8_person_34 : decode cX8_person 34 = .ok (.invokestatic 80, 3) := by decide +kernel
theorem dX8_person_37 : decode cX8_person 37 = .ok (.ifCond .ne 6, 3) := by decide +kernel
theorem dX8_person_40 : decode cX8_person 40 = .ok (.bipush (-2), 2) := by decide +kernel
theorem dX8_person_42 : decode cX8_person 42 = .ok (.ireturn, 1) := by decide +kernel
theorem dX8_person_43 : decode cX8_person 43 = .ok (.aload_n 0, 1) := by decide +kernel
theorem dX8_person_44 : decode cX8_person 44 = .ok (.getfield 12, 3) := by decide +kernel
theorem dX8_person_47 : decode cX8_person 47 = .ok (.getfield 52, 3) := by decide +kernel
theorem dX8_person_50 : decode cX8_person 50 = .ok (.iload_n 1, 1) := by decide +kernel
theorem dX8_person_51 : decode cX8_person 51 = .ok (.invokevirtual 84, 3) := by decide +kernel
theorem dX8_person_54 : decode cX8_person 54 = .ok (.istore 4, 2) := by decide +kernel
theorem dX8_person_56 : decode cX8_person 56 = .ok (.aload_n 0, 1) := by decide +kernel
theorem dX8_person_57 : decode cX8_person 57 = .ok (.getfield 12, 3) := by decide +kernel
theorem dX8_person_60 : decode cX8_person 60 = .ok (.getfield 52, 3) := by decide +kernel
theorem dX8_person_63 : decode cX8_person 63 = .ok (.iload_n 1, 1) := by decide +kernel
theorem dX8_person_64 : decode cX8_person 64 = .ok (.iload_n 2, 1) := by decide +kernel
theorem dX8_person_65 : decode cX8_person 65 = .ok (.iload_n 3, 1) := by decide +kernel
theorem dX8_person_66 : decode cX8_person 66 = .ok (.invokevirtual 87, 3) := by decide +kernel
theorem dX8_person_69 : decode cX8_person 69 = .ok (.iload 4, 2) := by decide +kernel
theorem dX8_person_71 : decode cX8_person 71 = .ok (.ireturn, 1) := by decide +kernel
theorem dX8_pole_0 : decode cX8_pole 0 = .ok (.aload_n 0, 1) := by decide +kernel
theorem dX8_pole_1 : decode cX8_pole 1 = .ok (.getfield 12, 3) := by decide +kernel
theorem dX8_pole_4 : decode cX8_pole 4 = .ok (.getfield 52, 3) := by decide +kernel
theorem dX8_pole_7 : decode cX8_pole 7 = .ok (.invokevirtual 91, 3) := by decide +kernel
theorem dX8_pole_10 : decode cX8_pole 10 = .ok (.istore_n 2, 1) := by decide +kernel
theorem dX8_pole_11 : decode cX8_pole 11 = .ok (.aload_n 0, 1) := by decide +kernel
theorem dX8_pole_12 : decode cX8_pole 12 = .ok (.getfield 12, 3) := by decide +kernel
theorem dX8_pole_15 : decode cX8_pole 15 = .ok (.getfield 52, 3) := by decide +kernel
theorem dX8_pole_18 : decode cX8_pole 18 = .ok (.iload_n 1, 1) := by decide +kernel
theorem dX8_pole_19 : decode cX8_pole 19 = .ok (.putfield 94, 3) := by decide +kernel
theorem dX8_pole_22 : decode cX8_pole 22 = .ok (.iload_n 2, 1) := by decide +kernel
theorem dX8_pole_23 : decode cX8_pole 23 = .ok (.ireturn, 1) := by decide +kernel
theorem dX8_say_0 : decode cX8_say 0 = .ok (.iload_n 1, 1) := by decide +kernel
theorem dX8_say_1 : decode cX8_say 1 = .ok (.bipush 33, 2) := by decide +kernel
theorem dX8_say_3 : decode cX8_say 3 = .ok (.bipush 126, 2) := by decide +kernel
theorem dX8_say_5 : decode cX8_say 5 = .ok (.invokestatic 80, 3) := by decide +kernel
theorem dX8_say_8 : decode cX8_say 8 = .ok (.ifCond .ne 6, 3) := by decide +kernel
theorem dX8_say_11 : decode cX8_say 11 = .ok (.bipush (-2), 2) := by decide +kernel
theorem dX8_say_13 : decode cX8_say 13 = .ok (.ireturn, 1) := by decide +kernel
theorem dX8_say_14 : decode cX8_say 14 = .ok (.aload_n 0, 1) := by decide +kernel
theorem dX8_say_15 : decode cX8_say 15 = .ok (.getfield 23, 3) := by decide +kernel
theorem dX8_say_18 : decode cX8_say 18 = .ok (.iload_n 1, 1) := by decide +kernel
theorem dX8_say_19 : decode cX8_say 19 = .ok (.invokevirtual 98, 3) := by decide +kernel
theorem dX8_say_22 : decode cX8_say 22 = .ok (.ifCond .eq 13, 3) := by decide +kernel
theorem dX8_say_25 : decode cX8_say 25 = .ok (.aload_n 0, 1) := by decide +kernel
theorem dX8_say_26 : decode cX8_say 26 = .ok (.getfield 23, 3) := by decide +kernel
theorem dX8_say_29 : decode cX8_say 29 = .ok (.getfield 101, 3) := by decide +kernel
theorem dX8_say_32 : decode cX8_say 32 = .ok (.goto 5, 3) := by decide +kernel
theorem dX8_say_35 : decode cX8_say 35 = .ok (.bipush (-4), 2) := by decide +kernel
theorem dX8_say_37 : decode cX8_say 37 = .ok (.ireturn, 1) := by decide +kernel
theorem dX8_wipe_0 : decode cX8_wipe 0 = .ok (.aload_n 0, 1) := by decide +kernel
theorem dX8_wipe_1 : decode cX8_wipe 1 = .ok (.getfield 23, 3) := by decide +kernel
theorem dX8_wipe_4 : decode cX8_wipe 4 = .ok (.getfield 101, 3) := by decide +kernel
theorem dX8_wipe_7 : decode cX8_wipe 7 = .ok (.istore_n 1, 1) := by decide +kernel
theorem dX8_wipe_8 : decode cX8_wipe 8 = .ok (.aload_n 0, 1) := by decide +kernel
theorem dX8_wipe_9 : decode cX8_wipe 9 = .ok (.getfield 23, 3) := by decide +kernel
theorem dX8_wipe_12 : decode cX8_wipe 12 = .ok (.iconst 0, 1) := by decide +kernel
theorem dX8_wipe_13 : decode cX8_wipe 13 = .ok (.putfield 101, 3) := by decide +kernel
theorem dX8_wipe_16 : decode cX8_wipe 16 = .ok (.iload_n 1, 1) := by decide +kernel
theorem dX8_wipe_17 : decode cX8_wipe 17 = .ok (.ireturn, 1) := by decide +kernel
theorem dX8_fault_0 : decode cX8_fault 0 = .ok (.aload_n 0, 1) := by decide +kernel
theorem dX8_fault_1 : decode cX8_fault 1 = .ok (.getfield 23, 3) := by decide +kernel
theorem dX8_fault_4 : decode cX8_fault 4 = .ok (.invokevirtual 105, 3) := by decide +kernel
theorem dX8_fault_7 : decode cX8_fault 7 = .ok (.ireturn, 1) := by decide +kernel
theorem dX8_judge_0 : decode cX8_judge 0 = .ok (.iload_n 1, 1) := by decide +kernel
theorem dX8_judge_1 : decode cX8_judge 1 = .ok (.iconst 0, 1) := by decide +kernel
theorem dX8_judge_2 : decode cX8_judge 2 = .ok (.iconst 2, 1) := by decide +kernel
theorem dX8_judge_3 : decode cX8_judge 3 = .ok (.invokestatic 80, 3) := by decide +kernel
theorem dX8_judge_6 : decode cX8_judge 6 = .ok (.ifCond .ne 6, 3) := by decide +kernel
theorem dX8_judge_9 : decode cX8_judge 9 = .ok (.bipush (-2), 2) := by decide +kernel
theorem dX8_judge_11 : decode cX8_judge 11 = .ok (.ireturn, 1) := by decide +kernel
theorem dX8_judge_12 : decode cX8_judge 12 = .ok (.aload_n 0, 1) := by decide +kernel
theorem dX8_judge_13 : decode cX8_judge 13 = .ok (.invokevirtual 108, 3) := by decide +kernel
theorem dX8_judge_16 : decode cX8_judge 16 = .ok (.istore_n 2, 1) := by decide +kernel
theorem dX8_judge_17 : decode cX8_judge 17 = .ok (.iload_n 2, 1) := by decide +kernel
theorem dX8_judge_18 : decode cX8_judge 18 = .ok (.bipush (-5), 2) := by decide +kernel
theorem dX8_judge_20 : decode cX8_judge 20 = .ok (.if_icmp .ne 6, 3) := by decide +kernel
theorem dX8_judge_23 : decode cX8_judge 23 = .ok (.bipush (-5), 2) := by decide +kernel
theorem dX8_judge_25 : decode cX8_judge 25 = .ok (.ireturn, 1) := by decide +kernel
theorem dX8_judge_26 : decode cX8_judge 26 = .ok (.iload_n 1, 1) := by decide +kernel
theorem dX8_judge_27 : decode cX8_judge 27 = .ok (.ifCond .ne 26, 3) := by decide +kernel
theorem dX8_judge_30 : decode cX8_judge 30 = .ok (.aload_n 0, 1) := by decide +kernel
theorem dX8_judge_31 : decode cX8_judge 31 = .ok (.getfield 30, 3) := by decide +kernel
theorem dX8_judge_34 : decode cX8_judge 34 = .ok (.getfield 111, 3) := by decide +kernel
theorem dX8_judge_37 : decode cX8_judge 37 = .ok (.ifCond .ne 8, 3) := by decide +kernel
theorem dX8_judge_40 : decode cX8_judge 40 = .ok (.bipush (-6), 2) := by decide +kernel
theorem dX8_judge_42 : decode cX8_judge 42 = .ok (.goto 10, 3) := by decide +kernel
theorem dX8_judge_45 : decode cX8_judge 45 = .ok (.aload_n 0, 1) := by decide +kernel
theorem dX8_judge_46 : decode cX8_judge 46 = .ok (.getfield 30, 3) := by decide +kernel
theorem dX8_judge_49 : decode cX8_judge 49 = .ok (.getfield 114, 3) := by decide +kernel
theorem dX8_judge_52 : decode cX8_judge 52 = .ok (.ireturn, 1) := by decide +kernel
theorem dX8_judge_53 : decode cX8_judge 53 = .ok (.iload_n 1, 1) := by decide +kernel
theorem dX8_judge_54 : decode cX8_judge 54 = .ok (.iconst 1, 1) := by decide +kernel
theorem dX8_judge_55 : decode cX8_judge 55 = .ok (.if_icmp .ne 26, 3) := by decide +kernel
theorem dX8_judge_58 : decode cX8_judge 58 = .ok (.aload_n 0, 1) := by decide +kernel
theorem dX8_judge_59 : decode cX8_judge 59 = .ok (.getfield 30, 3) := by decide +kernel
theorem dX8_judge_62 : decode cX8_judge 62 = .ok (.getfield 111, 3) := by decide +kernel
theorem dX8_judge_65 : decode cX8_judge 65 = .ok (.ifCond .ne 8, 3) := by decide +kernel
theorem dX8_judge_68 : decode cX8_judge 68 = .ok (.bipush (-6), 2) := by decide +kernel
theorem dX8_judge_70 : decode cX8_judge 70 = .ok (.goto 10, 3) := by decide +kernel
theorem dX8_judge_73 : decode cX8_judge 73 = .ok (.aload_n 0, 1) := by decide +kernel
theorem dX8_judge_74 : decode cX8_judge 74 = .ok (.getfield 30, 3) := by decide +kernel
theorem dX8_judge_77 : decode cX8_judge 77 = .ok (.getfield 111, 3) := by decide +kernel
theorem dX8_judge_80 : decode cX8_judge 80 = .ok (.ireturn, 1) := by decide +kernel
theorem dX8_judge_81 : decode cX8_judge 81 = .ok (.iload_n 2, 1) := by decide +kernel
theorem dX8_judge_82 : decode cX8_judge 82 = .ok (.bipush (-3), 2) := by decide +kernel
theorem dX8_judge_84 : decode cX8_judge 84 = .ok (.if_icmp .ne 8, 3) := by decide +kernel
theorem dX8_judge_87 : decode cX8_judge 87 = .ok (.bipush (-3), 2) := by decide +kernel
theorem dX8_judge_89 : decode cX8_judge 89 = .ok (.goto 10, 3) := by decide +kernel
theorem dX8_judge_92 : decode cX8_judge 92 = .ok (.aload_n 0, 1) := by decide +kernel
theorem dX8_judge_93 : decode cX8_judge 93 = .ok (.getfield 30, 3) := by decide +kernel
theorem dX8_judge_96 : decode cX8_judge 96 = .ok (.getfield 117, 3) := by decide +kernel
theorem dX8_judge_99 : decode cX8_judge 99 = .ok (.ireturn, 1) := by decide +kernel
theorem dX8_behind_0 : decode cX8_behind 0 = .ok (.iload_n 1, 1) := by decide +kernel
theorem dX8_behind_1 : decode cX8_behind 1 = .ok (.invokestatic 77, 3) := by decide +kernel
theorem dX8_behind_4 : decode cX8_behind 4 = .ok (.ifCond .ne 5, 3) := by decide +kernel
theorem dX8_behind_7 : decode cX8_behind 7 = .ok (.iconst (-1), 1) := by decide +kernel
theorem dX8_behind_8 : decode cX8_behind 8 = .ok (.ireturn, 1) := by decide +kernel
theorem dX8_behind_9 : decode cX8_behind 9 = .ok (.iload_n 2, 1) := by decide +kernel
theorem dX8_behind_10 : decode cX8_behind 10 = .ok (.iconst 0, 1) := by decide +kernel
theorem dX8_behind_11 : decode cX8_behind 11 = .ok (.iconst 3, 1) := by decide +kernel
theorem dX8_behind_12 : decode cX8_behind 12 = .ok (.invokestatic 80, 3) := by decide +kernel
theorem dX8_behind_15 : decode cX8_behind 15 = .ok (.ifCond .ne 6, 3) := by decide +kernel
theorem dX8_behind_18 : decode cX8_behind 18 = .ok (.bipush (-2), 2) := by decide +kernel
theorem dX8_behind_20 : decode cX8_behind 20 = .ok (.ireturn, 1) := by decide +kernel
theorem dX8_behind_21 : decode cX8_behind 21 = .ok (.aload_n 0, 1) := by decide +kernel
theorem dX8_behind_22 : decode cX8_behind 22 = .ok (.invokevirtual 108, 3) := by decide +kernel
theorem dX8_behind_25 : decode cX8_behind 25 = .ok (.istore_n 3, 1) := by decide +kernel
theorem dX8_behind_26 : decode cX8_behind 26 = .ok (.iload_n 3, 1) := by decide +kernel
theorem dX8_behind_27 : decode cX8_behind 27 = .ok (.ifCond .eq 5, 3) := by decide +kernel
theorem dX8_behind_30 : decode cX8_behind 30 = .ok (.iload_n 3, 1) := by decide +kernel
theorem dX8_behind_31 : decode cX8_behind 31 = .ok (.ireturn, 1) := by decide +kernel
theorem dX8_behind_32 : decode cX8_behind 32 = .ok (.aload_n 0, 1) := by decide +kernel
theorem dX8_behind_33 : decode cX8_behind 33 = .ok (.getfield 30, 3) := by decide +kernel
theorem dX8_behind_36 : decode cX8_behind 36 = .ok (.getfield 120, 3) := by decide +kernel
theorem dX8_behind_39 : decode cX8_behind 39 = .ok (.astore 4, 2) := by decide +kernel
theorem dX8_behind_41 : decode cX8_behind 41 = .ok (.iload_n 2, 1) := by decide +kernel
theorem dX8_behind_42 : decode cX8_behind 42 = .ok (.tableswitch 48 0 2 #[26, 33, 41], 26) := by decide +kernel
theorem dX8_behind_68 : decode cX8_behind 68 = .ok (.aload 4, 2) := by decide +kernel
theorem dX8_behind_70 : decode cX8_behind 70 = .ok (.iload_n 1, 1) := by decide +kernel
theorem dX8_behind_71 : decode cX8_behind 71 = .ok (.invokevirtual 84, 3) := by decide +kernel
theorem dX8_behind_74 : decode cX8_behind 74 = .ok (.ireturn, 1) := by decide +kernel
theorem dX8_behind_75 : decode cX8_behind 75 = .ok (.aload 4, 2) := by decide +kernel
theorem dX8_behind_77 : decode cX8_behind 77 = .ok (.getfield 121, 3) := by decide +kernel
theorem dX8_behind_80 : decode cX8_behind 80 = .ok (.iload_n 1, 1) := by decide +kernel
theorem dX8_behind_81 : decode cX8_behind 81 = .ok (.iaload, 1) := by decide +kernel
theorem dX8_behind_82 : decode cX8_behind 82 = .ok (.ireturn, 1) := by decide +kernel
theorem dX8_behind_83 : decode cX8_behind 83 = .ok (.aload 4, 2) := by decide +kernel
theorem dX8_behind_85 : decode cX8_behind 85 = .ok (.iload_n 1, 1) := by decide +kernel
theorem dX8_behind_86 : decode cX8_behind 86 = .ok (.invokevirtual 124, 3) := by decide +kernel
theorem dX8_behind_89 : decode cX8_behind 89 = .ok (.ireturn, 1) := by decide +kernel
theorem dX8_behind_90 : decode cX8_behind 90 = .ok (.aload 4, 2) := by decide +kernel
theorem dX8_behind_92 : decode cX8_behind 92 = .ok (.iload_n 1, 1) := by decide +kernel
theorem dX8_behind_93 : decode cX8_behind 93 = .ok (.invokevirtual 127, 3) := by decide +kernel
theorem dX8_behind_96 : decode cX8_behind 96 = .ok (.ireturn, 1) := by decide +kernel
theorem dX8_lies_0 : decode cX8_lies 0 = .ok (.iload_n 1, 1) := by decide +kernel
theorem dX8_lies_1 : decode cX8_lies 1 = .ok (.invokestatic 66, 3) := by decide +kernel
theorem dX8_lies_4 : decode cX8_lies 4 = .ok (.ifCond .ne 5, 3) := by decide +kernel
theorem dX8_lies_7 : decode cX8_lies 7 = .ok (.iconst (-1), 1) := by decide +kernel
theorem dX8_lies_8 : decode cX8_lies 8 = .ok (.ireturn, 1) := by decide +kernel
theorem dX8_lies_9 : decode cX8_lies 9 = .ok (.iload_n 2, 1) := by decide +kernel
theorem dX8_lies_10 : decode cX8_lies 10 = .ok (.iconst 0, 1) := by decide +kernel
theorem dX8_lies_11 : decode cX8_lies 11 = .ok (.iconst 1, 1) := by decide +kernel
theorem dX8_lies_12 : decode cX8_lies 12 = .ok (.invokestatic 80, 3) := by decide +kernel
theorem dX8_lies_15 : decode cX8_lies 15 = .ok (.ifCond .ne 6, 3) := by decide +kernel
theorem dX8_lies_18 : decode cX8_lies 18 = .ok (.bipush (-2), 2) := by decide +kernel
theorem dX8_lies_20 : decode cX8_lies 20 = .ok (.ireturn, 1) := by decide +kernel
theorem dX8_lies_21 : decode cX8_lies 21 = .ok (.aload_n 0, 1) := by decide +kernel
theorem dX8_lies_22 : decode cX8_lies 22 = .ok (.invokevirtual 108, 3) := by decide +kernel
theorem dX8_lies_25 : decode cX8_lies 25 = .ok (.istore_n 3, 1) := by decide +kernel
theorem dX8_lies_26 : decode cX8_lies 26 = .ok (.iload_n 3, 1) := by decide +kernel
theorem dX8_lies_27 : decode cX8_lies 27 = .ok (.ifCond .eq 5, 3) := by decide +kernel
theorem dX8_lies_30 : decode cX8_lies 30 = .ok (.iload_n 3, 1) := by decide +kernel
theorem dX8_lies_31 : decode cX8_lies 31 = .ok (.ireturn, 1) := by decide +kernel
theorem dX8_lies_32 : decode cX8_lies 32 = .ok (.iload_n 2, 1) := by decide +kernel
theorem dX8_lies_33 : decode cX8_lies 33 = .ok (.ifCond .ne 17, 3) := by decide +kernel
theorem dX8_lies_36 : decode cX8_lies 36 = .ok (.aload_n 0, 1) := by decide +kernel
theorem dX8_lies_37 : decode cX8_lies 37 = .ok (.getfield 30, 3) := by decide +kernel
theorem dX8_lies_40 : decode cX8_lies 40 = .ok (.getfield 120, 3) := by decide +kernel
theorem dX8_lies_43 : decode cX8_lies 43 = .ok (.iload_n 1, 1) := by decide +kernel
theorem dX8_lies_44 : decode cX8_lies 44 = .ok (.invokevirtual 69, 3) := by decide +kernel
theorem dX8_lies_47 : decode cX8_lies 47 = .ok (.goto 14, 3) := by decide +kernel
theorem dX8_lies_50 : decode cX8_lies 50 = .ok (.aload_n 0, 1) := by decide +kernel
theorem dX8_lies_51 : decode cX8_lies 51 = .ok (.getfield 30, 3) := by decide +kernel
theorem dX8_lies_54 : decode cX8_lies 54 = .ok (.getfield 120, 3) := by decide +kernel
theorem dX8_lies_57 : decode cX8_lies 57 = .ok (.iload_n 1, 1) := by decide +kernel
theorem dX8_lies_58 : decode cX8_lies 58 = .ok (.invokevirtual 130, 3) := by decide +kernel
theorem dX8_lies_61 : decode cX8_lies 61 = .ok (.ireturn, 1) := by decide +kernel
theorem dX8_there_0 : decode cX8_there 0 = .ok (.iload_n 1, 1) := by decide +kernel
theorem dX8_there_1 : decode cX8_there 1 = .ok (.iconst 0, 1) := by decide +kernel
theorem dX8_there_2 : decode cX8_there 2 = .ok (.iconst 4, 1) := by decide +kernel
theorem dX8_there_3 : decode cX8_there 3 = .ok (.invokestatic 80, 3) := by decide +kernel
theorem dX8_there_6 : decode cX8_there 6 = .ok (.ifCond .ne 6, 3) := by decide +kernel
theorem dX8_there_9 : decode cX8_there 9 = .ok (.bipush (-2), 2) := by decide +kernel
theorem dX8_there_11 : decode cX8_there 11 = .ok (.ireturn, 1) := by decide +kernel
theorem dX8_there_12 : decode cX8_there 12 = .ok (.aload_n 0, 1) := by decide +kernel
theorem dX8_there_13 : decode cX8_there 13 = .ok (.invokevirtual 108, 3) := by decide +kernel
theorem dX8_there_16 : decode cX8_there 16 = .ok (.istore_n 2, 1) := by decide +kernel
theorem dX8_there_17 : decode cX8_there 17 = .ok (.iload_n 2, 1) := by decide +kernel
theorem dX8_there_18 : decode cX8_there 18 = .ok (.ifCond .eq 5, 3) := by decide +kernel
theorem dX8_there_21 : decode cX8_there 21 = .ok (.iload_n 2, 1) := by decide +kernel
theorem dX8_there_22 : decode cX8_there 22 = .ok (.ireturn, 1) := by decide +kernel
theorem dX8_there_23 : decode cX8_there 23 = .ok (.aload_n 0, 1) := by decide +kernel
theorem dX8_there_24 : decode cX8_there 24 = .ok (.getfield 30, 3) := by decide +kernel
theorem dX8_there_27 : decode cX8_there 27 = .ok (.getfield 120, 3) := by decide +kernel
theorem dX8_there_30 : decode cX8_there 30 = .ok (.astore_n 3, 1) := by decide +kernel
theorem dX8_there_31 : decode cX8_there 31 = .ok (.iload_n 1, 1) := by decide +kernel
theorem dX8_there_32 : decode cX8_there 32 = .ok (.tableswitch 52 0 3 #[32, 37, 42, 47], 32) := by decide +kernel
theorem dX8_there_64 : decode cX8_there 64 = .ok (.aload_n 3, 1) := by decide +kernel
theorem dX8_there_65 : decode cX8_there 65 = .ok (.invokevirtual 62, 3) := by decide +kernel
theorem dX8_there_68 : decode cX8_there 68 = .ok (.ireturn, 1) := by decide +kernel
theorem dX8_there_69 : decode cX8_there 69 = .ok (.aload_n 3, 1) := by decide +kernel
theorem dX8_there_70 : decode cX8_there 70 = .ok (.invokevirtual 133, 3) := by decide +kernel
theorem dX8_there_73 : decode cX8_there 73 = .ok (.ireturn, 1) := by decide +kernel
theorem dX8_there_74 : decode cX8_there 74 = .ok (.aload_n 3, 1) := by decide +kernel
theorem dX8_there_75 : decode cX8_there 75 = .ok (.getfield 136, 3) := by decide +kernel
theorem dX8_there_78 : decode cX8_there 78 = .ok (.ireturn, 1) := by decide +kernel
theorem dX8_there_79 : decode cX8_there 79 = .ok (.aload_n 3, 1) := by decide +kernel
theorem dX8_there_80 : decode cX8_there 80 = .ok (.invokevirtual 91, 3) := by decide +kernel
theorem dX8_there_83 : decode cX8_there 83 = .ok (.ireturn, 1) := by decide +kernel
theorem dX8_there_84 : decode cX8_there 84 = .ok (.aload_n 3, 1) := by decide +kernel
theorem dX8_there_85 : decode cX8_there 85 = .ok (.getfield 139, 3) := by decide +kernel
theorem dX8_there_88 : decode cX8_there 88 = .ok (.ireturn, 1) := by decide +kernel
theorem dX8_first_0 : decode cX8_first 0 = .ok (.iload_n 1, 1) := by decide +kernel
theorem dX8_first_1 : decode cX8_first 1 = .ok (.iconst 0, 1) := by decide +kernel
theorem dX8_first_2 : decode cX8_first 2 = .ok (.iconst 1, 1) := by decide +kernel
theorem dX8_first_3 : decode cX8_first 3 = .ok (.invokestatic 80, 3) := by decide +kernel
theorem dX8_first_6 : decode cX8_first 6 = .ok (.ifCond .ne 6, 3) := by decide +kernel
theorem dX8_first_9 : decode cX8_first 9 = .ok (.bipush (-2), 2) := by decide +kernel
theorem dX8_first_11 : decode cX8_first 11 = .ok (.ireturn, 1) := by decide +kernel
theorem dX8_first_12 : decode cX8_first 12 = .ok (.aload_n 0, 1) := by decide +kernel
theorem dX8_first_13 : decode cX8_first 13 = .ok (.invokevirtual 108, 3) := by decide +kernel
theorem dX8_first_16 : decode cX8_first 16 = .ok (.istore_n 2, 1) := by decide +kernel
theorem dX8_first_17 : decode cX8_first 17 = .ok (.iload_n 2, 1) := by decide +kernel
theorem dX8_first_18 : decode cX8_first 18 = .ok (.ifCond .eq 5, 3) := by decide +kernel
theorem dX8_first_21 : decode cX8_first 21 = .ok (.iload_n 2, 1) := by decide +kernel
theorem dX8_first_22 : decode cX8_first 22 = .ok (.ireturn, 1) := by decide +kernel
theorem dX8_first_23 : decode cX8_first 23 = .ok (.iload_n 1, 1) := by decide +kernel
theorem dX8_first_24 : decode cX8_first 24 = .ok (.ifCond .ne 13, 3) := by decide +kernel
theorem dX8_first_27 : decode cX8_first 27 = .ok (.aload_n 0, 1) := by decide +kernel
theorem dX8_first_28 : decode cX8_first 28 = .ok (.getfield 30, 3) := by decide +kernel
theorem dX8_first_31 : decode cX8_first 31 = .ok (.getfield 142, 3) := by decide +kernel
theorem dX8_first_34 : decode cX8_first 34 = .ok (.goto 10, 3) := by decide +kernel
theorem dX8_first_37 : decode cX8_first 37 = .ok (.aload_n 0, 1) := by decide +kernel
theorem dX8_first_38 : decode cX8_first 38 = .ok (.getfield 30, 3) := by decide +kernel
theorem dX8_first_41 : decode cX8_first 41 = .ok (.getfield 145, 3) := by decide +kernel
theorem dX8_first_44 : decode cX8_first 44 = .ok (.ireturn, 1) := by decide +kernel
theorem dX8_done_0 : decode cX8_done 0 = .ok (.aload_n 0, 1) := by decide +kernel
theorem dX8_done_1 : decode cX8_done 1 = .ok (.invokevirtual 108, 3) := by decide +kernel
theorem dX8_done_4 : decode cX8_done 4 = .ok (.istore_n 1, 1) := by decide +kernel
theorem dX8_done_5 : decode cX8_done 5 = .ok (.iload_n 1, 1) := by decide +kernel
theorem dX8_done_6 : decode cX8_done 6 = .ok (.ifCond .eq 5, 3) := by decide +kernel
theorem dX8_done_9 : decode cX8_done 9 = .ok (.iload_n 1, 1) := by decide +kernel
theorem dX8_done_10 : decode cX8_done 10 = .ok (.ireturn, 1) := by decide +kernel
theorem dX8_done_11 : decode cX8_done 11 = .ok (.aload_n 0, 1) := by decide +kernel
theorem dX8_done_12 : decode cX8_done 12 = .ok (.getfield 12, 3) := by decide +kernel
theorem dX8_done_15 : decode cX8_done 15 = .ok (.getfield 52, 3) := by decide +kernel
theorem dX8_done_18 : decode cX8_done 18 = .ok (.aload_n 0, 1) := by decide +kernel
theorem dX8_done_19 : decode cX8_done 19 = .ok (.getfield 30, 3) := by decide +kernel
theorem dX8_done_22 : decode cX8_done 22 = .ok (.getfield 120, 3) := by decide +kernel
theorem dX8_done_25 : decode cX8_done 25 = .ok (.invokevirtual 148, 3) := by decide +kernel
theorem dX8_done_28 : decode cX8_done 28 = .ok (.aload_n 0, 1) := by decide +kernel
theorem dX8_done_29 : decode cX8_done 29 = .ok (.getfield 23, 3) := by decide +kernel
theorem dX8_done_32 : decode cX8_done 32 = .ok (.iconst 0, 1) := by decide +kernel
theorem dX8_done_33 : decode cX8_done 33 = .ok (.putfield 101, 3) := by decide +kernel
theorem dX8_done_36 : decode cX8_done 36 = .ok (.aload_n 0, 1) := by decide +kernel
theorem dX8_done_37 : decode cX8_done 37 = .ok (.getfield 30, 3) := by decide +kernel
theorem dX8_done_40 : decode cX8_done 40 = .ok (.getfield 114, 3) := by decide +kernel
theorem dX8_done_43 : decode cX8_done 43 = .ok (.ireturn, 1) := by decide +kernel
theorem dX8_join_0 : decode cX8_join 0 = .ok (.iload_n 1, 1) := by decide +kernel
theorem dX8_join_1 : decode cX8_join 1 = .ok (.invokestatic 48, 3) := by decide +kernel
theorem dX8_join_4 : decode cX8_join 4 = .ok (.ifCond .eq 10, 3) := by decide +kernel
theorem dX8_join_7 : decode cX8_join 7 = .ok (.iload_n 2, 1) := by decide +kernel
theorem dX8_join_8 : decode cX8_join 8 = .ok (.invokestatic 48, 3) := by decide +kernel
theorem dX8_join_11 : decode cX8_join 11 = .ok (.ifCond .ne 5, 3) := by decide +kernel
theorem dX8_join_14 : decode cX8_join 14 = .ok (.iconst (-1), 1) := by decide +kernel
theorem dX8_join_15 : decode cX8_join 15 = .ok (.ireturn, 1) := by decide +kernel
theorem dX8_join_16 : decode cX8_join 16 = .ok (.aload_n 0, 1) := by decide +kernel
theorem dX8_join_17 : decode cX8_join 17 = .ok (.getfield 12, 3) := by decide +kernel
theorem dX8_join_20 : decode cX8_join 20 = .ok (.getfield 52, 3) := by decide +kernel
theorem dX8_join_23 : decode cX8_join 23 = .ok (.iload_n 1, 1) := by decide +kernel
theorem dX8_join_24 : decode cX8_join 24 = .ok (.iload_n 2, 1) := by decide +kernel
theorem dX8_join_25 : decode cX8_join 25 = .ok (.invokevirtual 152, 3) := by decide +kernel
theorem dX8_join_28 : decode cX8_join 28 = .ok (.ireturn, 1) := by decide +kernel
theorem dX8_cut_0 : decode cX8_cut 0 = .ok (.iload_n 1, 1) := by decide +kernel
theorem dX8_cut_1 : decode cX8_cut 1 = .ok (.invokestatic 48, 3) := by decide +kernel
theorem dX8_cut_4 : decode cX8_cut 4 = .ok (.ifCond .eq 10, 3) := by decide +kernel
theorem dX8_cut_7 : decode cX8_cut 7 = .ok (.iload_n 2, 1) := by decide +kernel
theorem dX8_cut_8 : decode cX8_cut 8 = .ok (.invokestatic 48, 3) := by decide +kernel
theorem dX8_cut_11 : decode cX8_cut 11 = .ok (.ifCond .ne 5, 3) := by decide +kernel
theorem dX8_cut_14 : decode cX8_cut 14 = .ok (.iconst (-1), 1) := by decide +kernel
theorem dX8_cut_15 : decode cX8_cut 15 = .ok (.ireturn, 1) := by decide +kernel
theorem dX8_cut_16 : decode cX8_cut 16 = .ok (.iload_n 1, 1) := by decide +kernel
theorem dX8_cut_17 : decode cX8_cut 17 = .ok (.iload_n 2, 1) := by decide +kernel
theorem dX8_cut_18 : decode cX8_cut 18 = .ok (.if_icmp .eq 12, 3) := by decide +kernel
theorem dX8_cut_21 : decode cX8_cut 21 = .ok (.iload_n 3, 1) := by decide +kernel
theorem dX8_cut_22 : decode cX8_cut 22 = .ok (.iconst 0, 1) := by decide +kernel
theorem dX8_cut_23 : decode cX8_cut 23 = .ok (.iconst 1, 1) := by decide +kernel
theorem dX8_cut_24 : decode cX8_cut 24 = .ok (.invokestatic 80, 3) := by decide +kernel
theorem dX8_cut_27 : decode cX8_cut 27 = .ok (.ifCond .ne 6, 3) := by decide +kernel
theorem dX8_cut_30 : decode cX8_cut 30 = .ok (.bipush (-2), 2) := by decide +kernel
theorem dX8_cut_32 : decode cX8_cut 32 = .ok (.ireturn, 1) := by decide +kernel
theorem dX8_cut_33 : decode cX8_cut 33 = .ok (.aload_n 0, 1) := by decide +kernel
theorem dX8_cut_34 : decode cX8_cut 34 = .ok (.getfield 12, 3) := by decide +kernel
theorem dX8_cut_37 : decode cX8_cut 37 = .ok (.getfield 52, 3) := by decide +kernel
theorem dX8_cut_40 : decode cX8_cut 40 = .ok (.iload_n 1, 1) := by decide +kernel
theorem dX8_cut_41 : decode cX8_cut 41 = .ok (.iload_n 2, 1) := by decide +kernel
theorem dX8_cut_42 : decode cX8_cut 42 = .ok (.invokevirtual 156, 3) := by decide +kernel
theorem dX8_cut_45 : decode cX8_cut 45 = .ok (.istore 4, 2) := by decide +kernel
theorem dX8_cut_47 : decode cX8_cut 47 = .ok (.iload_n 3, 1) := by decide +kernel
theorem dX8_cut_48 : decode cX8_cut 48 = .ok (.ifCond .ne 18, 3) := by decide +kernel
theorem dX8_cut_51 : decode cX8_cut 51 = .ok (.aload_n 0, 1) := by decide +kernel
theorem dX8_cut_52 : decode cX8_cut 52 = .ok (.getfield 12, 3) := by decide +kernel
theorem dX8_cut_55 : decode cX8_cut 55 = .ok (.getfield 52, 3) := by decide +kernel
theorem dX8_cut_58 : decode cX8_cut 58 = .ok (.iload 4, 2) := by decide +kernel
theorem dX8_cut_60 : decode cX8_cut 60 = .ok (.invokevirtual 159, 3) := by decide +kernel
theorem dX8_cut_63 : decode cX8_cut 63 = .ok (.goto 5, 3) := by decide +kernel
theorem dX8_cut_66 : decode cX8_cut 66 = .ok (.iload 4, 2) := by decide +kernel
theorem dX8_cut_68 : decode cX8_cut 68 = .ok (.ireturn, 1) := by decide +kernel
theorem dX8_rule_0 : decode cX8_rule 0 = .ok (.iload_n 1, 1) := by decide +kernel
theorem dX8_rule_1 : decode cX8_rule 1 = .ok (.invokestatic 162, 3) := by decide +kernel
theorem dX8_rule_4 : decode cX8_rule 4 = .ok (.ifCond .eq 17, 3) := by decide +kernel
theorem dX8_rule_7 : decode cX8_rule 7 = .ok (.iload_n 2, 1) := by decide +kernel
theorem dX8_rule_8 : decode cX8_rule 8 = .ok (.invokestatic 162, 3) := by decide +kernel
theorem dX8_rule_11 : decode cX8_rule 11 = .ok (.ifCond .eq 10, 3) := by decide +kernel
theorem dX8_rule_14 : decode cX8_rule 14 = .ok (.iload_n 3, 1) := by decide +kernel
theorem dX8_rule_15 : decode cX8_rule 15 = .ok (.invokestatic 162, 3) := by decide +kernel
theorem dX8_rule_18 : decode cX8_rule 18 = .ok (.ifCond .ne 6, 3) := by decide +kernel
theorem dX8_rule_21 : decode cX8_rule 21 = .ok (.bipush (-2), 2) := by decide +kernel
theorem dX8_rule_23 : decode cX8_rule 23 = .ok (.ireturn, 1) := by decide +kernel
theorem dX8_rule_24 : decode cX8_rule 24 = .ok (.aload_n 0, 1) := by decide +kernel
theorem dX8_rule_25 : decode cX8_rule 25 = .ok (.getfield 12, 3) := by decide +kernel
theorem dX8_rule_28 : decode cX8_rule 28 = .ok (.getfield 165, 3) := by decide +kernel
theorem dX8_rule_31 : decode cX8_rule 31 = .ok (.iload_n 1, 1) := by decide +kernel
theorem dX8_rule_32 : decode cX8_rule 32 = .ok (.iload_n 2, 1) := by decide +kernel
theorem dX8_rule_33 : decode cX8_rule 33 = .ok (.iload_n 3, 1) := by decide +kernel
theorem dX8_rule_34 : decode cX8_rule 34 = .ok (.invokevirtual 169, 3) := by decide +kernel
theorem dX8_rule_37 : decode cX8_rule 37 = .ok (.ifCond .eq 16, 3) := by decide +kernel
theorem dX8_rule_40 : decode cX8_rule 40 = .ok (.aload_n 0, 1) := by decide +kernel
theorem dX8_rule_41 : decode cX8_rule 41 = .ok (.getfield 12, 3) := by decide +kernel
theorem dX8_rule_44 : decode cX8_rule 44 = .ok (.getfield 165, 3) := by decide +kernel
theorem dX8_rule_47 : decode cX8_rule 47 = .ok (.getfield 173, 3) := by decide +kernel
theorem dX8_rule_50 : decode cX8_rule 50 = .ok (.goto 5, 3) := by decide +kernel
theorem dX8_rule_53 : decode cX8_rule 53 = .ok (.bipush (-4), 2) := by decide +kernel
theorem dX8_rule_55 : decode cX8_rule 55 = .ok (.ireturn, 1) := by decide +kernel
theorem dX8_unrule_0 : decode cX8_unrule 0 = .ok (.aload_n 0, 1) := by decide +kernel
theorem dX8_unrule_1 : decode cX8_unrule 1 = .ok (.getfield 12, 3) := by decide +kernel
theorem dX8_unrule_4 : decode cX8_unrule 4 = .ok (.getfield 165, 3) := by decide +kernel
theorem dX8_unrule_7 : decode cX8_unrule 7 = .ok (.getfield 173, 3) := by decide +kernel
theorem dX8_unrule_10 : decode cX8_unrule 10 = .ok (.istore_n 1, 1) := by decide +kernel
theorem dX8_unrule_11 : decode cX8_unrule 11 = .ok (.aload_n 0, 1) := by decide +kernel
theorem dX8_unrule_12 : decode cX8_unrule 12 = .ok (.getfield 12, 3) := by decide +kernel
theorem dX8_unrule_15 : decode cX8_unrule 15 = .ok (.getfield 165, 3) := by decide +kernel
theorem dX8_unrule_18 : decode cX8_unrule 18 = .ok (.iconst 0, 1) := by decide +kernel
theorem dX8_unrule_19 : decode cX8_unrule 19 = .ok (.putfield 173, 3) := by decide +kernel
theorem dX8_unrule_22 : decode cX8_unrule 22 = .ok (.iload_n 1, 1) := by decide +kernel
theorem dX8_unrule_23 : decode cX8_unrule 23 = .ok (.ireturn, 1) := by decide +kernel
theorem dX8_close_0 : decode cX8_close 0 = .ok (.iload_n 1, 1) := by decide +kernel
theorem dX8_close_1 : decode cX8_close 1 = .ok (.iconst 0, 1) := by decide +kernel
theorem dX8_close_2 : decode cX8_close 2 = .ok (.sipush 1023, 3) := by decide +kernel
theorem dX8_close_5 : decode cX8_close 5 = .ok (.invokestatic 80, 3) := by decide +kernel
theorem dX8_close_8 : decode cX8_close 8 = .ok (.ifCond .ne 6, 3) := by decide +kernel
theorem dX8_close_11 : decode cX8_close 11 = .ok (.bipush (-2), 2) := by decide +kernel
theorem dX8_close_13 : decode cX8_close 13 = .ok (.ireturn, 1) := by decide +kernel
theorem dX8_close_14 : decode cX8_close 14 = .ok (.aload_n 0, 1) := by decide +kernel
theorem dX8_close_15 : decode cX8_close 15 = .ok (.getfield 12, 3) := by decide +kernel
theorem dX8_close_18 : decode cX8_close 18 = .ok (.getfield 165, 3) := by decide +kernel
theorem dX8_close_21 : decode cX8_close 21 = .ok (.iload_n 1, 1) := by decide +kernel
theorem dX8_close_22 : decode cX8_close 22 = .ok (.invokevirtual 174, 3) := by decide +kernel
theorem dX8_close_25 : decode cX8_close 25 = .ok (.ireturn, 1) := by decide +kernel
theorem dX8_least_0 : decode cX8_least 0 = .ok (.iload_n 1, 1) := by decide +kernel
theorem dX8_least_1 : decode cX8_least 1 = .ok (.invokestatic 162, 3) := by decide +kernel
theorem dX8_least_4 : decode cX8_least 4 = .ok (.ifCond .eq 12, 3) := by decide +kernel
theorem dX8_least_7 : decode cX8_least 7 = .ok (.iload_n 2, 1) := by decide +kernel
theorem dX8_least_8 : decode cX8_least 8 = .ok (.iconst 0, 1) := by decide +kernel
theorem dX8_least_9 : decode cX8_least 9 = .ok (.iconst 1, 1) := by decide +kernel
theorem dX8_least_10 : decode cX8_least 10 = .ok (.invokestatic 80, 3) := by decide +kernel
theorem dX8_least_13 : decode cX8_least 13 = .ok (.ifCond .ne 6, 3) := by decide +kernel
theorem dX8_least_16 : decode cX8_least 16 = .ok (.bipush (-2), 2) := by decide +kernel
theorem dX8_least_18 : decode cX8_least 18 = .ok (.ireturn, 1) := by decide +kernel
theorem dX8_least_19 : decode cX8_least 19 = .ok (.aload_n 0, 1) := by decide +kernel
theorem dX8_least_20 : decode cX8_least 20 = .ok (.getfield 12, 3) := by decide +kernel
theorem dX8_least_23 : decode cX8_least 23 = .ok (.getfield 165, 3) := by decide +kernel
theorem dX8_least_26 : decode cX8_least 26 = .ok (.iload_n 1, 1) := by decide +kernel
theorem dX8_least_27 : decode cX8_least 27 = .ok (.invokevirtual 177, 3) := by decide +kernel
theorem dX8_least_30 : decode cX8_least 30 = .ok (.istore_n 3, 1) := by decide +kernel
theorem dX8_least_31 : decode cX8_least 31 = .ok (.iload_n 3, 1) := by decide +kernel
theorem dX8_least_32 : decode cX8_least 32 = .ok (.bipush (-6), 2) := by decide +kernel
theorem dX8_least_34 : decode cX8_least 34 = .ok (.if_icmp .ne 6, 3) := by decide +kernel
theorem dX8_least_37 : decode cX8_least 37 = .ok (.bipush (-6), 2) := by decide +kernel
theorem dX8_least_39 : decode cX8_least 39 = .ok (.ireturn, 1) := by decide +kernel
theorem dX8_least_40 : decode cX8_least 40 = .ok (.iload_n 2, 1) := by decide +kernel
theorem dX8_least_41 : decode cX8_least 41 = .ok (.ifCond .ne 10, 3) := by decide +kernel
theorem dX8_least_44 : decode cX8_least 44 = .ok (.iload_n 3, 1) := by decide +kernel
theorem dX8_least_45 : decode cX8_least 45 = .ok (.invokestatic 180, 3) := by decide +kernel
theorem dX8_least_48 : decode cX8_least 48 = .ok (.goto 4, 3) := by decide +kernel
theorem dX8_least_51 : decode cX8_least 51 = .ok (.iload_n 3, 1) := by decide +kernel
theorem dX8_least_52 : decode cX8_least 52 = .ok (.ireturn, 1) := by decide +kernel
theorem dX8_swore_0 : decode cX8_swore 0 = .ok (.iload_n 1, 1) := by decide +kernel
theorem dX8_swore_1 : decode cX8_swore 1 = .ok (.iload_n 2, 1) := by decide +kernel
theorem dX8_swore_2 : decode cX8_swore 2 = .ok (.iload_n 3, 1) := by decide +kernel
theorem dX8_swore_3 : decode cX8_swore 3 = .ok (.invokestatic 185, 3) := by decide +kernel
theorem dX8_swore_6 : decode cX8_swore 6 = .ok (.ifCond .ne 6, 3) := by decide +kernel
theorem dX8_swore_9 : decode cX8_swore 9 = .ok (.bipush (-2), 2) := by decide +kernel
theorem dX8_swore_11 : decode cX8_swore 11 = .ok (.ireturn, 1) := by decide +kernel
theorem dX8_swore_12 : decode cX8_swore 12 = .ok (.iload_n 1, 1) := by decide +kernel
theorem dX8_swore_13 : decode cX8_swore 13 = .ok (.iload_n 2, 1) := by decide +kernel
theorem dX8_swore_14 : decode cX8_swore 14 = .ok (.iload_n 3, 1) := by decide +kernel
theorem dX8_swore_15 : decode cX8_swore 15 = .ok (.invokestatic 188, 3) := by decide +kernel
theorem dX8_swore_18 : decode cX8_swore 18 = .ok (.istore 5, 2) := by decide +kernel
theorem dX8_swore_20 : decode cX8_swore 20 = .ok (.aload_n 0, 1) := by decide +kernel
theorem dX8_swore_21 : decode cX8_swore 21 = .ok (.getfield 12, 3) := by decide +kernel
theorem dX8_swore_24 : decode cX8_swore 24 = .ok (.getfield 192, 3) := by decide +kernel
theorem dX8_swore_27 : decode cX8_swore 27 = .ok (.iload 4, 2) := by decide +kernel
theorem dX8_swore_29 : decode cX8_swore 29 = .ok (.ifCond .eq 8, 3) := by decide +kernel
theorem dX8_swore_32 : decode cX8_swore 32 = .ok (.iload 5, 2) := by decide +kernel
theorem dX8_swore_34 : decode cX8_swore 34 = .ok (.goto 7, 3) := by decide +kernel
theorem dX8_swore_37 : decode cX8_swore 37 = .ok (.iload 5, 2) := by decide +kernel
theorem dX8_swore_39 : decode cX8_swore 39 = .ok (.iconst (-1), 1) := by decide +kernel
theorem dX8_swore_40 : decode cX8_swore 40 = .ok (.ixor, 1) := by decide +kernel
theorem dX8_swore_41 : decode cX8_swore 41 = .ok (.invokevirtual 196, 3) := by decide +kernel
theorem dX8_swore_44 : decode cX8_swore 44 = .ok (.ifCond .eq 16, 3) := by decide +kernel
theorem dX8_swore_47 : decode cX8_swore 47 = .ok (.aload_n 0, 1) := by decide +kernel
theorem dX8_swore_48 : decode cX8_swore 48 = .ok (.getfield 12, 3) := by decide +kernel
theorem dX8_swore_51 : decode cX8_swore 51 = .ok (.getfield 192, 3) := by decide +kernel
theorem dX8_swore_54 : decode cX8_swore 54 = .ok (.getfield 199, 3) := by decide +kernel
theorem dX8_swore_57 : decode cX8_swore 57 = .ok (.goto 5, 3) := by decide +kernel
theorem dX8_swore_60 : decode cX8_swore 60 = .ok (.bipush (-4), 2) := by decide +kernel
theorem dX8_swore_62 : decode cX8_swore 62 = .ok (.ireturn, 1) := by decide +kernel
theorem dX8_forget_0 : decode cX8_forget 0 = .ok (.aload_n 0, 1) := by decide +kernel
theorem dX8_forget_1 : decode cX8_forget 1 = .ok (.getfield 12, 3) := by decide +kernel
theorem dX8_forget_4 : decode cX8_forget 4 = .ok (.getfield 192, 3) := by decide +kernel
theorem dX8_forget_7 : decode cX8_forget 7 = .ok (.getfield 199, 3) := by decide +kernel
theorem dX8_forget_10 : decode cX8_forget 10 = .ok (.istore_n 1, 1) := by decide +kernel
theorem dX8_forget_11 : decode cX8_forget 11 = .ok (.aload_n 0, 1) := by decide +kernel
theorem dX8_forget_12 : decode cX8_forget 12 = .ok (.getfield 12, 3) := by decide +kernel
theorem dX8_forget_15 : decode cX8_forget 15 = .ok (.getfield 192, 3) := by decide +kernel
theorem dX8_forget_18 : decode cX8_forget 18 = .ok (.iconst 0, 1) := by decide +kernel
theorem dX8_forget_19 : decode cX8_forget 19 = .ok (.putfield 199, 3) := by decide +kernel
theorem dX8_forget_22 : decode cX8_forget 22 = .ok (.iload_n 1, 1) := by decide +kernel
theorem dX8_forget_23 : decode cX8_forget 23 = .ok (.ireturn, 1) := by decide +kernel
theorem dX8_liars_0 : decode cX8_liars 0 = .ok (.aload_n 0, 1) := by decide +kernel
theorem dX8_liars_1 : decode cX8_liars 1 = .ok (.getfield 12, 3) := by decide +kernel
theorem dX8_liars_4 : decode cX8_liars 4 = .ok (.getfield 192, 3) := by decide +kernel
theorem dX8_liars_7 : decode cX8_liars 7 = .ok (.invokevirtual 200, 3) := by decide +kernel
theorem dX8_liars_10 : decode cX8_liars 10 = .ok (.istore_n 2, 1) := by decide +kernel
theorem dX8_liars_11 : decode cX8_liars 11 = .ok (.iload_n 1, 1) := by decide +kernel
theorem dX8_liars_12 : decode cX8_liars 12 = .ok (.iconst (-1), 1) := by decide +kernel
theorem dX8_liars_13 : decode cX8_liars 13 = .ok (.if_icmp .ne 10, 3) := by decide +kernel
theorem dX8_liars_16 : decode cX8_liars 16 = .ok (.iload_n 2, 1) := by decide +kernel
theorem dX8_liars_17 : decode cX8_liars 17 = .ok (.invokestatic 180, 3) := by decide +kernel
theorem dX8_liars_20 : decode cX8_liars 20 = .ok (.goto 8, 3) := by decide +kernel
theorem dX8_liars_23 : decode cX8_liars 23 = .ok (.iload_n 2, 1) := by decide +kernel
theorem dX8_liars_24 : decode cX8_liars 24 = .ok (.iload_n 1, 1) := by decide +kernel
theorem dX8_liars_25 : decode cX8_liars 25 = .ok (.invokestatic 203, 3) := by decide +kernel
theorem dX8_liars_28 : decode cX8_liars 28 = .ok (.ireturn, 1) := by decide +kernel
theorem dX8_ask_0 : decode cX8_ask 0 = .ok (.iload_n 1, 1) := by decide +kernel
theorem dX8_ask_1 : decode cX8_ask 1 = .ok (.iconst 0, 1) := by decide +kernel
theorem dX8_ask_2 : decode cX8_ask 2 = .ok (.iconst 1, 1) := by decide +kernel
theorem dX8_ask_3 : decode cX8_ask 3 = .ok (.invokestatic 80, 3) := by decide +kernel
theorem dX8_ask_6 : decode cX8_ask 6 = .ok (.ifCond .ne 6, 3) := by decide +kernel
theorem dX8_ask_9 : decode cX8_ask 9 = .ok (.bipush (-2), 2) := by decide +kernel
theorem dX8_ask_11 : decode cX8_ask 11 = .ok (.ireturn, 1) := by decide +kernel
theorem dX8_ask_12 : decode cX8_ask 12 = .ok (.aload_n 0, 1) := by decide +kernel
theorem dX8_ask_13 : decode cX8_ask 13 = .ok (.getfield 12, 3) := by decide +kernel
theorem dX8_ask_16 : decode cX8_ask 16 = .ok (.getfield 192, 3) := by decide +kernel
theorem dX8_ask_19 : decode cX8_ask 19 = .ok (.invokevirtual 200, 3) := by decide +kernel
theorem dX8_ask_22 : decode cX8_ask 22 = .ok (.istore_n 2, 1) := by decide +kernel
theorem dX8_ask_23 : decode cX8_ask 23 = .ok (.iload_n 2, 1) := by decide +kernel
theorem dX8_ask_24 : decode cX8_ask 24 = .ok (.ifCond .ne 6, 3) := by decide +kernel
theorem dX8_ask_27 : decode cX8_ask 27 = .ok (.bipush (-6), 2) := by decide +kernel
theorem dX8_ask_29 : decode cX8_ask 29 = .ok (.ireturn, 1) := by decide +kernel
theorem dX8_ask_30 : decode cX8_ask 30 = .ok (.iload_n 2, 1) := by decide +kernel
theorem dX8_ask_31 : decode cX8_ask 31 = .ok (.invokestatic 206, 3) := by decide +kernel
theorem dX8_ask_34 : decode cX8_ask 34 = .ok (.istore_n 3, 1) := by decide +kernel
theorem dX8_ask_35 : decode cX8_ask 35 = .ok (.iload_n 1, 1) := by decide +kernel
theorem dX8_ask_36 : decode cX8_ask 36 = .ok (.ifCond .ne 7, 3) := by decide +kernel
theorem dX8_ask_39 : decode cX8_ask 39 = .ok (.iload_n 3, 1) := by decide +kernel
theorem dX8_ask_40 : decode cX8_ask 40 = .ok (.goto 8, 3) := by decide +kernel
theorem dX8_ask_43 : decode cX8_ask 43 = .ok (.iload_n 2, 1) := by decide +kernel
theorem dX8_ask_44 : decode cX8_ask 44 = .ok (.iload_n 3, 1) := by decide +kernel
theorem dX8_ask_45 : decode cX8_ask 45 = .ok (.invokestatic 209, 3) := by decide +kernel
theorem dX8_ask_48 : decode cX8_ask 48 = .ok (.ireturn, 1) := by decide +kernel
theorem dX8_walk_0 : decode cX8_walk 0 = .ok (.iload_n 1, 1) := by decide +kernel
theorem dX8_walk_1 : decode cX8_walk 1 = .ok (.invokestatic 48, 3) := by decide +kernel
theorem dX8_walk_4 : decode cX8_walk 4 = .ok (.ifCond .ne 5, 3) := by decide +kernel
theorem dX8_walk_7 : decode cX8_walk 7 = .ok (.iconst (-1), 1) := by decide +kernel
theorem dX8_walk_8 : decode cX8_walk 8 = .ok (.ireturn, 1) := by decide +kernel
theorem dX8_walk_9 : decode cX8_walk 9 = .ok (.iload_n 2, 1) := by decide +kernel
theorem dX8_walk_10 : decode cX8_walk 10 = .ok (.iconst 0, 1) := by decide +kernel
theorem dX8_walk_11 : decode cX8_walk 11 = .ok (.iconst 1, 1) := by decide +kernel
theorem dX8_walk_12 : decode cX8_walk 12 = .ok (.invokestatic 80, 3) := by decide +kernel
theorem dX8_walk_15 : decode cX8_walk 15 = .ok (.ifCond .ne 6, 3) := by decide +kernel
theorem dX8_walk_18 : decode cX8_walk 18 = .ok (.bipush (-2), 2) := by decide +kernel
theorem dX8_walk_20 : decode cX8_walk 20 = .ok (.ireturn, 1) := by decide +kernel
theorem dX8_walk_21 : decode cX8_walk 21 = .ok (.aload_n 0, 1) := by decide +kernel
theorem dX8_walk_22 : decode cX8_walk 22 = .ok (.getfield 37, 3) := by decide +kernel
theorem dX8_walk_25 : decode cX8_walk 25 = .ok (.aload_n 0, 1) := by decide +kernel
theorem dX8_walk_26 : decode cX8_walk 26 = .ok (.getfield 12, 3) := by decide +kernel
theorem dX8_walk_29 : decode cX8_walk 29 = .ok (.getfield 52, 3) := by decide +kernel
theorem dX8_walk_32 : decode cX8_walk 32 = .ok (.getfield 212, 3) := by decide +kernel
theorem dX8_walk_35 : decode cX8_walk 35 = .ok (.iload_n 1, 1) := by decide +kernel
theorem dX8_walk_36 : decode cX8_walk 36 = .ok (.invokevirtual 215, 3) := by decide +kernel
theorem dX8_walk_39 : decode cX8_walk 39 = .ok (.istore_n 3, 1) := by decide +kernel
theorem dX8_walk_40 : decode cX8_walk 40 = .ok (.iload_n 2, 1) := by decide +kernel
theorem dX8_walk_41 : decode cX8_walk 41 = .ok (.ifCond .ne 15, 3) := by decide +kernel
theorem dX8_walk_44 : decode cX8_walk 44 = .ok (.iload_n 3, 1) := by decide +kernel
theorem dX8_walk_45 : decode cX8_walk 45 = .ok (.bipush (-6), 2) := by decide +kernel
theorem dX8_walk_47 : decode cX8_walk 47 = .ok (.if_icmp .ne 7, 3) := by decide +kernel
theorem dX8_walk_50 : decode cX8_walk 50 = .ok (.iconst 0, 1) := by decide +kernel
theorem dX8_walk_51 : decode cX8_walk 51 = .ok (.goto 4, 3) := by decide +kernel
theorem dX8_walk_54 : decode cX8_walk 54 = .ok (.iconst 1, 1) := by decide +kernel
theorem dX8_walk_55 : decode cX8_walk 55 = .ok (.ireturn, 1) := by decide +kernel
theorem dX8_walk_56 : decode cX8_walk 56 = .ok (.iload_n 3, 1) := by decide +kernel
theorem dX8_walk_57 : decode cX8_walk 57 = .ok (.ireturn, 1) := by decide +kernel
theorem dX8_hang_0 : decode cX8_hang 0 = .ok (.iload_n 1, 1) := by decide +kernel
theorem dX8_hang_1 : decode cX8_hang 1 = .ok (.iconst 1, 1) := by decide +kernel
theorem dX8_hang_2 : decode cX8_hang 2 = .ok (.iconst 5, 1) := by decide +kernel
theorem dX8_hang_3 : decode cX8_hang 3 = .ok (.invokestatic 80, 3) := by decide +kernel
theorem dX8_hang_6 : decode cX8_hang 6 = .ok (.ifCond .eq 36, 3) := by decide +kernel
theorem dX8_hang_9 : decode cX8_hang 9 = .ok (.iload_n 2, 1) := by decide +kernel
theorem dX8_hang_10 : decode cX8_hang 10 = .ok (.iconst 0, 1) := by decide +kernel
theorem dX8_hang_11 : decode cX8_hang 11 = .ok (.bipush 10, 2) := by decide +kernel
theorem dX8_hang_13 : decode cX8_hang 13 = .ok (.invokestatic 80, 3) := by decide +kernel
theorem dX8_hang_16 : decode cX8_hang 16 = .ok (.ifCond .eq 26, 3) := by decide +kernel
theorem dX8_hang_19 : decode cX8_hang 19 = .ok (.iload_n 3, 1) := by decide +kernel
theorem dX8_hang_20 : decode cX8_hang 20 = .ok (.iconst 0, 1) := by decide +kernel
theorem dX8_hang_21 : decode cX8_hang 21 = .ok (.iconst 1, 1) := by decide +kernel
theorem dX8_hang_22 : decode cX8_hang 22 = .ok (.invokestatic 80, 3) := by decide +kernel
theorem dX8_hang_25 : decode cX8_hang 25 = .ok (.ifCond .eq 17, 3) := by decide +kernel
theorem dX8_hang_28 : decode cX8_hang 28 = .ok (.iload 4, 2) := by decide +kernel
theorem dX8_hang_30 : decode cX8_hang 30 = .ok (.iconst 0, 1) := by decide +kernel
theorem dX8_hang_31 : decode cX8_hang 31 = .ok (.iconst 1, 1) := by decide +kernel
theorem dX8_hang_32 : decode cX8_hang 32 = .ok (.invokestatic 80, 3) := by decide +kernel
theorem dX8_hang_35 : decode cX8_hang 35 = .ok (.ifCond .eq 7, 3) := by decide +kernel
theorem dX8_hang_38 : decode cX8_hang 38 = .ok (.iconst 1, 1) := by decide +kernel
theorem dX8_hang_39 : decode cX8_hang 39 = .ok (.goto 4, 3) := by decide +kernel
theorem dX8_hang_42 : decode cX8_hang 42 = .ok (.iconst 0, 1) := by decide +kernel
theorem dX8_hang_43 : decode cX8_hang 43 = .ok (.istore 5, 2) := by decide +kernel
theorem dX8_hang_45 : decode cX8_hang 45 = .ok (.iload 5, 2) := by decide +kernel
theorem dX8_hang_47 : decode cX8_hang 47 = .ok (.ifCond .ne 7, 3) := by decide +kernel
theorem dX8_hang_50 : decode cX8_hang 50 = .ok (.ldc2_w 219, 3) := by decide +kernel
theorem dX8_hang_53 : decode cX8_hang 53 = .ok (.lreturn, 1) := by decide +kernel
theorem dX8_hang_54 : decode cX8_hang 54 = .ok (.iload_n 3, 1) := by decide +kernel
theorem dX8_hang_55 : decode cX8_hang 55 = .ok (.ifCond .ne 28, 3) := by decide +kernel
theorem dX8_hang_58 : decode cX8_hang 58 = .ok (.aload_n 0, 1) := by decide +kernel
theorem dX8_hang_59 : decode cX8_hang 59 = .ok (.getfield 44, 3) := by decide +kernel
theorem dX8_hang_62 : decode cX8_hang 62 = .ok (.iload_n 1, 1) := by decide +kernel
theorem dX8_hang_63 : decode cX8_hang 63 = .ok (.iload_n 2, 1) := by decide +kernel
theorem dX8_hang_64 : decode cX8_hang 64 = .ok (.invokevirtual 221, 3) := by decide +kernel
theorem dX8_hang_67 : decode cX8_hang 67 = .ok (.ldc2_w 225, 3) := by decide +kernel
theorem dX8_hang_70 : decode cX8_hang 70 = .ok (.iload_n 1, 1) := by decide +kernel
theorem dX8_hang_71 : decode cX8_hang 71 = .ok (.invokestatic 227, 3) := by decide +kernel
theorem dX8_hang_74 : decode cX8_hang 74 = .ok (.invokestatic 230, 3) := by decide +kernel
theorem dX8_hang_77 : decode cX8_hang 77 = .ok (.iload 4, 2) := by decide +kernel
theorem dX8_hang_79 : decode cX8_hang 79 = .ok (.invokestatic 234, 3) := by decide +kernel
theorem dX8_hang_82 : decode cX8_hang 82 = .ok (.lreturn, 1) := by decide +kernel
theorem dX8_hang_83 : decode cX8_hang 83 = .ok (.iload_n 1, 1) := by decide +kernel
theorem dX8_hang_84 : decode cX8_hang 84 = .ok (.invokestatic 227, 3) := by decide +kernel
theorem dX8_hang_87 : decode cX8_hang 87 = .ok (.i2l, 1) := by decide +kernel
theorem dX8_hang_88 : decode cX8_hang 88 = .ok (.iload_n 2, 1) := by decide +kernel
theorem dX8_hang_89 : decode cX8_hang 89 = .ok (.i2l, 1) := by decide +kernel
theorem dX8_hang_90 : decode cX8_hang 90 = .ok (.lmul, 1) := by decide +kernel
theorem dX8_hang_91 : decode cX8_hang 91 = .ok (.ldc2_w 225, 3) := by decide +kernel
theorem dX8_hang_94 : decode cX8_hang 94 = .ok (.iload 4, 2) := by decide +kernel
theorem dX8_hang_96 : decode cX8_hang 96 = .ok (.invokestatic 234, 3) := by decide +kernel
theorem dX8_hang_99 : decode cX8_hang 99 = .ok (.lreturn, 1) := by decide +kernel
theorem dX8_year_0 : decode cX8_year 0 = .ok (.iload_n 1, 1) := by decide +kernel
theorem dX8_year_1 : decode cX8_year 1 = .ok (.iconst 0, 1) := by decide +kernel
theorem dX8_year_2 : decode cX8_year 2 = .ok (.sipush 9999, 3) := by decide +kernel
theorem dX8_year_5 : decode cX8_year 5 = .ok (.invokestatic 80, 3) := by decide +kernel
theorem dX8_year_8 : decode cX8_year 8 = .ok (.ifCond .eq 22, 3) := by decide +kernel
theorem dX8_year_11 : decode cX8_year 11 = .ok (.iload_n 2, 1) := by decide +kernel
theorem dX8_year_12 : decode cX8_year 12 = .ok (.iconst 1, 1) := by decide +kernel
theorem dX8_year_13 : decode cX8_year 13 = .ok (.bipush 99, 2) := by decide +kernel
theorem dX8_year_15 : decode cX8_year 15 = .ok (.invokestatic 80, 3) := by decide +kernel
theorem dX8_year_18 : decode cX8_year 18 = .ok (.ifCond .eq 12, 3) := by decide +kernel
theorem dX8_year_21 : decode cX8_year 21 = .ok (.iload_n 3, 1) := by decide +kernel
theorem dX8_year_22 : decode cX8_year 22 = .ok (.iconst 0, 1) := by decide +kernel
theorem dX8_year_23 : decode cX8_year 23 = .ok (.iconst 2, 1) := by decide +kernel
theorem dX8_year_24 : decode cX8_year 24 = .ok (.invokestatic 80, 3) := by decide +kernel
theorem dX8_year_27 : decode cX8_year 27 = .ok (.ifCond .ne 6, 3) := by decide +kernel
theorem dX8_year_30 : decode cX8_year 30 = .ok (.bipush (-2), 2) := by decide +kernel
theorem dX8_year_32 : decode cX8_year 32 = .ok (.ireturn, 1) := by decide +kernel
theorem dX8_year_33 : decode cX8_year 33 = .ok (.aload_n 0, 1) := by decide +kernel
theorem dX8_year_34 : decode cX8_year 34 = .ok (.iload_n 1, 1) := by decide +kernel
theorem dX8_year_35 : decode cX8_year 35 = .ok (.iload_n 2, 1) := by decide +kernel
theorem dX8_year_36 : decode cX8_year 36 = .ok (.invokevirtual 238, 3) := by decide +kernel
theorem dX8_year_39 : decode cX8_year 39 = .ok (.iload_n 3, 1) := by decide +kernel
theorem dX8_year_40 : decode cX8_year 40 = .ok (.lookupswitch 47 #[(0, 28), (1, 39)], 28) := by decide +kernel
theorem dX8_year_68 : decode cX8_year 68 = .ok (.aload_n 0, 1) := by decide +kernel
theorem dX8_year_69 : decode cX8_year 69 = .ok (.getfield 30, 3) := by decide +kernel
theorem dX8_year_72 : decode cX8_year 72 = .ok (.getfield 120, 3) := by decide +kernel
theorem dX8_year_75 : decode cX8_year 75 = .ok (.invokevirtual 133, 3) := by decide +kernel
theorem dX8_year_78 : decode cX8_year 78 = .ok (.ireturn, 1) := by decide +kernel
theorem dX8_year_79 : decode cX8_year 79 = .ok (.aload_n 0, 1) := by decide +kernel
theorem dX8_year_80 : decode cX8_year 80 = .ok (.getfield 30, 3) := by decide +kernel
theorem dX8_year_83 : decode cX8_year 83 = .ok (.getfield 117, 3) := by decide +kernel
theorem dX8_year_86 : decode cX8_year 86 = .ok (.ireturn, 1) := by decide +kernel
theorem dX8_year_87 : decode cX8_year 87 = .ok (.aload_n 0, 1) := by decide +kernel
theorem dX8_year_88 : decode cX8_year 88 = .ok (.getfield 30, 3) := by decide +kernel
theorem dX8_year_91 : decode cX8_year 91 = .ok (.getfield 120, 3) := by decide +kernel
theorem dX8_year_94 : decode cX8_year 94 = .ok (.invokevirtual 62, 3) := by decide +kernel
theorem dX8_year_97 : decode cX8_year 97 = .ok (.ireturn, 1) := by decide +kernel
theorem dX8_image_0 : decode cX8_image 0 = .ok (.iload_n 1, 1) := by decide +kernel
theorem dX8_image_1 : decode cX8_image 1 = .ok (.iconst 0, 1) := by decide +kernel
theorem dX8_image_2 : decode cX8_image 2 = .ok (.iconst 1, 1) := by decide +kernel
theorem dX8_image_3 : decode cX8_image 3 = .ok (.invokestatic 80, 3) := by decide +kernel
theorem dX8_image_6 : decode cX8_image 6 = .ok (.ifCond .ne 6, 3) := by decide +kernel
theorem dX8_image_9 : decode cX8_image 9 = .ok (.bipush (-2), 2) := by decide +kernel
theorem dX8_image_11 : decode cX8_image 11 = .ok (.ireturn, 1) := by decide +kernel
theorem dX8_image_12 : decode cX8_image 12 = .ok (.aload_n 0, 1) := by decide +kernel
theorem dX8_image_13 : decode cX8_image 13 = .ok (.getfield 16, 3) := by decide +kernel
theorem dX8_image_16 : decode cX8_image 16 = .ok (.iload_n 1, 1) := by decide +kernel
theorem dX8_image_17 : decode cX8_image 17 = .ok (.aaload, 1) := by decide +kernel
theorem dX8_image_18 : decode cX8_image 18 = .ok (.astore_n 2, 1) := by decide +kernel
theorem dX8_image_19 : decode cX8_image 19 = .ok (.aload_n 2, 1) := by decide +kernel
theorem dX8_image_20 : decode cX8_image 20 = .ok (.ifnonnull 18, 3) := by decide +kernel
theorem dX8_image_23 : decode cX8_image 23 = .ok (.new 9, 3) := by decide +kernel
theorem dX8_image_26 : decode cX8_image 26 = .ok (.dup, 1) := by decide +kernel
theorem dX8_image_27 : decode cX8_image 27 = .ok (.invokespecial 11, 3) := by decide +kernel
theorem dX8_image_30 : decode cX8_image 30 = .ok (.astore_n 2, 1) := by decide +kernel
theorem dX8_image_31 : decode cX8_image 31 = .ok (.aload_n 0, 1) := by decide +kernel
theorem dX8_image_32 : decode cX8_image 32 = .ok (.getfield 16, 3) := by decide +kernel
theorem dX8_image_35 : decode cX8_image 35 = .ok (.iload_n 1, 1) := by decide +kernel
theorem dX8_image_36 : decode cX8_image 36 = .ok (.aload_n 2, 1) := by decide +kernel
theorem dX8_image_37 : decode cX8_image 37 = .ok (.aastore, 1) := by decide +kernel
theorem dX8_image_38 : decode cX8_image 38 = .ok (.aload_n 2, 1) := by decide +kernel
theorem dX8_image_39 : decode cX8_image 39 = .ok (.aload_n 0, 1) := by decide +kernel
theorem dX8_image_40 : decode cX8_image 40 = .ok (.getfield 12, 3) := by decide +kernel
theorem dX8_image_43 : decode cX8_image 43 = .ok (.invokevirtual 242, 3) := by decide +kernel
theorem dX8_image_46 : decode cX8_image 46 = .ok (.iconst 1, 1) := by decide +kernel
theorem dX8_image_47 : decode cX8_image 47 = .ok (.ireturn, 1) := by decide +kernel
theorem dX8_restore_0 : decode cX8_restore 0 = .ok (.iload_n 1, 1) := by decide +kernel
theorem dX8_restore_1 : decode cX8_restore 1 = .ok (.iconst 0, 1) := by decide +kernel
theorem dX8_restore_2 : decode cX8_restore 2 = .ok (.iconst 1, 1) := by decide +kernel
theorem dX8_restore_3 : decode cX8_restore 3 = .ok (.invokestatic 80, 3) := by decide +kernel
theorem dX8_restore_6 : decode cX8_restore 6 = .ok (.ifCond .ne 6, 3) := by decide +kernel
theorem dX8_restore_9 : decode cX8_restore 9 = .ok (.bipush (-2), 2) := by decide +kernel
theorem dX8_restore_11 : decode cX8_restore 11 = .ok (.ireturn, 1) := by decide +kernel
theorem dX8_restore_12 : decode cX8_restore 12 = .ok (.aload_n 0, 1) := by decide +kernel
theorem dX8_restore_13 : decode cX8_restore 13 = .ok (.getfield 16, 3) := by decide +kernel
theorem dX8_restore_16 : decode cX8_restore 16 = .ok (.iload_n 1, 1) := by decide +kernel
theorem dX8_restore_17 : decode cX8_restore 17 = .ok (.aaload, 1) := by decide +kernel
theorem dX8_restore_18 : decode cX8_restore 18 = .ok (.astore_n 2, 1) := by decide +kernel
theorem dX8_restore_19 : decode cX8_restore 19 = .ok (.aload_n 2, 1) := by decide +kernel
theorem dX8_restore_20 : decode cX8_restore 20 = .ok (.ifnonnull 6, 3) := by decide +kernel
theorem dX8_restore_23 : decode cX8_restore 23 = .ok (.bipush (-3), 2) := by decide +kernel
theorem dX8_restore_25 : decode cX8_restore 25 = .ok (.ireturn, 1) := by decide +kernel
theorem dX8_restore_26 : decode cX8_restore 26 = .ok (.aload_n 0, 1) := by decide +kernel
theorem dX8_restore_27 : decode cX8_restore 27 = .ok (.getfield 12, 3) := by decide +kernel
theorem dX8_restore_30 : decode cX8_restore 30 = .ok (.aload_n 2, 1) := by decide +kernel
theorem dX8_restore_31 : decode cX8_restore 31 = .ok (.invokevirtual 242, 3) := by decide +kernel
theorem dX8_restore_34 : decode cX8_restore 34 = .ok (.iconst 1, 1) := by decide +kernel
theorem dX8_restore_35 : decode cX8_restore 35 = .ok (.ireturn, 1) := by decide +kernel
theorem dX8_told_0 : decode cX8_told 0 = .ok (.iload_n 1, 1) := by decide +kernel
theorem dX8_told_1 : decode cX8_told 1 = .ok (.iconst 0, 1) := by decide +kernel
theorem dX8_told_2 : decode cX8_told 2 = .ok (.bipush 69, 2) := by decide +kernel
theorem dX8_told_4 : decode cX8_told 4 = .ok (.invokestatic 80, 3) := by decide +kernel
theorem dX8_told_7 : decode cX8_told 7 = .ok (.ifCond .ne 6, 3) := by decide +kernel
theorem dX8_told_10 : decode cX8_told 10 = .ok (.bipush (-2), 2) := by decide +kernel
theorem dX8_told_12 : decode cX8_told 12 = .ok (.ireturn, 1) := by decide +kernel
theorem dX8_told_13 : decode cX8_told 13 = .ok (.iload_n 1, 1) := by decide +kernel
theorem dX8_told_14 : decode cX8_told 14 = .ok (.bipush 10, 2) := by decide +kernel
theorem dX8_told_16 : decode cX8_told 16 = .ok (.irem, 1) := by decide +kernel
theorem dX8_told_17 : decode cX8_told 17 = .ok (.istore_n 2, 1) := by decide +kernel
theorem dX8_told_18 : decode cX8_told 18 = .ok (.iload_n 1, 1) := by decide +kernel
theorem dX8_told_19 : decode cX8_told 19 = .ok (.bipush 10, 2) := by decide +kernel
theorem dX8_told_21 : decode cX8_told 21 = .ok (.idiv, 1) := by decide +kernel
theorem dX8_told_22 : decode cX8_told 22 = .ok (.istore_n 3, 1) := by decide +kernel
theorem dX8_told_23 : decode cX8_told 23 = .ok (.iload_n 3, 1) := by decide +kernel
theorem dX8_told_24 : decode cX8_told 24 = .ok (.ifCond .ne 9, 3) := by decide +kernel
theorem dX8_told_27 : decode cX8_told 27 = .ok (.aload_n 0, 1) := by decide +kernel
theorem dX8_told_28 : decode cX8_told 28 = .ok (.iload_n 2, 1) := by decide +kernel
theorem dX8_told_29 : decode cX8_told 29 = .ok (.invokevirtual 245, 3) := by decide +kernel
theorem dX8_told_32 : decode cX8_told 32 = .ok (.ireturn, 1) := by decide +kernel
theorem dX8_told_33 : decode cX8_told 33 = .ok (.iload_n 3, 1) := by decide +kernel
theorem dX8_told_34 : decode cX8_told 34 = .ok (.iconst 3, 1) := by decide +kernel
theorem dX8_told_35 : decode cX8_told 35 = .ok (.if_icmp .gt 22, 3) := by decide +kernel
theorem dX8_told_38 : decode cX8_told 38 = .ok (.iload_n 2, 1) := by decide +kernel
theorem dX8_told_39 : decode cX8_told 39 = .ok (.invokestatic 77, 3) := by decide +kernel
theorem dX8_told_42 : decode cX8_told 42 = .ok (.ifCond .eq 12, 3) := by decide +kernel
theorem dX8_told_45 : decode cX8_told 45 = .ok (.aload_n 0, 1) := by decide +kernel
theorem dX8_told_46 : decode cX8_told 46 = .ok (.iload_n 3, 1) := by decide +kernel
theorem dX8_told_47 : decode cX8_told 47 = .ok (.iload_n 2, 1) := by decide +kernel
theorem dX8_told_48 : decode cX8_told 48 = .ok (.invokevirtual 248, 3) := by decide +kernel
theorem dX8_told_51 : decode cX8_told 51 = .ok (.goto 5, 3) := by decide +kernel
theorem dX8_told_54 : decode cX8_told 54 = .ok (.bipush (-2), 2) := by decide +kernel
theorem dX8_told_56 : decode cX8_told 56 = .ok (.ireturn, 1) := by decide +kernel
theorem dX8_told_57 : decode cX8_told 57 = .ok (.iload_n 3, 1) := by decide +kernel
theorem dX8_told_58 : decode cX8_told 58 = .ok (.iconst 5, 1) := by decide +kernel
theorem dX8_told_59 : decode cX8_told 59 = .ok (.if_icmp .gt 22, 3) := by decide +kernel
theorem dX8_told_62 : decode cX8_told 62 = .ok (.iload_n 2, 1) := by decide +kernel
theorem dX8_told_63 : decode cX8_told 63 = .ok (.invokestatic 66, 3) := by decide +kernel
theorem dX8_told_66 : decode cX8_told 66 = .ok (.ifCond .eq 12, 3) := by decide +kernel
theorem dX8_told_69 : decode cX8_told 69 = .ok (.aload_n 0, 1) := by decide +kernel
theorem dX8_told_70 : decode cX8_told 70 = .ok (.iload_n 3, 1) := by decide +kernel
theorem dX8_told_71 : decode cX8_told 71 = .ok (.iload_n 2, 1) := by decide +kernel
theorem dX8_told_72 : decode cX8_told 72 = .ok (.invokevirtual 251, 3) := by decide +kernel
theorem dX8_told_75 : decode cX8_told 75 = .ok (.goto 5, 3) := by decide +kernel
theorem dX8_told_78 : decode cX8_told 78 = .ok (.bipush (-2), 2) := by decide +kernel
theorem dX8_told_80 : decode cX8_told 80 = .ok (.ireturn, 1) := by decide +kernel
theorem dX8_told_81 : decode cX8_told 81 = .ok (.iload_n 2, 1) := by decide +kernel
theorem dX8_told_82 : decode cX8_told 82 = .ok (.invokestatic 48, 3) := by decide +kernel
theorem dX8_told_85 : decode cX8_told 85 = .ok (.ifCond .eq 18, 3) := by decide +kernel
theorem dX8_told_88 : decode cX8_told 88 = .ok (.aload_n 0, 1) := by decide +kernel
theorem dX8_told_89 : decode cX8_told 89 = .ok (.getfield 12, 3) := by decide +kernel
theorem dX8_told_92 : decode cX8_told 92 = .ok (.getfield 52, 3) := by decide +kernel
theorem dX8_told_95 : decode cX8_told 95 = .ok (.getfield 212, 3) := by decide +kernel
theorem dX8_told_98 : decode cX8_told 98 = .ok (.iload_n 2, 1) := by decide +kernel
theorem dX8_told_99 : decode cX8_told 99 = .ok (.iaload, 1) := by decide +kernel
theorem dX8_told_100 : decode cX8_told 100 = .ok (.goto 5, 3) := by decide +kernel
theorem dX8_told_103 : decode cX8_told 103 = .ok (.bipush (-2), 2) := by decide +kernel
theorem dX8_told_105 : decode cX8_told 105 = .ok (.ireturn, 1) := by decide +kernel
theorem dX8_isWithin_0 : decode cX8_isWithin 0 = .ok (.iload_n 0, 1) := by decide +kernel
theorem dX8_isWithin_1 : decode cX8_isWithin 1 = .ok (.iload_n 1, 1) := by decide +kernel
theorem dX8_isWithin_2 : decode cX8_isWithin 2 = .ok (.if_icmp .lt 12, 3) := by decide +kernel
theorem dX8_isWithin_5 : decode cX8_isWithin 5 = .ok (.iload_n 0, 1) := by decide +kernel
theorem dX8_isWithin_6 : decode cX8_isWithin 6 = .ok (.iload_n 2, 1) := by decide +kernel
theorem dX8_isWithin_7 : decode cX8_isWithin 7 = .ok (.if_icmp .gt 7, 3) := by decide +kernel
theorem dX8_isWithin_10 : decode cX8_isWithin 10 = .ok (.iconst 1, 1) := by decide +kernel
theorem dX8_isWithin_11 : decode cX8_isWithin 11 = .ok (.goto 4, 3) := by decide +kernel
theorem dX8_isWithin_14 : decode cX8_isWithin 14 = .ok (.iconst 0, 1) := by decide +kernel
theorem dX8_isWithin_15 : decode cX8_isWithin 15 = .ok (.ireturn, 1) := by decide +kernel
theorem dX8_isCorner_0 : decode cX8_isCorner 0 = .ok (.iload_n 0, 1) := by decide +kernel
theorem dX8_isCorner_1 : decode cX8_isCorner 1 = .ok (.iconst 0, 1) := by decide +kernel
theorem dX8_isCorner_2 : decode cX8_isCorner 2 = .ok (.bipush 7, 2) := by decide +kernel
theorem dX8_isCorner_4 : decode cX8_isCorner 4 = .ok (.invokestatic 80, 3) := by decide +kernel
theorem dX8_isCorner_7 : decode cX8_isCorner 7 = .ok (.ireturn, 1) := by decide +kernel
theorem dX8_isThing_0 : decode cX8_isThing 0 = .ok (.iload_n 0, 1) := by decide +kernel
theorem dX8_isThing_1 : decode cX8_isThing 1 = .ok (.iconst 0, 1) := by decide +kernel
theorem dX8_isThing_2 : decode cX8_isThing 2 = .ok (.bipush 7, 2) := by decide +kernel
theorem dX8_isThing_4 : decode cX8_isThing 4 = .ok (.invokestatic 80, 3) := by decide +kernel
theorem dX8_isThing_7 : decode cX8_isThing 7 = .ok (.ireturn, 1) := by decide +kernel
theorem dX8_isPerson_0 : decode cX8_isPerson 0 = .ok (.iload_n 0, 1) := by decide +kernel
theorem dX8_isPerson_1 : decode cX8_isPerson 1 = .ok (.iconst 0, 1) := by decide +kernel
theorem dX8_isPerson_2 : decode cX8_isPerson 2 = .ok (.iconst 5, 1) := by decide +kernel
theorem dX8_isPerson_3 : decode cX8_isPerson 3 = .ok (.invokestatic 80, 3) := by decide +kernel
theorem dX8_isPerson_6 : decode cX8_isPerson 6 = .ok (.ireturn, 1) := by decide +kernel
theorem dX8_isClaim_0 : decode cX8_isClaim 0 = .ok (.iload_n 0, 1) := by decide +kernel
theorem dX8_isClaim_1 : decode cX8_isClaim 1 = .ok (.iconst 0, 1) := by decide +kernel
theorem dX8_isClaim_2 : decode cX8_isClaim 2 = .ok (.bipush 9, 2) := by decide +kernel
theorem dX8_isClaim_4 : decode cX8_isClaim 4 = .ok (.invokestatic 80, 3) := by decide +kernel
theorem dX8_isClaim_7 : decode cX8_isClaim 7 = .ok (.ireturn, 1) := by decide +kernel
theorem dX8_isQuestion_0 : decode cX8_isQuestion 0 = .ok (.iload_n 0, 1) := by decide +kernel
theorem dX8_isQuestion_1 : decode cX8_isQuestion 1 = .ok (.iconst 0, 1) := by decide +kernel
theorem dX8_isQuestion_2 : decode cX8_isQuestion 2 = .ok (.iconst 4, 1) := by decide +kernel
theorem dX8_isQuestion_3 : decode cX8_isQuestion 3 = .ok (.invokestatic 80, 3) := by decide +kernel
theorem dX8_isQuestion_6 : decode cX8_isQuestion 6 = .ok (.ifCond .eq 34, 3) := by decide +kernel
theorem dX8_isQuestion_9 : decode cX8_isQuestion 9 = .ok (.iload_n 1, 1) := by decide +kernel
theorem dX8_isQuestion_10 : decode cX8_isQuestion 10 = .ok (.iconst 0, 1) := by decide +kernel
theorem dX8_isQuestion_11 : decode cX8_isQuestion 11 = .ok (.iconst 2, 1) := by decide +kernel
theorem dX8_isQuestion_12 : decode cX8_isQuestion 12 = .ok (.invokestatic 80, 3) := by decide +kernel
theorem dX8_isQuestion_15 : decode cX8_isQuestion 15 = .ok (.ifCond .eq 25, 3) := by decide +kernel
theorem dX8_isQuestion_18 : decode cX8_isQuestion 18 = .ok (.iload_n 2, 1) := by decide +kernel
theorem dX8_isQuestion_19 : decode cX8_isQuestion 19 = .ok (.iconst 0, 1) := by decide +kernel
theorem dX8_isQuestion_20 : decode cX8_isQuestion 20 = .ok (.iload_n 1, 1) := by decide +kernel
theorem dX8_isQuestion_21 : decode cX8_isQuestion 21 = .ok (.iconst 2, 1) := by decide +kernel
theorem dX8_isQuestion_22 : decode cX8_isQuestion 22 = .ok (.if_icmp .ne 7, 3) := by decide +kernel
theorem dX8_isQuestion_25 : decode cX8_isQuestion 25 = .ok (.iconst 5, 1) := by decide +kernel
theorem dX8_isQuestion_26 : decode cX8_isQuestion 26 = .ok (.goto 4, 3) := by decide +kernel
theorem dX8_isQuestion_29 : decode cX8_isQuestion 29 = .ok (.iconst 4, 1) := by decide +kernel
theorem dX8_isQuestion_30 : decode cX8_isQuestion 30 = .ok (.invokestatic 80, 3) := by decide +kernel
theorem dX8_isQuestion_33 : decode cX8_isQuestion 33 = .ok (.ifCond .eq 7, 3) := by decide +kernel
theorem dX8_isQuestion_36 : decode cX8_isQuestion 36 = .ok (.iconst 1, 1) := by decide +kernel
theorem dX8_isQuestion_37 : decode cX8_isQuestion 37 = .ok (.goto 4, 3) := by decide +kernel
theorem dX8_isQuestion_40 : decode cX8_isQuestion 40 = .ok (.iconst 0, 1) := by decide +kernel
theorem dX8_isQuestion_41 : decode cX8_isQuestion 41 = .ok (.ireturn, 1) := by decide +kernel
theorem dX8_holds_0 : decode cX8_holds 0 = .ok (.iload_n 0, 1) := by decide +kernel
theorem dX8_holds_1 : decode cX8_holds 1 = .ok (.iload_n 1, 1) := by decide +kernel
theorem dX8_holds_2 : decode cX8_holds 2 = .ok (.ishr, 1) := by decide +kernel
theorem dX8_holds_3 : decode cX8_holds 3 = .ok (.iconst 1, 1) := by decide +kernel
theorem dX8_holds_4 : decode cX8_holds 4 = .ok (.iand, 1) := by decide +kernel
theorem dX8_holds_5 : decode cX8_holds 5 = .ok (.ifCond .eq 7, 3) := by decide +kernel
theorem dX8_holds_8 : decode cX8_holds 8 = .ok (.iconst 1, 1) := by decide +kernel
theorem dX8_holds_9 : decode cX8_holds 9 = .ok (.goto 4, 3) := by decide +kernel
theorem dX8_holds_12 : decode cX8_holds 12 = .ok (.iconst 0, 1) := by decide +kernel
theorem dX8_holds_13 : decode cX8_holds 13 = .ok (.ireturn, 1) := by decide +kernel
theorem dX8_playSession_0 : decode cX8_playSession 0 = .ok (.aload_n 0, 1) := by decide +kernel
theorem dX8_playSession_1 : decode cX8_playSession 1 = .ok (.getfield 30, 3) := by decide +kernel
theorem dX8_playSession_4 : decode cX8_playSession 4 = .ok (.aload_n 0, 1) := by decide +kernel
theorem dX8_playSession_5 : decode cX8_playSession 5 = .ok (.getfield 12, 3) := by decide +kernel
theorem dX8_playSession_8 : decode cX8_playSession 8 = .ok (.getfield 52, 3) := by decide +kernel
theorem dX8_playSession_11 : decode cX8_playSession 11 = .ok (.invokevirtual 254, 3) := by decide +kernel
theorem dX8_playSession_14 : decode cX8_playSession 14 = .ok (.aload_n 0, 1) := by decide +kernel
theorem dX8_playSession_15 : decode cX8_playSession 15 = .ok (.getfield 23, 3) := by decide +kernel
theorem dX8_playSession_18 : decode cX8_playSession 18 = .ok (.invokevirtual 105, 3) := by decide +kernel
theorem dX8_playSession_21 : decode cX8_playSession 21 = .ok (.bipush (-6), 2) := by decide +kernel
theorem dX8_playSession_23 : decode cX8_playSession 23 = .ok (.if_icmp .eq 6, 3) := by decide +kernel
theorem dX8_playSession_26 : decode cX8_playSession 26 = .ok (.bipush (-5), 2) := by decide +kernel
theorem dX8_playSession_28 : decode cX8_playSession 28 = .ok (.ireturn, 1) := by decide +kernel
theorem dX8_playSession_29 : decode cX8_playSession 29 = .ok (.aload_n 0, 1) := by decide +kernel
theorem dX8_playSession_30 : decode cX8_playSession 30 = .ok (.getfield 23, 3) := by decide +kernel
theorem dX8_playSession_33 : decode cX8_playSession 33 = .ok (.invokevirtual 257, 3) := by decide +kernel
theorem dX8_playSession_36 : decode cX8_playSession 36 = .ok (.iconst 0, 1) := by decide +kernel
theorem dX8_playSession_37 : decode cX8_playSession 37 = .ok (.istore_n 1, 1) := by decide +kernel
theorem dX8_playSession_38 : decode cX8_playSession 38 = .ok (.iload_n 1, 1) := by decide +kernel
theorem dX8_playSession_39 : decode cX8_playSession 39 = .ok (.aload_n 0, 1) := by decide +kernel
theorem dX8_playSession_40 : decode cX8_playSession 40 = .ok (.getfield 23, 3) := by decide +kernel
theorem dX8_playSession_43 : decode cX8_playSession 43 = .ok (.getfield 101, 3) := by decide +kernel
theorem dX8_playSession_46 : decode cX8_playSession 46 = .ok (.if_icmp .ge 53, 3) := by decide +kernel
theorem dX8_playSession_49 : decode cX8_playSession 49 = .ok (.aload_n 0, 1) := by decide +kernel
theorem dX8_playSession_50 : decode cX8_playSession 50 = .ok (.getfield 23, 3) := by decide +kernel
theorem dX8_playSession_53 : decode cX8_playSession 53 = .ok (.invokevirtual 260, 3) := by decide +kernel
theorem dX8_playSession_56 : decode cX8_playSession 56 = .ok (.ifCond .eq 43, 3) := by decide +kernel
theorem dX8_playSession_59 : decode cX8_playSession 59 = .ok (.aload_n 0, 1) := by decide +kernel
theorem dX8_playSession_60 : decode cX8_playSession 60 = .ok (.getfield 30, 3) := by decide +kernel
theorem dX8_playSession_63 : decode cX8_playSession 63 = .ok (.aload_n 0, 1) := by decide +kernel
theorem dX8_playSession_64 : decode cX8_playSession 64 = .ok (.getfield 23, 3) := by decide +kernel
theorem dX8_playSession_67 : decode cX8_playSession 67 = .ok (.getfield 264, 3) := by decide +kernel
theorem dX8_playSession_70 : decode cX8_playSession 70 = .ok (.aload_n 0, 1) := by decide +kernel
theorem dX8_playSession_71 : decode cX8_playSession 71 = .ok (.getfield 23, 3) := by decide +kernel
theorem dX8_playSession_74 : decode cX8_playSession 74 = .ok (.getfield 267, 3) := by decide +kernel
theorem dX8_playSession_77 : decode cX8_playSession 77 = .ok (.aload_n 0, 1) := by decide +kernel
theorem dX8_playSession_78 : decode cX8_playSession 78 = .ok (.getfield 23, 3) := by decide +kernel
theorem dX8_playSession_81 : decode cX8_playSession 81 = .ok (.getfield 270, 3) := by decide +kernel
theorem dX8_playSession_84 : decode cX8_playSession 84 = .ok (.invokevirtual 273, 3) := by decide +kernel
theorem dX8_playSession_87 : decode cX8_playSession 87 = .ok (.ifCond .ne 6, 3) := by decide +kernel
theorem dX8_playSession_90 : decode cX8_playSession 90 = .ok (.bipush (-3), 2) := by decide +kernel
theorem dX8_playSession_92 : decode cX8_playSession 92 = .ok (.ireturn, 1) := by decide +kernel
theorem dX8_playSession_93 : decode cX8_playSession 93 = .ok (.iinc 1 1, 3) := by decide +kernel
theorem dX8_playSession_96 : decode cX8_playSession 96 = .ok (.goto (-58), 3) := by decide +kernel
theorem dX8_playSession_99 : decode cX8_playSession 99 = .ok (.iconst 0, 1) := by decide +kernel
theorem dX8_playSession_100 : decode cX8_playSession 100 = .ok (.ireturn, 1) := by decide +kernel
theorem dX8_tellOfAll_0 : decode cX8_tellOfAll 0 = .ok (.iload_n 1, 1) := by decide +kernel
theorem dX8_tellOfAll_1 : decode cX8_tellOfAll 1 = .ok (.tableswitch 102 0 5 #[39, 47, 58, 69, 80, 91], 39) := by decide +kernel
theorem dX8_tellOfAll_40 : decode cX8_tellOfAll 40 = .ok (.aload_n 0, 1) := by decide +kernel
theorem dX8_tellOfAll_41 : decode cX8_tellOfAll 41 = .ok (.getfield 23, 3) := by decide +kernel
theorem dX8_tellOfAll_44 : decode cX8_tellOfAll 44 = .ok (.getfield 101, 3) := by decide +kernel
theorem dX8_tellOfAll_47 : decode cX8_tellOfAll 47 = .ok (.ireturn, 1) := by decide +kernel
theorem dX8_tellOfAll_48 : decode cX8_tellOfAll 48 = .ok (.aload_n 0, 1) := by decide +kernel
theorem dX8_tellOfAll_49 : decode cX8_tellOfAll 49 = .ok (.getfield 12, 3) := by decide +kernel
theorem dX8_tellOfAll_52 : decode cX8_tellOfAll 52 = .ok (.getfield 52, 3) := by decide +kernel
theorem dX8_tellOfAll_55 : decode cX8_tellOfAll 55 = .ok (.invokevirtual 62, 3) := by decide +kernel
theorem dX8_tellOfAll_58 : decode cX8_tellOfAll 58 = .ok (.ireturn, 1) := by decide +kernel
theorem dX8_tellOfAll_59 : decode cX8_tellOfAll 59 = .ok (.aload_n 0, 1) := by decide +kernel
theorem dX8_tellOfAll_60 : decode cX8_tellOfAll 60 = .ok (.getfield 12, 3) := by decide +kernel
theorem dX8_tellOfAll_63 : decode cX8_tellOfAll 63 = .ok (.getfield 52, 3) := by decide +kernel
theorem dX8_tellOfAll_66 : decode cX8_tellOfAll 66 = .ok (.invokevirtual 91, 3) := by decide +kernel
theorem dX8_tellOfAll_69 : decode cX8_tellOfAll 69 = .ok (.ireturn, 1) := by decide +kernel
theorem dX8_tellOfAll_70 : decode cX8_tellOfAll 70 = .ok (.aload_n 0, 1) := by decide +kernel
theorem dX8_tellOfAll_71 : decode cX8_tellOfAll 71 = .ok (.getfield 12, 3) := by decide +kernel
theorem dX8_tellOfAll_74 : decode cX8_tellOfAll 74 = .ok (.getfield 52, 3) := by decide +kernel
theorem dX8_tellOfAll_77 : decode cX8_tellOfAll 77 = .ok (.getfield 139, 3) := by decide +kernel
theorem dX8_tellOfAll_80 : decode cX8_tellOfAll 80 = .ok (.ireturn, 1) := by decide +kernel
theorem dX8_tellOfAll_81 : decode cX8_tellOfAll 81 = .ok (.aload_n 0, 1) := by decide +kernel
theorem dX8_tellOfAll_82 : decode cX8_tellOfAll 82 = .ok (.getfield 12, 3) := by decide +kernel
theorem dX8_tellOfAll_85 : decode cX8_tellOfAll 85 = .ok (.getfield 165, 3) := by decide +kernel
theorem dX8_tellOfAll_88 : decode cX8_tellOfAll 88 = .ok (.getfield 173, 3) := by decide +kernel
theorem dX8_tellOfAll_91 : decode cX8_tellOfAll 91 = .ok (.ireturn, 1) := by decide +kernel
theorem dX8_tellOfAll_92 : decode cX8_tellOfAll 92 = .ok (.aload_n 0, 1) := by decide +kernel
theorem dX8_tellOfAll_93 : decode cX8_tellOfAll 93 = .ok (.getfield 12, 3) := by decide +kernel
theorem dX8_tellOfAll_96 : decode cX8_tellOfAll 96 = .ok (.getfield 192, 3) := by decide +kernel
theorem dX8_tellOfAll_99 : decode cX8_tellOfAll 99 = .ok (.getfield 199, 3) := by decide +kernel
theorem dX8_tellOfAll_102 : decode cX8_tellOfAll 102 = .ok (.ireturn, 1) := by decide +kernel
theorem dX8_tellOfAll_103 : decode cX8_tellOfAll 103 = .ok (.bipush (-2), 2) := by decide +kernel
theorem dX8_tellOfAll_105 : decode cX8_tellOfAll 105 = .ok (.ireturn, 1) := by decide +kernel
theorem dX8_tellOfPerson_0 : decode cX8_tellOfPerson 0 = .ok (.iload_n 1, 1) := by decide +kernel
theorem dX8_tellOfPerson_1 : decode cX8_tellOfPerson 1 = .ok (.lookupswitch 52 #[(1, 27), (2, 39)], 27) := by decide +kernel
theorem dX8_tellOfPerson_28 : decode cX8_tellOfPerson 28 = .ok (.aload_n 0, 1) := by decide +kernel
theorem dX8_tellOfPerson_29 : decode cX8_tellOfPerson 29 = .ok (.getfield 12, 3) := by decide +kernel
theorem dX8_tellOfPerson_32 : decode cX8_tellOfPerson 32 = .ok (.getfield 52, 3) := by decide +kernel
theorem dX8_tellOfPerson_35 : decode cX8_tellOfPerson 35 = .ok (.iload_n 2, 1) := by decide +kernel
theorem dX8_tellOfPerson_36 : decode cX8_tellOfPerson 36 = .ok (.invokevirtual 84, 3) := by decide +kernel
theorem dX8_tellOfPerson_39 : decode cX8_tellOfPerson 39 = .ok (.ireturn, 1) := by decide +kernel
theorem dX8_tellOfPerson_40 : decode cX8_tellOfPerson 40 = .ok (.aload_n 0, 1) := by decide +kernel
theorem dX8_tellOfPerson_41 : decode cX8_tellOfPerson 41 = .ok (.getfield 12, 3) := by decide +kernel
theorem dX8_tellOfPerson_44 : decode cX8_tellOfPerson 44 = .ok (.getfield 52, 3) := by decide +kernel
theorem dX8_tellOfPerson_47 : decode cX8_tellOfPerson 47 = .ok (.getfield 121, 3) := by decide +kernel
theorem dX8_tellOfPerson_50 : decode cX8_tellOfPerson 50 = .ok (.iload_n 2, 1) := by decide +kernel
theorem dX8_tellOfPerson_51 : decode cX8_tellOfPerson 51 = .ok (.iaload, 1) := by decide +kernel
theorem dX8_tellOfPerson_52 : decode cX8_tellOfPerson 52 = .ok (.ireturn, 1) := by decide +kernel
theorem dX8_tellOfPerson_53 : decode cX8_tellOfPerson 53 = .ok (.aload_n 0, 1) := by decide +kernel
theorem dX8_tellOfPerson_54 : decode cX8_tellOfPerson 54 = .ok (.getfield 12, 3) := by decide +kernel
theorem dX8_tellOfPerson_57 : decode cX8_tellOfPerson 57 = .ok (.getfield 52, 3) := by decide +kernel
theorem dX8_tellOfPerson_60 : decode cX8_tellOfPerson 60 = .ok (.iload_n 2, 1) := by decide +kernel
theorem dX8_tellOfPerson_61 : decode cX8_tellOfPerson 61 = .ok (.invokevirtual 124, 3) := by decide +kernel
theorem dX8_tellOfPerson_64 : decode cX8_tellOfPerson 64 = .ok (.ireturn, 1) := by decide +kernel
theorem dX8_tellOfThing_0 : decode cX8_tellOfThing 0 = .ok (.iload_n 1, 1) := by decide +kernel
theorem dX8_tellOfThing_1 : decode cX8_tellOfThing 1 = .ok (.iconst 4, 1) := by decide +kernel
theorem dX8_tellOfThing_2 : decode cX8_tellOfThing 2 = .ok (.if_icmp .ne 17, 3) := by decide +kernel
theorem dX8_tellOfThing_5 : decode cX8_tellOfThing 5 = .ok (.aload_n 0, 1) := by decide +kernel
theorem dX8_tellOfThing_6 : decode cX8_tellOfThing 6 = .ok (.getfield 12, 3) := by decide +kernel
theorem dX8_tellOfThing_9 : decode cX8_tellOfThing 9 = .ok (.getfield 52, 3) := by decide +kernel
theorem dX8_tellOfThing_12 : decode cX8_tellOfThing 12 = .ok (.iload_n 2, 1) := by decide +kernel
theorem dX8_tellOfThing_13 : decode cX8_tellOfThing 13 = .ok (.invokevirtual 69, 3) := by decide +kernel
theorem dX8_tellOfThing_16 : decode cX8_tellOfThing 16 = .ok (.goto 14, 3) := by decide +kernel
theorem dX8_tellOfThing_19 : decode cX8_tellOfThing 19 = .ok (.aload_n 0, 1) := by decide +kernel
theorem dX8_tellOfThing_20 : decode cX8_tellOfThing 20 = .ok (.getfield 12, 3) := by decide +kernel
theorem dX8_tellOfThing_23 : decode cX8_tellOfThing 23 = .ok (.getfield 52, 3) := by decide +kernel
theorem dX8_tellOfThing_26 : decode cX8_tellOfThing 26 = .ok (.iload_n 2, 1) := by decide +kernel
theorem dX8_tellOfThing_27 : decode cX8_tellOfThing 27 = .ok (.invokevirtual 130, 3) := by decide +kernel
theorem dX8_tellOfThing_30 : decode cX8_tellOfThing 30 = .ok (.ireturn, 1) := by decide +kernel
theorem dX8_liveYear_0 : decode cX8_liveYear 0 = .ok (.aload_n 0, 1) := by decide +kernel
theorem dX8_liveYear_1 : decode cX8_liveYear 1 = .ok (.getfield 30, 3) := by decide +kernel
theorem dX8_liveYear_4 : decode cX8_liveYear 4 = .ok (.aload_n 0, 1) := by decide +kernel
theorem dX8_liveYear_5 : decode cX8_liveYear 5 = .ok (.getfield 12, 3) := by decide +kernel
theorem dX8_liveYear_8 : decode cX8_liveYear 8 = .ok (.getfield 52, 3) := by decide +kernel
theorem dX8_liveYear_11 : decode cX8_liveYear 11 = .ok (.invokevirtual 254, 3) := by decide +kernel
theorem dX8_liveYear_14 : decode cX8_liveYear 14 = .ok (.iload_n 1, 1) := by decide +kernel
theorem dX8_liveYear_15 : decode cX8_liveYear 15 = .ok (.istore_n 3, 1) := by decide +kernel
theorem dX8_liveYear_16 : decode cX8_liveYear 16 = .ok (.iconst 0, 1) := by decide +kernel
theorem dX8_liveYear_17 : decode cX8_liveYear 17 = .ok (.istore 4, 2) := by decide +kernel
theorem dX8_liveYear_19 : decode cX8_liveYear 19 = .ok (.iload 4, 2) := by decide +kernel
theorem dX8_liveYear_21 : decode cX8_liveYear 21 = .ok (.iload_n 2, 1) := by decide +kernel
theorem dX8_liveYear_22 : decode cX8_liveYear 22 = .ok (.if_icmp .ge 33, 3) := by decide +kernel
theorem dX8_liveYear_25 : decode cX8_liveYear 25 = .ok (.bipush 75, 2) := by decide +kernel
theorem dX8_liveYear_27 : decode cX8_liveYear 27 = .ok (.iload_n 3, 1) := by decide +kernel
theorem dX8_liveYear_28 : decode cX8_liveYear 28 = .ok (.imul, 1) := by decide +kernel
theorem dX8_liveYear_29 : decode cX8_liveYear 29 = .ok (.bipush 74, 2) := by decide +kernel
theorem dX8_liveYear_31 : decode cX8_liveYear 31 = .ok (.iadd, 1) := by decide +kernel
theorem dX8_liveYear_32 : decode cX8_liveYear 32 = .ok (.ldc_w 276, 3) := by decide +kernel
theorem dX8_liveYear_35 : decode cX8_liveYear 35 = .ok (.irem, 1) := by decide +kernel
theorem dX8_liveYear_36 : decode cX8_liveYear 36 = .ok (.istore_n 3, 1) := by decide +kernel
theorem dX8_liveYear_37 : decode cX8_liveYear 37 = .ok (.aload_n 0, 1) := by decide +kernel
theorem dX8_liveYear_38 : decode cX8_liveYear 38 = .ok (.iload_n 3, 1) := by decide +kernel
theorem dX8_liveYear_39 : decode cX8_liveYear 39 = .ok (.bipush 8, 2) := by decide +kernel
theorem dX8_liveYear_41 : decode cX8_liveYear 41 = .ok (.irem, 1) := by decide +kernel
theorem dX8_liveYear_42 : decode cX8_liveYear 42 = .ok (.iload_n 3, 1) := by decide +kernel
theorem dX8_liveYear_43 : decode cX8_liveYear 43 = .ok (.bipush 8, 2) := by decide +kernel
theorem dX8_liveYear_45 : decode cX8_liveYear 45 = .ok (.idiv, 1) := by decide +kernel
theorem dX8_liveYear_46 : decode cX8_liveYear 46 = .ok (.invokevirtual 277, 3) := by decide +kernel
theorem dX8_liveYear_49 : decode cX8_liveYear 49 = .ok (.iinc 4 1, 3) := by decide +kernel
theorem dX8_liveYear_52 : decode cX8_liveYear 52 = .ok (.goto (-33), 3) := by decide +kernel
theorem dX8_liveYear_55 : decode cX8_liveYear 55 = .ok (.return_, 1) := by decide +kernel
theorem dX8_attemptDrawn_0 : decode cX8_attemptDrawn 0 = .ok (.iload_n 2, 1) := by decide +kernel
theorem dX8_attemptDrawn_1 : decode cX8_attemptDrawn 1 = .ok (.bipush 6, 2) := by decide +kernel
theorem dX8_attemptDrawn_3 : decode cX8_attemptDrawn 3 = .ok (.irem, 1) := by decide +kernel
theorem dX8_attemptDrawn_4 : decode cX8_attemptDrawn 4 = .ok (.istore_n 3, 1) := by decide +kernel
theorem dX8_attemptDrawn_5 : decode cX8_attemptDrawn 5 = .ok (.iload_n 1, 1) := by decide +kernel
theorem dX8_attemptDrawn_6 : decode cX8_attemptDrawn 6 = .ok (.tableswitch 196 0 6 #[42, 65, 88, 111, 125, 146, 167], 42) := by decide +kernel
theorem dX8_attemptDrawn_48 : decode cX8_attemptDrawn 48 = .ok (.aload_n 0, 1) := by decide +kernel
theorem dX8_attemptDrawn_49 : decode cX8_attemptDrawn 49 = .ok (.getfield 30, 3) := by decide +kernel
theorem dX8_attemptDrawn_52 : decode cX8_attemptDrawn 52 = .ok (.iconst 0, 1) := by decide +kernel
theorem dX8_attemptDrawn_53 : decode cX8_attemptDrawn 53 = .ok (.iload_n 2, 1) := by decide +kernel
theorem dX8_attemptDrawn_54 : decode cX8_attemptDrawn 54 = .ok (.bipush 8, 2) := by decide +kernel
theorem dX8_attemptDrawn_56 : decode cX8_attemptDrawn 56 = .ok (.irem, 1) := by decide +kernel
theorem dX8_attemptDrawn_57 : decode cX8_attemptDrawn 57 = .ok (.iload_n 2, 1) := by decide +kernel
theorem dX8_attemptDrawn_58 : decode cX8_attemptDrawn 58 = .ok (.bipush 8, 2) := by decide +kernel
theorem dX8_attemptDrawn_60 : decode cX8_attemptDrawn 60 = .ok (.idiv, 1) := by decide +kernel
theorem dX8_attemptDrawn_61 : decode cX8_attemptDrawn 61 = .ok (.bipush 8, 2) := by decide +kernel
theorem dX8_attemptDrawn_63 : decode cX8_attemptDrawn 63 = .ok (.irem, 1) := by decide +kernel
theorem dX8_attemptDrawn_64 : decode cX8_attemptDrawn 64 = .ok (.invokevirtual 273, 3) := by decide +kernel
theorem dX8_attemptDrawn_67 : decode cX8_attemptDrawn 67 = .ok (.pop, 1) := by decide +kernel
theorem dX8_attemptDrawn_68 : decode cX8_attemptDrawn 68 = .ok (.goto 155, 3) := by decide +kernel
theorem dX8_attemptDrawn_71 : decode cX8_attemptDrawn 71 = .ok (.aload_n 0, 1) := by decide +kernel
theorem dX8_attemptDrawn_72 : decode cX8_attemptDrawn 72 = .ok (.getfield 30, 3) := by decide +kernel
theorem dX8_attemptDrawn_75 : decode cX8_attemptDrawn 75 = .ok (.iconst 1, 1) := by decide +kernel
theorem dX8_attemptDrawn_76 : decode cX8_attemptDrawn 76 = .ok (.iload_n 2, 1) := by decide +kernel
theorem dX8_attemptDrawn_77 : decode cX8_attemptDrawn 77 = .ok (.bipush 8, 2) := by decide +kernel
theorem dX8_attemptDrawn_79 : decode cX8_attemptDrawn 79 = .ok (.irem, 1) := by decide +kernel
theorem dX8_attemptDrawn_80 : decode cX8_attemptDrawn 80 = .ok (.iload_n 2, 1) := by decide +kernel
theorem dX8_attemptDrawn_81 : decode cX8_attemptDrawn 81 = .ok (.bipush 8, 2) := by decide +kernel
theorem dX8_attemptDrawn_83 : decode cX8_attemptDrawn 83 = .ok (.idiv, 1) := by decide +kernel
theorem dX8_attemptDrawn_84 : decode cX8_attemptDrawn 84 = .ok (.bipush 8, 2) := by decide +kernel
theorem dX8_attemptDrawn_86 : decode cX8_attemptDrawn 86 = .ok (.irem, 1) := by decide +kernel
theorem dX8_attemptDrawn_87 : decode cX8_attemptDrawn 87 = .ok (.invokevirtual 273, 3) := by decide +kernel
theorem dX8_attemptDrawn_90 : decode cX8_attemptDrawn 90 = .ok (.pop, 1) := by decide +kernel
theorem dX8_attemptDrawn_91 : decode cX8_attemptDrawn 91 = .ok (.goto 132, 3) := by decide +kernel
theorem dX8_attemptDrawn_94 : decode cX8_attemptDrawn 94 = .ok (.aload_n 0, 1) := by decide +kernel
theorem dX8_attemptDrawn_95 : decode cX8_attemptDrawn 95 = .ok (.getfield 30, 3) := by decide +kernel
theorem dX8_attemptDrawn_98 : decode cX8_attemptDrawn 98 = .ok (.iconst 2, 1) := by decide +kernel
theorem dX8_attemptDrawn_99 : decode cX8_attemptDrawn 99 = .ok (.iload_n 2, 1) := by decide +kernel
theorem dX8_attemptDrawn_100 : decode cX8_attemptDrawn 100 = .ok (.bipush 8, 2) := by decide +kernel
theorem dX8_attemptDrawn_102 : decode cX8_attemptDrawn 102 = .ok (.irem, 1) := by decide +kernel
theorem dX8_attemptDrawn_103 : decode cX8_attemptDrawn 103 = .ok (.iload_n 2, 1) := by decide +kernel
theorem dX8_attemptDrawn_104 : decode cX8_attemptDrawn 104 = .ok (.bipush 8, 2) := by decide +kernel
theorem dX8_attemptDrawn_106 : decode cX8_attemptDrawn 106 = .ok (.idiv, 1) := by decide +kernel
theorem dX8_attemptDrawn_107 : decode cX8_attemptDrawn 107 = .ok (.bipush 8, 2) := by decide +kernel
theorem dX8_attemptDrawn_109 : decode cX8_attemptDrawn 109 = .ok (.irem, 1) := by decide +kernel
theorem dX8_attemptDrawn_110 : decode cX8_attemptDrawn 110 = .ok (.invokevirtual 273, 3) := by decide +kernel
theorem dX8_attemptDrawn_113 : decode cX8_attemptDrawn 113 = .ok (.pop, 1) := by decide +kernel
theorem dX8_attemptDrawn_114 : decode cX8_attemptDrawn 114 = .ok (.goto 109, 3) := by decide +kernel
theorem dX8_attemptDrawn_117 : decode cX8_attemptDrawn 117 = .ok (.aload_n 0, 1) := by decide +kernel
theorem dX8_attemptDrawn_118 : decode cX8_attemptDrawn 118 = .ok (.getfield 30, 3) := by decide +kernel
theorem dX8_attemptDrawn_121 : decode cX8_attemptDrawn 121 = .ok (.iconst 5, 1) := by decide +kernel
theorem dX8_attemptDrawn_122 : decode cX8_attemptDrawn 122 = .ok (.iload_n 3, 1) := by decide +kernel
theorem dX8_attemptDrawn_123 : decode cX8_attemptDrawn 123 = .ok (.iconst 0, 1) := by decide +kernel
theorem dX8_attemptDrawn_124 : decode cX8_attemptDrawn 124 = .ok (.invokevirtual 273, 3) := by decide +kernel
theorem dX8_attemptDrawn_127 : decode cX8_attemptDrawn 127 = .ok (.pop, 1) := by decide +kernel
theorem dX8_attemptDrawn_128 : decode cX8_attemptDrawn 128 = .ok (.goto 95, 3) := by decide +kernel
theorem dX8_attemptDrawn_131 : decode cX8_attemptDrawn 131 = .ok (.aload_n 0, 1) := by decide +kernel
theorem dX8_attemptDrawn_132 : decode cX8_attemptDrawn 132 = .ok (.getfield 30, 3) := by decide +kernel
theorem dX8_attemptDrawn_135 : decode cX8_attemptDrawn 135 = .ok (.bipush 7, 2) := by decide +kernel
theorem dX8_attemptDrawn_137 : decode cX8_attemptDrawn 137 = .ok (.iload_n 3, 1) := by decide +kernel
theorem dX8_attemptDrawn_138 : decode cX8_attemptDrawn 138 = .ok (.iload_n 2, 1) := by decide +kernel
theorem dX8_attemptDrawn_139 : decode cX8_attemptDrawn 139 = .ok (.bipush 6, 2) := by decide +kernel
theorem dX8_attemptDrawn_141 : decode cX8_attemptDrawn 141 = .ok (.idiv, 1) := by decide +kernel
theorem dX8_attemptDrawn_142 : decode cX8_attemptDrawn 142 = .ok (.bipush 8, 2) := by decide +kernel
theorem dX8_attemptDrawn_144 : decode cX8_attemptDrawn 144 = .ok (.irem, 1) := by decide +kernel
theorem dX8_attemptDrawn_145 : decode cX8_attemptDrawn 145 = .ok (.invokevirtual 273, 3) := by decide +kernel
theorem dX8_attemptDrawn_148 : decode cX8_attemptDrawn 148 = .ok (.pop, 1) := by decide +kernel
theorem dX8_attemptDrawn_149 : decode cX8_attemptDrawn 149 = .ok (.goto 74, 3) := by decide +kernel
theorem dX8_attemptDrawn_152 : decode cX8_attemptDrawn 152 = .ok (.aload_n 0, 1) := by decide +kernel
theorem dX8_attemptDrawn_153 : decode cX8_attemptDrawn 153 = .ok (.getfield 30, 3) := by decide +kernel
theorem dX8_attemptDrawn_156 : decode cX8_attemptDrawn 156 = .ok (.bipush 8, 2) := by decide +kernel
theorem dX8_attemptDrawn_158 : decode cX8_attemptDrawn 158 = .ok (.iload_n 3, 1) := by decide +kernel
theorem dX8_attemptDrawn_159 : decode cX8_attemptDrawn 159 = .ok (.iload_n 2, 1) := by decide +kernel
theorem dX8_attemptDrawn_160 : decode cX8_attemptDrawn 160 = .ok (.bipush 6, 2) := by decide +kernel
theorem dX8_attemptDrawn_162 : decode cX8_attemptDrawn 162 = .ok (.idiv, 1) := by decide +kernel
theorem dX8_attemptDrawn_163 : decode cX8_attemptDrawn 163 = .ok (.bipush 8, 2) := by decide +kernel
theorem dX8_attemptDrawn_165 : decode cX8_attemptDrawn 165 = .ok (.irem, 1) := by decide +kernel
theorem dX8_attemptDrawn_166 : decode cX8_attemptDrawn 166 = .ok (.invokevirtual 273, 3) := by decide +kernel
theorem dX8_attemptDrawn_169 : decode cX8_attemptDrawn 169 = .ok (.pop, 1) := by decide +kernel
theorem dX8_attemptDrawn_170 : decode cX8_attemptDrawn 170 = .ok (.goto 53, 3) := by decide +kernel
theorem dX8_attemptDrawn_173 : decode cX8_attemptDrawn 173 = .ok (.aload_n 0, 1) := by decide +kernel
theorem dX8_attemptDrawn_174 : decode cX8_attemptDrawn 174 = .ok (.getfield 30, 3) := by decide +kernel
theorem dX8_attemptDrawn_177 : decode cX8_attemptDrawn 177 = .ok (.iload_n 2, 1) := by decide +kernel
theorem dX8_attemptDrawn_178 : decode cX8_attemptDrawn 178 = .ok (.bipush 6, 2) := by decide +kernel
theorem dX8_attemptDrawn_180 : decode cX8_attemptDrawn 180 = .ok (.idiv, 1) := by decide +kernel
theorem dX8_attemptDrawn_181 : decode cX8_attemptDrawn 181 = .ok (.iconst 4, 1) := by decide +kernel
theorem dX8_attemptDrawn_182 : decode cX8_attemptDrawn 182 = .ok (.irem, 1) := by decide +kernel
theorem dX8_attemptDrawn_183 : decode cX8_attemptDrawn 183 = .ok (.ifCond .eq 8, 3) := by decide +kernel
theorem dX8_attemptDrawn_186 : decode cX8_attemptDrawn 186 = .ok (.bipush 6, 2) := by decide +kernel
theorem dX8_attemptDrawn_188 : decode cX8_attemptDrawn 188 = .ok (.goto 5, 3) := by decide +kernel
theorem dX8_attemptDrawn_191 : decode cX8_attemptDrawn 191 = .ok (.bipush 9, 2) := by decide +kernel
theorem dX8_attemptDrawn_193 : decode cX8_attemptDrawn 193 = .ok (.iload_n 3, 1) := by decide +kernel
theorem dX8_attemptDrawn_194 : decode cX8_attemptDrawn 194 = .ok (.iconst 0, 1) := by decide +kernel
theorem dX8_attemptDrawn_195 : decode cX8_attemptDrawn 195 = .ok (.invokevirtual 273, 3) := by decide +kernel
theorem dX8_attemptDrawn_198 : decode cX8_attemptDrawn 198 = .ok (.pop, 1) := by decide +kernel
theorem dX8_attemptDrawn_199 : decode cX8_attemptDrawn 199 = .ok (.goto 24, 3) := by decide +kernel
theorem dX8_attemptDrawn_202 : decode cX8_attemptDrawn 202 = .ok (.aload_n 0, 1) := by decide +kernel
theorem dX8_attemptDrawn_203 : decode cX8_attemptDrawn 203 = .ok (.getfield 30, 3) := by decide +kernel
theorem dX8_attemptDrawn_206 : decode cX8_attemptDrawn 206 = .ok (.iload_n 2, 1) := by decide +kernel
theorem dX8_attemptDrawn_207 : decode cX8_attemptDrawn 207 = .ok (.iconst 4, 1) := by decide +kernel
theorem dX8_attemptDrawn_208 : decode cX8_attemptDrawn 208 = .ok (.irem, 1) := by decide +kernel
theorem dX8_attemptDrawn_209 : decode cX8_attemptDrawn 209 = .ok (.ifCond .eq 7, 3) := by decide +kernel
theorem dX8_attemptDrawn_212 : decode cX8_attemptDrawn 212 = .ok (.iconst 4, 1) := by decide +kernel
theorem dX8_attemptDrawn_213 : decode cX8_attemptDrawn 213 = .ok (.goto 4, 3) := by decide +kernel
theorem dX8_attemptDrawn_216 : decode cX8_attemptDrawn 216 = .ok (.iconst 3, 1) := by decide +kernel
theorem dX8_attemptDrawn_217 : decode cX8_attemptDrawn 217 = .ok (.iconst 0, 1) := by decide +kernel
theorem dX8_attemptDrawn_218 : decode cX8_attemptDrawn 218 = .ok (.iconst 0, 1) := by decide +kernel
theorem dX8_attemptDrawn_219 : decode cX8_attemptDrawn 219 = .ok (.invokevirtual 273, 3) := by decide +kernel
theorem dX8_attemptDrawn_222 : decode cX8_attemptDrawn 222 = .ok (.pop, 1) := by decide +kernel
theorem dX8_attemptDrawn_223 : decode cX8_attemptDrawn 223 = .ok (.return_, 1) := by decide +kernel
theorem dX8_setsOfYes_0 : decode cX8_setsOfYes 0 = .ok (.iconst 0, 1) := by decide +kernel
theorem dX8_setsOfYes_1 : decode cX8_setsOfYes 1 = .ok (.istore_n 3, 1) := by decide +kernel
theorem dX8_setsOfYes_2 : decode cX8_setsOfYes 2 = .ok (.iconst 0, 1) := by decide +kernel
theorem dX8_setsOfYes_3 : decode cX8_setsOfYes 3 = .ok (.istore 4, 2) := by decide +kernel
theorem dX8_setsOfYes_5 : decode cX8_setsOfYes 5 = .ok (.iload 4, 2) := by decide +kernel
theorem dX8_setsOfYes_7 : decode cX8_setsOfYes 7 = .ok (.bipush 32, 2) := by decide +kernel
theorem dX8_setsOfYes_9 : decode cX8_setsOfYes 9 = .ok (.if_icmp .ge 32, 3) := by decide +kernel
theorem dX8_setsOfYes_12 : decode cX8_setsOfYes 12 = .ok (.iload 4, 2) := by decide +kernel
theorem dX8_setsOfYes_14 : decode cX8_setsOfYes 14 = .ok (.iload_n 1, 1) := by decide +kernel
theorem dX8_setsOfYes_15 : decode cX8_setsOfYes 15 = .ok (.iload_n 2, 1) := by decide +kernel
theorem dX8_setsOfYes_16 : decode cX8_setsOfYes 16 = .ok (.invokestatic 280, 3) := by decide +kernel
theorem dX8_setsOfYes_19 : decode cX8_setsOfYes 19 = .ok (.iload 4, 2) := by decide +kernel
theorem dX8_setsOfYes_21 : decode cX8_setsOfYes 21 = .ok (.iload_n 0, 1) := by decide +kernel
theorem dX8_setsOfYes_22 : decode cX8_setsOfYes 22 = .ok (.invokestatic 283, 3) := by decide +kernel
theorem dX8_setsOfYes_25 : decode cX8_setsOfYes 25 = .ok (.if_icmp .eq 10, 3) := by decide +kernel
theorem dX8_setsOfYes_28 : decode cX8_setsOfYes 28 = .ok (.iload_n 3, 1) := by decide +kernel
theorem dX8_setsOfYes_29 : decode cX8_setsOfYes 29 = .ok (.iconst 1, 1) := by decide +kernel
theorem dX8_setsOfYes_30 : decode cX8_setsOfYes 30 = .ok (.iload 4, 2) := by decide +kernel
theorem dX8_setsOfYes_32 : decode cX8_setsOfYes 32 = .ok (.ishl, 1) := by decide +kernel
theorem dX8_setsOfYes_33 : decode cX8_setsOfYes 33 = .ok (.ior, 1) := by decide +kernel
theorem dX8_setsOfYes_34 : decode cX8_setsOfYes 34 = .ok (.istore_n 3, 1) := by decide +kernel
theorem dX8_setsOfYes_35 : decode cX8_setsOfYes 35 = .ok (.iinc 4 1, 3) := by decide +kernel
theorem dX8_setsOfYes_38 : decode cX8_setsOfYes 38 = .ok (.goto (-33), 3) := by decide +kernel
theorem dX8_setsOfYes_41 : decode cX8_setsOfYes 41 = .ok (.iload_n 3, 1) := by decide +kernel
theorem dX8_setsOfYes_42 : decode cX8_setsOfYes 42 = .ok (.ireturn, 1) := by decide +kernel
theorem dX8_isTrue_0 : decode cX8_isTrue 0 = .ok (.iload_n 1, 1) := by decide +kernel
theorem dX8_isTrue_1 : decode cX8_isTrue 1 = .ok (.lookupswitch 47 #[(0, 27), (1, 41)], 27) := by decide +kernel
theorem dX8_isTrue_28 : decode cX8_isTrue 28 = .ok (.iload_n 0, 1) := by decide +kernel
theorem dX8_isTrue_29 : decode cX8_isTrue 29 = .ok (.iload_n 2, 1) := by decide +kernel
theorem dX8_isTrue_30 : decode cX8_isTrue 30 = .ok (.invokestatic 283, 3) := by decide +kernel
theorem dX8_isTrue_33 : decode cX8_isTrue 33 = .ok (.ifCond .ne 7, 3) := by decide +kernel
theorem dX8_isTrue_36 : decode cX8_isTrue 36 = .ok (.iconst 1, 1) := by decide +kernel
theorem dX8_isTrue_37 : decode cX8_isTrue 37 = .ok (.goto 4, 3) := by decide +kernel
theorem dX8_isTrue_40 : decode cX8_isTrue 40 = .ok (.iconst 0, 1) := by decide +kernel
theorem dX8_isTrue_41 : decode cX8_isTrue 41 = .ok (.ireturn, 1) := by decide +kernel
theorem dX8_isTrue_42 : decode cX8_isTrue 42 = .ok (.iload_n 0, 1) := by decide +kernel
theorem dX8_isTrue_43 : decode cX8_isTrue 43 = .ok (.iload_n 2, 1) := by decide +kernel
theorem dX8_isTrue_44 : decode cX8_isTrue 44 = .ok (.invokestatic 283, 3) := by decide +kernel
theorem dX8_isTrue_47 : decode cX8_isTrue 47 = .ok (.ireturn, 1) := by decide +kernel
theorem dX8_isTrue_48 : decode cX8_isTrue 48 = .ok (.iload_n 0, 1) := by decide +kernel
theorem dX8_isTrue_49 : decode cX8_isTrue 49 = .ok (.invokestatic 180, 3) := by decide +kernel
theorem dX8_isTrue_52 : decode cX8_isTrue 52 = .ok (.iload_n 2, 1) := by decide +kernel
theorem dX8_isTrue_53 : decode cX8_isTrue 53 = .ok (.if_icmp .ne 7, 3) := by decide +kernel
theorem dX8_isTrue_56 : decode cX8_isTrue 56 = .ok (.iconst 1, 1) := by decide +kernel
theorem dX8_isTrue_57 : decode cX8_isTrue 57 = .ok (.goto 4, 3) := by decide +kernel
theorem dX8_isTrue_60 : decode cX8_isTrue 60 = .ok (.iconst 0, 1) := by decide +kernel
theorem dX8_isTrue_61 : decode cX8_isTrue 61 = .ok (.ireturn, 1) := by decide +kernel
theorem dX8_bestQuestion_0 : decode cX8_bestQuestion 0 = .ok (.iconst 0, 1) := by decide +kernel
theorem dX8_bestQuestion_1 : decode cX8_bestQuestion 1 = .ok (.istore_n 1, 1) := by decide +kernel
theorem dX8_bestQuestion_2 : decode cX8_bestQuestion 2 = .ok (.iload_n 0, 1) := by decide +kernel
theorem dX8_bestQuestion_3 : decode cX8_bestQuestion 3 = .ok (.iload_n 1, 1) := by decide +kernel
theorem dX8_bestQuestion_4 : decode cX8_bestQuestion 4 = .ok (.invokestatic 209, 3) := by decide +kernel
theorem dX8_bestQuestion_7 : decode cX8_bestQuestion 7 = .ok (.istore_n 2, 1) := by decide +kernel
theorem dX8_bestQuestion_8 : decode cX8_bestQuestion 8 = .ok (.iconst 1, 1) := by decide +kernel
theorem dX8_bestQuestion_9 : decode cX8_bestQuestion 9 = .ok (.istore_n 3, 1) := by decide +kernel
theorem dX8_bestQuestion_10 : decode cX8_bestQuestion 10 = .ok (.iload_n 3, 1) := by decide +kernel
theorem dX8_bestQuestion_11 : decode cX8_bestQuestion 11 = .ok (.sipush 500, 3) := by decide +kernel
theorem dX8_bestQuestion_14 : decode cX8_bestQuestion 14 = .ok (.if_icmp .ge 48, 3) := by decide +kernel
theorem dX8_bestQuestion_17 : decode cX8_bestQuestion 17 = .ok (.iload_n 3, 1) := by decide +kernel
theorem dX8_bestQuestion_18 : decode cX8_bestQuestion 18 = .ok (.bipush 100, 2) := by decide +kernel
theorem dX8_bestQuestion_20 : decode cX8_bestQuestion 20 = .ok (.idiv, 1) := by decide +kernel
theorem dX8_bestQuestion_21 : decode cX8_bestQuestion 21 = .ok (.iload_n 3, 1) := by decide +kernel
theorem dX8_bestQuestion_22 : decode cX8_bestQuestion 22 = .ok (.bipush 10, 2) := by decide +kernel
theorem dX8_bestQuestion_24 : decode cX8_bestQuestion 24 = .ok (.idiv, 1) := by decide +kernel
theorem dX8_bestQuestion_25 : decode cX8_bestQuestion 25 = .ok (.bipush 10, 2) := by decide +kernel
theorem dX8_bestQuestion_27 : decode cX8_bestQuestion 27 = .ok (.irem, 1) := by decide +kernel
theorem dX8_bestQuestion_28 : decode cX8_bestQuestion 28 = .ok (.iload_n 3, 1) := by decide +kernel
theorem dX8_bestQuestion_29 : decode cX8_bestQuestion 29 = .ok (.bipush 10, 2) := by decide +kernel
theorem dX8_bestQuestion_31 : decode cX8_bestQuestion 31 = .ok (.irem, 1) := by decide +kernel
theorem dX8_bestQuestion_32 : decode cX8_bestQuestion 32 = .ok (.invokestatic 185, 3) := by decide +kernel
theorem dX8_bestQuestion_35 : decode cX8_bestQuestion 35 = .ok (.ifCond .eq 21, 3) := by decide +kernel
theorem dX8_bestQuestion_38 : decode cX8_bestQuestion 38 = .ok (.iload_n 0, 1) := by decide +kernel
theorem dX8_bestQuestion_39 : decode cX8_bestQuestion 39 = .ok (.iload_n 3, 1) := by decide +kernel
theorem dX8_bestQuestion_40 : decode cX8_bestQuestion 40 = .ok (.invokestatic 209, 3) := by decide +kernel
theorem dX8_bestQuestion_43 : decode cX8_bestQuestion 43 = .ok (.istore 4, 2) := by decide +kernel
theorem dX8_bestQuestion_45 : decode cX8_bestQuestion 45 = .ok (.iload 4, 2) := by decide +kernel
theorem dX8_bestQuestion_47 : decode cX8_bestQuestion 47 = .ok (.iload_n 2, 1) := by decide +kernel
theorem dX8_bestQuestion_48 : decode cX8_bestQuestion 48 = .ok (.if_icmp .ge 8, 3) := by decide +kernel
theorem dX8_bestQuestion_51 : decode cX8_bestQuestion 51 = .ok (.iload 4, 2) := by decide +kernel
theorem dX8_bestQuestion_53 : decode cX8_bestQuestion 53 = .ok (.istore_n 2, 1) := by decide +kernel
theorem dX8_bestQuestion_54 : decode cX8_bestQuestion 54 = .ok (.iload_n 3, 1) := by decide +kernel
theorem dX8_bestQuestion_55 : decode cX8_bestQuestion 55 = .ok (.istore_n 1, 1) := by decide +kernel
theorem dX8_bestQuestion_56 : decode cX8_bestQuestion 56 = .ok (.iinc 3 1, 3) := by decide +kernel
theorem dX8_bestQuestion_59 : decode cX8_bestQuestion 59 = .ok (.goto (-49), 3) := by decide +kernel
theorem dX8_bestQuestion_62 : decode cX8_bestQuestion 62 = .ok (.iload_n 1, 1) := by decide +kernel
theorem dX8_bestQuestion_63 : decode cX8_bestQuestion 63 = .ok (.ireturn, 1) := by decide +kernel
theorem dX8_mostLeft_0 : decode cX8_mostLeft 0 = .ok (.iload_n 1, 1) := by decide +kernel
theorem dX8_mostLeft_1 : decode cX8_mostLeft 1 = .ok (.bipush 100, 2) := by decide +kernel
theorem dX8_mostLeft_3 : decode cX8_mostLeft 3 = .ok (.idiv, 1) := by decide +kernel
theorem dX8_mostLeft_4 : decode cX8_mostLeft 4 = .ok (.iload_n 1, 1) := by decide +kernel
theorem dX8_mostLeft_5 : decode cX8_mostLeft 5 = .ok (.bipush 10, 2) := by decide +kernel
theorem dX8_mostLeft_7 : decode cX8_mostLeft 7 = .ok (.idiv, 1) := by decide +kernel
theorem dX8_mostLeft_8 : decode cX8_mostLeft 8 = .ok (.bipush 10, 2) := by decide +kernel
theorem dX8_mostLeft_10 : decode cX8_mostLeft 10 = .ok (.irem, 1) := by decide +kernel
theorem dX8_mostLeft_11 : decode cX8_mostLeft 11 = .ok (.iload_n 1, 1) := by decide +kernel
theorem dX8_mostLeft_12 : decode cX8_mostLeft 12 = .ok (.bipush 10, 2) := by decide +kernel
theorem dX8_mostLeft_14 : decode cX8_mostLeft 14 = .ok (.irem, 1) := by decide +kernel
theorem dX8_mostLeft_15 : decode cX8_mostLeft 15 = .ok (.invokestatic 188, 3) := by decide +kernel
theorem dX8_mostLeft_18 : decode cX8_mostLeft 18 = .ok (.istore_n 2, 1) := by decide +kernel
theorem dX8_mostLeft_19 : decode cX8_mostLeft 19 = .ok (.iload_n 0, 1) := by decide +kernel
theorem dX8_mostLeft_20 : decode cX8_mostLeft 20 = .ok (.iload_n 2, 1) := by decide +kernel
theorem dX8_mostLeft_21 : decode cX8_mostLeft 21 = .ok (.iand, 1) := by decide +kernel
theorem dX8_mostLeft_22 : decode cX8_mostLeft 22 = .ok (.invokestatic 180, 3) := by decide +kernel
theorem dX8_mostLeft_25 : decode cX8_mostLeft 25 = .ok (.iload_n 0, 1) := by decide +kernel
theorem dX8_mostLeft_26 : decode cX8_mostLeft 26 = .ok (.iload_n 2, 1) := by decide +kernel
theorem dX8_mostLeft_27 : decode cX8_mostLeft 27 = .ok (.iconst (-1), 1) := by decide +kernel
theorem dX8_mostLeft_28 : decode cX8_mostLeft 28 = .ok (.ixor, 1) := by decide +kernel
theorem dX8_mostLeft_29 : decode cX8_mostLeft 29 = .ok (.iand, 1) := by decide +kernel
theorem dX8_mostLeft_30 : decode cX8_mostLeft 30 = .ok (.invokestatic 180, 3) := by decide +kernel
theorem dX8_mostLeft_33 : decode cX8_mostLeft 33 = .ok (.invokestatic 287, 3) := by decide +kernel
theorem dX8_mostLeft_36 : decode cX8_mostLeft 36 = .ok (.ireturn, 1) := by decide +kernel
theorem dX8_placeOfBit_0 : decode cX8_placeOfBit 0 = .ok (.iconst 0, 1) := by decide +kernel
theorem dX8_placeOfBit_1 : decode cX8_placeOfBit 1 = .ok (.istore_n 2, 1) := by decide +kernel
theorem dX8_placeOfBit_2 : decode cX8_placeOfBit 2 = .ok (.iconst 0, 1) := by decide +kernel
theorem dX8_placeOfBit_3 : decode cX8_placeOfBit 3 = .ok (.istore_n 3, 1) := by decide +kernel
theorem dX8_placeOfBit_4 : decode cX8_placeOfBit 4 = .ok (.iload_n 3, 1) := by decide +kernel
theorem dX8_placeOfBit_5 : decode cX8_placeOfBit 5 = .ok (.bipush 32, 2) := by decide +kernel
theorem dX8_placeOfBit_7 : decode cX8_placeOfBit 7 = .ok (.if_icmp .ge 27, 3) := by decide +kernel
theorem dX8_placeOfBit_10 : decode cX8_placeOfBit 10 = .ok (.iload_n 0, 1) := by decide +kernel
theorem dX8_placeOfBit_11 : decode cX8_placeOfBit 11 = .ok (.iload_n 3, 1) := by decide +kernel
theorem dX8_placeOfBit_12 : decode cX8_placeOfBit 12 = .ok (.invokestatic 283, 3) := by decide +kernel
theorem dX8_placeOfBit_15 : decode cX8_placeOfBit 15 = .ok (.ifCond .eq 13, 3) := by decide +kernel
theorem dX8_placeOfBit_18 : decode cX8_placeOfBit 18 = .ok (.iload_n 2, 1) := by decide +kernel
theorem dX8_placeOfBit_19 : decode cX8_placeOfBit 19 = .ok (.iload_n 1, 1) := by decide +kernel
theorem dX8_placeOfBit_20 : decode cX8_placeOfBit 20 = .ok (.if_icmp .ne 5, 3) := by decide +kernel
theorem dX8_placeOfBit_23 : decode cX8_placeOfBit 23 = .ok (.iload_n 3, 1) := by decide +kernel
theorem dX8_placeOfBit_24 : decode cX8_placeOfBit 24 = .ok (.ireturn, 1) := by decide +kernel
theorem dX8_placeOfBit_25 : decode cX8_placeOfBit 25 = .ok (.iinc 2 1, 3) := by decide +kernel
theorem dX8_placeOfBit_28 : decode cX8_placeOfBit 28 = .ok (.iinc 3 1, 3) := by decide +kernel
theorem dX8_placeOfBit_31 : decode cX8_placeOfBit 31 = .ok (.goto (-27), 3) := by decide +kernel
theorem dX8_placeOfBit_34 : decode cX8_placeOfBit 34 = .ok (.bipush (-6), 2) := by decide +kernel
theorem dX8_placeOfBit_36 : decode cX8_placeOfBit 36 = .ok (.ireturn, 1) := by decide +kernel
theorem dX8_pairs_0 : decode cX8_pairs 0 = .ok (.iload_n 0, 1) := by decide +kernel
theorem dX8_pairs_1 : decode cX8_pairs 1 = .ok (.iload_n 0, 1) := by decide +kernel
theorem dX8_pairs_2 : decode cX8_pairs 2 = .ok (.iconst 1, 1) := by decide +kernel
theorem dX8_pairs_3 : decode cX8_pairs 3 = .ok (.isub, 1) := by decide +kernel
theorem dX8_pairs_4 : decode cX8_pairs 4 = .ok (.imul, 1) := by decide +kernel
theorem dX8_pairs_5 : decode cX8_pairs 5 = .ok (.iconst 2, 1) := by decide +kernel
theorem dX8_pairs_6 : decode cX8_pairs 6 = .ok (.idiv, 1) := by decide +kernel
theorem dX8_pairs_7 : decode cX8_pairs 7 = .ok (.ireturn, 1) := by decide +kernel
theorem dX8_power_0 : decode cX8_power 0 = .ok (.lconst 1, 1) := by decide +kernel
theorem dX8_power_1 : decode cX8_power 1 = .ok (.lstore_n 3, 1) := by decide +kernel
theorem dX8_power_2 : decode cX8_power 2 = .ok (.iconst 0, 1) := by decide +kernel
theorem dX8_power_3 : decode cX8_power 3 = .ok (.istore 5, 2) := by decide +kernel
theorem dX8_power_5 : decode cX8_power 5 = .ok (.iload 5, 2) := by decide +kernel
theorem dX8_power_7 : decode cX8_power 7 = .ok (.iload_n 2, 1) := by decide +kernel
theorem dX8_power_8 : decode cX8_power 8 = .ok (.if_icmp .ge 13, 3) := by decide +kernel
theorem dX8_power_11 : decode cX8_power 11 = .ok (.lload_n 3, 1) := by decide +kernel
theorem dX8_power_12 : decode cX8_power 12 = .ok (.lload_n 0, 1) := by decide +kernel
theorem dX8_power_13 : decode cX8_power 13 = .ok (.lmul, 1) := by decide +kernel
theorem dX8_power_14 : decode cX8_power 14 = .ok (.lstore_n 3, 1) := by decide +kernel
theorem dX8_power_15 : decode cX8_power 15 = .ok (.iinc 5 1, 3) := by decide +kernel
theorem dX8_power_18 : decode cX8_power 18 = .ok (.goto (-13), 3) := by decide +kernel
theorem dX8_power_21 : decode cX8_power 21 = .ok (.lload_n 3, 1) := by decide +kernel
theorem dX8_power_22 : decode cX8_power 22 = .ok (.lreturn, 1) := by decide +kernel
theorem dX8_partOf_0 : decode cX8_partOf 0 = .ok (.lload_n 0, 1) := by decide +kernel
theorem dX8_partOf_1 : decode cX8_partOf 1 = .ok (.lload_n 2, 1) := by decide +kernel
theorem dX8_partOf_2 : decode cX8_partOf 2 = .ok (.invokestatic 292, 3) := by decide +kernel
theorem dX8_partOf_5 : decode cX8_partOf 5 = .ok (.lstore 5, 2) := by decide +kernel
theorem dX8_partOf_7 : decode cX8_partOf 7 = .ok (.lload 5, 2) := by decide +kernel
theorem dX8_partOf_9 : decode cX8_partOf 9 = .ok (.lconst 0, 1) := by decide +kernel
theorem dX8_partOf_10 : decode cX8_partOf 10 = .ok (.lcmp, 1) := by decide +kernel
theorem dX8_partOf_11 : decode cX8_partOf 11 = .ok (.ifCond .ne 7, 3) := by decide +kernel
theorem dX8_partOf_14 : decode cX8_partOf 14 = .ok (.ldc2_w 219, 3) := by decide +kernel
theorem dX8_partOf_17 : decode cX8_partOf 17 = .ok (.lreturn, 1) := by decide +kernel
theorem dX8_partOf_18 : decode cX8_partOf 18 = .ok (.iload 4, 2) := by decide +kernel
theorem dX8_partOf_20 : decode cX8_partOf 20 = .ok (.ifCond .ne 10, 3) := by decide +kernel
theorem dX8_partOf_23 : decode cX8_partOf 23 = .ok (.lload_n 0, 1) := by decide +kernel
theorem dX8_partOf_24 : decode cX8_partOf 24 = .ok (.lload 5, 2) := by decide +kernel
theorem dX8_partOf_26 : decode cX8_partOf 26 = .ok (.ldiv, 1) := by decide +kernel
theorem dX8_partOf_27 : decode cX8_partOf 27 = .ok (.goto 7, 3) := by decide +kernel
theorem dX8_partOf_30 : decode cX8_partOf 30 = .ok (.lload_n 2, 1) := by decide +kernel
theorem dX8_partOf_31 : decode cX8_partOf 31 = .ok (.lload 5, 2) := by decide +kernel
theorem dX8_partOf_33 : decode cX8_partOf 33 = .ok (.ldiv, 1) := by decide +kernel
theorem dX8_partOf_34 : decode cX8_partOf 34 = .ok (.lreturn, 1) := by decide +kernel
theorem dX8_commonDivisor_0 : decode cX8_commonDivisor 0 = .ok (.lload_n 0, 1) := by decide +kernel
theorem dX8_commonDivisor_1 : decode cX8_commonDivisor 1 = .ok (.lstore 4, 2) := by decide +kernel
theorem dX8_commonDivisor_3 : decode cX8_commonDivisor 3 = .ok (.lload_n 2, 1) := by decide +kernel
theorem dX8_commonDivisor_4 : decode cX8_commonDivisor 4 = .ok (.lstore 6, 2) := by decide +kernel
theorem dX8_commonDivisor_6 : decode cX8_commonDivisor 6 = .ok (.iconst 0, 1) := by decide +kernel
theorem dX8_commonDivisor_7 : decode cX8_commonDivisor 7 = .ok (.istore 8, 2) := by decide +kernel
theorem dX8_commonDivisor_9 : decode cX8_commonDivisor 9 = .ok (.iload 8, 2) := by decide +kernel
theorem dX8_commonDivisor_11 : decode cX8_commonDivisor 11 = .ok (.bipush 100, 2) := by decide +kernel
theorem dX8_commonDivisor_13 : decode cX8_commonDivisor 13 = .ok (.if_icmp .ge 31, 3) := by decide +kernel
theorem dX8_commonDivisor_16 : decode cX8_commonDivisor 16 = .ok (.lload 6, 2) := by decide +kernel
theorem dX8_commonDivisor_18 : decode cX8_commonDivisor 18 = .ok (.lconst 0, 1) := by decide +kernel
theorem dX8_commonDivisor_19 : decode cX8_commonDivisor 19 = .ok (.lcmp, 1) := by decide +kernel
theorem dX8_commonDivisor_20 : decode cX8_commonDivisor 20 = .ok (.ifCond .eq 24, 3) := by decide +kernel
theorem dX8_commonDivisor_23 : decode cX8_commonDivisor 23 = .ok (.lload 4, 2) := by decide +kernel
theorem dX8_commonDivisor_25 : decode cX8_commonDivisor 25 = .ok (.lload 6, 2) := by decide +kernel
theorem dX8_commonDivisor_27 : decode cX8_commonDivisor 27 = .ok (.lrem, 1) := by decide +kernel
theorem dX8_commonDivisor_28 : decode cX8_commonDivisor 28 = .ok (.lstore 9, 2) := by decide +kernel
theorem dX8_commonDivisor_30 : decode cX8_commonDivisor 30 = .ok (.lload 6, 2) := by decide +kernel
theorem dX8_commonDivisor_32 : decode cX8_commonDivisor 32 = .ok (.lstore 4, 2) := by decide +kernel
theorem dX8_commonDivisor_34 : decode cX8_commonDivisor 34 = .ok (.lload 9, 2) := by decide +kernel
theorem dX8_commonDivisor_36 : decode cX8_commonDivisor 36 = .ok (.lstore 6, 2) := by decide +kernel
theorem dX8_commonDivisor_38 : decode cX8_commonDivisor 38 = .ok (.iinc 8 1, 3) := by decide +kernel
theorem dX8_commonDivisor_41 : decode cX8_commonDivisor 41 = .ok (.goto (-32), 3) := by decide +kernel
theorem dX8_commonDivisor_44 : decode cX8_commonDivisor 44 = .ok (.lload 4, 2) := by decide +kernel
theorem dX8_commonDivisor_46 : decode cX8_commonDivisor 46 = .ok (.lreturn, 1) := by decide +kernel
theorem dX9_init_0 : decode cX9_init 0 = .ok (.aload_n 0, 1) := by decide +kernel
theorem dX9_init_1 : decode cX9_init 1 = .ok (.invokespecial 1, 3) := by decide +kernel
theorem dX9_init_4 : decode cX9_init 4 = .ok (.aload_n 0, 1) := by decide +kernel
theorem dX9_init_5 : decode cX9_init 5 = .ok (.bipush 8, 2) := by decide +kernel
theorem dX9_init_7 : decode cX9_init 7 = .ok (.newarray .int, 2) := by decide +kernel
theorem dX9_init_9 : decode cX9_init 9 = .ok (.putfield 7, 3) := by decide +kernel
theorem dX9_init_12 : decode cX9_init 12 = .ok (.aload_n 0, 1) := by decide +kernel
theorem dX9_init_13 : decode cX9_init 13 = .ok (.bipush 8, 2) := by decide +kernel
theorem dX9_init_15 : decode cX9_init 15 = .ok (.newarray .int, 2) := by decide +kernel
theorem dX9_init_17 : decode cX9_init 17 = .ok (.putfield 13, 3) := by decide +kernel
theorem dX9_init_20 : decode cX9_init 20 = .ok (.aload_n 0, 1) := by decide +kernel
theorem dX9_init_21 : decode cX9_init 21 = .ok (.bipush 6, 2) := by decide +kernel
theorem dX9_init_23 : decode cX9_init 23 = .ok (.newarray .int, 2) := by decide +kernel
theorem dX9_init_25 : decode cX9_init 25 = .ok (.putfield 16, 3) := by decide +kernel
theorem dX9_init_28 : decode cX9_init 28 = .ok (.aload_n 0, 1) := by decide +kernel
theorem dX9_init_29 : decode cX9_init 29 = .ok (.bipush 6, 2) := by decide +kernel
theorem dX9_init_31 : decode cX9_init 31 = .ok (.newarray .int, 2) := by decide +kernel
theorem dX9_init_33 : decode cX9_init 33 = .ok (.putfield 19, 3) := by decide +kernel
theorem dX9_init_36 : decode cX9_init 36 = .ok (.aload_n 0, 1) := by decide +kernel
theorem dX9_init_37 : decode cX9_init 37 = .ok (.bipush 6, 2) := by decide +kernel
theorem dX9_init_39 : decode cX9_init 39 = .ok (.newarray .int, 2) := by decide +kernel
theorem dX9_init_41 : decode cX9_init 41 = .ok (.putfield 22, 3) := by decide +kernel
theorem dX9_init_44 : decode cX9_init 44 = .ok (.aload_n 0, 1) := by decide +kernel
theorem dX9_init_45 : decode cX9_init 45 = .ok (.bipush 12, 2) := by decide +kernel
theorem dX9_init_47 : decode cX9_init 47 = .ok (.newarray .int, 2) := by decide +kernel
theorem dX9_init_49 : decode cX9_init 49 = .ok (.putfield 25, 3) := by decide +kernel
theorem dX9_init_52 : decode cX9_init 52 = .ok (.aload_n 0, 1) := by decide +kernel
theorem dX9_init_53 : decode cX9_init 53 = .ok (.bipush 12, 2) := by decide +kernel
theorem dX9_init_55 : decode cX9_init 55 = .ok (.newarray .int, 2) := by decide +kernel
theorem dX9_init_57 : decode cX9_init 57 = .ok (.putfield 28, 3) := by decide +kernel
theorem dX9_init_60 : decode cX9_init 60 = .ok (.aload_n 0, 1) := by decide +kernel
theorem dX9_init_61 : decode cX9_init 61 = .ok (.bipush 12, 2) := by decide +kernel
theorem dX9_init_63 : decode cX9_init 63 = .ok (.newarray .int, 2) := by decide +kernel
theorem dX9_init_65 : decode cX9_init 65 = .ok (.putfield 31, 3) := by decide +kernel
theorem dX9_init_68 : decode cX9_init 68 = .ok (.aload_n 0, 1) := by decide +kernel
theorem dX9_init_69 : decode cX9_init 69 = .ok (.bipush 8, 2) := by decide +kernel
theorem dX9_init_71 : decode cX9_init 71 = .ok (.newarray .int, 2) := by decide +kernel
theorem dX9_init_73 : decode cX9_init 73 = .ok (.putfield 34, 3) := by decide +kernel
theorem dX9_init_76 : decode cX9_init 76 = .ok (.aload_n 0, 1) := by decide +kernel
theorem dX9_init_77 : decode cX9_init 77 = .ok (.bipush 8, 2) := by decide +kernel
theorem dX9_init_79 : decode cX9_init 79 = .ok (.newarray .int, 2) := by decide +kernel
theorem dX9_init_81 : decode cX9_init 81 = .ok (.putfield 37, 3) := by decide +kernel
theorem dX9_init_84 : decode cX9_init 84 = .ok (.aload_n 0, 1) := by decide +kernel
theorem dX9_init_85 : decode cX9_init 85 = .ok (.bipush 8, 2) := by decide +kernel
theorem dX9_init_87 : decode cX9_init 87 = .ok (.newarray .int, 2) := by decide +kernel
theorem dX9_init_89 : decode cX9_init 89 = .ok (.putfield 40, 3) := by decide +kernel
theorem dX9_init_92 : decode cX9_init 92 = .ok (.aload_n 0, 1) := by decide +kernel
theorem dX9_init_93 : decode cX9_init 93 = .ok (.bipush 8, 2) := by decide +kernel
theorem dX9_init_95 : decode cX9_init 95 = .ok (.newarray .int, 2) := by decide +kernel
theorem dX9_init_97 : decode cX9_init 97 = .ok (.putfield 43, 3) := by decide +kernel
theorem dX9_init_100 : decode cX9_init 100 = .ok (.aload_n 0, 1) := by decide +kernel
theorem dX9_init_101 : decode cX9_init 101 = .ok (.bipush 60, 2) := by decide +kernel
theorem dX9_init_103 : decode cX9_init 103 = .ok (.newarray .int, 2) := by decide +kernel
theorem dX9_init_105 : decode cX9_init 105 = .ok (.putfield 46, 3) := by decide +kernel
theorem dX9_init_108 : decode cX9_init 108 = .ok (.aload_n 0, 1) := by decide +kernel
theorem dX9_init_109 : decode cX9_init 109 = .ok (.bipush 60, 2) := by decide +kernel
theorem dX9_init_111 : decode cX9_init 111 = .ok (.newarray .int, 2) := by decide +kernel
theorem dX9_init_113 : decode cX9_init 113 = .ok (.putfield 49, 3) := by decide +kernel
theorem dX9_init_116 : decode cX9_init 116 = .ok (.aload_n 0, 1) := by decide +kernel
theorem dX9_init_117 : decode cX9_init 117 = .ok (.bipush 60, 2) := by decide +kernel
theorem dX9_init_119 : decode cX9_init 119 = .ok (.newarray .int, 2) := by decide +kernel
theorem dX9_init_121 : decode cX9_init 121 = .ok (.putfield 52, 3) := by decide +kernel
theorem dX9_init_124 : decode cX9_init 124 = .ok (.aload_n 0, 1) := by decide +kernel
theorem dX9_init_125 : decode cX9_init 125 = .ok (.bipush 60, 2) := by decide +kernel
theorem dX9_init_127 : decode cX9_init 127 = .ok (.newarray .int, 2) := by decide +kernel
theorem dX9_init_129 : decode cX9_init 129 = .ok (.putfield 55, 3) := by decide +kernel
theorem dX9_init_132 : decode cX9_init 132 = .ok (.aload_n 0, 1) := by decide +kernel
theorem dX9_init_133 : decode cX9_init 133 = .ok (.bipush 36, 2) := by decide +kernel
theorem dX9_init_135 : decode cX9_init 135 = .ok (.newarray .int, 2) := by decide +kernel
theorem dX9_init_137 : decode cX9_init 137 = .ok (.putfield 58, 3) := by decide +kernel
theorem dX9_init_140 : decode cX9_init 140 = .ok (.aload_n 0, 1) := by decide +kernel
theorem dX9_init_141 : decode cX9_init 141 = .ok (.sipush 2048, 3) := by decide +kernel
theorem dX9_init_144 : decode cX9_init 144 = .ok (.newarray .boolean, 2) := by decide +kernel
theorem dX9_init_146 : decode cX9_init 146 = .ok (.putfield 61, 3) := by decide +kernel
theorem dX9_init_149 : decode cX9_init 149 = .ok (.aload_n 0, 1) := by decide +kernel
theorem dX9_init_150 : decode cX9_init 150 = .ok (.iconst 5, 1) := by decide +kernel
theorem dX9_init_151 : decode cX9_init 151 = .ok (.newarray .int, 2) := by decide +kernel
theorem dX9_init_153 : decode cX9_init 153 = .ok (.putfield 65, 3) := by decide +kernel
theorem dX9_init_156 : decode cX9_init 156 = .ok (.aload_n 0, 1) := by decide +kernel
theorem dX9_init_157 : decode cX9_init 157 = .ok (.sipush 220, 3) := by decide +kernel
theorem dX9_init_160 : decode cX9_init 160 = .ok (.newarray .int, 2) := by decide +kernel
theorem dX9_init_162 : decode cX9_init 162 = .ok (.putfield 68, 3) := by decide +kernel
theorem dX9_init_165 : decode cX9_init 165 = .ok (.aload_n 0, 1) := by decide +kernel
theorem dX9_init_166 : decode cX9_init 166 = .ok (.iconst 2, 1) := by decide +kernel
theorem dX9_init_167 : decode cX9_init 167 = .ok (.newarray .boolean, 2) := by decide +kernel
theorem dX9_init_169 : decode cX9_init 169 = .ok (.putfield 71, 3) := by decide +kernel
theorem dX9_init_172 : decode cX9_init 172 = .ok (.iconst 0, 1) := by decide +kernel
theorem dX9_init_173 : decode cX9_init 173 = .ok (.istore_n 1, 1) := by decide +kernel
theorem dX9_init_174 : decode cX9_init 174 = .ok (.iload_n 1, 1) := by decide +kernel
theorem dX9_init_175 : decode cX9_init 175 = .ok (.bipush 8, 2) := by decide +kernel
theorem dX9_init_177 : decode cX9_init 177 = .ok (.if_icmp .ge 17, 3) := by decide +kernel
theorem dX9_init_180 : decode cX9_init 180 = .ok (.aload_n 0, 1) := by decide +kernel
theorem dX9_init_181 : decode cX9_init 181 = .ok (.getfield 13, 3) := by decide +kernel
theorem dX9_init_184 : decode cX9_init 184 = .ok (.iload_n 1, 1) := by decide +kernel
theorem dX9_init_185 : decode cX9_init 185 = .ok (.bipush (-6), 2) := by decide +kernel
theorem dX9_init_187 : decode cX9_init 187 = .ok (.iastore, 1) := by decide +kernel
theorem dX9_init_188 : decode cX9_init 188 = .ok (.iinc 1 1, 3) := by decide +kernel
theorem dX9_init_191 : decode cX9_init 191 = .ok (.goto (-17), 3) := by decide +kernel
theorem dX9_init_194 : decode cX9_init 194 = .ok (.iconst 0, 1) := by decide +kernel
theorem dX9_init_195 : decode cX9_init 195 = .ok (.istore_n 1, 1) := by decide +kernel
theorem dX9_init_196 : decode cX9_init 196 = .ok (.iload_n 1, 1) := by decide +kernel
theorem dX9_init_197 : decode cX9_init 197 = .ok (.bipush 6, 2) := by decide +kernel
theorem dX9_init_199 : decode cX9_init 199 = .ok (.if_icmp .ge 17, 3) := by decide +kernel
theorem dX9_init_202 : decode cX9_init 202 = .ok (.aload_n 0, 1) := by decide +kernel
theorem dX9_init_203 : decode cX9_init 203 = .ok (.getfield 16, 3) := by decide +kernel
theorem dX9_init_206 : decode cX9_init 206 = .ok (.iload_n 1, 1) := by decide +kernel
theorem dX9_init_207 : decode cX9_init 207 = .ok (.bipush (-6), 2) := by decide +kernel
theorem dX9_init_209 : decode cX9_init 209 = .ok (.iastore, 1) := by decide +kernel
theorem dX9_init_210 : decode cX9_init 210 = .ok (.iinc 1 1, 3) := by decide +kernel
theorem dX9_init_213 : decode cX9_init 213 = .ok (.goto (-17), 3) := by decide +kernel
theorem dX9_init_216 : decode cX9_init 216 = .ok (.aload_n 0, 1) := by decide +kernel
theorem dX9_init_217 : decode cX9_init 217 = .ok (.iconst 1, 1) := by decide +kernel
theorem dX9_init_218 : decode cX9_init 218 = .ok (.putfield 74, 3) := by decide +kernel
theorem dX9_init_221 : decode cX9_init 221 = .ok (.return_, 1) := by decide +kernel
theorem dX9_in_0 : decode cX9_in 0 = .ok (.lload_n 0, 1) := by decide +kernel
theorem dX9_in_1 : decode cX9_in 1 = .ok (.lload_n 2, 1) := by decide +kernel
theorem dX9_in_2 : decode cX9_in 2 = .ok (.lcmp, 1) := by decide +kernel
theorem dX9_in_3 : decode cX9_in 3 = .ok (.ifCond .lt 14, 3) := by decide +kernel
theorem dX9_in_6 : decode cX9_in 6 = .ok (.lload_n 0, 1) := by decide +kernel
theorem dX9_in_7 : decode cX9_in 7 = .ok (.lload 4, 2) := by decide +kernel
theorem dX9_in_9 : decode cX9_in 9 = .ok (.lcmp, 1) := by decide +kernel
theorem dX9_in_10 : decode cX9_in 10 = .ok (.ifCond .gt 7, 3) := by decide +kernel
theorem dX9_in_13 : decode cX9_in 13 = .ok (.iconst 1, 1) := by decide +kernel
theorem dX9_in_14 : decode cX9_in 14 = .ok (.goto 4, 3) := by decide +kernel
theorem dX9_in_17 : decode cX9_in 17 = .ok (.iconst 0, 1) := by decide +kernel
theorem dX9_in_18 : decode cX9_in 18 = .ok (.ireturn, 1) := by decide +kernel
theorem dX9_isCorner_0 : decode cX9_isCorner 0 = .ok (.iload_n 0, 1) := by decide +kernel
theorem dX9_isCorner_1 : decode cX9_isCorner 1 = .ok (.i2l, 1) := by decide +kernel
theorem dX9_isCorner_2 : decode cX9_isCorner 2 = .ok (.lconst 0, 1) := by decide +kernel
theorem dX9_isCorner_3 : decode cX9_isCorner 3 = .ok (.ldc2_w 78, 3) := by decide +kernel
theorem dX9_isCorner_6 : decode cX9_isCorner 6 = .ok (.invokestatic 80, 3) := by decide +kernel
theorem dX9_isCorner_9 : decode cX9_isCorner 9 = .ok (.ireturn, 1) := by decide +kernel
theorem dX9_isThing_0 : decode cX9_isThing 0 = .ok (.iload_n 0, 1) := by decide +kernel
theorem dX9_isThing_1 : decode cX9_isThing 1 = .ok (.i2l, 1) := by decide +kernel
theorem dX9_isThing_2 : decode cX9_isThing 2 = .ok (.lconst 0, 1) := by decide +kernel
theorem dX9_isThing_3 : decode cX9_isThing 3 = .ok (.ldc2_w 78, 3) := by decide +kernel
theorem dX9_isThing_6 : decode cX9_isThing 6 = .ok (.invokestatic 80, 3) := by decide +kernel
theorem dX9_isThing_9 : decode cX9_isThing 9 = .ok (.ireturn, 1) := by decide +kernel
theorem dX9_isPerson_0 : decode cX9_isPerson 0 = .ok (.iload_n 0, 1) := by decide +kernel
theorem dX9_isPerson_1 : decode cX9_isPerson 1 = .ok (.i2l, 1) := by decide +kernel
theorem dX9_isPerson_2 : decode cX9_isPerson 2 = .ok (.lconst 0, 1) := by decide +kernel
theorem dX9_isPerson_3 : decode cX9_isPerson 3 = .ok (.ldc2_w 84, 3) := by decide +kernel
theorem dX9_isPerson_6 : decode cX9_isPerson 6 = .ok (.invokestatic 80, 3) := by decide +kernel
theorem dX9_isPerson_9 : decode cX9_isPerson 9 = .ok (.ireturn, 1) := by decide +kernel
theorem dX9_ones_0 : decode cX9_ones 0 = .ok (.iconst 0, 1) := by decide +kernel
theorem dX9_ones_1 : decode cX9_ones 1 = .ok (.istore_n 1, 1) := by decide +kernel
theorem dX9_ones_2 : decode cX9_ones 2 = .ok (.iload_n 0, 1) := by decide +kernel
theorem dX9_ones_3 : decode cX9_ones 3 = .ok (.istore_n 2, 1) := by decide +kernel
theorem dX9_ones_4 : decode cX9_ones 4 = .ok (.iload_n 2, 1) := by decide +kernel
theorem dX9_ones_5 : decode cX9_ones 5 = .ok (.ifCond .eq 15, 3) := by decide +kernel
theorem dX9_ones_8 : decode cX9_ones 8 = .ok (.iinc 1 1, 3) := by decide +kernel
theorem dX9_ones_11 : decode cX9_ones 11 = .ok (.iload_n 2, 1) := by decide +kernel
theorem dX9_ones_12 : decode cX9_ones 12 = .ok (.iload_n 2, 1) := by decide +kernel
theorem dX9_ones_13 : decode cX9_ones 13 = .ok (.iconst 1, 1) := by decide +kernel
theorem dX9_ones_14 : decode cX9_ones 14 = .ok (.isub, 1) := by decide +kernel
theorem dX9_ones_15 : decode cX9_ones 15 = .ok (.iand, 1) := by decide +kernel
theorem dX9_ones_16 : decode cX9_ones 16 = .ok (.istore_n 2, 1) := by decide +kernel
theorem dX9_ones_17 : decode cX9_ones 17 = .ok (.goto (-13), 3) := by decide +kernel
theorem dX9_ones_20 : decode cX9_ones 20 = .ok (.iload_n 1, 1) := by decide +kernel
theorem dX9_ones_21 : decode cX9_ones 21 = .ok (.ireturn, 1) := by decide +kernel
theorem dX9_has_0 : decode cX9_has 0 = .ok (.iload_n 0, 1) := by decide +kernel
theorem dX9_has_1 : decode cX9_has 1 = .ok (.iload_n 1, 1) := by decide +kernel
theorem dX9_has_2 : decode cX9_has 2 = .ok (.ishr, 1) := by decide +kernel
theorem dX9_has_3 : decode cX9_has 3 = .ok (.iconst 1, 1) := by decide +kernel
theorem dX9_has_4 : decode cX9_has 4 = .ok (.iand, 1) := by decide +kernel
theorem dX9_has_5 : decode cX9_has 5 = .ok (.iconst 1, 1) := by decide +kernel
theorem dX9_has_6 : decode cX9_has 6 = .ok (.if_icmp .ne 7, 3) := by decide +kernel
theorem dX9_has_9 : decode cX9_has 9 = .ok (.iconst 1, 1) := by decide +kernel
theorem dX9_has_10 : decode cX9_has 10 = .ok (.goto 4, 3) := by decide +kernel
theorem dX9_has_13 : decode cX9_has 13 = .ok (.iconst 0, 1) := by decide +kernel
theorem dX9_has_14 : decode cX9_has 14 = .ok (.ireturn, 1) := by decide +kernel
theorem dX9_waysAll_0 : decode cX9_waysAll 0 = .ok (.iconst 0, 1) := by decide +kernel
theorem dX9_waysAll_1 : decode cX9_waysAll 1 = .ok (.istore_n 1, 1) := by decide +kernel
theorem dX9_waysAll_2 : decode cX9_waysAll 2 = .ok (.iconst 0, 1) := by decide +kernel
theorem dX9_waysAll_3 : decode cX9_waysAll 3 = .ok (.istore_n 2, 1) := by decide +kernel
theorem dX9_waysAll_4 : decode cX9_waysAll 4 = .ok (.iload_n 2, 1) := by decide +kernel
theorem dX9_waysAll_5 : decode cX9_waysAll 5 = .ok (.bipush 8, 2) := by decide +kernel
theorem dX9_waysAll_7 : decode cX9_waysAll 7 = .ok (.if_icmp .ge 21, 3) := by decide +kernel
theorem dX9_waysAll_10 : decode cX9_waysAll 10 = .ok (.iload_n 1, 1) := by decide +kernel
theorem dX9_waysAll_11 : decode cX9_waysAll 11 = .ok (.aload_n 0, 1) := by decide +kernel
theorem dX9_waysAll_12 : decode cX9_waysAll 12 = .ok (.getfield 7, 3) := by decide +kernel
theorem dX9_waysAll_15 : decode cX9_waysAll 15 = .ok (.iload_n 2, 1) := by decide +kernel
theorem dX9_waysAll_16 : decode cX9_waysAll 16 = .ok (.iaload, 1) := by decide +kernel
theorem dX9_waysAll_17 : decode cX9_waysAll 17 = .ok (.invokestatic 86, 3) := by decide +kernel
theorem dX9_waysAll_20 : decode cX9_waysAll 20 = .ok (.iadd, 1) := by decide +kernel
theorem dX9_waysAll_21 : decode cX9_waysAll 21 = .ok (.istore_n 1, 1) := by decide +kernel
theorem dX9_waysAll_22 : decode cX9_waysAll 22 = .ok (.iinc 2 1, 3) := by decide +kernel
theorem dX9_waysAll_25 : decode cX9_waysAll 25 = .ok (.goto (-21), 3) := by decide +kernel
theorem dX9_waysAll_28 : decode cX9_waysAll 28 = .ok (.iload_n 1, 1) := by decide +kernel
theorem dX9_waysAll_29 : decode cX9_waysAll 29 = .ok (.iconst 2, 1) := by decide +kernel
theorem dX9_waysAll_30 : decode cX9_waysAll 30 = .ok (.idiv, 1) := by decide +kernel
theorem dX9_waysAll_31 : decode cX9_waysAll 31 = .ok (.ireturn, 1) := by decide +kernel
theorem dX9_layWay_0 : decode cX9_layWay 0 = .ok (.aload_n 0, 1) := by decide +kernel
theorem dX9_layWay_1 : decode cX9_layWay 1 = .ok (.getfield 7, 3) := by decide +kernel
theorem dX9_layWay_4 : decode cX9_layWay 4 = .ok (.iload_n 1, 1) := by decide +kernel
theorem dX9_layWay_5 : decode cX9_layWay 5 = .ok (.iload_n 3, 1) := by decide +kernel
theorem dX9_layWay_6 : decode cX9_layWay 6 = .ok (.ifCond .eq 16, 3) := by decide +kernel
theorem dX9_layWay_9 : decode cX9_layWay 9 = .ok (.aload_n 0, 1) := by decide +kernel
theorem dX9_layWay_10 : decode cX9_layWay 10 = .ok (.getfield 7, 3) := by decide +kernel
theorem dX9_layWay_13 : decode cX9_layWay 13 = .ok (.iload_n 1, 1) := by decide +kernel
theorem dX9_layWay_14 : decode cX9_layWay 14 = .ok (.iaload, 1) := by decide +kernel
theorem dX9_layWay_15 : decode cX9_layWay 15 = .ok (.iconst 1, 1) := by decide +kernel
theorem dX9_layWay_16 : decode cX9_layWay 16 = .ok (.iload_n 2, 1) := by decide +kernel
theorem dX9_layWay_17 : decode cX9_layWay 17 = .ok (.ishl, 1) := by decide +kernel
theorem dX9_layWay_18 : decode cX9_layWay 18 = .ok (.ior, 1) := by decide +kernel
theorem dX9_layWay_19 : decode cX9_layWay 19 = .ok (.goto 15, 3) := by decide +kernel
theorem dX9_layWay_22 : decode cX9_layWay 22 = .ok (.aload_n 0, 1) := by decide +kernel
theorem dX9_layWay_23 : decode cX9_layWay 23 = .ok (.getfield 7, 3) := by decide +kernel
theorem dX9_layWay_26 : decode cX9_layWay 26 = .ok (.iload_n 1, 1) := by decide +kernel
theorem dX9_layWay_27 : decode cX9_layWay 27 = .ok (.iaload, 1) := by decide +kernel
theorem dX9_layWay_28 : decode cX9_layWay 28 = .ok (.iconst 1, 1) := by decide +kernel
theorem dX9_layWay_29 : decode cX9_layWay 29 = .ok (.iload_n 2, 1) := by decide +kernel
theorem dX9_layWay_30 : decode cX9_layWay 30 = .ok (.ishl, 1) := by decide +kernel
theorem dX9_layWay_31 : decode cX9_layWay 31 = .ok (.iconst (-1), 1) := by decide +kernel
theorem dX9_layWay_32 : decode cX9_layWay 32 = .ok (.ixor, 1) := by decide +kernel
theorem dX9_layWay_33 : decode cX9_layWay 33 = .ok (.iand, 1) := by decide +kernel
theorem dX9_layWay_34 : decode cX9_layWay 34 = .ok (.iastore, 1) := by decide +kernel
theorem dX9_layWay_35 : decode cX9_layWay 35 = .ok (.aload_n 0, 1) := by decide +kernel
theorem dX9_layWay_36 : decode cX9_layWay 36 = .ok (.getfield 7, 3) := by decide +kernel
theorem dX9_layWay_39 : decode cX9_layWay 39 = .ok (.iload_n 2, 1) := by decide +kernel
theorem dX9_layWay_40 : decode cX9_layWay 40 = .ok (.iload_n 3, 1) := by decide +kernel
theorem dX9_layWay_41 : decode cX9_layWay 41 = .ok (.ifCond .eq 16, 3) := by decide +kernel
theorem dX9_layWay_44 : decode cX9_layWay 44 = .ok (.aload_n 0, 1) := by decide +kernel
theorem dX9_layWay_45 : decode cX9_layWay 45 = .ok (.getfield 7, 3) := by decide +kernel
theorem dX9_layWay_48 : decode cX9_layWay 48 = .ok (.iload_n 2, 1) := by decide +kernel
theorem dX9_layWay_49 : decode cX9_layWay 49 = .ok (.iaload, 1) := by decide +kernel
theorem dX9_layWay_50 : decode cX9_layWay 50 = .ok (.iconst 1, 1) := by decide +kernel
theorem dX9_layWay_51 : decode cX9_layWay 51 = .ok (.iload_n 1, 1) := by decide +kernel
theorem dX9_layWay_52 : decode cX9_layWay 52 = .ok (.ishl, 1) := by decide +kernel
theorem dX9_layWay_53 : decode cX9_layWay 53 = .ok (.ior, 1) := by decide +kernel
theorem dX9_layWay_54 : decode cX9_layWay 54 = .ok (.goto 15, 3) := by decide +kernel
theorem dX9_layWay_57 : decode cX9_layWay 57 = .ok (.aload_n 0, 1) := by decide +kernel
theorem dX9_layWay_58 : decode cX9_layWay 58 = .ok (.getfield 7, 3) := by decide +kernel
theorem dX9_layWay_61 : decode cX9_layWay 61 = .ok (.iload_n 2, 1) := by decide +kernel
theorem dX9_layWay_62 : decode cX9_layWay 62 = .ok (.iaload, 1) := by decide +kernel
theorem dX9_layWay_63 : decode cX9_layWay 63 = .ok (.iconst 1, 1) := by decide +kernel
theorem dX9_layWay_64 : decode cX9_layWay 64 = .ok (.iload_n 1, 1) := by decide +kernel
theorem dX9_layWay_65 : decode cX9_layWay 65 = .ok (.ishl, 1) := by decide +kernel
theorem dX9_layWay_66 : decode cX9_layWay 66 = .ok (.iconst (-1), 1) := by decide +kernel
theorem dX9_layWay_67 : decode cX9_layWay 67 = .ok (.ixor, 1) := by decide +kernel
theorem dX9_layWay_68 : decode cX9_layWay 68 = .ok (.iand, 1) := by decide +kernel
theorem dX9_layWay_69 : decode cX9_layWay 69 = .ok (.iastore, 1) := by decide +kernel
theorem dX9_layWay_70 : decode cX9_layWay 70 = .ok (.return_, 1) := by decide +kernel
theorem dX9_way_0 : decode cX9_way 0 = .ok (.iload_n 1, 1) := by decide +kernel
theorem dX9_way_1 : decode cX9_way 1 = .ok (.invokestatic 90, 3) := by decide +kernel
theorem dX9_way_4 : decode cX9_way 4 = .ok (.ifCond .eq 10, 3) := by decide +kernel
theorem dX9_way_7 : decode cX9_way 7 = .ok (.iload_n 2, 1) := by decide +kernel
theorem dX9_way_8 : decode cX9_way 8 = .ok (.invokestatic 90, 3) := by decide +kernel
theorem dX9_way_11 : decode cX9_way 11 = .ok (.ifCond .ne 5, 3) := by decide +kernel
theorem dX9_way_14 : decode cX9_way 14 = .ok (.iconst (-1), 1) := by decide +kernel
theorem dX9_way_15 : decode cX9_way 15 = .ok (.ireturn, 1) := by decide +kernel
theorem dX9_way_16 : decode cX9_way 16 = .ok (.iload_n 1, 1) := by decide +kernel
theorem dX9_way_17 : decode cX9_way 17 = .ok (.iload_n 2, 1) := by decide +kernel
theorem dX9_way_18 : decode cX9_way 18 = .ok (.if_icmp .ne 6, 3) := by decide +kernel
theorem dX9_way_21 : decode cX9_way 21 = .ok (.bipush (-2), 2) := by decide +kernel
theorem dX9_way_23 : decode cX9_way 23 = .ok (.ireturn, 1) := by decide +kernel
theorem dX9_way_24 : decode cX9_way 24 = .ok (.aload_n 0, 1) := by decide +kernel
theorem dX9_way_25 : decode cX9_way 25 = .ok (.iload_n 1, 1) := by decide +kernel
theorem dX9_way_26 : decode cX9_way 26 = .ok (.iload_n 2, 1) := by decide +kernel
theorem dX9_way_27 : decode cX9_way 27 = .ok (.iload_n 3, 1) := by decide +kernel
theorem dX9_way_28 : decode cX9_way 28 = .ok (.invokevirtual 94, 3) := by decide +kernel
theorem dX9_way_31 : decode cX9_way 31 = .ok (.aload_n 0, 1) := by decide +kernel
theorem dX9_way_32 : decode cX9_way 32 = .ok (.invokevirtual 98, 3) := by decide +kernel
theorem dX9_way_35 : decode cX9_way 35 = .ok (.ireturn, 1) := by decide +kernel
theorem dX9_cornerOf_0 : decode cX9_cornerOf 0 = .ok (.aload_n 0, 1) := by decide +kernel
theorem dX9_cornerOf_1 : decode cX9_cornerOf 1 = .ok (.getfield 13, 3) := by decide +kernel
theorem dX9_cornerOf_4 : decode cX9_cornerOf 4 = .ok (.iload_n 1, 1) := by decide +kernel
theorem dX9_cornerOf_5 : decode cX9_cornerOf 5 = .ok (.iaload, 1) := by decide +kernel
theorem dX9_cornerOf_6 : decode cX9_cornerOf 6 = .ok (.i2l, 1) := by decide +kernel
theorem dX9_cornerOf_7 : decode cX9_cornerOf 7 = .ok (.lconst 0, 1) := by decide +kernel
theorem dX9_cornerOf_8 : decode cX9_cornerOf 8 = .ok (.ldc2_w 78, 3) := by decide +kernel
theorem dX9_cornerOf_11 : decode cX9_cornerOf 11 = .ok (.invokestatic 80, 3) := by decide +kernel
theorem dX9_cornerOf_14 : decode cX9_cornerOf 14 = .ok (.ifCond .eq 12, 3) := by decide +kernel
theorem dX9_cornerOf_17 : decode cX9_cornerOf 17 = .ok (.aload_n 0, 1) := by decide +kernel
theorem dX9_cornerOf_18 : decode cX9_cornerOf 18 = .ok (.getfield 13, 3) := by decide +kernel
theorem dX9_cornerOf_21 : decode cX9_cornerOf 21 = .ok (.iload_n 1, 1) := by decide +kernel
theorem dX9_cornerOf_22 : decode cX9_cornerOf 22 = .ok (.iaload, 1) := by decide +kernel
theorem dX9_cornerOf_23 : decode cX9_cornerOf 23 = .ok (.goto 5, 3) := by decide +kernel
theorem dX9_cornerOf_26 : decode cX9_cornerOf 26 = .ok (.bipush (-6), 2) := by decide +kernel
theorem dX9_cornerOf_28 : decode cX9_cornerOf 28 = .ok (.ireturn, 1) := by decide +kernel
theorem dX9_carrierOf_0 : decode cX9_carrierOf 0 = .ok (.aload_n 0, 1) := by decide +kernel
theorem dX9_carrierOf_1 : decode cX9_carrierOf 1 = .ok (.getfield 13, 3) := by decide +kernel
theorem dX9_carrierOf_4 : decode cX9_carrierOf 4 = .ok (.iload_n 1, 1) := by decide +kernel
theorem dX9_carrierOf_5 : decode cX9_carrierOf 5 = .ok (.iaload, 1) := by decide +kernel
theorem dX9_carrierOf_6 : decode cX9_carrierOf 6 = .ok (.bipush 10, 2) := by decide +kernel
theorem dX9_carrierOf_8 : decode cX9_carrierOf 8 = .ok (.if_icmp .lt 15, 3) := by decide +kernel
theorem dX9_carrierOf_11 : decode cX9_carrierOf 11 = .ok (.aload_n 0, 1) := by decide +kernel
theorem dX9_carrierOf_12 : decode cX9_carrierOf 12 = .ok (.getfield 13, 3) := by decide +kernel
theorem dX9_carrierOf_15 : decode cX9_carrierOf 15 = .ok (.iload_n 1, 1) := by decide +kernel
theorem dX9_carrierOf_16 : decode cX9_carrierOf 16 = .ok (.iaload, 1) := by decide +kernel
theorem dX9_carrierOf_17 : decode cX9_carrierOf 17 = .ok (.bipush 10, 2) := by decide +kernel
theorem dX9_carrierOf_19 : decode cX9_carrierOf 19 = .ok (.isub, 1) := by decide +kernel
theorem dX9_carrierOf_20 : decode cX9_carrierOf 20 = .ok (.goto 5, 3) := by decide +kernel
theorem dX9_carrierOf_23 : decode cX9_carrierOf 23 = .ok (.bipush (-6), 2) := by decide +kernel
theorem dX9_carrierOf_25 : decode cX9_carrierOf 25 = .ok (.ireturn, 1) := by decide +kernel
theorem dX9_thing_0 : decode cX9_thing 0 = .ok (.iload_n 1, 1) := by decide +kernel
theorem dX9_thing_1 : decode cX9_thing 1 = .ok (.invokestatic 102, 3) := by decide +kernel
theorem dX9_thing_4 : decode cX9_thing 4 = .ok (.ifCond .eq 17, 3) := by decide +kernel
theorem dX9_thing_7 : decode cX9_thing 7 = .ok (.iload_n 2, 1) := by decide +kernel
theorem dX9_thing_8 : decode cX9_thing 8 = .ok (.i2l, 1) := by decide +kernel
theorem dX9_thing_9 : decode cX9_thing 9 = .ok (.ldc2_w 105, 3) := by decide +kernel
theorem dX9_thing_12 : decode cX9_thing 12 = .ok (.ldc2_w 78, 3) := by decide +kernel
theorem dX9_thing_15 : decode cX9_thing 15 = .ok (.invokestatic 80, 3) := by decide +kernel
theorem dX9_thing_18 : decode cX9_thing 18 = .ok (.ifCond .ne 5, 3) := by decide +kernel
theorem dX9_thing_21 : decode cX9_thing 21 = .ok (.iconst (-1), 1) := by decide +kernel
theorem dX9_thing_22 : decode cX9_thing 22 = .ok (.ireturn, 1) := by decide +kernel
theorem dX9_thing_23 : decode cX9_thing 23 = .ok (.aload_n 0, 1) := by decide +kernel
theorem dX9_thing_24 : decode cX9_thing 24 = .ok (.iload_n 1, 1) := by decide +kernel
theorem dX9_thing_25 : decode cX9_thing 25 = .ok (.invokevirtual 107, 3) := by decide +kernel
theorem dX9_thing_28 : decode cX9_thing 28 = .ok (.istore_n 3, 1) := by decide +kernel
theorem dX9_thing_29 : decode cX9_thing 29 = .ok (.aload_n 0, 1) := by decide +kernel
theorem dX9_thing_30 : decode cX9_thing 30 = .ok (.getfield 13, 3) := by decide +kernel
theorem dX9_thing_33 : decode cX9_thing 33 = .ok (.iload_n 1, 1) := by decide +kernel
theorem dX9_thing_34 : decode cX9_thing 34 = .ok (.iload_n 2, 1) := by decide +kernel
theorem dX9_thing_35 : decode cX9_thing 35 = .ok (.ifCond .ge 8, 3) := by decide +kernel
theorem dX9_thing_38 : decode cX9_thing 38 = .ok (.bipush (-6), 2) := by decide +kernel
theorem dX9_thing_40 : decode cX9_thing 40 = .ok (.goto 4, 3) := by decide +kernel
theorem dX9_thing_43 : decode cX9_thing 43 = .ok (.iload_n 2, 1) := by decide +kernel
theorem dX9_thing_44 : decode cX9_thing 44 = .ok (.iastore, 1) := by decide +kernel
theorem dX9_thing_45 : decode cX9_thing 45 = .ok (.iload_n 3, 1) := by decide +kernel
theorem dX9_thing_46 : decode cX9_thing 46 = .ok (.ireturn, 1) := by decide +kernel
theorem dX9_drop_0 : decode cX9_drop 0 = .ok (.iconst 0, 1) := by decide +kernel
theorem dX9_drop_1 : decode cX9_drop 1 = .ok (.istore_n 2, 1) := by decide +kernel
theorem dX9_drop_2 : decode cX9_drop 2 = .ok (.iload_n 2, 1) := by decide +kernel
theorem dX9_drop_3 : decode cX9_drop 3 = .ok (.bipush 8, 2) := by decide +kernel
theorem dX9_drop_5 : decode cX9_drop 5 = .ok (.if_icmp .ge 35, 3) := by decide +kernel
theorem dX9_drop_8 : decode cX9_drop 8 = .ok (.aload_n 0, 1) := by decide +kernel
theorem dX9_drop_9 : decode cX9_drop 9 = .ok (.getfield 13, 3) := by decide +kernel
theorem dX9_drop_12 : decode cX9_drop 12 = .ok (.iload_n 2, 1) := by decide +kernel
theorem dX9_drop_13 : decode cX9_drop 13 = .ok (.aload_n 0, 1) := by decide +kernel
theorem dX9_drop_14 : decode cX9_drop 14 = .ok (.iload_n 2, 1) := by decide +kernel
theorem dX9_drop_15 : decode cX9_drop 15 = .ok (.invokevirtual 110, 3) := by decide +kernel
theorem dX9_drop_18 : decode cX9_drop 18 = .ok (.iload_n 1, 1) := by decide +kernel
theorem dX9_drop_19 : decode cX9_drop 19 = .ok (.if_icmp .ne 8, 3) := by decide +kernel
theorem dX9_drop_22 : decode cX9_drop 22 = .ok (.bipush (-6), 2) := by decide +kernel
theorem dX9_drop_24 : decode cX9_drop 24 = .ok (.goto 9, 3) := by decide +kernel
theorem dX9_drop_27 : decode cX9_drop 27 = .ok (.aload_n 0, 1) := by decide +kernel
theorem dX9_drop_28 : decode cX9_drop 28 = .ok (.getfield 13, 3) := by decide +kernel
theorem dX9_drop_31 : decode cX9_drop 31 = .ok (.iload_n 2, 1) := by decide +kernel
theorem dX9_drop_32 : decode cX9_drop 32 = .ok (.iaload, 1) := by decide +kernel
theorem dX9_drop_33 : decode cX9_drop 33 = .ok (.iastore, 1) := by decide +kernel
theorem dX9_drop_34 : decode cX9_drop 34 = .ok (.iinc 2 1, 3) := by decide +kernel
theorem dX9_drop_37 : decode cX9_drop 37 = .ok (.goto (-35), 3) := by decide +kernel
theorem dX9_drop_40 : decode cX9_drop 40 = .ok (.return_, 1) := by decide +kernel
theorem dX9_person_0 : decode cX9_person 0 = .ok (.iload_n 1, 1) := by decide +kernel
theorem dX9_person_1 : decode cX9_person 1 = .ok (.invokestatic 113, 3) := by decide +kernel
theorem dX9_person_4 : decode cX9_person 4 = .ok (.ifCond .eq 17, 3) := by decide +kernel
theorem dX9_person_7 : decode cX9_person 7 = .ok (.iload_n 2, 1) := by decide +kernel
theorem dX9_person_8 : decode cX9_person 8 = .ok (.i2l, 1) := by decide +kernel
theorem dX9_person_9 : decode cX9_person 9 = .ok (.ldc2_w 105, 3) := by decide +kernel
theorem dX9_person_12 : decode cX9_person 12 = .ok (.ldc2_w 78, 3) := by decide +kernel
theorem dX9_person_15 : decode cX9_person 15 = .ok (.invokestatic 80, 3) := by decide +kernel
theorem dX9_person_18 : decode cX9_person 18 = .ok (.ifCond .ne 5, 3) := by decide +kernel
theorem dX9_person_21 : decode cX9_person 21 = .ok (.iconst (-1), 1) := by decide +kernel
theorem dX9_person_22 : decode cX9_person 22 = .ok (.ireturn, 1) := by decide +kernel
theorem dX9_person_23 : decode cX9_person 23 = .ok (.iload_n 3, 1) := by decide +kernel
theorem dX9_person_24 : decode cX9_person 24 = .ok (.i2l, 1) := by decide +kernel
theorem dX9_person_25 : decode cX9_person 25 = .ok (.lconst 0, 1) := by decide +kernel
theorem dX9_person_26 : decode cX9_person 26 = .ok (.iload_n 2, 1) := by decide +kernel
theorem dX9_person_27 : decode cX9_person 27 = .ok (.ifCond .ge 7, 3) := by decide +kernel
theorem dX9_person_30 : decode cX9_person 30 = .ok (.lconst 0, 1) := by decide +kernel
theorem dX9_person_31 : decode cX9_person 31 = .ok (.goto 6, 3) := by decide +kernel
theorem dX9_person_34 : decode cX9_person 34 = .ok (.ldc2_w 116, 3) := by decide +kernel
theorem dX9_person_37 : decode cX9_person 37 = .ok (.invokestatic 80, 3) := by decide +kernel
theorem dX9_person_40 : decode cX9_person 40 = .ok (.ifCond .ne 6, 3) := by decide +kernel
theorem dX9_person_43 : decode cX9_person 43 = .ok (.bipush (-2), 2) := by decide +kernel
theorem dX9_person_45 : decode cX9_person 45 = .ok (.ireturn, 1) := by decide +kernel
theorem dX9_person_46 : decode cX9_person 46 = .ok (.aload_n 0, 1) := by decide +kernel
theorem dX9_person_47 : decode cX9_person 47 = .ok (.getfield 16, 3) := by decide +kernel
theorem dX9_person_50 : decode cX9_person 50 = .ok (.iload_n 1, 1) := by decide +kernel
theorem dX9_person_51 : decode cX9_person 51 = .ok (.iaload, 1) := by decide +kernel
theorem dX9_person_52 : decode cX9_person 52 = .ok (.istore 4, 2) := by decide +kernel
theorem dX9_person_54 : decode cX9_person 54 = .ok (.aload_n 0, 1) := by decide +kernel
theorem dX9_person_55 : decode cX9_person 55 = .ok (.iload_n 1, 1) := by decide +kernel
theorem dX9_person_56 : decode cX9_person 56 = .ok (.invokevirtual 118, 3) := by decide +kernel
theorem dX9_person_59 : decode cX9_person 59 = .ok (.aload_n 0, 1) := by decide +kernel
theorem dX9_person_60 : decode cX9_person 60 = .ok (.getfield 16, 3) := by decide +kernel
theorem dX9_person_63 : decode cX9_person 63 = .ok (.iload_n 1, 1) := by decide +kernel
theorem dX9_person_64 : decode cX9_person 64 = .ok (.iload_n 2, 1) := by decide +kernel
theorem dX9_person_65 : decode cX9_person 65 = .ok (.ifCond .ge 8, 3) := by decide +kernel
theorem dX9_person_68 : decode cX9_person 68 = .ok (.bipush (-6), 2) := by decide +kernel
theorem dX9_person_70 : decode cX9_person 70 = .ok (.goto 4, 3) := by decide +kernel
theorem dX9_person_73 : decode cX9_person 73 = .ok (.iload_n 2, 1) := by decide +kernel
theorem dX9_person_74 : decode cX9_person 74 = .ok (.iastore, 1) := by decide +kernel
theorem dX9_person_75 : decode cX9_person 75 = .ok (.aload_n 0, 1) := by decide +kernel
theorem dX9_person_76 : decode cX9_person 76 = .ok (.getfield 19, 3) := by decide +kernel
theorem dX9_person_79 : decode cX9_person 79 = .ok (.iload_n 1, 1) := by decide +kernel
theorem dX9_person_80 : decode cX9_person 80 = .ok (.iload_n 3, 1) := by decide +kernel
theorem dX9_person_81 : decode cX9_person 81 = .ok (.iastore, 1) := by decide +kernel
theorem dX9_person_82 : decode cX9_person 82 = .ok (.aload_n 0, 1) := by decide +kernel
theorem dX9_person_83 : decode cX9_person 83 = .ok (.getfield 22, 3) := by decide +kernel
theorem dX9_person_86 : decode cX9_person 86 = .ok (.iload_n 1, 1) := by decide +kernel
theorem dX9_person_87 : decode cX9_person 87 = .ok (.iconst 0, 1) := by decide +kernel
theorem dX9_person_88 : decode cX9_person 88 = .ok (.iastore, 1) := by decide +kernel
theorem dX9_person_89 : decode cX9_person 89 = .ok (.iload 4, 2) := by decide +kernel
theorem dX9_person_91 : decode cX9_person 91 = .ok (.ireturn, 1) := by decide +kernel
theorem dX9_pole_0 : decode cX9_pole 0 = .ok (.aload_n 0, 1) := by decide +kernel
theorem dX9_pole_1 : decode cX9_pole 1 = .ok (.getfield 74, 3) := by decide +kernel
theorem dX9_pole_4 : decode cX9_pole 4 = .ok (.istore_n 2, 1) := by decide +kernel
theorem dX9_pole_5 : decode cX9_pole 5 = .ok (.aload_n 0, 1) := by decide +kernel
theorem dX9_pole_6 : decode cX9_pole 6 = .ok (.iload_n 1, 1) := by decide +kernel
theorem dX9_pole_7 : decode cX9_pole 7 = .ok (.ifCond .eq 7, 3) := by decide +kernel
theorem dX9_pole_10 : decode cX9_pole 10 = .ok (.iconst 1, 1) := by decide +kernel
theorem dX9_pole_11 : decode cX9_pole 11 = .ok (.goto 4, 3) := by decide +kernel
theorem dX9_pole_14 : decode cX9_pole 14 = .ok (.iconst 0, 1) := by decide +kernel
theorem dX9_pole_15 : decode cX9_pole 15 = .ok (.putfield 74, 3) := by decide +kernel
theorem dX9_pole_18 : decode cX9_pole 18 = .ok (.iload_n 2, 1) := by decide +kernel
theorem dX9_pole_19 : decode cX9_pole 19 = .ok (.ireturn, 1) := by decide +kernel
theorem dX9_say_0 : decode cX9_say 0 = .ok (.iload_n 1, 1) := by decide +kernel
theorem dX9_say_1 : decode cX9_say 1 = .ok (.i2l, 1) := by decide +kernel
theorem dX9_say_2 : decode cX9_say 2 = .ok (.ldc2_w 122, 3) := by decide +kernel
theorem dX9_say_5 : decode cX9_say 5 = .ok (.ldc2_w 124, 3) := by decide +kernel
theorem dX9_say_8 : decode cX9_say 8 = .ok (.invokestatic 80, 3) := by decide +kernel
theorem dX9_say_11 : decode cX9_say 11 = .ok (.ifCond .ne 6, 3) := by decide +kernel
theorem dX9_say_14 : decode cX9_say 14 = .ok (.bipush (-2), 2) := by decide +kernel
theorem dX9_say_16 : decode cX9_say 16 = .ok (.ireturn, 1) := by decide +kernel
theorem dX9_say_17 : decode cX9_say 17 = .ok (.aload_n 0, 1) := by decide +kernel
theorem dX9_say_18 : decode cX9_say 18 = .ok (.getfield 126, 3) := by decide +kernel
theorem dX9_say_21 : decode cX9_say 21 = .ok (.bipush 60, 2) := by decide +kernel
theorem dX9_say_23 : decode cX9_say 23 = .ok (.if_icmp .ne 6, 3) := by decide +kernel
theorem dX9_say_26 : decode cX9_say 26 = .ok (.bipush (-4), 2) := by decide +kernel
theorem dX9_say_28 : decode cX9_say 28 = .ok (.ireturn, 1) := by decide +kernel
theorem dX9_say_29 : decode cX9_say 29 = .ok (.aload_n 0, 1) := by decide +kernel
theorem dX9_say_30 : decode cX9_say 30 = .ok (.getfield 46, 3) := by decide +kernel
theorem dX9_say_33 : decode cX9_say 33 = .ok (.aload_n 0, 1) := by decide +kernel
theorem dX9_say_34 : decode cX9_say 34 = .ok (.getfield 126, 3) := by decide +kernel
theorem dX9_say_37 : decode cX9_say 37 = .ok (.iload_n 1, 1) := by decide +kernel
theorem dX9_say_38 : decode cX9_say 38 = .ok (.iastore, 1) := by decide +kernel
theorem dX9_say_39 : decode cX9_say 39 = .ok (.aload_n 0, 1) := by decide +kernel
theorem dX9_say_40 : decode cX9_say 40 = .ok (.dup, 1) := by decide +kernel
theorem dX9_say_41 : decode cX9_say 41 = .ok (.getfield 126, 3) := by decide +kernel
theorem dX9_say_44 : decode cX9_say 44 = .ok (.iconst 1, 1) := by decide +kernel
theorem dX9_say_45 : decode cX9_say 45 = .ok (.iadd, 1) := by decide +kernel
theorem dX9_say_46 : decode cX9_say 46 = .ok (.putfield 126, 3) := by decide +kernel
theorem dX9_say_49 : decode cX9_say 49 = .ok (.aload_n 0, 1) := by decide +kernel
theorem dX9_say_50 : decode cX9_say 50 = .ok (.getfield 126, 3) := by decide +kernel
theorem dX9_say_53 : decode cX9_say 53 = .ok (.ireturn, 1) := by decide +kernel
theorem dX9_wipe_0 : decode cX9_wipe 0 = .ok (.aload_n 0, 1) := by decide +kernel
theorem dX9_wipe_1 : decode cX9_wipe 1 = .ok (.getfield 126, 3) := by decide +kernel
theorem dX9_wipe_4 : decode cX9_wipe 4 = .ok (.istore_n 1, 1) := by decide +kernel
theorem dX9_wipe_5 : decode cX9_wipe 5 = .ok (.aload_n 0, 1) := by decide +kernel
theorem dX9_wipe_6 : decode cX9_wipe 6 = .ok (.iconst 0, 1) := by decide +kernel
theorem dX9_wipe_7 : decode cX9_wipe 7 = .ok (.putfield 126, 3) := by decide +kernel
theorem dX9_wipe_10 : decode cX9_wipe 10 = .ok (.iload_n 1, 1) := by decide +kernel
theorem dX9_wipe_11 : decode cX9_wipe 11 = .ok (.ireturn, 1) := by decide +kernel
theorem dX9_ends_0 : decode cX9_ends 0 = .ok (.aload_n 0, 1) := by decide +kernel
theorem dX9_ends_1 : decode cX9_ends 1 = .ok (.getfield 49, 3) := by decide +kernel
theorem dX9_ends_4 : decode cX9_ends 4 = .ok (.aload_n 0, 1) := by decide +kernel
theorem dX9_ends_5 : decode cX9_ends 5 = .ok (.getfield 129, 3) := by decide +kernel
theorem dX9_ends_8 : decode cX9_ends 8 = .ok (.iload_n 1, 1) := by decide +kernel
theorem dX9_ends_9 : decode cX9_ends 9 = .ok (.iastore, 1) := by decide +kernel
theorem dX9_ends_10 : decode cX9_ends 10 = .ok (.aload_n 0, 1) := by decide +kernel
theorem dX9_ends_11 : decode cX9_ends 11 = .ok (.getfield 55, 3) := by decide +kernel
theorem dX9_ends_14 : decode cX9_ends 14 = .ok (.aload_n 0, 1) := by decide +kernel
theorem dX9_ends_15 : decode cX9_ends 15 = .ok (.getfield 129, 3) := by decide +kernel
theorem dX9_ends_18 : decode cX9_ends 18 = .ok (.iload_n 2, 1) := by decide +kernel
theorem dX9_ends_19 : decode cX9_ends 19 = .ok (.iastore, 1) := by decide +kernel
theorem dX9_ends_20 : decode cX9_ends 20 = .ok (.aload_n 0, 1) := by decide +kernel
theorem dX9_ends_21 : decode cX9_ends 21 = .ok (.dup, 1) := by decide +kernel
theorem dX9_ends_22 : decode cX9_ends 22 = .ok (.getfield 129, 3) := by decide +kernel
theorem dX9_ends_25 : decode cX9_ends 25 = .ok (.iconst 1, 1) := by decide +kernel
theorem dX9_ends_26 : decode cX9_ends 26 = .ok (.iadd, 1) := by decide +kernel
theorem dX9_ends_27 : decode cX9_ends 27 = .ok (.putfield 129, 3) := by decide +kernel
theorem dX9_ends_30 : decode cX9_ends 30 = .ok (.iconst 0, 1) := by decide +kernel
theorem dX9_ends_31 : decode cX9_ends 31 = .ok (.ireturn, 1) := by decide +kernel
theorem dX9_opens_0 : decode cX9_opens 0 = .ok (.aload_n 0, 1) := by decide +kernel
theorem dX9_opens_1 : decode cX9_opens 1 = .ok (.getfield 49, 3) := by decide +kernel
theorem dX9_opens_4 : decode cX9_opens 4 = .ok (.aload_n 0, 1) := by decide +kernel
theorem dX9_opens_5 : decode cX9_opens 5 = .ok (.getfield 129, 3) := by decide +kernel
theorem dX9_opens_8 : decode cX9_opens 8 = .ok (.iload_n 1, 1) := by decide +kernel
theorem dX9_opens_9 : decode cX9_opens 9 = .ok (.iastore, 1) := by decide +kernel
theorem dX9_opens_10 : decode cX9_opens 10 = .ok (.iload_n 2, 1) := by decide +kernel
theorem dX9_opens_11 : decode cX9_opens 11 = .ok (.ireturn, 1) := by decide +kernel
theorem dX9_begin_0 : decode cX9_begin 0 = .ok (.aload_n 0, 1) := by decide +kernel
theorem dX9_begin_1 : decode cX9_begin 1 = .ok (.getfield 52, 3) := by decide +kernel
theorem dX9_begin_4 : decode cX9_begin 4 = .ok (.aload_n 0, 1) := by decide +kernel
theorem dX9_begin_5 : decode cX9_begin 5 = .ok (.getfield 129, 3) := by decide +kernel
theorem dX9_begin_8 : decode cX9_begin 8 = .ok (.iload_n 1, 1) := by decide +kernel
theorem dX9_begin_9 : decode cX9_begin 9 = .ok (.i2l, 1) := by decide +kernel
theorem dX9_begin_10 : decode cX9_begin 10 = .ok (.ldc2_w 132, 3) := by decide +kernel
theorem dX9_begin_13 : decode cX9_begin 13 = .ok (.ldc2_w 134, 3) := by decide +kernel
theorem dX9_begin_16 : decode cX9_begin 16 = .ok (.invokestatic 80, 3) := by decide +kernel
theorem dX9_begin_19 : decode cX9_begin 19 = .ok (.ifCond .eq 10, 3) := by decide +kernel
theorem dX9_begin_22 : decode cX9_begin 22 = .ok (.iload_n 1, 1) := by decide +kernel
theorem dX9_begin_23 : decode cX9_begin 23 = .ok (.bipush 65, 2) := by decide +kernel
theorem dX9_begin_25 : decode cX9_begin 25 = .ok (.isub, 1) := by decide +kernel
theorem dX9_begin_26 : decode cX9_begin 26 = .ok (.goto 4, 3) := by decide +kernel
theorem dX9_begin_29 : decode cX9_begin 29 = .ok (.iconst 0, 1) := by decide +kernel
theorem dX9_begin_30 : decode cX9_begin 30 = .ok (.iastore, 1) := by decide +kernel
theorem dX9_begin_31 : decode cX9_begin 31 = .ok (.iload_n 1, 1) := by decide +kernel
theorem dX9_begin_32 : decode cX9_begin 32 = .ok (.lookupswitch 88 #[(46, 80), (112, 73), (116, 66), (119, 52), (120, 59)], 52) := by decide +kernel
theorem dX9_begin_84 : decode cX9_begin 84 = .ok (.aload_n 0, 1) := by decide +kernel
theorem dX9_begin_85 : decode cX9_begin 85 = .ok (.iconst 0, 1) := by decide +kernel
theorem dX9_begin_86 : decode cX9_begin 86 = .ok (.iconst 1, 1) := by decide +kernel
theorem dX9_begin_87 : decode cX9_begin 87 = .ok (.invokevirtual 136, 3) := by decide +kernel
theorem dX9_begin_90 : decode cX9_begin 90 = .ok (.ireturn, 1) := by decide +kernel
theorem dX9_begin_91 : decode cX9_begin 91 = .ok (.aload_n 0, 1) := by decide +kernel
theorem dX9_begin_92 : decode cX9_begin 92 = .ok (.iconst 1, 1) := by decide +kernel
theorem dX9_begin_93 : decode cX9_begin 93 = .ok (.iconst 1, 1) := by decide +kernel
theorem dX9_begin_94 : decode cX9_begin 94 = .ok (.invokevirtual 136, 3) := by decide +kernel
theorem dX9_begin_97 : decode cX9_begin 97 = .ok (.ireturn, 1) := by decide +kernel
theorem dX9_begin_98 : decode cX9_begin 98 = .ok (.aload_n 0, 1) := by decide +kernel
theorem dX9_begin_99 : decode cX9_begin 99 = .ok (.iconst 2, 1) := by decide +kernel
theorem dX9_begin_100 : decode cX9_begin 100 = .ok (.iconst 3, 1) := by decide +kernel
theorem dX9_begin_101 : decode cX9_begin 101 = .ok (.invokevirtual 136, 3) := by decide +kernel
theorem dX9_begin_104 : decode cX9_begin 104 = .ok (.ireturn, 1) := by decide +kernel
theorem dX9_begin_105 : decode cX9_begin 105 = .ok (.aload_n 0, 1) := by decide +kernel
theorem dX9_begin_106 : decode cX9_begin 106 = .ok (.iconst 3, 1) := by decide +kernel
theorem dX9_begin_107 : decode cX9_begin 107 = .ok (.iconst 0, 1) := by decide +kernel
theorem dX9_begin_108 : decode cX9_begin 108 = .ok (.invokevirtual 140, 3) := by decide +kernel
theorem dX9_begin_111 : decode cX9_begin 111 = .ok (.ireturn, 1) := by decide +kernel
theorem dX9_begin_112 : decode cX9_begin 112 = .ok (.aload_n 0, 1) := by decide +kernel
theorem dX9_begin_113 : decode cX9_begin 113 = .ok (.bipush 9, 2) := by decide +kernel
theorem dX9_begin_115 : decode cX9_begin 115 = .ok (.iconst 0, 1) := by decide +kernel
theorem dX9_begin_116 : decode cX9_begin 116 = .ok (.invokevirtual 140, 3) := by decide +kernel
theorem dX9_begin_119 : decode cX9_begin 119 = .ok (.ireturn, 1) := by decide +kernel
theorem dX9_begin_120 : decode cX9_begin 120 = .ok (.iload_n 1, 1) := by decide +kernel
theorem dX9_begin_121 : decode cX9_begin 121 = .ok (.i2l, 1) := by decide +kernel
theorem dX9_begin_122 : decode cX9_begin 122 = .ok (.ldc2_w 132, 3) := by decide +kernel
theorem dX9_begin_125 : decode cX9_begin 125 = .ok (.ldc2_w 134, 3) := by decide +kernel
theorem dX9_begin_128 : decode cX9_begin 128 = .ok (.invokestatic 80, 3) := by decide +kernel
theorem dX9_begin_131 : decode cX9_begin 131 = .ok (.ifCond .eq 7, 3) := by decide +kernel
theorem dX9_begin_134 : decode cX9_begin 134 = .ok (.iconst 5, 1) := by decide +kernel
theorem dX9_begin_135 : decode cX9_begin 135 = .ok (.goto 5, 3) := by decide +kernel
theorem dX9_begin_138 : decode cX9_begin 138 = .ok (.bipush (-6), 2) := by decide +kernel
theorem dX9_begin_140 : decode cX9_begin 140 = .ok (.ireturn, 1) := by decide +kernel
theorem dX9_deed_0 : decode cX9_deed 0 = .ok (.iload_n 1, 1) := by decide +kernel
theorem dX9_deed_1 : decode cX9_deed 1 = .ok (.tableswitch 76 33 41 #[68, 76, 76, 65, 76, 76, 76, 51, 58], 51) := by decide +kernel
theorem dX9_deed_52 : decode cX9_deed 52 = .ok (.aload_n 0, 1) := by decide +kernel
theorem dX9_deed_53 : decode cX9_deed 53 = .ok (.iconst 4, 1) := by decide +kernel
theorem dX9_deed_54 : decode cX9_deed 54 = .ok (.iconst 0, 1) := by decide +kernel
theorem dX9_deed_55 : decode cX9_deed 55 = .ok (.invokevirtual 140, 3) := by decide +kernel
theorem dX9_deed_58 : decode cX9_deed 58 = .ok (.ireturn, 1) := by decide +kernel
theorem dX9_deed_59 : decode cX9_deed 59 = .ok (.aload_n 0, 1) := by decide +kernel
theorem dX9_deed_60 : decode cX9_deed 60 = .ok (.iconst 5, 1) := by decide +kernel
theorem dX9_deed_61 : decode cX9_deed 61 = .ok (.iconst 0, 1) := by decide +kernel
theorem dX9_deed_62 : decode cX9_deed 62 = .ok (.invokevirtual 140, 3) := by decide +kernel
theorem dX9_deed_65 : decode cX9_deed 65 = .ok (.ireturn, 1) := by decide +kernel
theorem dX9_deed_66 : decode cX9_deed 66 = .ok (.bipush 6, 2) := by decide +kernel
theorem dX9_deed_68 : decode cX9_deed 68 = .ok (.ireturn, 1) := by decide +kernel
theorem dX9_deed_69 : decode cX9_deed 69 = .ok (.aload_n 0, 1) := by decide +kernel
theorem dX9_deed_70 : decode cX9_deed 70 = .ok (.bipush 8, 2) := by decide +kernel
theorem dX9_deed_72 : decode cX9_deed 72 = .ok (.iconst 0, 1) := by decide +kernel
theorem dX9_deed_73 : decode cX9_deed 73 = .ok (.invokevirtual 140, 3) := by decide +kernel
theorem dX9_deed_76 : decode cX9_deed 76 = .ok (.ireturn, 1) := by decide +kernel
theorem dX9_deed_77 : decode cX9_deed 77 = .ok (.iload_n 1, 1) := by decide +kernel
theorem dX9_deed_78 : decode cX9_deed 78 = .ok (.i2l, 1) := by decide +kernel
theorem dX9_deed_79 : decode cX9_deed 79 = .ok (.ldc2_w 143, 3) := by decide +kernel
theorem dX9_deed_82 : decode cX9_deed 82 = .ok (.ldc2_w 145, 3) := by decide +kernel
theorem dX9_deed_85 : decode cX9_deed 85 = .ok (.invokestatic 80, 3) := by decide +kernel
theorem dX9_deed_88 : decode cX9_deed 88 = .ok (.ifCond .eq 16, 3) := by decide +kernel
theorem dX9_deed_91 : decode cX9_deed 91 = .ok (.aload_n 0, 1) := by decide +kernel
theorem dX9_deed_92 : decode cX9_deed 92 = .ok (.bipush 6, 2) := by decide +kernel
theorem dX9_deed_94 : decode cX9_deed 94 = .ok (.iload_n 1, 1) := by decide +kernel
theorem dX9_deed_95 : decode cX9_deed 95 = .ok (.bipush 97, 2) := by decide +kernel
theorem dX9_deed_97 : decode cX9_deed 97 = .ok (.isub, 1) := by decide +kernel
theorem dX9_deed_98 : decode cX9_deed 98 = .ok (.invokevirtual 140, 3) := by decide +kernel
theorem dX9_deed_101 : decode cX9_deed 101 = .ok (.goto 5, 3) := by decide +kernel
theorem dX9_deed_104 : decode cX9_deed 104 = .ok (.bipush (-6), 2) := by decide +kernel
theorem dX9_deed_106 : decode cX9_deed 106 = .ok (.ireturn, 1) := by decide +kernel
theorem dX9_begun_0 : decode cX9_begun 0 = .ok (.aload_n 0, 1) := by decide +kernel
theorem dX9_begun_1 : decode cX9_begun 1 = .ok (.getfield 52, 3) := by decide +kernel
theorem dX9_begun_4 : decode cX9_begun 4 = .ok (.aload_n 0, 1) := by decide +kernel
theorem dX9_begun_5 : decode cX9_begun 5 = .ok (.getfield 129, 3) := by decide +kernel
theorem dX9_begun_8 : decode cX9_begun 8 = .ok (.iload_n 1, 1) := by decide +kernel
theorem dX9_begun_9 : decode cX9_begun 9 = .ok (.iastore, 1) := by decide +kernel
theorem dX9_begun_10 : decode cX9_begun 10 = .ok (.iload_n 2, 1) := by decide +kernel
theorem dX9_begun_11 : decode cX9_begun 11 = .ok (.ireturn, 1) := by decide +kernel
theorem dX9_readOn_0 : decode cX9_readOn 0 = .ok (.iload_n 2, 1) := by decide +kernel
theorem dX9_readOn_1 : decode cX9_readOn 1 = .ok (.i2l, 1) := by decide +kernel
theorem dX9_readOn_2 : decode cX9_readOn 2 = .ok (.ldc2_w 143, 3) := by decide +kernel
theorem dX9_readOn_5 : decode cX9_readOn 5 = .ok (.ldc2_w 145, 3) := by decide +kernel
theorem dX9_readOn_8 : decode cX9_readOn 8 = .ok (.invokestatic 80, 3) := by decide +kernel
theorem dX9_readOn_11 : decode cX9_readOn 11 = .ok (.istore_n 3, 1) := by decide +kernel
theorem dX9_readOn_12 : decode cX9_readOn 12 = .ok (.iload_n 2, 1) := by decide +kernel
theorem dX9_readOn_13 : decode cX9_readOn 13 = .ok (.i2l, 1) := by decide +kernel
theorem dX9_readOn_14 : decode cX9_readOn 14 = .ok (.ldc2_w 147, 3) := by decide +kernel
theorem dX9_readOn_17 : decode cX9_readOn 17 = .ok (.ldc2_w 149, 3) := by decide +kernel
theorem dX9_readOn_20 : decode cX9_readOn 20 = .ok (.invokestatic 80, 3) := by decide +kernel
theorem dX9_readOn_23 : decode cX9_readOn 23 = .ok (.istore 4, 2) := by decide +kernel
theorem dX9_readOn_25 : decode cX9_readOn 25 = .ok (.iload_n 1, 1) := by decide +kernel
theorem dX9_readOn_26 : decode cX9_readOn 26 = .ok (.tableswitch 114 0 6 #[42, 48, 114, 67, 114, 87, 93], 42) := by decide +kernel
theorem dX9_readOn_68 : decode cX9_readOn 68 = .ok (.aload_n 0, 1) := by decide +kernel
theorem dX9_readOn_69 : decode cX9_readOn 69 = .ok (.iload_n 2, 1) := by decide +kernel
theorem dX9_readOn_70 : decode cX9_readOn 70 = .ok (.invokevirtual 151, 3) := by decide +kernel
theorem dX9_readOn_73 : decode cX9_readOn 73 = .ok (.ireturn, 1) := by decide +kernel
theorem dX9_readOn_74 : decode cX9_readOn 74 = .ok (.iload_n 3, 1) := by decide +kernel
theorem dX9_readOn_75 : decode cX9_readOn 75 = .ok (.ifCond .eq 15, 3) := by decide +kernel
theorem dX9_readOn_78 : decode cX9_readOn 78 = .ok (.aload_n 0, 1) := by decide +kernel
theorem dX9_readOn_79 : decode cX9_readOn 79 = .ok (.iload_n 2, 1) := by decide +kernel
theorem dX9_readOn_80 : decode cX9_readOn 80 = .ok (.bipush 97, 2) := by decide +kernel
theorem dX9_readOn_82 : decode cX9_readOn 82 = .ok (.isub, 1) := by decide +kernel
theorem dX9_readOn_83 : decode cX9_readOn 83 = .ok (.iconst 2, 1) := by decide +kernel
theorem dX9_readOn_84 : decode cX9_readOn 84 = .ok (.invokevirtual 154, 3) := by decide +kernel
theorem dX9_readOn_87 : decode cX9_readOn 87 = .ok (.goto 5, 3) := by decide +kernel
theorem dX9_readOn_90 : decode cX9_readOn 90 = .ok (.bipush (-6), 2) := by decide +kernel
theorem dX9_readOn_92 : decode cX9_readOn 92 = .ok (.ireturn, 1) := by decide +kernel
theorem dX9_readOn_93 : decode cX9_readOn 93 = .ok (.iload 4, 2) := by decide +kernel
theorem dX9_readOn_95 : decode cX9_readOn 95 = .ok (.ifCond .eq 15, 3) := by decide +kernel
theorem dX9_readOn_98 : decode cX9_readOn 98 = .ok (.aload_n 0, 1) := by decide +kernel
theorem dX9_readOn_99 : decode cX9_readOn 99 = .ok (.iload_n 2, 1) := by decide +kernel
theorem dX9_readOn_100 : decode cX9_readOn 100 = .ok (.bipush 48, 2) := by decide +kernel
theorem dX9_readOn_102 : decode cX9_readOn 102 = .ok (.isub, 1) := by decide +kernel
theorem dX9_readOn_103 : decode cX9_readOn 103 = .ok (.iconst 4, 1) := by decide +kernel
theorem dX9_readOn_104 : decode cX9_readOn 104 = .ok (.invokevirtual 154, 3) := by decide +kernel
theorem dX9_readOn_107 : decode cX9_readOn 107 = .ok (.goto 5, 3) := by decide +kernel
theorem dX9_readOn_110 : decode cX9_readOn 110 = .ok (.bipush (-6), 2) := by decide +kernel
theorem dX9_readOn_112 : decode cX9_readOn 112 = .ok (.ireturn, 1) := by decide +kernel
theorem dX9_readOn_113 : decode cX9_readOn 113 = .ok (.aload_n 0, 1) := by decide +kernel
theorem dX9_readOn_114 : decode cX9_readOn 114 = .ok (.iload_n 2, 1) := by decide +kernel
theorem dX9_readOn_115 : decode cX9_readOn 115 = .ok (.invokevirtual 157, 3) := by decide +kernel
theorem dX9_readOn_118 : decode cX9_readOn 118 = .ok (.ireturn, 1) := by decide +kernel
theorem dX9_readOn_119 : decode cX9_readOn 119 = .ok (.iload 4, 2) := by decide +kernel
theorem dX9_readOn_121 : decode cX9_readOn 121 = .ok (.ifCond .eq 16, 3) := by decide +kernel
theorem dX9_readOn_124 : decode cX9_readOn 124 = .ok (.aload_n 0, 1) := by decide +kernel
theorem dX9_readOn_125 : decode cX9_readOn 125 = .ok (.bipush 7, 2) := by decide +kernel
theorem dX9_readOn_127 : decode cX9_readOn 127 = .ok (.iload_n 2, 1) := by decide +kernel
theorem dX9_readOn_128 : decode cX9_readOn 128 = .ok (.bipush 48, 2) := by decide +kernel
theorem dX9_readOn_130 : decode cX9_readOn 130 = .ok (.isub, 1) := by decide +kernel
theorem dX9_readOn_131 : decode cX9_readOn 131 = .ok (.invokevirtual 140, 3) := by decide +kernel
theorem dX9_readOn_134 : decode cX9_readOn 134 = .ok (.goto 5, 3) := by decide +kernel
theorem dX9_readOn_137 : decode cX9_readOn 137 = .ok (.bipush (-6), 2) := by decide +kernel
theorem dX9_readOn_139 : decode cX9_readOn 139 = .ok (.ireturn, 1) := by decide +kernel
theorem dX9_readOn_140 : decode cX9_readOn 140 = .ok (.iload_n 3, 1) := by decide +kernel
theorem dX9_readOn_141 : decode cX9_readOn 141 = .ok (.ifCond .eq 23, 3) := by decide +kernel
theorem dX9_readOn_144 : decode cX9_readOn 144 = .ok (.aload_n 0, 1) := by decide +kernel
theorem dX9_readOn_145 : decode cX9_readOn 145 = .ok (.aload_n 0, 1) := by decide +kernel
theorem dX9_readOn_146 : decode cX9_readOn 146 = .ok (.getfield 49, 3) := by decide +kernel
theorem dX9_readOn_149 : decode cX9_readOn 149 = .ok (.aload_n 0, 1) := by decide +kernel
theorem dX9_readOn_150 : decode cX9_readOn 150 = .ok (.getfield 129, 3) := by decide +kernel
theorem dX9_readOn_153 : decode cX9_readOn 153 = .ok (.iaload, 1) := by decide +kernel
theorem dX9_readOn_154 : decode cX9_readOn 154 = .ok (.iload_n 2, 1) := by decide +kernel
theorem dX9_readOn_155 : decode cX9_readOn 155 = .ok (.bipush 97, 2) := by decide +kernel
theorem dX9_readOn_157 : decode cX9_readOn 157 = .ok (.isub, 1) := by decide +kernel
theorem dX9_readOn_158 : decode cX9_readOn 158 = .ok (.invokevirtual 140, 3) := by decide +kernel
theorem dX9_readOn_161 : decode cX9_readOn 161 = .ok (.goto 5, 3) := by decide +kernel
theorem dX9_readOn_164 : decode cX9_readOn 164 = .ok (.bipush (-6), 2) := by decide +kernel
theorem dX9_readOn_166 : decode cX9_readOn 166 = .ok (.ireturn, 1) := by decide +kernel
theorem dX9_fault_0 : decode cX9_fault 0 = .ok (.aload_n 0, 1) := by decide +kernel
theorem dX9_fault_1 : decode cX9_fault 1 = .ok (.iconst 0, 1) := by decide +kernel
theorem dX9_fault_2 : decode cX9_fault 2 = .ok (.putfield 129, 3) := by decide +kernel
theorem dX9_fault_5 : decode cX9_fault 5 = .ok (.iconst 0, 1) := by decide +kernel
theorem dX9_fault_6 : decode cX9_fault 6 = .ok (.istore_n 1, 1) := by decide +kernel
theorem dX9_fault_7 : decode cX9_fault 7 = .ok (.iconst 0, 1) := by decide +kernel
theorem dX9_fault_8 : decode cX9_fault 8 = .ok (.istore_n 2, 1) := by decide +kernel
theorem dX9_fault_9 : decode cX9_fault 9 = .ok (.iload_n 2, 1) := by decide +kernel
theorem dX9_fault_10 : decode cX9_fault 10 = .ok (.aload_n 0, 1) := by decide +kernel
theorem dX9_fault_11 : decode cX9_fault 11 = .ok (.getfield 126, 3) := by decide +kernel
theorem dX9_fault_14 : decode cX9_fault 14 = .ok (.if_icmp .ge 27, 3) := by decide +kernel
theorem dX9_fault_17 : decode cX9_fault 17 = .ok (.aload_n 0, 1) := by decide +kernel
theorem dX9_fault_18 : decode cX9_fault 18 = .ok (.iload_n 1, 1) := by decide +kernel
theorem dX9_fault_19 : decode cX9_fault 19 = .ok (.aload_n 0, 1) := by decide +kernel
theorem dX9_fault_20 : decode cX9_fault 20 = .ok (.getfield 46, 3) := by decide +kernel
theorem dX9_fault_23 : decode cX9_fault 23 = .ok (.iload_n 2, 1) := by decide +kernel
theorem dX9_fault_24 : decode cX9_fault 24 = .ok (.iaload, 1) := by decide +kernel
theorem dX9_fault_25 : decode cX9_fault 25 = .ok (.invokevirtual 160, 3) := by decide +kernel
theorem dX9_fault_28 : decode cX9_fault 28 = .ok (.istore_n 1, 1) := by decide +kernel
theorem dX9_fault_29 : decode cX9_fault 29 = .ok (.iload_n 1, 1) := by decide +kernel
theorem dX9_fault_30 : decode cX9_fault 30 = .ok (.ifCond .ge 5, 3) := by decide +kernel
theorem dX9_fault_33 : decode cX9_fault 33 = .ok (.iload_n 2, 1) := by decide +kernel
theorem dX9_fault_34 : decode cX9_fault 34 = .ok (.ireturn, 1) := by decide +kernel
theorem dX9_fault_35 : decode cX9_fault 35 = .ok (.iinc 2 1, 3) := by decide +kernel
theorem dX9_fault_38 : decode cX9_fault 38 = .ok (.goto (-29), 3) := by decide +kernel
theorem dX9_fault_41 : decode cX9_fault 41 = .ok (.iload_n 1, 1) := by decide +kernel
theorem dX9_fault_42 : decode cX9_fault 42 = .ok (.ifCond .ne 8, 3) := by decide +kernel
theorem dX9_fault_45 : decode cX9_fault 45 = .ok (.bipush (-6), 2) := by decide +kernel
theorem dX9_fault_47 : decode cX9_fault 47 = .ok (.goto 7, 3) := by decide +kernel
theorem dX9_fault_50 : decode cX9_fault 50 = .ok (.aload_n 0, 1) := by decide +kernel
theorem dX9_fault_51 : decode cX9_fault 51 = .ok (.getfield 126, 3) := by decide +kernel
theorem dX9_fault_54 : decode cX9_fault 54 = .ok (.ireturn, 1) := by decide +kernel
theorem dX9_whyNoWay_0 : decode cX9_whyNoWay 0 = .ok (.iload_n 1, 1) := by decide +kernel
theorem dX9_whyNoWay_1 : decode cX9_whyNoWay 1 = .ok (.iload_n 2, 1) := by decide +kernel
theorem dX9_whyNoWay_2 : decode cX9_whyNoWay 2 = .ok (.if_icmp .ne 7, 3) := by decide +kernel
theorem dX9_whyNoWay_5 : decode cX9_whyNoWay 5 = .ok (.iconst 1, 1) := by decide +kernel
theorem dX9_whyNoWay_6 : decode cX9_whyNoWay 6 = .ok (.goto 22, 3) := by decide +kernel
theorem dX9_whyNoWay_9 : decode cX9_whyNoWay 9 = .ok (.aload_n 0, 1) := by decide +kernel
theorem dX9_whyNoWay_10 : decode cX9_whyNoWay 10 = .ok (.getfield 7, 3) := by decide +kernel
theorem dX9_whyNoWay_13 : decode cX9_whyNoWay 13 = .ok (.iload_n 1, 1) := by decide +kernel
theorem dX9_whyNoWay_14 : decode cX9_whyNoWay 14 = .ok (.iaload, 1) := by decide +kernel
theorem dX9_whyNoWay_15 : decode cX9_whyNoWay 15 = .ok (.iload_n 2, 1) := by decide +kernel
theorem dX9_whyNoWay_16 : decode cX9_whyNoWay 16 = .ok (.invokestatic 163, 3) := by decide +kernel
theorem dX9_whyNoWay_19 : decode cX9_whyNoWay 19 = .ok (.iload_n 3, 1) := by decide +kernel
theorem dX9_whyNoWay_20 : decode cX9_whyNoWay 20 = .ok (.if_icmp .ne 7, 3) := by decide +kernel
theorem dX9_whyNoWay_23 : decode cX9_whyNoWay 23 = .ok (.iconst 0, 1) := by decide +kernel
theorem dX9_whyNoWay_24 : decode cX9_whyNoWay 24 = .ok (.goto 4, 3) := by decide +kernel
theorem dX9_whyNoWay_27 : decode cX9_whyNoWay 27 = .ok (.iconst 2, 1) := by decide +kernel
theorem dX9_whyNoWay_28 : decode cX9_whyNoWay 28 = .ok (.ireturn, 1) := by decide +kernel
theorem dX9_whyNotBack_0 : decode cX9_whyNotBack 0 = .ok (.aload_n 0, 1) := by decide +kernel
theorem dX9_whyNotBack_1 : decode cX9_whyNotBack 1 = .ok (.getfield 74, 3) := by decide +kernel
theorem dX9_whyNotBack_4 : decode cX9_whyNotBack 4 = .ok (.ifCond .ne 8, 3) := by decide +kernel
theorem dX9_whyNotBack_7 : decode cX9_whyNotBack 7 = .ok (.bipush 6, 2) := by decide +kernel
theorem dX9_whyNotBack_9 : decode cX9_whyNotBack 9 = .ok (.goto 18, 3) := by decide +kernel
theorem dX9_whyNotBack_12 : decode cX9_whyNotBack 12 = .ok (.aload_n 0, 1) := by decide +kernel
theorem dX9_whyNotBack_13 : decode cX9_whyNotBack 13 = .ok (.getfield 16, 3) := by decide +kernel
theorem dX9_whyNotBack_16 : decode cX9_whyNotBack 16 = .ok (.iload_n 1, 1) := by decide +kernel
theorem dX9_whyNotBack_17 : decode cX9_whyNotBack 17 = .ok (.iaload, 1) := by decide +kernel
theorem dX9_whyNotBack_18 : decode cX9_whyNotBack 18 = .ok (.ifCond .ne 7, 3) := by decide +kernel
theorem dX9_whyNotBack_21 : decode cX9_whyNotBack 21 = .ok (.iconst 0, 1) := by decide +kernel
theorem dX9_whyNotBack_22 : decode cX9_whyNotBack 22 = .ok (.goto 5, 3) := by decide +kernel
theorem dX9_whyNotBack_25 : decode cX9_whyNotBack 25 = .ok (.bipush 7, 2) := by decide +kernel
theorem dX9_whyNotBack_27 : decode cX9_whyNotBack 27 = .ok (.ireturn, 1) := by decide +kernel
theorem dX9_whyNotDeed_0 : decode cX9_whyNotDeed 0 = .ok (.aload_n 0, 1) := by decide +kernel
theorem dX9_whyNotDeed_1 : decode cX9_whyNotDeed 1 = .ok (.getfield 16, 3) := by decide +kernel
theorem dX9_whyNotDeed_4 : decode cX9_whyNotDeed 4 = .ok (.iload_n 2, 1) := by decide +kernel
theorem dX9_whyNotDeed_5 : decode cX9_whyNotDeed 5 = .ok (.iaload, 1) := by decide +kernel
theorem dX9_whyNotDeed_6 : decode cX9_whyNotDeed 6 = .ok (.ifCond .ge 5, 3) := by decide +kernel
theorem dX9_whyNotDeed_9 : decode cX9_whyNotDeed 9 = .ok (.iconst 4, 1) := by decide +kernel
theorem dX9_whyNotDeed_10 : decode cX9_whyNotDeed 10 = .ok (.ireturn, 1) := by decide +kernel
theorem dX9_whyNotDeed_11 : decode cX9_whyNotDeed 11 = .ok (.aload_n 0, 1) := by decide +kernel
theorem dX9_whyNotDeed_12 : decode cX9_whyNotDeed 12 = .ok (.getfield 22, 3) := by decide +kernel
theorem dX9_whyNotDeed_15 : decode cX9_whyNotDeed 15 = .ok (.iload_n 2, 1) := by decide +kernel
theorem dX9_whyNotDeed_16 : decode cX9_whyNotDeed 16 = .ok (.iaload, 1) := by decide +kernel
theorem dX9_whyNotDeed_17 : decode cX9_whyNotDeed 17 = .ok (.iconst 1, 1) := by decide +kernel
theorem dX9_whyNotDeed_18 : decode cX9_whyNotDeed 18 = .ok (.if_icmp .ne 5, 3) := by decide +kernel
theorem dX9_whyNotDeed_21 : decode cX9_whyNotDeed 21 = .ok (.iconst 5, 1) := by decide +kernel
theorem dX9_whyNotDeed_22 : decode cX9_whyNotDeed 22 = .ok (.ireturn, 1) := by decide +kernel
theorem dX9_whyNotDeed_23 : decode cX9_whyNotDeed 23 = .ok (.iload_n 1, 1) := by decide +kernel
theorem dX9_whyNotDeed_24 : decode cX9_whyNotDeed 24 = .ok (.tableswitch 81 5 7 #[28, 34, 59], 28) := by decide +kernel
theorem dX9_whyNotDeed_52 : decode cX9_whyNotDeed 52 = .ok (.aload_n 0, 1) := by decide +kernel
theorem dX9_whyNotDeed_53 : decode cX9_whyNotDeed 53 = .ok (.iload_n 2, 1) := by decide +kernel
theorem dX9_whyNotDeed_54 : decode cX9_whyNotDeed 54 = .ok (.invokevirtual 167, 3) := by decide +kernel
theorem dX9_whyNotDeed_57 : decode cX9_whyNotDeed 57 = .ok (.ireturn, 1) := by decide +kernel
theorem dX9_whyNotDeed_58 : decode cX9_whyNotDeed 58 = .ok (.aload_n 0, 1) := by decide +kernel
theorem dX9_whyNotDeed_59 : decode cX9_whyNotDeed 59 = .ok (.getfield 7, 3) := by decide +kernel
theorem dX9_whyNotDeed_62 : decode cX9_whyNotDeed 62 = .ok (.aload_n 0, 1) := by decide +kernel
theorem dX9_whyNotDeed_63 : decode cX9_whyNotDeed 63 = .ok (.getfield 16, 3) := by decide +kernel
theorem dX9_whyNotDeed_66 : decode cX9_whyNotDeed 66 = .ok (.iload_n 2, 1) := by decide +kernel
theorem dX9_whyNotDeed_67 : decode cX9_whyNotDeed 67 = .ok (.iaload, 1) := by decide +kernel
theorem dX9_whyNotDeed_68 : decode cX9_whyNotDeed 68 = .ok (.iaload, 1) := by decide +kernel
theorem dX9_whyNotDeed_69 : decode cX9_whyNotDeed 69 = .ok (.iload_n 3, 1) := by decide +kernel
theorem dX9_whyNotDeed_70 : decode cX9_whyNotDeed 70 = .ok (.invokestatic 163, 3) := by decide +kernel
theorem dX9_whyNotDeed_73 : decode cX9_whyNotDeed 73 = .ok (.ifCond .eq 7, 3) := by decide +kernel
theorem dX9_whyNotDeed_76 : decode cX9_whyNotDeed 76 = .ok (.iconst 0, 1) := by decide +kernel
theorem dX9_whyNotDeed_77 : decode cX9_whyNotDeed 77 = .ok (.goto 5, 3) := by decide +kernel
theorem dX9_whyNotDeed_80 : decode cX9_whyNotDeed 80 = .ok (.bipush 8, 2) := by decide +kernel
theorem dX9_whyNotDeed_82 : decode cX9_whyNotDeed 82 = .ok (.ireturn, 1) := by decide +kernel
theorem dX9_whyNotDeed_83 : decode cX9_whyNotDeed 83 = .ok (.aload_n 0, 1) := by decide +kernel
theorem dX9_whyNotDeed_84 : decode cX9_whyNotDeed 84 = .ok (.getfield 13, 3) := by decide +kernel
theorem dX9_whyNotDeed_87 : decode cX9_whyNotDeed 87 = .ok (.iload_n 3, 1) := by decide +kernel
theorem dX9_whyNotDeed_88 : decode cX9_whyNotDeed 88 = .ok (.iaload, 1) := by decide +kernel
theorem dX9_whyNotDeed_89 : decode cX9_whyNotDeed 89 = .ok (.aload_n 0, 1) := by decide +kernel
theorem dX9_whyNotDeed_90 : decode cX9_whyNotDeed 90 = .ok (.getfield 16, 3) := by decide +kernel
theorem dX9_whyNotDeed_93 : decode cX9_whyNotDeed 93 = .ok (.iload_n 2, 1) := by decide +kernel
theorem dX9_whyNotDeed_94 : decode cX9_whyNotDeed 94 = .ok (.iaload, 1) := by decide +kernel
theorem dX9_whyNotDeed_95 : decode cX9_whyNotDeed 95 = .ok (.if_icmp .ne 7, 3) := by decide +kernel
theorem dX9_whyNotDeed_98 : decode cX9_whyNotDeed 98 = .ok (.iconst 0, 1) := by decide +kernel
theorem dX9_whyNotDeed_99 : decode cX9_whyNotDeed 99 = .ok (.goto 5, 3) := by decide +kernel
theorem dX9_whyNotDeed_102 : decode cX9_whyNotDeed 102 = .ok (.bipush 9, 2) := by decide +kernel
theorem dX9_whyNotDeed_104 : decode cX9_whyNotDeed 104 = .ok (.ireturn, 1) := by decide +kernel
theorem dX9_whyNotDeed_105 : decode cX9_whyNotDeed 105 = .ok (.iconst 0, 1) := by decide +kernel
theorem dX9_whyNotDeed_106 : decode cX9_whyNotDeed 106 = .ok (.ireturn, 1) := by decide +kernel
theorem dX9_whyNot_0 : decode cX9_whyNot 0 = .ok (.iload_n 1, 1) := by decide +kernel
theorem dX9_whyNot_1 : decode cX9_whyNot 1 = .ok (.tableswitch 133 0 9 #[55, 63, 71, 88, 90, 133, 133, 133, 133, 117], 55) := by decide +kernel
theorem dX9_whyNot_56 : decode cX9_whyNot 56 = .ok (.aload_n 0, 1) := by decide +kernel
theorem dX9_whyNot_57 : decode cX9_whyNot 57 = .ok (.iload_n 2, 1) := by decide +kernel
theorem dX9_whyNot_58 : decode cX9_whyNot 58 = .ok (.iload_n 3, 1) := by decide +kernel
theorem dX9_whyNot_59 : decode cX9_whyNot 59 = .ok (.iconst 0, 1) := by decide +kernel
theorem dX9_whyNot_60 : decode cX9_whyNot 60 = .ok (.invokevirtual 170, 3) := by decide +kernel
theorem dX9_whyNot_63 : decode cX9_whyNot 63 = .ok (.ireturn, 1) := by decide +kernel
theorem dX9_whyNot_64 : decode cX9_whyNot 64 = .ok (.aload_n 0, 1) := by decide +kernel
theorem dX9_whyNot_65 : decode cX9_whyNot 65 = .ok (.iload_n 2, 1) := by decide +kernel
theorem dX9_whyNot_66 : decode cX9_whyNot 66 = .ok (.iload_n 3, 1) := by decide +kernel
theorem dX9_whyNot_67 : decode cX9_whyNot 67 = .ok (.iconst 1, 1) := by decide +kernel
theorem dX9_whyNot_68 : decode cX9_whyNot 68 = .ok (.invokevirtual 170, 3) := by decide +kernel
theorem dX9_whyNot_71 : decode cX9_whyNot 71 = .ok (.ireturn, 1) := by decide +kernel
theorem dX9_whyNot_72 : decode cX9_whyNot 72 = .ok (.aload_n 0, 1) := by decide +kernel
theorem dX9_whyNot_73 : decode cX9_whyNot 73 = .ok (.getfield 13, 3) := by decide +kernel
theorem dX9_whyNot_76 : decode cX9_whyNot 76 = .ok (.iload_n 2, 1) := by decide +kernel
theorem dX9_whyNot_77 : decode cX9_whyNot 77 = .ok (.iaload, 1) := by decide +kernel
theorem dX9_whyNot_78 : decode cX9_whyNot 78 = .ok (.bipush (-6), 2) := by decide +kernel
theorem dX9_whyNot_80 : decode cX9_whyNot 80 = .ok (.if_icmp .ne 7, 3) := by decide +kernel
theorem dX9_whyNot_83 : decode cX9_whyNot 83 = .ok (.iconst 0, 1) := by decide +kernel
theorem dX9_whyNot_84 : decode cX9_whyNot 84 = .ok (.goto 4, 3) := by decide +kernel
theorem dX9_whyNot_87 : decode cX9_whyNot 87 = .ok (.iconst 3, 1) := by decide +kernel
theorem dX9_whyNot_88 : decode cX9_whyNot 88 = .ok (.ireturn, 1) := by decide +kernel
theorem dX9_whyNot_89 : decode cX9_whyNot 89 = .ok (.iconst 0, 1) := by decide +kernel
theorem dX9_whyNot_90 : decode cX9_whyNot 90 = .ok (.ireturn, 1) := by decide +kernel
theorem dX9_whyNot_91 : decode cX9_whyNot 91 = .ok (.aload_n 0, 1) := by decide +kernel
theorem dX9_whyNot_92 : decode cX9_whyNot 92 = .ok (.getfield 16, 3) := by decide +kernel
theorem dX9_whyNot_95 : decode cX9_whyNot 95 = .ok (.iload_n 2, 1) := by decide +kernel
theorem dX9_whyNot_96 : decode cX9_whyNot 96 = .ok (.iaload, 1) := by decide +kernel
theorem dX9_whyNot_97 : decode cX9_whyNot 97 = .ok (.ifCond .lt 7, 3) := by decide +kernel
theorem dX9_whyNot_100 : decode cX9_whyNot 100 = .ok (.iconst 4, 1) := by decide +kernel
theorem dX9_whyNot_101 : decode cX9_whyNot 101 = .ok (.goto 16, 3) := by decide +kernel
theorem dX9_whyNot_104 : decode cX9_whyNot 104 = .ok (.aload_n 0, 1) := by decide +kernel
theorem dX9_whyNot_105 : decode cX9_whyNot 105 = .ok (.getfield 74, 3) := by decide +kernel
theorem dX9_whyNot_108 : decode cX9_whyNot 108 = .ok (.ifCond .ne 8, 3) := by decide +kernel
theorem dX9_whyNot_111 : decode cX9_whyNot 111 = .ok (.bipush 6, 2) := by decide +kernel
theorem dX9_whyNot_113 : decode cX9_whyNot 113 = .ok (.goto 4, 3) := by decide +kernel
theorem dX9_whyNot_116 : decode cX9_whyNot 116 = .ok (.iconst 0, 1) := by decide +kernel
theorem dX9_whyNot_117 : decode cX9_whyNot 117 = .ok (.ireturn, 1) := by decide +kernel
theorem dX9_whyNot_118 : decode cX9_whyNot 118 = .ok (.aload_n 0, 1) := by decide +kernel
theorem dX9_whyNot_119 : decode cX9_whyNot 119 = .ok (.getfield 174, 3) := by decide +kernel
theorem dX9_whyNot_122 : decode cX9_whyNot 122 = .ok (.bipush 99, 2) := by decide +kernel
theorem dX9_whyNot_124 : decode cX9_whyNot 124 = .ok (.if_icmp .ne 8, 3) := by decide +kernel
theorem dX9_whyNot_127 : decode cX9_whyNot 127 = .ok (.bipush 10, 2) := by decide +kernel
theorem dX9_whyNot_129 : decode cX9_whyNot 129 = .ok (.goto 4, 3) := by decide +kernel
theorem dX9_whyNot_132 : decode cX9_whyNot 132 = .ok (.iconst 0, 1) := by decide +kernel
theorem dX9_whyNot_133 : decode cX9_whyNot 133 = .ok (.ireturn, 1) := by decide +kernel
theorem dX9_whyNot_134 : decode cX9_whyNot 134 = .ok (.aload_n 0, 1) := by decide +kernel
theorem dX9_whyNot_135 : decode cX9_whyNot 135 = .ok (.iload_n 1, 1) := by decide +kernel
theorem dX9_whyNot_136 : decode cX9_whyNot 136 = .ok (.iload_n 2, 1) := by decide +kernel
theorem dX9_whyNot_137 : decode cX9_whyNot 137 = .ok (.iload_n 3, 1) := by decide +kernel
theorem dX9_whyNot_138 : decode cX9_whyNot 138 = .ok (.invokevirtual 177, 3) := by decide +kernel
theorem dX9_whyNot_141 : decode cX9_whyNot 141 = .ok (.ireturn, 1) := by decide +kernel
theorem dX9_sit_0 : decode cX9_sit 0 = .ok (.aload_n 0, 1) := by decide +kernel
theorem dX9_sit_1 : decode cX9_sit 1 = .ok (.getfield 22, 3) := by decide +kernel
theorem dX9_sit_4 : decode cX9_sit 4 = .ok (.iload_n 1, 1) := by decide +kernel
theorem dX9_sit_5 : decode cX9_sit 5 = .ok (.iconst 1, 1) := by decide +kernel
theorem dX9_sit_6 : decode cX9_sit 6 = .ok (.iastore, 1) := by decide +kernel
theorem dX9_sit_7 : decode cX9_sit 7 = .ok (.aload_n 0, 1) := by decide +kernel
theorem dX9_sit_8 : decode cX9_sit 8 = .ok (.dup, 1) := by decide +kernel
theorem dX9_sit_9 : decode cX9_sit 9 = .ok (.getfield 181, 3) := by decide +kernel
theorem dX9_sit_12 : decode cX9_sit 12 = .ok (.iconst 1, 1) := by decide +kernel
theorem dX9_sit_13 : decode cX9_sit 13 = .ok (.iadd, 1) := by decide +kernel
theorem dX9_sit_14 : decode cX9_sit 14 = .ok (.putfield 181, 3) := by decide +kernel
theorem dX9_sit_17 : decode cX9_sit 17 = .ok (.aload_n 0, 1) := by decide +kernel
theorem dX9_sit_18 : decode cX9_sit 18 = .ok (.aload_n 0, 1) := by decide +kernel
theorem dX9_sit_19 : decode cX9_sit 19 = .ok (.getfield 184, 3) := by decide +kernel
theorem dX9_sit_22 : decode cX9_sit 22 = .ok (.ifCond .ge 7, 3) := by decide +kernel
theorem dX9_sit_25 : decode cX9_sit 25 = .ok (.iload_n 1, 1) := by decide +kernel
theorem dX9_sit_26 : decode cX9_sit 26 = .ok (.goto 7, 3) := by decide +kernel
theorem dX9_sit_29 : decode cX9_sit 29 = .ok (.aload_n 0, 1) := by decide +kernel
theorem dX9_sit_30 : decode cX9_sit 30 = .ok (.getfield 184, 3) := by decide +kernel
theorem dX9_sit_33 : decode cX9_sit 33 = .ok (.putfield 184, 3) := by decide +kernel
theorem dX9_sit_36 : decode cX9_sit 36 = .ok (.return_, 1) := by decide +kernel
theorem dX9_comeBack_0 : decode cX9_comeBack 0 = .ok (.aload_n 0, 1) := by decide +kernel
theorem dX9_comeBack_1 : decode cX9_comeBack 1 = .ok (.iload_n 1, 1) := by decide +kernel
theorem dX9_comeBack_2 : decode cX9_comeBack 2 = .ok (.invokevirtual 118, 3) := by decide +kernel
theorem dX9_comeBack_5 : decode cX9_comeBack 5 = .ok (.aload_n 0, 1) := by decide +kernel
theorem dX9_comeBack_6 : decode cX9_comeBack 6 = .ok (.getfield 16, 3) := by decide +kernel
theorem dX9_comeBack_9 : decode cX9_comeBack 9 = .ok (.iload_n 1, 1) := by decide +kernel
theorem dX9_comeBack_10 : decode cX9_comeBack 10 = .ok (.bipush (-6), 2) := by decide +kernel
theorem dX9_comeBack_12 : decode cX9_comeBack 12 = .ok (.iastore, 1) := by decide +kernel
theorem dX9_comeBack_13 : decode cX9_comeBack 13 = .ok (.aload_n 0, 1) := by decide +kernel
theorem dX9_comeBack_14 : decode cX9_comeBack 14 = .ok (.getfield 19, 3) := by decide +kernel
theorem dX9_comeBack_17 : decode cX9_comeBack 17 = .ok (.iload_n 1, 1) := by decide +kernel
theorem dX9_comeBack_18 : decode cX9_comeBack 18 = .ok (.iconst 0, 1) := by decide +kernel
theorem dX9_comeBack_19 : decode cX9_comeBack 19 = .ok (.iastore, 1) := by decide +kernel
theorem dX9_comeBack_20 : decode cX9_comeBack 20 = .ok (.return_, 1) := by decide +kernel
theorem dX9_fade_0 : decode cX9_fade 0 = .ok (.aload_n 0, 1) := by decide +kernel
theorem dX9_fade_1 : decode cX9_fade 1 = .ok (.getfield 19, 3) := by decide +kernel
theorem dX9_fade_4 : decode cX9_fade 4 = .ok (.iload_n 1, 1) := by decide +kernel
theorem dX9_fade_5 : decode cX9_fade 5 = .ok (.dup2, 1) := by decide +kernel
theorem dX9_fade_6 : decode cX9_fade 6 = .ok (.iaload, 1) := by decide +kernel
theorem dX9_fade_7 : decode cX9_fade 7 = .ok (.aload_n 0, 1) := by decide +kernel
theorem dX9_fade_8 : decode cX9_fade 8 = .ok (.getfield 19, 3) := by decide +kernel
theorem dX9_fade_11 : decode cX9_fade 11 = .ok (.iload_n 1, 1) := by decide +kernel
theorem dX9_fade_12 : decode cX9_fade 12 = .ok (.iaload, 1) := by decide +kernel
theorem dX9_fade_13 : decode cX9_fade 13 = .ok (.bipush 9, 2) := by decide +kernel
theorem dX9_fade_15 : decode cX9_fade 15 = .ok (.if_icmp .ge 7, 3) := by decide +kernel
theorem dX9_fade_18 : decode cX9_fade 18 = .ok (.iconst 1, 1) := by decide +kernel
theorem dX9_fade_19 : decode cX9_fade 19 = .ok (.goto 4, 3) := by decide +kernel
theorem dX9_fade_22 : decode cX9_fade 22 = .ok (.iconst 0, 1) := by decide +kernel
theorem dX9_fade_23 : decode cX9_fade 23 = .ok (.iadd, 1) := by decide +kernel
theorem dX9_fade_24 : decode cX9_fade 24 = .ok (.iastore, 1) := by decide +kernel
theorem dX9_fade_25 : decode cX9_fade 25 = .ok (.aload_n 0, 1) := by decide +kernel
theorem dX9_fade_26 : decode cX9_fade 26 = .ok (.getfield 19, 3) := by decide +kernel
theorem dX9_fade_29 : decode cX9_fade 29 = .ok (.iload_n 1, 1) := by decide +kernel
theorem dX9_fade_30 : decode cX9_fade 30 = .ok (.iaload, 1) := by decide +kernel
theorem dX9_fade_31 : decode cX9_fade 31 = .ok (.bipush 9, 2) := by decide +kernel
theorem dX9_fade_33 : decode cX9_fade 33 = .ok (.if_icmp .ne 8, 3) := by decide +kernel
theorem dX9_fade_36 : decode cX9_fade 36 = .ok (.aload_n 0, 1) := by decide +kernel
theorem dX9_fade_37 : decode cX9_fade 37 = .ok (.iload_n 1, 1) := by decide +kernel
theorem dX9_fade_38 : decode cX9_fade 38 = .ok (.invokevirtual 187, 3) := by decide +kernel
theorem dX9_fade_41 : decode cX9_fade 41 = .ok (.return_, 1) := by decide +kernel
theorem dX9_passHour_0 : decode cX9_passHour 0 = .ok (.iconst 0, 1) := by decide +kernel
theorem dX9_passHour_1 : decode cX9_passHour 1 = .ok (.istore_n 1, 1) := by decide +kernel
theorem dX9_passHour_2 : decode cX9_passHour 2 = .ok (.iload_n 1, 1) := by decide +kernel
theorem dX9_passHour_3 : decode cX9_passHour 3 = .ok (.bipush 6, 2) := by decide +kernel
theorem dX9_passHour_5 : decode cX9_passHour 5 = .ok (.if_icmp .ge 32, 3) := by decide +kernel
theorem dX9_passHour_8 : decode cX9_passHour 8 = .ok (.aload_n 0, 1) := by decide +kernel
theorem dX9_passHour_9 : decode cX9_passHour 9 = .ok (.getfield 16, 3) := by decide +kernel
theorem dX9_passHour_12 : decode cX9_passHour 12 = .ok (.iload_n 1, 1) := by decide +kernel
theorem dX9_passHour_13 : decode cX9_passHour 13 = .ok (.iaload, 1) := by decide +kernel
theorem dX9_passHour_14 : decode cX9_passHour 14 = .ok (.ifCond .lt 17, 3) := by decide +kernel
theorem dX9_passHour_17 : decode cX9_passHour 17 = .ok (.aload_n 0, 1) := by decide +kernel
theorem dX9_passHour_18 : decode cX9_passHour 18 = .ok (.getfield 22, 3) := by decide +kernel
theorem dX9_passHour_21 : decode cX9_passHour 21 = .ok (.iload_n 1, 1) := by decide +kernel
theorem dX9_passHour_22 : decode cX9_passHour 22 = .ok (.iaload, 1) := by decide +kernel
theorem dX9_passHour_23 : decode cX9_passHour 23 = .ok (.ifCond .ne 8, 3) := by decide +kernel
theorem dX9_passHour_26 : decode cX9_passHour 26 = .ok (.aload_n 0, 1) := by decide +kernel
theorem dX9_passHour_27 : decode cX9_passHour 27 = .ok (.iload_n 1, 1) := by decide +kernel
theorem dX9_passHour_28 : decode cX9_passHour 28 = .ok (.invokevirtual 190, 3) := by decide +kernel
theorem dX9_passHour_31 : decode cX9_passHour 31 = .ok (.iinc 1 1, 3) := by decide +kernel
theorem dX9_passHour_34 : decode cX9_passHour 34 = .ok (.goto (-32), 3) := by decide +kernel
theorem dX9_passHour_37 : decode cX9_passHour 37 = .ok (.aload_n 0, 1) := by decide +kernel
theorem dX9_passHour_38 : decode cX9_passHour 38 = .ok (.dup, 1) := by decide +kernel
theorem dX9_passHour_39 : decode cX9_passHour 39 = .ok (.getfield 174, 3) := by decide +kernel
theorem dX9_passHour_42 : decode cX9_passHour 42 = .ok (.iconst 1, 1) := by decide +kernel
theorem dX9_passHour_43 : decode cX9_passHour 43 = .ok (.iadd, 1) := by decide +kernel
theorem dX9_passHour_44 : decode cX9_passHour 44 = .ok (.putfield 174, 3) := by decide +kernel
theorem dX9_passHour_47 : decode cX9_passHour 47 = .ok (.return_, 1) := by decide +kernel
theorem dX9_happenToOne_0 : decode cX9_happenToOne 0 = .ok (.iload_n 1, 1) := by decide +kernel
theorem dX9_happenToOne_1 : decode cX9_happenToOne 1 = .ok (.tableswitch 72 4 7 #[31, 41, 49, 59], 31) := by decide +kernel
theorem dX9_happenToOne_32 : decode cX9_happenToOne 32 = .ok (.aload_n 0, 1) := by decide +kernel
theorem dX9_happenToOne_33 : decode cX9_happenToOne 33 = .ok (.getfield 16, 3) := by decide +kernel
theorem dX9_happenToOne_36 : decode cX9_happenToOne 36 = .ok (.iload_n 2, 1) := by decide +kernel
theorem dX9_happenToOne_37 : decode cX9_happenToOne 37 = .ok (.iconst 0, 1) := by decide +kernel
theorem dX9_happenToOne_38 : decode cX9_happenToOne 38 = .ok (.iastore, 1) := by decide +kernel
theorem dX9_happenToOne_39 : decode cX9_happenToOne 39 = .ok (.goto 39, 3) := by decide +kernel
theorem dX9_happenToOne_42 : decode cX9_happenToOne 42 = .ok (.aload_n 0, 1) := by decide +kernel
theorem dX9_happenToOne_43 : decode cX9_happenToOne 43 = .ok (.iload_n 2, 1) := by decide +kernel
theorem dX9_happenToOne_44 : decode cX9_happenToOne 44 = .ok (.invokevirtual 193, 3) := by decide +kernel
theorem dX9_happenToOne_47 : decode cX9_happenToOne 47 = .ok (.goto 31, 3) := by decide +kernel
theorem dX9_happenToOne_50 : decode cX9_happenToOne 50 = .ok (.aload_n 0, 1) := by decide +kernel
theorem dX9_happenToOne_51 : decode cX9_happenToOne 51 = .ok (.getfield 16, 3) := by decide +kernel
theorem dX9_happenToOne_54 : decode cX9_happenToOne 54 = .ok (.iload_n 2, 1) := by decide +kernel
theorem dX9_happenToOne_55 : decode cX9_happenToOne 55 = .ok (.iload_n 3, 1) := by decide +kernel
theorem dX9_happenToOne_56 : decode cX9_happenToOne 56 = .ok (.iastore, 1) := by decide +kernel
theorem dX9_happenToOne_57 : decode cX9_happenToOne 57 = .ok (.goto 21, 3) := by decide +kernel
theorem dX9_happenToOne_60 : decode cX9_happenToOne 60 = .ok (.aload_n 0, 1) := by decide +kernel
theorem dX9_happenToOne_61 : decode cX9_happenToOne 61 = .ok (.getfield 13, 3) := by decide +kernel
theorem dX9_happenToOne_64 : decode cX9_happenToOne 64 = .ok (.iload_n 3, 1) := by decide +kernel
theorem dX9_happenToOne_65 : decode cX9_happenToOne 65 = .ok (.bipush 10, 2) := by decide +kernel
theorem dX9_happenToOne_67 : decode cX9_happenToOne 67 = .ok (.iload_n 2, 1) := by decide +kernel
theorem dX9_happenToOne_68 : decode cX9_happenToOne 68 = .ok (.iadd, 1) := by decide +kernel
theorem dX9_happenToOne_69 : decode cX9_happenToOne 69 = .ok (.iastore, 1) := by decide +kernel
theorem dX9_happenToOne_70 : decode cX9_happenToOne 70 = .ok (.goto 8, 3) := by decide +kernel
theorem dX9_happenToOne_73 : decode cX9_happenToOne 73 = .ok (.aload_n 0, 1) := by decide +kernel
theorem dX9_happenToOne_74 : decode cX9_happenToOne 74 = .ok (.iload_n 2, 1) := by decide +kernel
theorem dX9_happenToOne_75 : decode cX9_happenToOne 75 = .ok (.invokevirtual 187, 3) := by decide +kernel
theorem dX9_happenToOne_78 : decode cX9_happenToOne 78 = .ok (.return_, 1) := by decide +kernel
theorem dX9_happen_0 : decode cX9_happen 0 = .ok (.aload_n 0, 1) := by decide +kernel
theorem dX9_happen_1 : decode cX9_happen 1 = .ok (.bipush (-6), 2) := by decide +kernel
theorem dX9_happen_3 : decode cX9_happen 3 = .ok (.putfield 184, 3) := by decide +kernel
theorem dX9_happen_6 : decode cX9_happen 6 = .ok (.iload_n 1, 1) := by decide +kernel
theorem dX9_happen_7 : decode cX9_happen 7 = .ok (.tableswitch 103 0 9 #[53, 63, 73, 83, 103, 103, 103, 103, 103, 96], 53) := by decide +kernel
theorem dX9_happen_60 : decode cX9_happen 60 = .ok (.aload_n 0, 1) := by decide +kernel
theorem dX9_happen_61 : decode cX9_happen 61 = .ok (.iload_n 2, 1) := by decide +kernel
theorem dX9_happen_62 : decode cX9_happen 62 = .ok (.iload_n 3, 1) := by decide +kernel
theorem dX9_happen_63 : decode cX9_happen 63 = .ok (.iconst 1, 1) := by decide +kernel
theorem dX9_happen_64 : decode cX9_happen 64 = .ok (.invokevirtual 94, 3) := by decide +kernel
theorem dX9_happen_67 : decode cX9_happen 67 = .ok (.goto 50, 3) := by decide +kernel
theorem dX9_happen_70 : decode cX9_happen 70 = .ok (.aload_n 0, 1) := by decide +kernel
theorem dX9_happen_71 : decode cX9_happen 71 = .ok (.iload_n 2, 1) := by decide +kernel
theorem dX9_happen_72 : decode cX9_happen 72 = .ok (.iload_n 3, 1) := by decide +kernel
theorem dX9_happen_73 : decode cX9_happen 73 = .ok (.iconst 0, 1) := by decide +kernel
theorem dX9_happen_74 : decode cX9_happen 74 = .ok (.invokevirtual 94, 3) := by decide +kernel
theorem dX9_happen_77 : decode cX9_happen 77 = .ok (.goto 40, 3) := by decide +kernel
theorem dX9_happen_80 : decode cX9_happen 80 = .ok (.aload_n 0, 1) := by decide +kernel
theorem dX9_happen_81 : decode cX9_happen 81 = .ok (.getfield 13, 3) := by decide +kernel
theorem dX9_happen_84 : decode cX9_happen 84 = .ok (.iload_n 2, 1) := by decide +kernel
theorem dX9_happen_85 : decode cX9_happen 85 = .ok (.iload_n 3, 1) := by decide +kernel
theorem dX9_happen_86 : decode cX9_happen 86 = .ok (.iastore, 1) := by decide +kernel
theorem dX9_happen_87 : decode cX9_happen 87 = .ok (.goto 30, 3) := by decide +kernel
theorem dX9_happen_90 : decode cX9_happen 90 = .ok (.aload_n 0, 1) := by decide +kernel
theorem dX9_happen_91 : decode cX9_happen 91 = .ok (.iconst 1, 1) := by decide +kernel
theorem dX9_happen_92 : decode cX9_happen 92 = .ok (.aload_n 0, 1) := by decide +kernel
theorem dX9_happen_93 : decode cX9_happen 93 = .ok (.getfield 74, 3) := by decide +kernel
theorem dX9_happen_96 : decode cX9_happen 96 = .ok (.isub, 1) := by decide +kernel
theorem dX9_happen_97 : decode cX9_happen 97 = .ok (.putfield 74, 3) := by decide +kernel
theorem dX9_happen_100 : decode cX9_happen 100 = .ok (.goto 17, 3) := by decide +kernel
theorem dX9_happen_103 : decode cX9_happen 103 = .ok (.aload_n 0, 1) := by decide +kernel
theorem dX9_happen_104 : decode cX9_happen 104 = .ok (.invokevirtual 196, 3) := by decide +kernel
theorem dX9_happen_107 : decode cX9_happen 107 = .ok (.goto 10, 3) := by decide +kernel
theorem dX9_happen_110 : decode cX9_happen 110 = .ok (.aload_n 0, 1) := by decide +kernel
theorem dX9_happen_111 : decode cX9_happen 111 = .ok (.iload_n 1, 1) := by decide +kernel
theorem dX9_happen_112 : decode cX9_happen 112 = .ok (.iload_n 2, 1) := by decide +kernel
theorem dX9_happen_113 : decode cX9_happen 113 = .ok (.iload_n 3, 1) := by decide +kernel
theorem dX9_happen_114 : decode cX9_happen 114 = .ok (.invokevirtual 199, 3) := by decide +kernel
theorem dX9_happen_117 : decode cX9_happen 117 = .ok (.return_, 1) := by decide +kernel
theorem dX9_carry_0 : decode cX9_carry 0 = .ok (.aload_n 0, 1) := by decide +kernel
theorem dX9_carry_1 : decode cX9_carry 1 = .ok (.getfield 203, 3) := by decide +kernel
theorem dX9_carry_4 : decode cX9_carry 4 = .ok (.ifCond .eq 15, 3) := by decide +kernel
theorem dX9_carry_7 : decode cX9_carry 7 = .ok (.aload_n 0, 1) := by decide +kernel
theorem dX9_carry_8 : decode cX9_carry 8 = .ok (.getfield 58, 3) := by decide +kernel
theorem dX9_carry_11 : decode cX9_carry 11 = .ok (.aload_n 0, 1) := by decide +kernel
theorem dX9_carry_12 : decode cX9_carry 12 = .ok (.getfield 207, 3) := by decide +kernel
theorem dX9_carry_15 : decode cX9_carry 15 = .ok (.iaload, 1) := by decide +kernel
theorem dX9_carry_16 : decode cX9_carry 16 = .ok (.goto 4, 3) := by decide +kernel
theorem dX9_carry_19 : decode cX9_carry 19 = .ok (.iload_n 1, 1) := by decide +kernel
theorem dX9_carry_20 : decode cX9_carry 20 = .ok (.istore_n 2, 1) := by decide +kernel
theorem dX9_carry_21 : decode cX9_carry 21 = .ok (.aload_n 0, 1) := by decide +kernel
theorem dX9_carry_22 : decode cX9_carry 22 = .ok (.getfield 58, 3) := by decide +kernel
theorem dX9_carry_25 : decode cX9_carry 25 = .ok (.aload_n 0, 1) := by decide +kernel
theorem dX9_carry_26 : decode cX9_carry 26 = .ok (.getfield 207, 3) := by decide +kernel
theorem dX9_carry_29 : decode cX9_carry 29 = .ok (.iload_n 2, 1) := by decide +kernel
theorem dX9_carry_30 : decode cX9_carry 30 = .ok (.iastore, 1) := by decide +kernel
theorem dX9_carry_31 : decode cX9_carry 31 = .ok (.aload_n 0, 1) := by decide +kernel
theorem dX9_carry_32 : decode cX9_carry 32 = .ok (.dup, 1) := by decide +kernel
theorem dX9_carry_33 : decode cX9_carry 33 = .ok (.getfield 207, 3) := by decide +kernel
theorem dX9_carry_36 : decode cX9_carry 36 = .ok (.iconst 1, 1) := by decide +kernel
theorem dX9_carry_37 : decode cX9_carry 37 = .ok (.iadd, 1) := by decide +kernel
theorem dX9_carry_38 : decode cX9_carry 38 = .ok (.putfield 207, 3) := by decide +kernel
theorem dX9_carry_41 : decode cX9_carry 41 = .ok (.iload_n 2, 1) := by decide +kernel
theorem dX9_carry_42 : decode cX9_carry 42 = .ok (.ireturn, 1) := by decide +kernel
theorem dX9_carryRow_0 : decode cX9_carryRow 0 = .ok (.iconst 0, 1) := by decide +kernel
theorem dX9_carryRow_1 : decode cX9_carryRow 1 = .ok (.istore_n 3, 1) := by decide +kernel
theorem dX9_carryRow_2 : decode cX9_carryRow 2 = .ok (.iload_n 3, 1) := by decide +kernel
theorem dX9_carryRow_3 : decode cX9_carryRow 3 = .ok (.iload_n 2, 1) := by decide +kernel
theorem dX9_carryRow_4 : decode cX9_carryRow 4 = .ok (.if_icmp .ge 19, 3) := by decide +kernel
theorem dX9_carryRow_7 : decode cX9_carryRow 7 = .ok (.aload_n 1, 1) := by decide +kernel
theorem dX9_carryRow_8 : decode cX9_carryRow 8 = .ok (.iload_n 3, 1) := by decide +kernel
theorem dX9_carryRow_9 : decode cX9_carryRow 9 = .ok (.aload_n 0, 1) := by decide +kernel
theorem dX9_carryRow_10 : decode cX9_carryRow 10 = .ok (.aload_n 1, 1) := by decide +kernel
theorem dX9_carryRow_11 : decode cX9_carryRow 11 = .ok (.iload_n 3, 1) := by decide +kernel
theorem dX9_carryRow_12 : decode cX9_carryRow 12 = .ok (.iaload, 1) := by decide +kernel
theorem dX9_carryRow_13 : decode cX9_carryRow 13 = .ok (.invokevirtual 210, 3) := by decide +kernel
theorem dX9_carryRow_16 : decode cX9_carryRow 16 = .ok (.iastore, 1) := by decide +kernel
theorem dX9_carryRow_17 : decode cX9_carryRow 17 = .ok (.iinc 3 1, 3) := by decide +kernel
theorem dX9_carryRow_20 : decode cX9_carryRow 20 = .ok (.goto (-18), 3) := by decide +kernel
theorem dX9_carryRow_23 : decode cX9_carryRow 23 = .ok (.return_, 1) := by decide +kernel
theorem dX9_carryAll_0 : decode cX9_carryAll 0 = .ok (.aload_n 0, 1) := by decide +kernel
theorem dX9_carryAll_1 : decode cX9_carryAll 1 = .ok (.iconst 0, 1) := by decide +kernel
theorem dX9_carryAll_2 : decode cX9_carryAll 2 = .ok (.putfield 207, 3) := by decide +kernel
theorem dX9_carryAll_5 : decode cX9_carryAll 5 = .ok (.aload_n 0, 1) := by decide +kernel
theorem dX9_carryAll_6 : decode cX9_carryAll 6 = .ok (.iload_n 1, 1) := by decide +kernel
theorem dX9_carryAll_7 : decode cX9_carryAll 7 = .ok (.putfield 203, 3) := by decide +kernel
theorem dX9_carryAll_10 : decode cX9_carryAll 10 = .ok (.aload_n 0, 1) := by decide +kernel
theorem dX9_carryAll_11 : decode cX9_carryAll 11 = .ok (.aload_n 0, 1) := by decide +kernel
theorem dX9_carryAll_12 : decode cX9_carryAll 12 = .ok (.aload_n 0, 1) := by decide +kernel
theorem dX9_carryAll_13 : decode cX9_carryAll 13 = .ok (.getfield 74, 3) := by decide +kernel
theorem dX9_carryAll_16 : decode cX9_carryAll 16 = .ok (.invokevirtual 210, 3) := by decide +kernel
theorem dX9_carryAll_19 : decode cX9_carryAll 19 = .ok (.putfield 74, 3) := by decide +kernel
theorem dX9_carryAll_22 : decode cX9_carryAll 22 = .ok (.aload_n 0, 1) := by decide +kernel
theorem dX9_carryAll_23 : decode cX9_carryAll 23 = .ok (.aload_n 0, 1) := by decide +kernel
theorem dX9_carryAll_24 : decode cX9_carryAll 24 = .ok (.aload_n 0, 1) := by decide +kernel
theorem dX9_carryAll_25 : decode cX9_carryAll 25 = .ok (.getfield 174, 3) := by decide +kernel
theorem dX9_carryAll_28 : decode cX9_carryAll 28 = .ok (.invokevirtual 210, 3) := by decide +kernel
theorem dX9_carryAll_31 : decode cX9_carryAll 31 = .ok (.putfield 174, 3) := by decide +kernel
theorem dX9_carryAll_34 : decode cX9_carryAll 34 = .ok (.aload_n 0, 1) := by decide +kernel
theorem dX9_carryAll_35 : decode cX9_carryAll 35 = .ok (.aload_n 0, 1) := by decide +kernel
theorem dX9_carryAll_36 : decode cX9_carryAll 36 = .ok (.getfield 7, 3) := by decide +kernel
theorem dX9_carryAll_39 : decode cX9_carryAll 39 = .ok (.bipush 8, 2) := by decide +kernel
theorem dX9_carryAll_41 : decode cX9_carryAll 41 = .ok (.invokevirtual 213, 3) := by decide +kernel
theorem dX9_carryAll_44 : decode cX9_carryAll 44 = .ok (.aload_n 0, 1) := by decide +kernel
theorem dX9_carryAll_45 : decode cX9_carryAll 45 = .ok (.aload_n 0, 1) := by decide +kernel
theorem dX9_carryAll_46 : decode cX9_carryAll 46 = .ok (.getfield 13, 3) := by decide +kernel
theorem dX9_carryAll_49 : decode cX9_carryAll 49 = .ok (.bipush 8, 2) := by decide +kernel
theorem dX9_carryAll_51 : decode cX9_carryAll 51 = .ok (.invokevirtual 213, 3) := by decide +kernel
theorem dX9_carryAll_54 : decode cX9_carryAll 54 = .ok (.aload_n 0, 1) := by decide +kernel
theorem dX9_carryAll_55 : decode cX9_carryAll 55 = .ok (.aload_n 0, 1) := by decide +kernel
theorem dX9_carryAll_56 : decode cX9_carryAll 56 = .ok (.getfield 16, 3) := by decide +kernel
theorem dX9_carryAll_59 : decode cX9_carryAll 59 = .ok (.bipush 6, 2) := by decide +kernel
theorem dX9_carryAll_61 : decode cX9_carryAll 61 = .ok (.invokevirtual 213, 3) := by decide +kernel
theorem dX9_carryAll_64 : decode cX9_carryAll 64 = .ok (.aload_n 0, 1) := by decide +kernel
theorem dX9_carryAll_65 : decode cX9_carryAll 65 = .ok (.aload_n 0, 1) := by decide +kernel
theorem dX9_carryAll_66 : decode cX9_carryAll 66 = .ok (.getfield 19, 3) := by decide +kernel
theorem dX9_carryAll_69 : decode cX9_carryAll 69 = .ok (.bipush 6, 2) := by decide +kernel
theorem dX9_carryAll_71 : decode cX9_carryAll 71 = .ok (.invokevirtual 213, 3) := by decide +kernel
theorem dX9_carryAll_74 : decode cX9_carryAll 74 = .ok (.aload_n 0, 1) := by decide +kernel
theorem dX9_carryAll_75 : decode cX9_carryAll 75 = .ok (.aload_n 0, 1) := by decide +kernel
theorem dX9_carryAll_76 : decode cX9_carryAll 76 = .ok (.getfield 22, 3) := by decide +kernel
theorem dX9_carryAll_79 : decode cX9_carryAll 79 = .ok (.bipush 6, 2) := by decide +kernel
theorem dX9_carryAll_81 : decode cX9_carryAll 81 = .ok (.invokevirtual 213, 3) := by decide +kernel
theorem dX9_carryAll_84 : decode cX9_carryAll 84 = .ok (.return_, 1) := by decide +kernel
theorem dX9_back_0 : decode cX9_back 0 = .ok (.aload_n 0, 1) := by decide +kernel
theorem dX9_back_1 : decode cX9_back 1 = .ok (.iconst 1, 1) := by decide +kernel
theorem dX9_back_2 : decode cX9_back 2 = .ok (.invokevirtual 217, 3) := by decide +kernel
theorem dX9_back_5 : decode cX9_back 5 = .ok (.iload_n 1, 1) := by decide +kernel
theorem dX9_back_6 : decode cX9_back 6 = .ok (.ireturn, 1) := by decide +kernel
theorem dX9_goOne_0 : decode cX9_goOne 0 = .ok (.aload_n 0, 1) := by decide +kernel
theorem dX9_goOne_1 : decode cX9_goOne 1 = .ok (.aload_n 0, 1) := by decide +kernel
theorem dX9_goOne_2 : decode cX9_goOne 2 = .ok (.getfield 49, 3) := by decide +kernel
theorem dX9_goOne_5 : decode cX9_goOne 5 = .ok (.iload_n 1, 1) := by decide +kernel
theorem dX9_goOne_6 : decode cX9_goOne 6 = .ok (.iaload, 1) := by decide +kernel
theorem dX9_goOne_7 : decode cX9_goOne 7 = .ok (.aload_n 0, 1) := by decide +kernel
theorem dX9_goOne_8 : decode cX9_goOne 8 = .ok (.getfield 52, 3) := by decide +kernel
theorem dX9_goOne_11 : decode cX9_goOne 11 = .ok (.iload_n 1, 1) := by decide +kernel
theorem dX9_goOne_12 : decode cX9_goOne 12 = .ok (.iaload, 1) := by decide +kernel
theorem dX9_goOne_13 : decode cX9_goOne 13 = .ok (.aload_n 0, 1) := by decide +kernel
theorem dX9_goOne_14 : decode cX9_goOne 14 = .ok (.getfield 55, 3) := by decide +kernel
theorem dX9_goOne_17 : decode cX9_goOne 17 = .ok (.iload_n 1, 1) := by decide +kernel
theorem dX9_goOne_18 : decode cX9_goOne 18 = .ok (.iaload, 1) := by decide +kernel
theorem dX9_goOne_19 : decode cX9_goOne 19 = .ok (.invokevirtual 221, 3) := by decide +kernel
theorem dX9_goOne_22 : decode cX9_goOne 22 = .ok (.aload_n 0, 1) := by decide +kernel
theorem dX9_goOne_23 : decode cX9_goOne 23 = .ok (.getfield 184, 3) := by decide +kernel
theorem dX9_goOne_26 : decode cX9_goOne 26 = .ok (.ifCond .lt 23, 3) := by decide +kernel
theorem dX9_goOne_29 : decode cX9_goOne 29 = .ok (.aload_n 0, 1) := by decide +kernel
theorem dX9_goOne_30 : decode cX9_goOne 30 = .ok (.getfield 224, 3) := by decide +kernel
theorem dX9_goOne_33 : decode cX9_goOne 33 = .ok (.ifCond .ge 16, 3) := by decide +kernel
theorem dX9_goOne_36 : decode cX9_goOne 36 = .ok (.aload_n 0, 1) := by decide +kernel
theorem dX9_goOne_37 : decode cX9_goOne 37 = .ok (.iload_n 1, 1) := by decide +kernel
theorem dX9_goOne_38 : decode cX9_goOne 38 = .ok (.putfield 224, 3) := by decide +kernel
theorem dX9_goOne_41 : decode cX9_goOne 41 = .ok (.aload_n 0, 1) := by decide +kernel
theorem dX9_goOne_42 : decode cX9_goOne 42 = .ok (.aload_n 0, 1) := by decide +kernel
theorem dX9_goOne_43 : decode cX9_goOne 43 = .ok (.getfield 184, 3) := by decide +kernel
theorem dX9_goOne_46 : decode cX9_goOne 46 = .ok (.putfield 227, 3) := by decide +kernel
theorem dX9_goOne_49 : decode cX9_goOne 49 = .ok (.return_, 1) := by decide +kernel
theorem dX9_goSessions_0 : decode cX9_goSessions 0 = .ok (.aload_n 0, 1) := by decide +kernel
theorem dX9_goSessions_1 : decode cX9_goSessions 1 = .ok (.bipush (-6), 2) := by decide +kernel
theorem dX9_goSessions_3 : decode cX9_goSessions 3 = .ok (.putfield 230, 3) := by decide +kernel
theorem dX9_goSessions_6 : decode cX9_goSessions 6 = .ok (.aload_n 0, 1) := by decide +kernel
theorem dX9_goSessions_7 : decode cX9_goSessions 7 = .ok (.bipush (-6), 2) := by decide +kernel
theorem dX9_goSessions_9 : decode cX9_goSessions 9 = .ok (.putfield 233, 3) := by decide +kernel
theorem dX9_goSessions_12 : decode cX9_goSessions 12 = .ok (.aload_n 0, 1) := by decide +kernel
theorem dX9_goSessions_13 : decode cX9_goSessions 13 = .ok (.bipush (-6), 2) := by decide +kernel
theorem dX9_goSessions_15 : decode cX9_goSessions 15 = .ok (.putfield 224, 3) := by decide +kernel
theorem dX9_goSessions_18 : decode cX9_goSessions 18 = .ok (.aload_n 0, 1) := by decide +kernel
theorem dX9_goSessions_19 : decode cX9_goSessions 19 = .ok (.bipush (-6), 2) := by decide +kernel
theorem dX9_goSessions_21 : decode cX9_goSessions 21 = .ok (.putfield 227, 3) := by decide +kernel
theorem dX9_goSessions_24 : decode cX9_goSessions 24 = .ok (.aload_n 0, 1) := by decide +kernel
theorem dX9_goSessions_25 : decode cX9_goSessions 25 = .ok (.iconst 0, 1) := by decide +kernel
theorem dX9_goSessions_26 : decode cX9_goSessions 26 = .ok (.putfield 181, 3) := by decide +kernel
theorem dX9_goSessions_29 : decode cX9_goSessions 29 = .ok (.iconst 0, 1) := by decide +kernel
theorem dX9_goSessions_30 : decode cX9_goSessions 30 = .ok (.istore_n 1, 1) := by decide +kernel
theorem dX9_goSessions_31 : decode cX9_goSessions 31 = .ok (.iload_n 1, 1) := by decide +kernel
theorem dX9_goSessions_32 : decode cX9_goSessions 32 = .ok (.aload_n 0, 1) := by decide +kernel
theorem dX9_goSessions_33 : decode cX9_goSessions 33 = .ok (.getfield 129, 3) := by decide +kernel
theorem dX9_goSessions_36 : decode cX9_goSessions 36 = .ok (.if_icmp .ge 76, 3) := by decide +kernel
theorem dX9_goSessions_39 : decode cX9_goSessions 39 = .ok (.aload_n 0, 1) := by decide +kernel
theorem dX9_goSessions_40 : decode cX9_goSessions 40 = .ok (.getfield 230, 3) := by decide +kernel
theorem dX9_goSessions_43 : decode cX9_goSessions 43 = .ok (.ifCond .ge 69, 3) := by decide +kernel
theorem dX9_goSessions_46 : decode cX9_goSessions 46 = .ok (.aload_n 0, 1) := by decide +kernel
theorem dX9_goSessions_47 : decode cX9_goSessions 47 = .ok (.aload_n 0, 1) := by decide +kernel
theorem dX9_goSessions_48 : decode cX9_goSessions 48 = .ok (.getfield 49, 3) := by decide +kernel
theorem dX9_goSessions_51 : decode cX9_goSessions 51 = .ok (.iload_n 1, 1) := by decide +kernel
theorem dX9_goSessions_52 : decode cX9_goSessions 52 = .ok (.iaload, 1) := by decide +kernel
theorem dX9_goSessions_53 : decode cX9_goSessions 53 = .ok (.aload_n 0, 1) := by decide +kernel
theorem dX9_goSessions_54 : decode cX9_goSessions 54 = .ok (.getfield 52, 3) := by decide +kernel
theorem dX9_goSessions_57 : decode cX9_goSessions 57 = .ok (.iload_n 1, 1) := by decide +kernel
theorem dX9_goSessions_58 : decode cX9_goSessions 58 = .ok (.iaload, 1) := by decide +kernel
theorem dX9_goSessions_59 : decode cX9_goSessions 59 = .ok (.aload_n 0, 1) := by decide +kernel
theorem dX9_goSessions_60 : decode cX9_goSessions 60 = .ok (.getfield 55, 3) := by decide +kernel
theorem dX9_goSessions_63 : decode cX9_goSessions 63 = .ok (.iload_n 1, 1) := by decide +kernel
theorem dX9_goSessions_64 : decode cX9_goSessions 64 = .ok (.iaload, 1) := by decide +kernel
theorem dX9_goSessions_65 : decode cX9_goSessions 65 = .ok (.invokevirtual 236, 3) := by decide +kernel
theorem dX9_goSessions_68 : decode cX9_goSessions 68 = .ok (.istore_n 2, 1) := by decide +kernel
theorem dX9_goSessions_69 : decode cX9_goSessions 69 = .ok (.aload_n 0, 1) := by decide +kernel
theorem dX9_goSessions_70 : decode cX9_goSessions 70 = .ok (.iload_n 2, 1) := by decide +kernel
theorem dX9_goSessions_71 : decode cX9_goSessions 71 = .ok (.ifCond .le 7, 3) := by decide +kernel
theorem dX9_goSessions_74 : decode cX9_goSessions 74 = .ok (.iload_n 1, 1) := by decide +kernel
theorem dX9_goSessions_75 : decode cX9_goSessions 75 = .ok (.goto 5, 3) := by decide +kernel
theorem dX9_goSessions_78 : decode cX9_goSessions 78 = .ok (.bipush (-6), 2) := by decide +kernel
theorem dX9_goSessions_80 : decode cX9_goSessions 80 = .ok (.putfield 230, 3) := by decide +kernel
theorem dX9_goSessions_83 : decode cX9_goSessions 83 = .ok (.aload_n 0, 1) := by decide +kernel
theorem dX9_goSessions_84 : decode cX9_goSessions 84 = .ok (.iload_n 2, 1) := by decide +kernel
theorem dX9_goSessions_85 : decode cX9_goSessions 85 = .ok (.ifCond .le 7, 3) := by decide +kernel
theorem dX9_goSessions_88 : decode cX9_goSessions 88 = .ok (.iload_n 2, 1) := by decide +kernel
theorem dX9_goSessions_89 : decode cX9_goSessions 89 = .ok (.goto 5, 3) := by decide +kernel
theorem dX9_goSessions_92 : decode cX9_goSessions 92 = .ok (.bipush (-6), 2) := by decide +kernel
theorem dX9_goSessions_94 : decode cX9_goSessions 94 = .ok (.putfield 233, 3) := by decide +kernel
theorem dX9_goSessions_97 : decode cX9_goSessions 97 = .ok (.iload_n 2, 1) := by decide +kernel
theorem dX9_goSessions_98 : decode cX9_goSessions 98 = .ok (.ifCond .ne 8, 3) := by decide +kernel
theorem dX9_goSessions_101 : decode cX9_goSessions 101 = .ok (.aload_n 0, 1) := by decide +kernel
theorem dX9_goSessions_102 : decode cX9_goSessions 102 = .ok (.iload_n 1, 1) := by decide +kernel
theorem dX9_goSessions_103 : decode cX9_goSessions 103 = .ok (.invokevirtual 239, 3) := by decide +kernel
theorem dX9_goSessions_106 : decode cX9_goSessions 106 = .ok (.iinc 1 1, 3) := by decide +kernel
theorem dX9_goSessions_109 : decode cX9_goSessions 109 = .ok (.goto (-78), 3) := by decide +kernel
theorem dX9_goSessions_112 : decode cX9_goSessions 112 = .ok (.return_, 1) := by decide +kernel
theorem dX9_refusal_0 : decode cX9_refusal 0 = .ok (.aload_n 0, 1) := by decide +kernel
theorem dX9_refusal_1 : decode cX9_refusal 1 = .ok (.iconst 0, 1) := by decide +kernel
theorem dX9_refusal_2 : decode cX9_refusal 2 = .ok (.invokevirtual 217, 3) := by decide +kernel
theorem dX9_refusal_5 : decode cX9_refusal 5 = .ok (.aload_n 0, 1) := by decide +kernel
theorem dX9_refusal_6 : decode cX9_refusal 6 = .ok (.invokevirtual 242, 3) := by decide +kernel
theorem dX9_refusal_9 : decode cX9_refusal 9 = .ok (.ifCond .lt 6, 3) := by decide +kernel
theorem dX9_refusal_12 : decode cX9_refusal 12 = .ok (.bipush (-5), 2) := by decide +kernel
theorem dX9_refusal_14 : decode cX9_refusal 14 = .ok (.ireturn, 1) := by decide +kernel
theorem dX9_refusal_15 : decode cX9_refusal 15 = .ok (.aload_n 0, 1) := by decide +kernel
theorem dX9_refusal_16 : decode cX9_refusal 16 = .ok (.invokevirtual 245, 3) := by decide +kernel
theorem dX9_refusal_19 : decode cX9_refusal 19 = .ok (.aload_n 0, 1) := by decide +kernel
theorem dX9_refusal_20 : decode cX9_refusal 20 = .ok (.getfield 230, 3) := by decide +kernel
theorem dX9_refusal_23 : decode cX9_refusal 23 = .ok (.ifCond .lt 8, 3) := by decide +kernel
theorem dX9_refusal_26 : decode cX9_refusal 26 = .ok (.bipush (-3), 2) := by decide +kernel
theorem dX9_refusal_28 : decode cX9_refusal 28 = .ok (.goto 5, 3) := by decide +kernel
theorem dX9_refusal_31 : decode cX9_refusal 31 = .ok (.bipush (-6), 2) := by decide +kernel
theorem dX9_refusal_33 : decode cX9_refusal 33 = .ok (.ireturn, 1) := by decide +kernel
theorem dX9_judge_0 : decode cX9_judge 0 = .ok (.iload_n 1, 1) := by decide +kernel
theorem dX9_judge_1 : decode cX9_judge 1 = .ok (.i2l, 1) := by decide +kernel
theorem dX9_judge_2 : decode cX9_judge 2 = .ok (.lconst 0, 1) := by decide +kernel
theorem dX9_judge_3 : decode cX9_judge 3 = .ok (.ldc2_w 248, 3) := by decide +kernel
theorem dX9_judge_6 : decode cX9_judge 6 = .ok (.invokestatic 80, 3) := by decide +kernel
theorem dX9_judge_9 : decode cX9_judge 9 = .ok (.ifCond .ne 6, 3) := by decide +kernel
theorem dX9_judge_12 : decode cX9_judge 12 = .ok (.bipush (-2), 2) := by decide +kernel
theorem dX9_judge_14 : decode cX9_judge 14 = .ok (.ireturn, 1) := by decide +kernel
theorem dX9_judge_15 : decode cX9_judge 15 = .ok (.aload_n 0, 1) := by decide +kernel
theorem dX9_judge_16 : decode cX9_judge 16 = .ok (.aload_n 0, 1) := by decide +kernel
theorem dX9_judge_17 : decode cX9_judge 17 = .ok (.invokevirtual 250, 3) := by decide +kernel
theorem dX9_judge_20 : decode cX9_judge 20 = .ok (.invokevirtual 253, 3) := by decide +kernel
theorem dX9_judge_23 : decode cX9_judge 23 = .ok (.istore_n 2, 1) := by decide +kernel
theorem dX9_judge_24 : decode cX9_judge 24 = .ok (.iload_n 2, 1) := by decide +kernel
theorem dX9_judge_25 : decode cX9_judge 25 = .ok (.bipush (-5), 2) := by decide +kernel
theorem dX9_judge_27 : decode cX9_judge 27 = .ok (.if_icmp .eq 14, 3) := by decide +kernel
theorem dX9_judge_30 : decode cX9_judge 30 = .ok (.iload_n 1, 1) := by decide +kernel
theorem dX9_judge_31 : decode cX9_judge 31 = .ok (.iconst 1, 1) := by decide +kernel
theorem dX9_judge_32 : decode cX9_judge 32 = .ok (.if_icmp .le 11, 3) := by decide +kernel
theorem dX9_judge_35 : decode cX9_judge 35 = .ok (.iload_n 2, 1) := by decide +kernel
theorem dX9_judge_36 : decode cX9_judge 36 = .ok (.bipush (-3), 2) := by decide +kernel
theorem dX9_judge_38 : decode cX9_judge 38 = .ok (.if_icmp .ne 5, 3) := by decide +kernel
theorem dX9_judge_41 : decode cX9_judge 41 = .ok (.iload_n 2, 1) := by decide +kernel
theorem dX9_judge_42 : decode cX9_judge 42 = .ok (.ireturn, 1) := by decide +kernel
theorem dX9_judge_43 : decode cX9_judge 43 = .ok (.iload_n 1, 1) := by decide +kernel
theorem dX9_judge_44 : decode cX9_judge 44 = .ok (.ifCond .ne 10, 3) := by decide +kernel
theorem dX9_judge_47 : decode cX9_judge 47 = .ok (.aload_n 0, 1) := by decide +kernel
theorem dX9_judge_48 : decode cX9_judge 48 = .ok (.getfield 230, 3) := by decide +kernel
theorem dX9_judge_51 : decode cX9_judge 51 = .ok (.goto 19, 3) := by decide +kernel
theorem dX9_judge_54 : decode cX9_judge 54 = .ok (.iload_n 1, 1) := by decide +kernel
theorem dX9_judge_55 : decode cX9_judge 55 = .ok (.iconst 1, 1) := by decide +kernel
theorem dX9_judge_56 : decode cX9_judge 56 = .ok (.if_icmp .ne 10, 3) := by decide +kernel
theorem dX9_judge_59 : decode cX9_judge 59 = .ok (.aload_n 0, 1) := by decide +kernel
theorem dX9_judge_60 : decode cX9_judge 60 = .ok (.getfield 233, 3) := by decide +kernel
theorem dX9_judge_63 : decode cX9_judge 63 = .ok (.goto 7, 3) := by decide +kernel
theorem dX9_judge_66 : decode cX9_judge 66 = .ok (.aload_n 0, 1) := by decide +kernel
theorem dX9_judge_67 : decode cX9_judge 67 = .ok (.getfield 181, 3) := by decide +kernel
theorem dX9_judge_70 : decode cX9_judge 70 = .ok (.ireturn, 1) := by decide +kernel
theorem dX9_carriedBy_0 : decode cX9_carriedBy 0 = .ok (.iconst 0, 1) := by decide +kernel
theorem dX9_carriedBy_1 : decode cX9_carriedBy 1 = .ok (.istore_n 2, 1) := by decide +kernel
theorem dX9_carriedBy_2 : decode cX9_carriedBy 2 = .ok (.iconst 0, 1) := by decide +kernel
theorem dX9_carriedBy_3 : decode cX9_carriedBy 3 = .ok (.istore_n 3, 1) := by decide +kernel
theorem dX9_carriedBy_4 : decode cX9_carriedBy 4 = .ok (.iload_n 3, 1) := by decide +kernel
theorem dX9_carriedBy_5 : decode cX9_carriedBy 5 = .ok (.bipush 8, 2) := by decide +kernel
theorem dX9_carriedBy_7 : decode cX9_carriedBy 7 = .ok (.if_icmp .ge 28, 3) := by decide +kernel
theorem dX9_carriedBy_10 : decode cX9_carriedBy 10 = .ok (.iload_n 2, 1) := by decide +kernel
theorem dX9_carriedBy_11 : decode cX9_carriedBy 11 = .ok (.aload_n 0, 1) := by decide +kernel
theorem dX9_carriedBy_12 : decode cX9_carriedBy 12 = .ok (.iload_n 3, 1) := by decide +kernel
theorem dX9_carriedBy_13 : decode cX9_carriedBy 13 = .ok (.invokevirtual 110, 3) := by decide +kernel
theorem dX9_carriedBy_16 : decode cX9_carriedBy 16 = .ok (.iload_n 1, 1) := by decide +kernel
theorem dX9_carriedBy_17 : decode cX9_carriedBy 17 = .ok (.if_icmp .ne 9, 3) := by decide +kernel
theorem dX9_carriedBy_20 : decode cX9_carriedBy 20 = .ok (.iconst 1, 1) := by decide +kernel
theorem dX9_carriedBy_21 : decode cX9_carriedBy 21 = .ok (.iload_n 3, 1) := by decide +kernel
theorem dX9_carriedBy_22 : decode cX9_carriedBy 22 = .ok (.ishl, 1) := by decide +kernel
theorem dX9_carriedBy_23 : decode cX9_carriedBy 23 = .ok (.goto 4, 3) := by decide +kernel
theorem dX9_carriedBy_26 : decode cX9_carriedBy 26 = .ok (.iconst 0, 1) := by decide +kernel
theorem dX9_carriedBy_27 : decode cX9_carriedBy 27 = .ok (.ior, 1) := by decide +kernel
theorem dX9_carriedBy_28 : decode cX9_carriedBy 28 = .ok (.istore_n 2, 1) := by decide +kernel
theorem dX9_carriedBy_29 : decode cX9_carriedBy 29 = .ok (.iinc 3 1, 3) := by decide +kernel
theorem dX9_carriedBy_32 : decode cX9_carriedBy 32 = .ok (.goto (-28), 3) := by decide +kernel
theorem dX9_carriedBy_35 : decode cX9_carriedBy 35 = .ok (.iload_n 2, 1) := by decide +kernel
theorem dX9_carriedBy_36 : decode cX9_carriedBy 36 = .ok (.ireturn, 1) := by decide +kernel
theorem dX9_ofPerson_0 : decode cX9_ofPerson 0 = .ok (.iload_n 2, 1) := by decide +kernel
theorem dX9_ofPerson_1 : decode cX9_ofPerson 1 = .ok (.ifCond .ne 12, 3) := by decide +kernel
theorem dX9_ofPerson_4 : decode cX9_ofPerson 4 = .ok (.aload_n 0, 1) := by decide +kernel
theorem dX9_ofPerson_5 : decode cX9_ofPerson 5 = .ok (.getfield 16, 3) := by decide +kernel
theorem dX9_ofPerson_8 : decode cX9_ofPerson 8 = .ok (.iload_n 1, 1) := by decide +kernel
theorem dX9_ofPerson_9 : decode cX9_ofPerson 9 = .ok (.iaload, 1) := by decide +kernel
theorem dX9_ofPerson_10 : decode cX9_ofPerson 10 = .ok (.goto 36, 3) := by decide +kernel
theorem dX9_ofPerson_13 : decode cX9_ofPerson 13 = .ok (.iload_n 2, 1) := by decide +kernel
theorem dX9_ofPerson_14 : decode cX9_ofPerson 14 = .ok (.iconst 1, 1) := by decide +kernel
theorem dX9_ofPerson_15 : decode cX9_ofPerson 15 = .ok (.if_icmp .ne 12, 3) := by decide +kernel
theorem dX9_ofPerson_18 : decode cX9_ofPerson 18 = .ok (.aload_n 0, 1) := by decide +kernel
theorem dX9_ofPerson_19 : decode cX9_ofPerson 19 = .ok (.getfield 19, 3) := by decide +kernel
theorem dX9_ofPerson_22 : decode cX9_ofPerson 22 = .ok (.iload_n 1, 1) := by decide +kernel
theorem dX9_ofPerson_23 : decode cX9_ofPerson 23 = .ok (.iaload, 1) := by decide +kernel
theorem dX9_ofPerson_24 : decode cX9_ofPerson 24 = .ok (.goto 22, 3) := by decide +kernel
theorem dX9_ofPerson_27 : decode cX9_ofPerson 27 = .ok (.iload_n 2, 1) := by decide +kernel
theorem dX9_ofPerson_28 : decode cX9_ofPerson 28 = .ok (.iconst 2, 1) := by decide +kernel
theorem dX9_ofPerson_29 : decode cX9_ofPerson 29 = .ok (.if_icmp .ne 12, 3) := by decide +kernel
theorem dX9_ofPerson_32 : decode cX9_ofPerson 32 = .ok (.aload_n 0, 1) := by decide +kernel
theorem dX9_ofPerson_33 : decode cX9_ofPerson 33 = .ok (.getfield 22, 3) := by decide +kernel
theorem dX9_ofPerson_36 : decode cX9_ofPerson 36 = .ok (.iload_n 1, 1) := by decide +kernel
theorem dX9_ofPerson_37 : decode cX9_ofPerson 37 = .ok (.iaload, 1) := by decide +kernel
theorem dX9_ofPerson_38 : decode cX9_ofPerson 38 = .ok (.goto 8, 3) := by decide +kernel
theorem dX9_ofPerson_41 : decode cX9_ofPerson 41 = .ok (.aload_n 0, 1) := by decide +kernel
theorem dX9_ofPerson_42 : decode cX9_ofPerson 42 = .ok (.iload_n 1, 1) := by decide +kernel
theorem dX9_ofPerson_43 : decode cX9_ofPerson 43 = .ok (.invokevirtual 256, 3) := by decide +kernel
theorem dX9_ofPerson_46 : decode cX9_ofPerson 46 = .ok (.ireturn, 1) := by decide +kernel
theorem dX9_behind_0 : decode cX9_behind 0 = .ok (.iload_n 1, 1) := by decide +kernel
theorem dX9_behind_1 : decode cX9_behind 1 = .ok (.invokestatic 113, 3) := by decide +kernel
theorem dX9_behind_4 : decode cX9_behind 4 = .ok (.ifCond .ne 5, 3) := by decide +kernel
theorem dX9_behind_7 : decode cX9_behind 7 = .ok (.iconst (-1), 1) := by decide +kernel
theorem dX9_behind_8 : decode cX9_behind 8 = .ok (.ireturn, 1) := by decide +kernel
theorem dX9_behind_9 : decode cX9_behind 9 = .ok (.iload_n 2, 1) := by decide +kernel
theorem dX9_behind_10 : decode cX9_behind 10 = .ok (.i2l, 1) := by decide +kernel
theorem dX9_behind_11 : decode cX9_behind 11 = .ok (.lconst 0, 1) := by decide +kernel
theorem dX9_behind_12 : decode cX9_behind 12 = .ok (.ldc2_w 259, 3) := by decide +kernel
theorem dX9_behind_15 : decode cX9_behind 15 = .ok (.invokestatic 80, 3) := by decide +kernel
theorem dX9_behind_18 : decode cX9_behind 18 = .ok (.ifCond .ne 6, 3) := by decide +kernel
theorem dX9_behind_21 : decode cX9_behind 21 = .ok (.bipush (-2), 2) := by decide +kernel
theorem dX9_behind_23 : decode cX9_behind 23 = .ok (.ireturn, 1) := by decide +kernel
theorem dX9_behind_24 : decode cX9_behind 24 = .ok (.aload_n 0, 1) := by decide +kernel
theorem dX9_behind_25 : decode cX9_behind 25 = .ok (.invokevirtual 250, 3) := by decide +kernel
theorem dX9_behind_28 : decode cX9_behind 28 = .ok (.istore_n 3, 1) := by decide +kernel
theorem dX9_behind_29 : decode cX9_behind 29 = .ok (.aload_n 0, 1) := by decide +kernel
theorem dX9_behind_30 : decode cX9_behind 30 = .ok (.iload_n 3, 1) := by decide +kernel
theorem dX9_behind_31 : decode cX9_behind 31 = .ok (.bipush (-6), 2) := by decide +kernel
theorem dX9_behind_33 : decode cX9_behind 33 = .ok (.if_icmp .eq 7, 3) := by decide +kernel
theorem dX9_behind_36 : decode cX9_behind 36 = .ok (.iload_n 3, 1) := by decide +kernel
theorem dX9_behind_37 : decode cX9_behind 37 = .ok (.goto 9, 3) := by decide +kernel
theorem dX9_behind_40 : decode cX9_behind 40 = .ok (.aload_n 0, 1) := by decide +kernel
theorem dX9_behind_41 : decode cX9_behind 41 = .ok (.iload_n 1, 1) := by decide +kernel
theorem dX9_behind_42 : decode cX9_behind 42 = .ok (.iload_n 2, 1) := by decide +kernel
theorem dX9_behind_43 : decode cX9_behind 43 = .ok (.invokevirtual 261, 3) := by decide +kernel
theorem dX9_behind_46 : decode cX9_behind 46 = .ok (.invokevirtual 253, 3) := by decide +kernel
theorem dX9_behind_49 : decode cX9_behind 49 = .ok (.ireturn, 1) := by decide +kernel
theorem dX9_lies_0 : decode cX9_lies 0 = .ok (.iload_n 1, 1) := by decide +kernel
theorem dX9_lies_1 : decode cX9_lies 1 = .ok (.invokestatic 102, 3) := by decide +kernel
theorem dX9_lies_4 : decode cX9_lies 4 = .ok (.ifCond .ne 5, 3) := by decide +kernel
theorem dX9_lies_7 : decode cX9_lies 7 = .ok (.iconst (-1), 1) := by decide +kernel
theorem dX9_lies_8 : decode cX9_lies 8 = .ok (.ireturn, 1) := by decide +kernel
theorem dX9_lies_9 : decode cX9_lies 9 = .ok (.iload_n 2, 1) := by decide +kernel
theorem dX9_lies_10 : decode cX9_lies 10 = .ok (.i2l, 1) := by decide +kernel
theorem dX9_lies_11 : decode cX9_lies 11 = .ok (.lconst 0, 1) := by decide +kernel
theorem dX9_lies_12 : decode cX9_lies 12 = .ok (.lconst 1, 1) := by decide +kernel
theorem dX9_lies_13 : decode cX9_lies 13 = .ok (.invokestatic 80, 3) := by decide +kernel
theorem dX9_lies_16 : decode cX9_lies 16 = .ok (.ifCond .ne 6, 3) := by decide +kernel
theorem dX9_lies_19 : decode cX9_lies 19 = .ok (.bipush (-2), 2) := by decide +kernel
theorem dX9_lies_21 : decode cX9_lies 21 = .ok (.ireturn, 1) := by decide +kernel
theorem dX9_lies_22 : decode cX9_lies 22 = .ok (.aload_n 0, 1) := by decide +kernel
theorem dX9_lies_23 : decode cX9_lies 23 = .ok (.invokevirtual 250, 3) := by decide +kernel
theorem dX9_lies_26 : decode cX9_lies 26 = .ok (.istore_n 3, 1) := by decide +kernel
theorem dX9_lies_27 : decode cX9_lies 27 = .ok (.aload_n 0, 1) := by decide +kernel
theorem dX9_lies_28 : decode cX9_lies 28 = .ok (.iload_n 3, 1) := by decide +kernel
theorem dX9_lies_29 : decode cX9_lies 29 = .ok (.bipush (-6), 2) := by decide +kernel
theorem dX9_lies_31 : decode cX9_lies 31 = .ok (.if_icmp .eq 7, 3) := by decide +kernel
theorem dX9_lies_34 : decode cX9_lies 34 = .ok (.iload_n 3, 1) := by decide +kernel
theorem dX9_lies_35 : decode cX9_lies 35 = .ok (.goto 20, 3) := by decide +kernel
theorem dX9_lies_38 : decode cX9_lies 38 = .ok (.iload_n 2, 1) := by decide +kernel
theorem dX9_lies_39 : decode cX9_lies 39 = .ok (.ifCond .ne 11, 3) := by decide +kernel
theorem dX9_lies_42 : decode cX9_lies 42 = .ok (.aload_n 0, 1) := by decide +kernel
theorem dX9_lies_43 : decode cX9_lies 43 = .ok (.iload_n 1, 1) := by decide +kernel
theorem dX9_lies_44 : decode cX9_lies 44 = .ok (.invokevirtual 107, 3) := by decide +kernel
theorem dX9_lies_47 : decode cX9_lies 47 = .ok (.goto 8, 3) := by decide +kernel
theorem dX9_lies_50 : decode cX9_lies 50 = .ok (.aload_n 0, 1) := by decide +kernel
theorem dX9_lies_51 : decode cX9_lies 51 = .ok (.iload_n 1, 1) := by decide +kernel
theorem dX9_lies_52 : decode cX9_lies 52 = .ok (.invokevirtual 110, 3) := by decide +kernel
theorem dX9_lies_55 : decode cX9_lies 55 = .ok (.invokevirtual 253, 3) := by decide +kernel
theorem dX9_lies_58 : decode cX9_lies 58 = .ok (.ireturn, 1) := by decide +kernel
theorem dX9_whoIsThere_0 : decode cX9_whoIsThere 0 = .ok (.iconst 0, 1) := by decide +kernel
theorem dX9_whoIsThere_1 : decode cX9_whoIsThere 1 = .ok (.istore_n 1, 1) := by decide +kernel
theorem dX9_whoIsThere_2 : decode cX9_whoIsThere 2 = .ok (.iconst 0, 1) := by decide +kernel
theorem dX9_whoIsThere_3 : decode cX9_whoIsThere 3 = .ok (.istore_n 2, 1) := by decide +kernel
theorem dX9_whoIsThere_4 : decode cX9_whoIsThere 4 = .ok (.iload_n 2, 1) := by decide +kernel
theorem dX9_whoIsThere_5 : decode cX9_whoIsThere 5 = .ok (.bipush 6, 2) := by decide +kernel
theorem dX9_whoIsThere_7 : decode cX9_whoIsThere 7 = .ok (.if_icmp .ge 28, 3) := by decide +kernel
theorem dX9_whoIsThere_10 : decode cX9_whoIsThere 10 = .ok (.iload_n 1, 1) := by decide +kernel
theorem dX9_whoIsThere_11 : decode cX9_whoIsThere 11 = .ok (.aload_n 0, 1) := by decide +kernel
theorem dX9_whoIsThere_12 : decode cX9_whoIsThere 12 = .ok (.getfield 16, 3) := by decide +kernel
theorem dX9_whoIsThere_15 : decode cX9_whoIsThere 15 = .ok (.iload_n 2, 1) := by decide +kernel
theorem dX9_whoIsThere_16 : decode cX9_whoIsThere 16 = .ok (.iaload, 1) := by decide +kernel
theorem dX9_whoIsThere_17 : decode cX9_whoIsThere 17 = .ok (.ifCond .lt 9, 3) := by decide +kernel
theorem dX9_whoIsThere_20 : decode cX9_whoIsThere 20 = .ok (.iconst 1, 1) := by decide +kernel
theorem dX9_whoIsThere_21 : decode cX9_whoIsThere 21 = .ok (.iload_n 2, 1) := by decide +kernel
theorem dX9_whoIsThere_22 : decode cX9_whoIsThere 22 = .ok (.ishl, 1) := by decide +kernel
theorem dX9_whoIsThere_23 : decode cX9_whoIsThere 23 = .ok (.goto 4, 3) := by decide +kernel
theorem dX9_whoIsThere_26 : decode cX9_whoIsThere 26 = .ok (.iconst 0, 1) := by decide +kernel
theorem dX9_whoIsThere_27 : decode cX9_whoIsThere 27 = .ok (.ior, 1) := by decide +kernel
theorem dX9_whoIsThere_28 : decode cX9_whoIsThere 28 = .ok (.istore_n 1, 1) := by decide +kernel
theorem dX9_whoIsThere_29 : decode cX9_whoIsThere 29 = .ok (.iinc 2 1, 3) := by decide +kernel
theorem dX9_whoIsThere_32 : decode cX9_whoIsThere 32 = .ok (.goto (-28), 3) := by decide +kernel
theorem dX9_whoIsThere_35 : decode cX9_whoIsThere 35 = .ok (.iload_n 1, 1) := by decide +kernel
theorem dX9_whoIsThere_36 : decode cX9_whoIsThere 36 = .ok (.ireturn, 1) := by decide +kernel
theorem dX9_whoSits_0 : decode cX9_whoSits 0 = .ok (.iconst 0, 1) := by decide +kernel
theorem dX9_whoSits_1 : decode cX9_whoSits 1 = .ok (.istore_n 1, 1) := by decide +kernel
theorem dX9_whoSits_2 : decode cX9_whoSits 2 = .ok (.iconst 0, 1) := by decide +kernel
theorem dX9_whoSits_3 : decode cX9_whoSits 3 = .ok (.istore_n 2, 1) := by decide +kernel
theorem dX9_whoSits_4 : decode cX9_whoSits 4 = .ok (.iload_n 2, 1) := by decide +kernel
theorem dX9_whoSits_5 : decode cX9_whoSits 5 = .ok (.bipush 6, 2) := by decide +kernel
theorem dX9_whoSits_7 : decode cX9_whoSits 7 = .ok (.if_icmp .ge 20, 3) := by decide +kernel
theorem dX9_whoSits_10 : decode cX9_whoSits 10 = .ok (.iload_n 1, 1) := by decide +kernel
theorem dX9_whoSits_11 : decode cX9_whoSits 11 = .ok (.aload_n 0, 1) := by decide +kernel
theorem dX9_whoSits_12 : decode cX9_whoSits 12 = .ok (.getfield 22, 3) := by decide +kernel
theorem dX9_whoSits_15 : decode cX9_whoSits 15 = .ok (.iload_n 2, 1) := by decide +kernel
theorem dX9_whoSits_16 : decode cX9_whoSits 16 = .ok (.iaload, 1) := by decide +kernel
theorem dX9_whoSits_17 : decode cX9_whoSits 17 = .ok (.iload_n 2, 1) := by decide +kernel
theorem dX9_whoSits_18 : decode cX9_whoSits 18 = .ok (.ishl, 1) := by decide +kernel
theorem dX9_whoSits_19 : decode cX9_whoSits 19 = .ok (.ior, 1) := by decide +kernel
theorem dX9_whoSits_20 : decode cX9_whoSits 20 = .ok (.istore_n 1, 1) := by decide +kernel
theorem dX9_whoSits_21 : decode cX9_whoSits 21 = .ok (.iinc 2 1, 3) := by decide +kernel
theorem dX9_whoSits_24 : decode cX9_whoSits 24 = .ok (.goto (-20), 3) := by decide +kernel
theorem dX9_whoSits_27 : decode cX9_whoSits 27 = .ok (.iload_n 1, 1) := by decide +kernel
theorem dX9_whoSits_28 : decode cX9_whoSits 28 = .ok (.ireturn, 1) := by decide +kernel
theorem dX9_ofAll_0 : decode cX9_ofAll 0 = .ok (.iload_n 1, 1) := by decide +kernel
theorem dX9_ofAll_1 : decode cX9_ofAll 1 = .ok (.tableswitch 51 0 3 #[31, 36, 41, 46], 31) := by decide +kernel
theorem dX9_ofAll_32 : decode cX9_ofAll 32 = .ok (.aload_n 0, 1) := by decide +kernel
theorem dX9_ofAll_33 : decode cX9_ofAll 33 = .ok (.invokevirtual 98, 3) := by decide +kernel
theorem dX9_ofAll_36 : decode cX9_ofAll 36 = .ok (.ireturn, 1) := by decide +kernel
theorem dX9_ofAll_37 : decode cX9_ofAll 37 = .ok (.aload_n 0, 1) := by decide +kernel
theorem dX9_ofAll_38 : decode cX9_ofAll 38 = .ok (.invokevirtual 264, 3) := by decide +kernel
theorem dX9_ofAll_41 : decode cX9_ofAll 41 = .ok (.ireturn, 1) := by decide +kernel
theorem dX9_ofAll_42 : decode cX9_ofAll 42 = .ok (.aload_n 0, 1) := by decide +kernel
theorem dX9_ofAll_43 : decode cX9_ofAll 43 = .ok (.invokevirtual 267, 3) := by decide +kernel
theorem dX9_ofAll_46 : decode cX9_ofAll 46 = .ok (.ireturn, 1) := by decide +kernel
theorem dX9_ofAll_47 : decode cX9_ofAll 47 = .ok (.aload_n 0, 1) := by decide +kernel
theorem dX9_ofAll_48 : decode cX9_ofAll 48 = .ok (.getfield 74, 3) := by decide +kernel
theorem dX9_ofAll_51 : decode cX9_ofAll 51 = .ok (.ireturn, 1) := by decide +kernel
theorem dX9_ofAll_52 : decode cX9_ofAll 52 = .ok (.aload_n 0, 1) := by decide +kernel
theorem dX9_ofAll_53 : decode cX9_ofAll 53 = .ok (.getfield 174, 3) := by decide +kernel
theorem dX9_ofAll_56 : decode cX9_ofAll 56 = .ok (.ireturn, 1) := by decide +kernel
theorem dX9_there_0 : decode cX9_there 0 = .ok (.iload_n 1, 1) := by decide +kernel
theorem dX9_there_1 : decode cX9_there 1 = .ok (.i2l, 1) := by decide +kernel
theorem dX9_there_2 : decode cX9_there 2 = .ok (.lconst 0, 1) := by decide +kernel
theorem dX9_there_3 : decode cX9_there 3 = .ok (.ldc2_w 270, 3) := by decide +kernel
theorem dX9_there_6 : decode cX9_there 6 = .ok (.invokestatic 80, 3) := by decide +kernel
theorem dX9_there_9 : decode cX9_there 9 = .ok (.ifCond .ne 6, 3) := by decide +kernel
theorem dX9_there_12 : decode cX9_there 12 = .ok (.bipush (-2), 2) := by decide +kernel
theorem dX9_there_14 : decode cX9_there 14 = .ok (.ireturn, 1) := by decide +kernel
theorem dX9_there_15 : decode cX9_there 15 = .ok (.aload_n 0, 1) := by decide +kernel
theorem dX9_there_16 : decode cX9_there 16 = .ok (.invokevirtual 250, 3) := by decide +kernel
theorem dX9_there_19 : decode cX9_there 19 = .ok (.istore_n 2, 1) := by decide +kernel
theorem dX9_there_20 : decode cX9_there 20 = .ok (.aload_n 0, 1) := by decide +kernel
theorem dX9_there_21 : decode cX9_there 21 = .ok (.iload_n 2, 1) := by decide +kernel
theorem dX9_there_22 : decode cX9_there 22 = .ok (.bipush (-6), 2) := by decide +kernel
theorem dX9_there_24 : decode cX9_there 24 = .ok (.if_icmp .eq 7, 3) := by decide +kernel
theorem dX9_there_27 : decode cX9_there 27 = .ok (.iload_n 2, 1) := by decide +kernel
theorem dX9_there_28 : decode cX9_there 28 = .ok (.goto 8, 3) := by decide +kernel
theorem dX9_there_31 : decode cX9_there 31 = .ok (.aload_n 0, 1) := by decide +kernel
theorem dX9_there_32 : decode cX9_there 32 = .ok (.iload_n 1, 1) := by decide +kernel
theorem dX9_there_33 : decode cX9_there 33 = .ok (.invokevirtual 272, 3) := by decide +kernel
theorem dX9_there_36 : decode cX9_there 36 = .ok (.invokevirtual 253, 3) := by decide +kernel
theorem dX9_there_39 : decode cX9_there 39 = .ok (.ireturn, 1) := by decide +kernel
theorem dX9_first_0 : decode cX9_first 0 = .ok (.iload_n 1, 1) := by decide +kernel
theorem dX9_first_1 : decode cX9_first 1 = .ok (.i2l, 1) := by decide +kernel
theorem dX9_first_2 : decode cX9_first 2 = .ok (.lconst 0, 1) := by decide +kernel
theorem dX9_first_3 : decode cX9_first 3 = .ok (.lconst 1, 1) := by decide +kernel
theorem dX9_first_4 : decode cX9_first 4 = .ok (.invokestatic 80, 3) := by decide +kernel
theorem dX9_first_7 : decode cX9_first 7 = .ok (.ifCond .ne 6, 3) := by decide +kernel
theorem dX9_first_10 : decode cX9_first 10 = .ok (.bipush (-2), 2) := by decide +kernel
theorem dX9_first_12 : decode cX9_first 12 = .ok (.ireturn, 1) := by decide +kernel
theorem dX9_first_13 : decode cX9_first 13 = .ok (.aload_n 0, 1) := by decide +kernel
theorem dX9_first_14 : decode cX9_first 14 = .ok (.aload_n 0, 1) := by decide +kernel
theorem dX9_first_15 : decode cX9_first 15 = .ok (.invokevirtual 250, 3) := by decide +kernel
theorem dX9_first_18 : decode cX9_first 18 = .ok (.invokevirtual 253, 3) := by decide +kernel
theorem dX9_first_21 : decode cX9_first 21 = .ok (.istore_n 2, 1) := by decide +kernel
theorem dX9_first_22 : decode cX9_first 22 = .ok (.iload_n 2, 1) := by decide +kernel
theorem dX9_first_23 : decode cX9_first 23 = .ok (.bipush (-6), 2) := by decide +kernel
theorem dX9_first_25 : decode cX9_first 25 = .ok (.if_icmp .eq 7, 3) := by decide +kernel
theorem dX9_first_28 : decode cX9_first 28 = .ok (.iload_n 2, 1) := by decide +kernel
theorem dX9_first_29 : decode cX9_first 29 = .ok (.goto 18, 3) := by decide +kernel
theorem dX9_first_32 : decode cX9_first 32 = .ok (.iload_n 1, 1) := by decide +kernel
theorem dX9_first_33 : decode cX9_first 33 = .ok (.ifCond .ne 10, 3) := by decide +kernel
theorem dX9_first_36 : decode cX9_first 36 = .ok (.aload_n 0, 1) := by decide +kernel
theorem dX9_first_37 : decode cX9_first 37 = .ok (.getfield 224, 3) := by decide +kernel
theorem dX9_first_40 : decode cX9_first 40 = .ok (.goto 7, 3) := by decide +kernel
theorem dX9_first_43 : decode cX9_first 43 = .ok (.aload_n 0, 1) := by decide +kernel
theorem dX9_first_44 : decode cX9_first 44 = .ok (.getfield 227, 3) := by decide +kernel
theorem dX9_first_47 : decode cX9_first 47 = .ok (.ireturn, 1) := by decide +kernel
theorem dX9_done_0 : decode cX9_done 0 = .ok (.aload_n 0, 1) := by decide +kernel
theorem dX9_done_1 : decode cX9_done 1 = .ok (.invokevirtual 250, 3) := by decide +kernel
theorem dX9_done_4 : decode cX9_done 4 = .ok (.istore_n 1, 1) := by decide +kernel
theorem dX9_done_5 : decode cX9_done 5 = .ok (.iload_n 1, 1) := by decide +kernel
theorem dX9_done_6 : decode cX9_done 6 = .ok (.bipush (-6), 2) := by decide +kernel
theorem dX9_done_8 : decode cX9_done 8 = .ok (.if_icmp .eq 9, 3) := by decide +kernel
theorem dX9_done_11 : decode cX9_done 11 = .ok (.aload_n 0, 1) := by decide +kernel
theorem dX9_done_12 : decode cX9_done 12 = .ok (.iload_n 1, 1) := by decide +kernel
theorem dX9_done_13 : decode cX9_done 13 = .ok (.invokevirtual 253, 3) := by decide +kernel
theorem dX9_done_16 : decode cX9_done 16 = .ok (.ireturn, 1) := by decide +kernel
theorem dX9_done_17 : decode cX9_done 17 = .ok (.aload_n 0, 1) := by decide +kernel
theorem dX9_done_18 : decode cX9_done 18 = .ok (.iconst 0, 1) := by decide +kernel
theorem dX9_done_19 : decode cX9_done 19 = .ok (.putfield 126, 3) := by decide +kernel
theorem dX9_done_22 : decode cX9_done 22 = .ok (.aload_n 0, 1) := by decide +kernel
theorem dX9_done_23 : decode cX9_done 23 = .ok (.getfield 129, 3) := by decide +kernel
theorem dX9_done_26 : decode cX9_done 26 = .ok (.ireturn, 1) := by decide +kernel
theorem dX9_besideAll_0 : decode cX9_besideAll 0 = .ok (.iconst 0, 1) := by decide +kernel
theorem dX9_besideAll_1 : decode cX9_besideAll 1 = .ok (.istore_n 2, 1) := by decide +kernel
theorem dX9_besideAll_2 : decode cX9_besideAll 2 = .ok (.iconst 0, 1) := by decide +kernel
theorem dX9_besideAll_3 : decode cX9_besideAll 3 = .ok (.istore_n 3, 1) := by decide +kernel
theorem dX9_besideAll_4 : decode cX9_besideAll 4 = .ok (.iload_n 3, 1) := by decide +kernel
theorem dX9_besideAll_5 : decode cX9_besideAll 5 = .ok (.bipush 8, 2) := by decide +kernel
theorem dX9_besideAll_7 : decode cX9_besideAll 7 = .ok (.if_icmp .ge 30, 3) := by decide +kernel
theorem dX9_besideAll_10 : decode cX9_besideAll 10 = .ok (.iload_n 2, 1) := by decide +kernel
theorem dX9_besideAll_11 : decode cX9_besideAll 11 = .ok (.iload_n 1, 1) := by decide +kernel
theorem dX9_besideAll_12 : decode cX9_besideAll 12 = .ok (.iload_n 3, 1) := by decide +kernel
theorem dX9_besideAll_13 : decode cX9_besideAll 13 = .ok (.invokestatic 163, 3) := by decide +kernel
theorem dX9_besideAll_16 : decode cX9_besideAll 16 = .ok (.ifCond .eq 12, 3) := by decide +kernel
theorem dX9_besideAll_19 : decode cX9_besideAll 19 = .ok (.aload_n 0, 1) := by decide +kernel
theorem dX9_besideAll_20 : decode cX9_besideAll 20 = .ok (.getfield 7, 3) := by decide +kernel
theorem dX9_besideAll_23 : decode cX9_besideAll 23 = .ok (.iload_n 3, 1) := by decide +kernel
theorem dX9_besideAll_24 : decode cX9_besideAll 24 = .ok (.iaload, 1) := by decide +kernel
theorem dX9_besideAll_25 : decode cX9_besideAll 25 = .ok (.goto 4, 3) := by decide +kernel
theorem dX9_besideAll_28 : decode cX9_besideAll 28 = .ok (.iconst 0, 1) := by decide +kernel
theorem dX9_besideAll_29 : decode cX9_besideAll 29 = .ok (.ior, 1) := by decide +kernel
theorem dX9_besideAll_30 : decode cX9_besideAll 30 = .ok (.istore_n 2, 1) := by decide +kernel
theorem dX9_besideAll_31 : decode cX9_besideAll 31 = .ok (.iinc 3 1, 3) := by decide +kernel
theorem dX9_besideAll_34 : decode cX9_besideAll 34 = .ok (.goto (-30), 3) := by decide +kernel
theorem dX9_besideAll_37 : decode cX9_besideAll 37 = .ok (.iload_n 2, 1) := by decide +kernel
theorem dX9_besideAll_38 : decode cX9_besideAll 38 = .ok (.ireturn, 1) := by decide +kernel
theorem dX9_join_0 : decode cX9_join 0 = .ok (.iload_n 1, 1) := by decide +kernel
theorem dX9_join_1 : decode cX9_join 1 = .ok (.invokestatic 90, 3) := by decide +kernel
theorem dX9_join_4 : decode cX9_join 4 = .ok (.ifCond .eq 10, 3) := by decide +kernel
theorem dX9_join_7 : decode cX9_join 7 = .ok (.iload_n 2, 1) := by decide +kernel
theorem dX9_join_8 : decode cX9_join 8 = .ok (.invokestatic 90, 3) := by decide +kernel
theorem dX9_join_11 : decode cX9_join 11 = .ok (.ifCond .ne 5, 3) := by decide +kernel
theorem dX9_join_14 : decode cX9_join 14 = .ok (.iconst (-1), 1) := by decide +kernel
theorem dX9_join_15 : decode cX9_join 15 = .ok (.ireturn, 1) := by decide +kernel
theorem dX9_join_16 : decode cX9_join 16 = .ok (.iconst 1, 1) := by decide +kernel
theorem dX9_join_17 : decode cX9_join 17 = .ok (.iload_n 1, 1) := by decide +kernel
theorem dX9_join_18 : decode cX9_join 18 = .ok (.ishl, 1) := by decide +kernel
theorem dX9_join_19 : decode cX9_join 19 = .ok (.istore_n 3, 1) := by decide +kernel
theorem dX9_join_20 : decode cX9_join 20 = .ok (.iconst 0, 1) := by decide +kernel
theorem dX9_join_21 : decode cX9_join 21 = .ok (.istore 4, 2) := by decide +kernel
theorem dX9_join_23 : decode cX9_join 23 = .ok (.iload 4, 2) := by decide +kernel
theorem dX9_join_25 : decode cX9_join 25 = .ok (.bipush 8, 2) := by decide +kernel
theorem dX9_join_27 : decode cX9_join 27 = .ok (.if_icmp .ge 28, 3) := by decide +kernel
theorem dX9_join_30 : decode cX9_join 30 = .ok (.iload_n 3, 1) := by decide +kernel
theorem dX9_join_31 : decode cX9_join 31 = .ok (.iload_n 2, 1) := by decide +kernel
theorem dX9_join_32 : decode cX9_join 32 = .ok (.invokestatic 163, 3) := by decide +kernel
theorem dX9_join_35 : decode cX9_join 35 = .ok (.ifCond .eq 6, 3) := by decide +kernel
theorem dX9_join_38 : decode cX9_join 38 = .ok (.iload 4, 2) := by decide +kernel
theorem dX9_join_40 : decode cX9_join 40 = .ok (.ireturn, 1) := by decide +kernel
theorem dX9_join_41 : decode cX9_join 41 = .ok (.iload_n 3, 1) := by decide +kernel
theorem dX9_join_42 : decode cX9_join 42 = .ok (.aload_n 0, 1) := by decide +kernel
theorem dX9_join_43 : decode cX9_join 43 = .ok (.iload_n 3, 1) := by decide +kernel
theorem dX9_join_44 : decode cX9_join 44 = .ok (.invokevirtual 275, 3) := by decide +kernel
theorem dX9_join_47 : decode cX9_join 47 = .ok (.ior, 1) := by decide +kernel
theorem dX9_join_48 : decode cX9_join 48 = .ok (.istore_n 3, 1) := by decide +kernel
theorem dX9_join_49 : decode cX9_join 49 = .ok (.iinc 4 1, 3) := by decide +kernel
theorem dX9_join_52 : decode cX9_join 52 = .ok (.goto (-29), 3) := by decide +kernel
theorem dX9_join_55 : decode cX9_join 55 = .ok (.bipush (-6), 2) := by decide +kernel
theorem dX9_join_57 : decode cX9_join 57 = .ok (.ireturn, 1) := by decide +kernel
theorem dX9_waysOut_0 : decode cX9_waysOut 0 = .ok (.iconst 0, 1) := by decide +kernel
theorem dX9_waysOut_1 : decode cX9_waysOut 1 = .ok (.istore_n 2, 1) := by decide +kernel
theorem dX9_waysOut_2 : decode cX9_waysOut 2 = .ok (.iconst 0, 1) := by decide +kernel
theorem dX9_waysOut_3 : decode cX9_waysOut 3 = .ok (.istore_n 3, 1) := by decide +kernel
theorem dX9_waysOut_4 : decode cX9_waysOut 4 = .ok (.iload_n 3, 1) := by decide +kernel
theorem dX9_waysOut_5 : decode cX9_waysOut 5 = .ok (.bipush 8, 2) := by decide +kernel
theorem dX9_waysOut_7 : decode cX9_waysOut 7 = .ok (.if_icmp .ge 37, 3) := by decide +kernel
theorem dX9_waysOut_10 : decode cX9_waysOut 10 = .ok (.iload_n 2, 1) := by decide +kernel
theorem dX9_waysOut_11 : decode cX9_waysOut 11 = .ok (.iload_n 1, 1) := by decide +kernel
theorem dX9_waysOut_12 : decode cX9_waysOut 12 = .ok (.iload_n 3, 1) := by decide +kernel
theorem dX9_waysOut_13 : decode cX9_waysOut 13 = .ok (.invokestatic 163, 3) := by decide +kernel
theorem dX9_waysOut_16 : decode cX9_waysOut 16 = .ok (.ifCond .eq 19, 3) := by decide +kernel
theorem dX9_waysOut_19 : decode cX9_waysOut 19 = .ok (.aload_n 0, 1) := by decide +kernel
theorem dX9_waysOut_20 : decode cX9_waysOut 20 = .ok (.getfield 7, 3) := by decide +kernel
theorem dX9_waysOut_23 : decode cX9_waysOut 23 = .ok (.iload_n 3, 1) := by decide +kernel
theorem dX9_waysOut_24 : decode cX9_waysOut 24 = .ok (.iaload, 1) := by decide +kernel
theorem dX9_waysOut_25 : decode cX9_waysOut 25 = .ok (.iload_n 1, 1) := by decide +kernel
theorem dX9_waysOut_26 : decode cX9_waysOut 26 = .ok (.iconst (-1), 1) := by decide +kernel
theorem dX9_waysOut_27 : decode cX9_waysOut 27 = .ok (.ixor, 1) := by decide +kernel
theorem dX9_waysOut_28 : decode cX9_waysOut 28 = .ok (.iand, 1) := by decide +kernel
theorem dX9_waysOut_29 : decode cX9_waysOut 29 = .ok (.invokestatic 86, 3) := by decide +kernel
theorem dX9_waysOut_32 : decode cX9_waysOut 32 = .ok (.goto 4, 3) := by decide +kernel
theorem dX9_waysOut_35 : decode cX9_waysOut 35 = .ok (.iconst 0, 1) := by decide +kernel
theorem dX9_waysOut_36 : decode cX9_waysOut 36 = .ok (.iadd, 1) := by decide +kernel
theorem dX9_waysOut_37 : decode cX9_waysOut 37 = .ok (.istore_n 2, 1) := by decide +kernel
theorem dX9_waysOut_38 : decode cX9_waysOut 38 = .ok (.iinc 3 1, 3) := by decide +kernel
theorem dX9_waysOut_41 : decode cX9_waysOut 41 = .ok (.goto (-37), 3) := by decide +kernel
theorem dX9_waysOut_44 : decode cX9_waysOut 44 = .ok (.iload_n 2, 1) := by decide +kernel
theorem dX9_waysOut_45 : decode cX9_waysOut 45 = .ok (.ireturn, 1) := by decide +kernel
theorem dX9_cut_0 : decode cX9_cut 0 = .ok (.iload_n 1, 1) := by decide +kernel
theorem dX9_cut_1 : decode cX9_cut 1 = .ok (.invokestatic 90, 3) := by decide +kernel
theorem dX9_cut_4 : decode cX9_cut 4 = .ok (.ifCond .eq 10, 3) := by decide +kernel
theorem dX9_cut_7 : decode cX9_cut 7 = .ok (.iload_n 2, 1) := by decide +kernel
theorem dX9_cut_8 : decode cX9_cut 8 = .ok (.invokestatic 90, 3) := by decide +kernel
theorem dX9_cut_11 : decode cX9_cut 11 = .ok (.ifCond .ne 5, 3) := by decide +kernel
theorem dX9_cut_14 : decode cX9_cut 14 = .ok (.iconst (-1), 1) := by decide +kernel
theorem dX9_cut_15 : decode cX9_cut 15 = .ok (.ireturn, 1) := by decide +kernel
theorem dX9_cut_16 : decode cX9_cut 16 = .ok (.iload_n 1, 1) := by decide +kernel
theorem dX9_cut_17 : decode cX9_cut 17 = .ok (.iload_n 2, 1) := by decide +kernel
theorem dX9_cut_18 : decode cX9_cut 18 = .ok (.if_icmp .eq 13, 3) := by decide +kernel
theorem dX9_cut_21 : decode cX9_cut 21 = .ok (.iload_n 3, 1) := by decide +kernel
theorem dX9_cut_22 : decode cX9_cut 22 = .ok (.i2l, 1) := by decide +kernel
theorem dX9_cut_23 : decode cX9_cut 23 = .ok (.lconst 0, 1) := by decide +kernel
theorem dX9_cut_24 : decode cX9_cut 24 = .ok (.lconst 1, 1) := by decide +kernel
theorem dX9_cut_25 : decode cX9_cut 25 = .ok (.invokestatic 80, 3) := by decide +kernel
theorem dX9_cut_28 : decode cX9_cut 28 = .ok (.ifCond .ne 6, 3) := by decide +kernel
theorem dX9_cut_31 : decode cX9_cut 31 = .ok (.bipush (-2), 2) := by decide +kernel
theorem dX9_cut_33 : decode cX9_cut 33 = .ok (.ireturn, 1) := by decide +kernel
theorem dX9_cut_34 : decode cX9_cut 34 = .ok (.bipush (-6), 2) := by decide +kernel
theorem dX9_cut_36 : decode cX9_cut 36 = .ok (.istore 4, 2) := by decide +kernel
theorem dX9_cut_38 : decode cX9_cut 38 = .ok (.iconst 0, 1) := by decide +kernel
theorem dX9_cut_39 : decode cX9_cut 39 = .ok (.istore 5, 2) := by decide +kernel
theorem dX9_cut_41 : decode cX9_cut 41 = .ok (.iload 5, 2) := by decide +kernel
theorem dX9_cut_43 : decode cX9_cut 43 = .ok (.sipush 256, 3) := by decide +kernel
theorem dX9_cut_46 : decode cX9_cut 46 = .ok (.if_icmp .ge 68, 3) := by decide +kernel
theorem dX9_cut_49 : decode cX9_cut 49 = .ok (.iload 5, 2) := by decide +kernel
theorem dX9_cut_51 : decode cX9_cut 51 = .ok (.iload_n 1, 1) := by decide +kernel
theorem dX9_cut_52 : decode cX9_cut 52 = .ok (.invokestatic 163, 3) := by decide +kernel
theorem dX9_cut_55 : decode cX9_cut 55 = .ok (.ifCond .eq 16, 3) := by decide +kernel
theorem dX9_cut_58 : decode cX9_cut 58 = .ok (.iload 5, 2) := by decide +kernel
theorem dX9_cut_60 : decode cX9_cut 60 = .ok (.iload_n 2, 1) := by decide +kernel
theorem dX9_cut_61 : decode cX9_cut 61 = .ok (.invokestatic 163, 3) := by decide +kernel
theorem dX9_cut_64 : decode cX9_cut 64 = .ok (.ifCond .ne 7, 3) := by decide +kernel
theorem dX9_cut_67 : decode cX9_cut 67 = .ok (.iconst 1, 1) := by decide +kernel
theorem dX9_cut_68 : decode cX9_cut 68 = .ok (.goto 4, 3) := by decide +kernel
theorem dX9_cut_71 : decode cX9_cut 71 = .ok (.iconst 0, 1) := by decide +kernel
theorem dX9_cut_72 : decode cX9_cut 72 = .ok (.istore 6, 2) := by decide +kernel
theorem dX9_cut_74 : decode cX9_cut 74 = .ok (.iload 6, 2) := by decide +kernel
theorem dX9_cut_76 : decode cX9_cut 76 = .ok (.ifCond .eq 28, 3) := by decide +kernel
theorem dX9_cut_79 : decode cX9_cut 79 = .ok (.iload 4, 2) := by decide +kernel
theorem dX9_cut_81 : decode cX9_cut 81 = .ok (.ifCond .lt 18, 3) := by decide +kernel
theorem dX9_cut_84 : decode cX9_cut 84 = .ok (.aload_n 0, 1) := by decide +kernel
theorem dX9_cut_85 : decode cX9_cut 85 = .ok (.iload 5, 2) := by decide +kernel
theorem dX9_cut_87 : decode cX9_cut 87 = .ok (.invokevirtual 278, 3) := by decide +kernel
theorem dX9_cut_90 : decode cX9_cut 90 = .ok (.aload_n 0, 1) := by decide +kernel
theorem dX9_cut_91 : decode cX9_cut 91 = .ok (.iload 4, 2) := by decide +kernel
theorem dX9_cut_93 : decode cX9_cut 93 = .ok (.invokevirtual 278, 3) := by decide +kernel
theorem dX9_cut_96 : decode cX9_cut 96 = .ok (.if_icmp .ge 8, 3) := by decide +kernel
theorem dX9_cut_99 : decode cX9_cut 99 = .ok (.iload 5, 2) := by decide +kernel
theorem dX9_cut_101 : decode cX9_cut 101 = .ok (.goto 5, 3) := by decide +kernel
theorem dX9_cut_104 : decode cX9_cut 104 = .ok (.iload 4, 2) := by decide +kernel
theorem dX9_cut_106 : decode cX9_cut 106 = .ok (.istore 4, 2) := by decide +kernel
theorem dX9_cut_108 : decode cX9_cut 108 = .ok (.iinc 5 1, 3) := by decide +kernel
theorem dX9_cut_111 : decode cX9_cut 111 = .ok (.goto (-70), 3) := by decide +kernel
theorem dX9_cut_114 : decode cX9_cut 114 = .ok (.iload_n 3, 1) := by decide +kernel
theorem dX9_cut_115 : decode cX9_cut 115 = .ok (.ifCond .ne 12, 3) := by decide +kernel
theorem dX9_cut_118 : decode cX9_cut 118 = .ok (.aload_n 0, 1) := by decide +kernel
theorem dX9_cut_119 : decode cX9_cut 119 = .ok (.iload 4, 2) := by decide +kernel
theorem dX9_cut_121 : decode cX9_cut 121 = .ok (.invokevirtual 278, 3) := by decide +kernel
theorem dX9_cut_124 : decode cX9_cut 124 = .ok (.goto 5, 3) := by decide +kernel
theorem dX9_cut_127 : decode cX9_cut 127 = .ok (.iload 4, 2) := by decide +kernel
theorem dX9_cut_129 : decode cX9_cut 129 = .ok (.ireturn, 1) := by decide +kernel
theorem dX9_rule_0 : decode cX9_rule 0 = .ok (.iload_n 1, 1) := by decide +kernel
theorem dX9_rule_1 : decode cX9_rule 1 = .ok (.i2l, 1) := by decide +kernel
theorem dX9_rule_2 : decode cX9_rule 2 = .ok (.lconst 0, 1) := by decide +kernel
theorem dX9_rule_3 : decode cX9_rule 3 = .ok (.ldc2_w 116, 3) := by decide +kernel
theorem dX9_rule_6 : decode cX9_rule 6 = .ok (.invokestatic 80, 3) := by decide +kernel
theorem dX9_rule_9 : decode cX9_rule 9 = .ok (.ifCond .eq 27, 3) := by decide +kernel
theorem dX9_rule_12 : decode cX9_rule 12 = .ok (.iload_n 2, 1) := by decide +kernel
theorem dX9_rule_13 : decode cX9_rule 13 = .ok (.i2l, 1) := by decide +kernel
theorem dX9_rule_14 : decode cX9_rule 14 = .ok (.lconst 0, 1) := by decide +kernel
theorem dX9_rule_15 : decode cX9_rule 15 = .ok (.ldc2_w 116, 3) := by decide +kernel
theorem dX9_rule_18 : decode cX9_rule 18 = .ok (.invokestatic 80, 3) := by decide +kernel
theorem dX9_rule_21 : decode cX9_rule 21 = .ok (.ifCond .eq 15, 3) := by decide +kernel
theorem dX9_rule_24 : decode cX9_rule 24 = .ok (.iload_n 3, 1) := by decide +kernel
theorem dX9_rule_25 : decode cX9_rule 25 = .ok (.i2l, 1) := by decide +kernel
theorem dX9_rule_26 : decode cX9_rule 26 = .ok (.lconst 0, 1) := by decide +kernel
theorem dX9_rule_27 : decode cX9_rule 27 = .ok (.ldc2_w 116, 3) := by decide +kernel
theorem dX9_rule_30 : decode cX9_rule 30 = .ok (.invokestatic 80, 3) := by decide +kernel
theorem dX9_rule_33 : decode cX9_rule 33 = .ok (.ifCond .ne 6, 3) := by decide +kernel
theorem dX9_rule_36 : decode cX9_rule 36 = .ok (.bipush (-2), 2) := by decide +kernel
theorem dX9_rule_38 : decode cX9_rule 38 = .ok (.ireturn, 1) := by decide +kernel
theorem dX9_rule_39 : decode cX9_rule 39 = .ok (.aload_n 0, 1) := by decide +kernel
theorem dX9_rule_40 : decode cX9_rule 40 = .ok (.getfield 281, 3) := by decide +kernel
theorem dX9_rule_43 : decode cX9_rule 43 = .ok (.bipush 12, 2) := by decide +kernel
theorem dX9_rule_45 : decode cX9_rule 45 = .ok (.if_icmp .ne 6, 3) := by decide +kernel
theorem dX9_rule_48 : decode cX9_rule 48 = .ok (.bipush (-4), 2) := by decide +kernel
theorem dX9_rule_50 : decode cX9_rule 50 = .ok (.ireturn, 1) := by decide +kernel
theorem dX9_rule_51 : decode cX9_rule 51 = .ok (.aload_n 0, 1) := by decide +kernel
theorem dX9_rule_52 : decode cX9_rule 52 = .ok (.getfield 25, 3) := by decide +kernel
theorem dX9_rule_55 : decode cX9_rule 55 = .ok (.aload_n 0, 1) := by decide +kernel
theorem dX9_rule_56 : decode cX9_rule 56 = .ok (.getfield 281, 3) := by decide +kernel
theorem dX9_rule_59 : decode cX9_rule 59 = .ok (.iload_n 1, 1) := by decide +kernel
theorem dX9_rule_60 : decode cX9_rule 60 = .ok (.iastore, 1) := by decide +kernel
theorem dX9_rule_61 : decode cX9_rule 61 = .ok (.aload_n 0, 1) := by decide +kernel
theorem dX9_rule_62 : decode cX9_rule 62 = .ok (.getfield 28, 3) := by decide +kernel
theorem dX9_rule_65 : decode cX9_rule 65 = .ok (.aload_n 0, 1) := by decide +kernel
theorem dX9_rule_66 : decode cX9_rule 66 = .ok (.getfield 281, 3) := by decide +kernel
theorem dX9_rule_69 : decode cX9_rule 69 = .ok (.iload_n 2, 1) := by decide +kernel
theorem dX9_rule_70 : decode cX9_rule 70 = .ok (.iastore, 1) := by decide +kernel
theorem dX9_rule_71 : decode cX9_rule 71 = .ok (.aload_n 0, 1) := by decide +kernel
theorem dX9_rule_72 : decode cX9_rule 72 = .ok (.getfield 31, 3) := by decide +kernel
theorem dX9_rule_75 : decode cX9_rule 75 = .ok (.aload_n 0, 1) := by decide +kernel
theorem dX9_rule_76 : decode cX9_rule 76 = .ok (.getfield 281, 3) := by decide +kernel
theorem dX9_rule_79 : decode cX9_rule 79 = .ok (.iload_n 3, 1) := by decide +kernel
theorem dX9_rule_80 : decode cX9_rule 80 = .ok (.iastore, 1) := by decide +kernel
theorem dX9_rule_81 : decode cX9_rule 81 = .ok (.aload_n 0, 1) := by decide +kernel
theorem dX9_rule_82 : decode cX9_rule 82 = .ok (.dup, 1) := by decide +kernel
theorem dX9_rule_83 : decode cX9_rule 83 = .ok (.getfield 281, 3) := by decide +kernel
theorem dX9_rule_86 : decode cX9_rule 86 = .ok (.iconst 1, 1) := by decide +kernel
theorem dX9_rule_87 : decode cX9_rule 87 = .ok (.iadd, 1) := by decide +kernel
theorem dX9_rule_88 : decode cX9_rule 88 = .ok (.putfield 281, 3) := by decide +kernel
theorem dX9_rule_91 : decode cX9_rule 91 = .ok (.aload_n 0, 1) := by decide +kernel
theorem dX9_rule_92 : decode cX9_rule 92 = .ok (.getfield 281, 3) := by decide +kernel
theorem dX9_rule_95 : decode cX9_rule 95 = .ok (.ireturn, 1) := by decide +kernel
theorem dX9_unrule_0 : decode cX9_unrule 0 = .ok (.aload_n 0, 1) := by decide +kernel
theorem dX9_unrule_1 : decode cX9_unrule 1 = .ok (.getfield 281, 3) := by decide +kernel
theorem dX9_unrule_4 : decode cX9_unrule 4 = .ok (.istore_n 1, 1) := by decide +kernel
theorem dX9_unrule_5 : decode cX9_unrule 5 = .ok (.aload_n 0, 1) := by decide +kernel
theorem dX9_unrule_6 : decode cX9_unrule 6 = .ok (.iconst 0, 1) := by decide +kernel
theorem dX9_unrule_7 : decode cX9_unrule 7 = .ok (.putfield 281, 3) := by decide +kernel
theorem dX9_unrule_10 : decode cX9_unrule 10 = .ok (.iload_n 1, 1) := by decide +kernel
theorem dX9_unrule_11 : decode cX9_unrule 11 = .ok (.ireturn, 1) := by decide +kernel
theorem dX9_onceMore_0 : decode cX9_onceMore 0 = .ok (.iload_n 1, 1) := by decide +kernel
theorem dX9_onceMore_1 : decode cX9_onceMore 1 = .ok (.istore_n 2, 1) := by decide +kernel
theorem dX9_onceMore_2 : decode cX9_onceMore 2 = .ok (.iconst 0, 1) := by decide +kernel
theorem dX9_onceMore_3 : decode cX9_onceMore 3 = .ok (.istore_n 3, 1) := by decide +kernel
theorem dX9_onceMore_4 : decode cX9_onceMore 4 = .ok (.iload_n 3, 1) := by decide +kernel
theorem dX9_onceMore_5 : decode cX9_onceMore 5 = .ok (.aload_n 0, 1) := by decide +kernel
theorem dX9_onceMore_6 : decode cX9_onceMore 6 = .ok (.getfield 281, 3) := by decide +kernel
theorem dX9_onceMore_9 : decode cX9_onceMore 9 = .ok (.if_icmp .ge 50, 3) := by decide +kernel
theorem dX9_onceMore_12 : decode cX9_onceMore 12 = .ok (.iload_n 2, 1) := by decide +kernel
theorem dX9_onceMore_13 : decode cX9_onceMore 13 = .ok (.iload_n 2, 1) := by decide +kernel
theorem dX9_onceMore_14 : decode cX9_onceMore 14 = .ok (.aload_n 0, 1) := by decide +kernel
theorem dX9_onceMore_15 : decode cX9_onceMore 15 = .ok (.getfield 25, 3) := by decide +kernel
theorem dX9_onceMore_18 : decode cX9_onceMore 18 = .ok (.iload_n 3, 1) := by decide +kernel
theorem dX9_onceMore_19 : decode cX9_onceMore 19 = .ok (.iaload, 1) := by decide +kernel
theorem dX9_onceMore_20 : decode cX9_onceMore 20 = .ok (.invokestatic 163, 3) := by decide +kernel
theorem dX9_onceMore_23 : decode cX9_onceMore 23 = .ok (.ifCond .eq 27, 3) := by decide +kernel
theorem dX9_onceMore_26 : decode cX9_onceMore 26 = .ok (.iload_n 2, 1) := by decide +kernel
theorem dX9_onceMore_27 : decode cX9_onceMore 27 = .ok (.aload_n 0, 1) := by decide +kernel
theorem dX9_onceMore_28 : decode cX9_onceMore 28 = .ok (.getfield 28, 3) := by decide +kernel
theorem dX9_onceMore_31 : decode cX9_onceMore 31 = .ok (.iload_n 3, 1) := by decide +kernel
theorem dX9_onceMore_32 : decode cX9_onceMore 32 = .ok (.iaload, 1) := by decide +kernel
theorem dX9_onceMore_33 : decode cX9_onceMore 33 = .ok (.invokestatic 163, 3) := by decide +kernel
theorem dX9_onceMore_36 : decode cX9_onceMore 36 = .ok (.ifCond .eq 14, 3) := by decide +kernel
theorem dX9_onceMore_39 : decode cX9_onceMore 39 = .ok (.iconst 1, 1) := by decide +kernel
theorem dX9_onceMore_40 : decode cX9_onceMore 40 = .ok (.aload_n 0, 1) := by decide +kernel
theorem dX9_onceMore_41 : decode cX9_onceMore 41 = .ok (.getfield 31, 3) := by decide +kernel
theorem dX9_onceMore_44 : decode cX9_onceMore 44 = .ok (.iload_n 3, 1) := by decide +kernel
theorem dX9_onceMore_45 : decode cX9_onceMore 45 = .ok (.iaload, 1) := by decide +kernel
theorem dX9_onceMore_46 : decode cX9_onceMore 46 = .ok (.ishl, 1) := by decide +kernel
theorem dX9_onceMore_47 : decode cX9_onceMore 47 = .ok (.goto 4, 3) := by decide +kernel
theorem dX9_onceMore_50 : decode cX9_onceMore 50 = .ok (.iconst 0, 1) := by decide +kernel
theorem dX9_onceMore_51 : decode cX9_onceMore 51 = .ok (.ior, 1) := by decide +kernel
theorem dX9_onceMore_52 : decode cX9_onceMore 52 = .ok (.istore_n 2, 1) := by decide +kernel
theorem dX9_onceMore_53 : decode cX9_onceMore 53 = .ok (.iinc 3 1, 3) := by decide +kernel
theorem dX9_onceMore_56 : decode cX9_onceMore 56 = .ok (.goto (-52), 3) := by decide +kernel
theorem dX9_onceMore_59 : decode cX9_onceMore 59 = .ok (.iload_n 2, 1) := by decide +kernel
theorem dX9_onceMore_60 : decode cX9_onceMore 60 = .ok (.ireturn, 1) := by decide +kernel
theorem dX9_closedOf_0 : decode cX9_closedOf 0 = .ok (.iload_n 1, 1) := by decide +kernel
theorem dX9_closedOf_1 : decode cX9_closedOf 1 = .ok (.istore_n 2, 1) := by decide +kernel
theorem dX9_closedOf_2 : decode cX9_closedOf 2 = .ok (.iconst 0, 1) := by decide +kernel
theorem dX9_closedOf_3 : decode cX9_closedOf 3 = .ok (.istore_n 3, 1) := by decide +kernel
theorem dX9_closedOf_4 : decode cX9_closedOf 4 = .ok (.iload_n 3, 1) := by decide +kernel
theorem dX9_closedOf_5 : decode cX9_closedOf 5 = .ok (.bipush 10, 2) := by decide +kernel
theorem dX9_closedOf_7 : decode cX9_closedOf 7 = .ok (.if_icmp .ge 15, 3) := by decide +kernel
theorem dX9_closedOf_10 : decode cX9_closedOf 10 = .ok (.aload_n 0, 1) := by decide +kernel
theorem dX9_closedOf_11 : decode cX9_closedOf 11 = .ok (.iload_n 2, 1) := by decide +kernel
theorem dX9_closedOf_12 : decode cX9_closedOf 12 = .ok (.invokevirtual 284, 3) := by decide +kernel
theorem dX9_closedOf_15 : decode cX9_closedOf 15 = .ok (.istore_n 2, 1) := by decide +kernel
theorem dX9_closedOf_16 : decode cX9_closedOf 16 = .ok (.iinc 3 1, 3) := by decide +kernel
theorem dX9_closedOf_19 : decode cX9_closedOf 19 = .ok (.goto (-15), 3) := by decide +kernel
theorem dX9_closedOf_22 : decode cX9_closedOf 22 = .ok (.iload_n 2, 1) := by decide +kernel
theorem dX9_closedOf_23 : decode cX9_closedOf 23 = .ok (.ireturn, 1) := by decide +kernel
theorem dX9_close_0 : decode cX9_close 0 = .ok (.iload_n 1, 1) := by decide +kernel
theorem dX9_close_1 : decode cX9_close 1 = .ok (.i2l, 1) := by decide +kernel
theorem dX9_close_2 : decode cX9_close 2 = .ok (.lconst 0, 1) := by decide +kernel
theorem dX9_close_3 : decode cX9_close 3 = .ok (.ldc2_w 287, 3) := by decide +kernel
theorem dX9_close_6 : decode cX9_close 6 = .ok (.invokestatic 80, 3) := by decide +kernel
theorem dX9_close_9 : decode cX9_close 9 = .ok (.ifCond .eq 11, 3) := by decide +kernel
theorem dX9_close_12 : decode cX9_close 12 = .ok (.aload_n 0, 1) := by decide +kernel
theorem dX9_close_13 : decode cX9_close 13 = .ok (.iload_n 1, 1) := by decide +kernel
theorem dX9_close_14 : decode cX9_close 14 = .ok (.invokevirtual 289, 3) := by decide +kernel
theorem dX9_close_17 : decode cX9_close 17 = .ok (.goto 5, 3) := by decide +kernel
theorem dX9_close_20 : decode cX9_close 20 = .ok (.bipush (-2), 2) := by decide +kernel
theorem dX9_close_22 : decode cX9_close 22 = .ok (.ireturn, 1) := by decide +kernel
theorem dX9_least_0 : decode cX9_least 0 = .ok (.iload_n 1, 1) := by decide +kernel
theorem dX9_least_1 : decode cX9_least 1 = .ok (.i2l, 1) := by decide +kernel
theorem dX9_least_2 : decode cX9_least 2 = .ok (.lconst 0, 1) := by decide +kernel
theorem dX9_least_3 : decode cX9_least 3 = .ok (.ldc2_w 116, 3) := by decide +kernel
theorem dX9_least_6 : decode cX9_least 6 = .ok (.invokestatic 80, 3) := by decide +kernel
theorem dX9_least_9 : decode cX9_least 9 = .ok (.ifCond .eq 13, 3) := by decide +kernel
theorem dX9_least_12 : decode cX9_least 12 = .ok (.iload_n 2, 1) := by decide +kernel
theorem dX9_least_13 : decode cX9_least 13 = .ok (.i2l, 1) := by decide +kernel
theorem dX9_least_14 : decode cX9_least 14 = .ok (.lconst 0, 1) := by decide +kernel
theorem dX9_least_15 : decode cX9_least 15 = .ok (.lconst 1, 1) := by decide +kernel
theorem dX9_least_16 : decode cX9_least 16 = .ok (.invokestatic 80, 3) := by decide +kernel
theorem dX9_least_19 : decode cX9_least 19 = .ok (.ifCond .ne 6, 3) := by decide +kernel
theorem dX9_least_22 : decode cX9_least 22 = .ok (.bipush (-2), 2) := by decide +kernel
theorem dX9_least_24 : decode cX9_least 24 = .ok (.ireturn, 1) := by decide +kernel
theorem dX9_least_25 : decode cX9_least 25 = .ok (.bipush (-6), 2) := by decide +kernel
theorem dX9_least_27 : decode cX9_least 27 = .ok (.istore_n 3, 1) := by decide +kernel
theorem dX9_least_28 : decode cX9_least 28 = .ok (.iconst 0, 1) := by decide +kernel
theorem dX9_least_29 : decode cX9_least 29 = .ok (.istore 4, 2) := by decide +kernel
theorem dX9_least_31 : decode cX9_least 31 = .ok (.iload 4, 2) := by decide +kernel
theorem dX9_least_33 : decode cX9_least 33 = .ok (.sipush 1024, 3) := by decide +kernel
theorem dX9_least_36 : decode cX9_least 36 = .ok (.if_icmp .ge 66, 3) := by decide +kernel
theorem dX9_least_39 : decode cX9_least 39 = .ok (.iload_n 3, 1) := by decide +kernel
theorem dX9_least_40 : decode cX9_least 40 = .ok (.ifCond .lt 15, 3) := by decide +kernel
theorem dX9_least_43 : decode cX9_least 43 = .ok (.iload 4, 2) := by decide +kernel
theorem dX9_least_45 : decode cX9_least 45 = .ok (.invokestatic 86, 3) := by decide +kernel
theorem dX9_least_48 : decode cX9_least 48 = .ok (.iload_n 3, 1) := by decide +kernel
theorem dX9_least_49 : decode cX9_least 49 = .ok (.invokestatic 86, 3) := by decide +kernel
theorem dX9_least_52 : decode cX9_least 52 = .ok (.if_icmp .ge 7, 3) := by decide +kernel
theorem dX9_least_55 : decode cX9_least 55 = .ok (.iconst 1, 1) := by decide +kernel
theorem dX9_least_56 : decode cX9_least 56 = .ok (.goto 4, 3) := by decide +kernel
theorem dX9_least_59 : decode cX9_least 59 = .ok (.iconst 0, 1) := by decide +kernel
theorem dX9_least_60 : decode cX9_least 60 = .ok (.istore 5, 2) := by decide +kernel
theorem dX9_least_62 : decode cX9_least 62 = .ok (.iload 5, 2) := by decide +kernel
theorem dX9_least_64 : decode cX9_least 64 = .ok (.ifCond .eq 30, 3) := by decide +kernel
theorem dX9_least_67 : decode cX9_least 67 = .ok (.iload 4, 2) := by decide +kernel
theorem dX9_least_69 : decode cX9_least 69 = .ok (.iload_n 1, 1) := by decide +kernel
theorem dX9_least_70 : decode cX9_least 70 = .ok (.invokestatic 163, 3) := by decide +kernel
theorem dX9_least_73 : decode cX9_least 73 = .ok (.ifCond .ne 21, 3) := by decide +kernel
theorem dX9_least_76 : decode cX9_least 76 = .ok (.aload_n 0, 1) := by decide +kernel
theorem dX9_least_77 : decode cX9_least 77 = .ok (.iload 4, 2) := by decide +kernel
theorem dX9_least_79 : decode cX9_least 79 = .ok (.invokevirtual 289, 3) := by decide +kernel
theorem dX9_least_82 : decode cX9_least 82 = .ok (.iload_n 1, 1) := by decide +kernel
theorem dX9_least_83 : decode cX9_least 83 = .ok (.invokestatic 163, 3) := by decide +kernel
theorem dX9_least_86 : decode cX9_least 86 = .ok (.ifCond .eq 8, 3) := by decide +kernel
theorem dX9_least_89 : decode cX9_least 89 = .ok (.iload 4, 2) := by decide +kernel
theorem dX9_least_91 : decode cX9_least 91 = .ok (.goto 4, 3) := by decide +kernel
theorem dX9_least_94 : decode cX9_least 94 = .ok (.iload_n 3, 1) := by decide +kernel
theorem dX9_least_95 : decode cX9_least 95 = .ok (.istore_n 3, 1) := by decide +kernel
theorem dX9_least_96 : decode cX9_least 96 = .ok (.iinc 4 1, 3) := by decide +kernel
theorem dX9_least_99 : decode cX9_least 99 = .ok (.goto (-68), 3) := by decide +kernel
theorem dX9_least_102 : decode cX9_least 102 = .ok (.iload_n 3, 1) := by decide +kernel
theorem dX9_least_103 : decode cX9_least 103 = .ok (.ifCond .lt 8, 3) := by decide +kernel
theorem dX9_least_106 : decode cX9_least 106 = .ok (.iload_n 2, 1) := by decide +kernel
theorem dX9_least_107 : decode cX9_least 107 = .ok (.iconst 1, 1) := by decide +kernel
theorem dX9_least_108 : decode cX9_least 108 = .ok (.if_icmp .ne 7, 3) := by decide +kernel
theorem dX9_least_111 : decode cX9_least 111 = .ok (.iload_n 3, 1) := by decide +kernel
theorem dX9_least_112 : decode cX9_least 112 = .ok (.goto 7, 3) := by decide +kernel
theorem dX9_least_115 : decode cX9_least 115 = .ok (.iload_n 3, 1) := by decide +kernel
theorem dX9_least_116 : decode cX9_least 116 = .ok (.invokestatic 86, 3) := by decide +kernel
theorem dX9_least_119 : decode cX9_least 119 = .ok (.ireturn, 1) := by decide +kernel
theorem dX9_isQuestion_0 : decode cX9_isQuestion 0 = .ok (.iload_n 0, 1) := by decide +kernel
theorem dX9_isQuestion_1 : decode cX9_isQuestion 1 = .ok (.i2l, 1) := by decide +kernel
theorem dX9_isQuestion_2 : decode cX9_isQuestion 2 = .ok (.lconst 0, 1) := by decide +kernel
theorem dX9_isQuestion_3 : decode cX9_isQuestion 3 = .ok (.ldc2_w 270, 3) := by decide +kernel
theorem dX9_isQuestion_6 : decode cX9_isQuestion 6 = .ok (.invokestatic 80, 3) := by decide +kernel
theorem dX9_isQuestion_9 : decode cX9_isQuestion 9 = .ok (.ifCond .eq 42, 3) := by decide +kernel
theorem dX9_isQuestion_12 : decode cX9_isQuestion 12 = .ok (.iload_n 1, 1) := by decide +kernel
theorem dX9_isQuestion_13 : decode cX9_isQuestion 13 = .ok (.i2l, 1) := by decide +kernel
theorem dX9_isQuestion_14 : decode cX9_isQuestion 14 = .ok (.lconst 0, 1) := by decide +kernel
theorem dX9_isQuestion_15 : decode cX9_isQuestion 15 = .ok (.ldc2_w 248, 3) := by decide +kernel
theorem dX9_isQuestion_18 : decode cX9_isQuestion 18 = .ok (.invokestatic 80, 3) := by decide +kernel
theorem dX9_isQuestion_21 : decode cX9_isQuestion 21 = .ok (.ifCond .eq 30, 3) := by decide +kernel
theorem dX9_isQuestion_24 : decode cX9_isQuestion 24 = .ok (.iload_n 2, 1) := by decide +kernel
theorem dX9_isQuestion_25 : decode cX9_isQuestion 25 = .ok (.i2l, 1) := by decide +kernel
theorem dX9_isQuestion_26 : decode cX9_isQuestion 26 = .ok (.lconst 0, 1) := by decide +kernel
theorem dX9_isQuestion_27 : decode cX9_isQuestion 27 = .ok (.iload_n 1, 1) := by decide +kernel
theorem dX9_isQuestion_28 : decode cX9_isQuestion 28 = .ok (.iconst 2, 1) := by decide +kernel
theorem dX9_isQuestion_29 : decode cX9_isQuestion 29 = .ok (.if_icmp .ne 9, 3) := by decide +kernel
theorem dX9_isQuestion_32 : decode cX9_isQuestion 32 = .ok (.ldc2_w 84, 3) := by decide +kernel
theorem dX9_isQuestion_35 : decode cX9_isQuestion 35 = .ok (.goto 6, 3) := by decide +kernel
theorem dX9_isQuestion_38 : decode cX9_isQuestion 38 = .ok (.ldc2_w 270, 3) := by decide +kernel
theorem dX9_isQuestion_41 : decode cX9_isQuestion 41 = .ok (.invokestatic 80, 3) := by decide +kernel
theorem dX9_isQuestion_44 : decode cX9_isQuestion 44 = .ok (.ifCond .eq 7, 3) := by decide +kernel
theorem dX9_isQuestion_47 : decode cX9_isQuestion 47 = .ok (.iconst 1, 1) := by decide +kernel
theorem dX9_isQuestion_48 : decode cX9_isQuestion 48 = .ok (.goto 4, 3) := by decide +kernel
theorem dX9_isQuestion_51 : decode cX9_isQuestion 51 = .ok (.iconst 0, 1) := by decide +kernel
theorem dX9_isQuestion_52 : decode cX9_isQuestion 52 = .ok (.ireturn, 1) := by decide +kernel
theorem dX9_swore_0 : decode cX9_swore 0 = .ok (.iload_n 1, 1) := by decide +kernel
theorem dX9_swore_1 : decode cX9_swore 1 = .ok (.iload_n 2, 1) := by decide +kernel
theorem dX9_swore_2 : decode cX9_swore 2 = .ok (.iload_n 3, 1) := by decide +kernel
theorem dX9_swore_3 : decode cX9_swore 3 = .ok (.invokestatic 292, 3) := by decide +kernel
theorem dX9_swore_6 : decode cX9_swore 6 = .ok (.ifCond .ne 6, 3) := by decide +kernel
theorem dX9_swore_9 : decode cX9_swore 9 = .ok (.bipush (-2), 2) := by decide +kernel
theorem dX9_swore_11 : decode cX9_swore 11 = .ok (.ireturn, 1) := by decide +kernel
theorem dX9_swore_12 : decode cX9_swore 12 = .ok (.aload_n 0, 1) := by decide +kernel
theorem dX9_swore_13 : decode cX9_swore 13 = .ok (.getfield 296, 3) := by decide +kernel
theorem dX9_swore_16 : decode cX9_swore 16 = .ok (.bipush 8, 2) := by decide +kernel
theorem dX9_swore_18 : decode cX9_swore 18 = .ok (.if_icmp .ne 6, 3) := by decide +kernel
theorem dX9_swore_21 : decode cX9_swore 21 = .ok (.bipush (-4), 2) := by decide +kernel
theorem dX9_swore_23 : decode cX9_swore 23 = .ok (.ireturn, 1) := by decide +kernel
theorem dX9_swore_24 : decode cX9_swore 24 = .ok (.aload_n 0, 1) := by decide +kernel
theorem dX9_swore_25 : decode cX9_swore 25 = .ok (.getfield 34, 3) := by decide +kernel
theorem dX9_swore_28 : decode cX9_swore 28 = .ok (.aload_n 0, 1) := by decide +kernel
theorem dX9_swore_29 : decode cX9_swore 29 = .ok (.getfield 296, 3) := by decide +kernel
theorem dX9_swore_32 : decode cX9_swore 32 = .ok (.iload_n 1, 1) := by decide +kernel
theorem dX9_swore_33 : decode cX9_swore 33 = .ok (.iastore, 1) := by decide +kernel
theorem dX9_swore_34 : decode cX9_swore 34 = .ok (.aload_n 0, 1) := by decide +kernel
theorem dX9_swore_35 : decode cX9_swore 35 = .ok (.getfield 37, 3) := by decide +kernel
theorem dX9_swore_38 : decode cX9_swore 38 = .ok (.aload_n 0, 1) := by decide +kernel
theorem dX9_swore_39 : decode cX9_swore 39 = .ok (.getfield 296, 3) := by decide +kernel
theorem dX9_swore_42 : decode cX9_swore 42 = .ok (.iload_n 2, 1) := by decide +kernel
theorem dX9_swore_43 : decode cX9_swore 43 = .ok (.iastore, 1) := by decide +kernel
theorem dX9_swore_44 : decode cX9_swore 44 = .ok (.aload_n 0, 1) := by decide +kernel
theorem dX9_swore_45 : decode cX9_swore 45 = .ok (.getfield 40, 3) := by decide +kernel
theorem dX9_swore_48 : decode cX9_swore 48 = .ok (.aload_n 0, 1) := by decide +kernel
theorem dX9_swore_49 : decode cX9_swore 49 = .ok (.getfield 296, 3) := by decide +kernel
theorem dX9_swore_52 : decode cX9_swore 52 = .ok (.iload_n 3, 1) := by decide +kernel
theorem dX9_swore_53 : decode cX9_swore 53 = .ok (.iastore, 1) := by decide +kernel
theorem dX9_swore_54 : decode cX9_swore 54 = .ok (.aload_n 0, 1) := by decide +kernel
theorem dX9_swore_55 : decode cX9_swore 55 = .ok (.getfield 43, 3) := by decide +kernel
theorem dX9_swore_58 : decode cX9_swore 58 = .ok (.aload_n 0, 1) := by decide +kernel
theorem dX9_swore_59 : decode cX9_swore 59 = .ok (.getfield 296, 3) := by decide +kernel
theorem dX9_swore_62 : decode cX9_swore 62 = .ok (.iload 4, 2) := by decide +kernel
theorem dX9_swore_64 : decode cX9_swore 64 = .ok (.ifCond .eq 7, 3) := by decide +kernel
theorem dX9_swore_67 : decode cX9_swore 67 = .ok (.iconst 1, 1) := by decide +kernel
theorem dX9_swore_68 : decode cX9_swore 68 = .ok (.goto 4, 3) := by decide +kernel
theorem dX9_swore_71 : decode cX9_swore 71 = .ok (.iconst 0, 1) := by decide +kernel
theorem dX9_swore_72 : decode cX9_swore 72 = .ok (.iastore, 1) := by decide +kernel
theorem dX9_swore_73 : decode cX9_swore 73 = .ok (.aload_n 0, 1) := by decide +kernel
theorem dX9_swore_74 : decode cX9_swore 74 = .ok (.dup, 1) := by decide +kernel
theorem dX9_swore_75 : decode cX9_swore 75 = .ok (.getfield 296, 3) := by decide +kernel
theorem dX9_swore_78 : decode cX9_swore 78 = .ok (.iconst 1, 1) := by decide +kernel
theorem dX9_swore_79 : decode cX9_swore 79 = .ok (.iadd, 1) := by decide +kernel
theorem dX9_swore_80 : decode cX9_swore 80 = .ok (.putfield 296, 3) := by decide +kernel
theorem dX9_swore_83 : decode cX9_swore 83 = .ok (.aload_n 0, 1) := by decide +kernel
theorem dX9_swore_84 : decode cX9_swore 84 = .ok (.getfield 296, 3) := by decide +kernel
theorem dX9_swore_87 : decode cX9_swore 87 = .ok (.ireturn, 1) := by decide +kernel
theorem dX9_forget_0 : decode cX9_forget 0 = .ok (.aload_n 0, 1) := by decide +kernel
theorem dX9_forget_1 : decode cX9_forget 1 = .ok (.getfield 296, 3) := by decide +kernel
theorem dX9_forget_4 : decode cX9_forget 4 = .ok (.istore_n 1, 1) := by decide +kernel
theorem dX9_forget_5 : decode cX9_forget 5 = .ok (.aload_n 0, 1) := by decide +kernel
theorem dX9_forget_6 : decode cX9_forget 6 = .ok (.iconst 0, 1) := by decide +kernel
theorem dX9_forget_7 : decode cX9_forget 7 = .ok (.putfield 296, 3) := by decide +kernel
theorem dX9_forget_10 : decode cX9_forget 10 = .ok (.iload_n 1, 1) := by decide +kernel
theorem dX9_forget_11 : decode cX9_forget 11 = .ok (.ireturn, 1) := by decide +kernel
theorem dX9_says_0 : decode cX9_says 0 = .ok (.iload_n 2, 1) := by decide +kernel
theorem dX9_says_1 : decode cX9_says 1 = .ok (.iconst 2, 1) := by decide +kernel
theorem dX9_says_2 : decode cX9_says 2 = .ok (.if_icmp .ne 19, 3) := by decide +kernel
theorem dX9_says_5 : decode cX9_says 5 = .ok (.iload_n 0, 1) := by decide +kernel
theorem dX9_says_6 : decode cX9_says 6 = .ok (.invokestatic 86, 3) := by decide +kernel
theorem dX9_says_9 : decode cX9_says 9 = .ok (.iload_n 3, 1) := by decide +kernel
theorem dX9_says_10 : decode cX9_says 10 = .ok (.if_icmp .ne 7, 3) := by decide +kernel
theorem dX9_says_13 : decode cX9_says 13 = .ok (.iconst 1, 1) := by decide +kernel
theorem dX9_says_14 : decode cX9_says 14 = .ok (.goto 30, 3) := by decide +kernel
theorem dX9_says_17 : decode cX9_says 17 = .ok (.iconst 0, 1) := by decide +kernel
theorem dX9_says_18 : decode cX9_says 18 = .ok (.goto 26, 3) := by decide +kernel
theorem dX9_says_21 : decode cX9_says 21 = .ok (.iload_n 0, 1) := by decide +kernel
theorem dX9_says_22 : decode cX9_says 22 = .ok (.iload_n 3, 1) := by decide +kernel
theorem dX9_says_23 : decode cX9_says 23 = .ok (.invokestatic 163, 3) := by decide +kernel
theorem dX9_says_26 : decode cX9_says 26 = .ok (.iload_n 2, 1) := by decide +kernel
theorem dX9_says_27 : decode cX9_says 27 = .ok (.iconst 1, 1) := by decide +kernel
theorem dX9_says_28 : decode cX9_says 28 = .ok (.if_icmp .ne 7, 3) := by decide +kernel
theorem dX9_says_31 : decode cX9_says 31 = .ok (.iconst 1, 1) := by decide +kernel
theorem dX9_says_32 : decode cX9_says 32 = .ok (.goto 4, 3) := by decide +kernel
theorem dX9_says_35 : decode cX9_says 35 = .ok (.iconst 0, 1) := by decide +kernel
theorem dX9_says_36 : decode cX9_says 36 = .ok (.if_icmp .ne 7, 3) := by decide +kernel
theorem dX9_says_39 : decode cX9_says 39 = .ok (.iconst 1, 1) := by decide +kernel
theorem dX9_says_40 : decode cX9_says 40 = .ok (.goto 4, 3) := by decide +kernel
theorem dX9_says_43 : decode cX9_says 43 = .ok (.iconst 0, 1) := by decide +kernel
theorem dX9_says_44 : decode cX9_says 44 = .ok (.istore 4, 2) := by decide +kernel
theorem dX9_says_46 : decode cX9_says 46 = .ok (.iload 4, 2) := by decide +kernel
theorem dX9_says_48 : decode cX9_says 48 = .ok (.iload_n 0, 1) := by decide +kernel
theorem dX9_says_49 : decode cX9_says 49 = .ok (.iload_n 1, 1) := by decide +kernel
theorem dX9_says_50 : decode cX9_says 50 = .ok (.invokestatic 163, 3) := by decide +kernel
theorem dX9_says_53 : decode cX9_says 53 = .ok (.if_icmp .eq 7, 3) := by decide +kernel
theorem dX9_says_56 : decode cX9_says 56 = .ok (.iconst 1, 1) := by decide +kernel
theorem dX9_says_57 : decode cX9_says 57 = .ok (.goto 4, 3) := by decide +kernel
theorem dX9_says_60 : decode cX9_says 60 = .ok (.iconst 0, 1) := by decide +kernel
theorem dX9_says_61 : decode cX9_says 61 = .ok (.ireturn, 1) := by decide +kernel
theorem dX9_isFit_0 : decode cX9_isFit 0 = .ok (.iconst 1, 1) := by decide +kernel
theorem dX9_isFit_1 : decode cX9_isFit 1 = .ok (.istore_n 2, 1) := by decide +kernel
theorem dX9_isFit_2 : decode cX9_isFit 2 = .ok (.iconst 0, 1) := by decide +kernel
theorem dX9_isFit_3 : decode cX9_isFit 3 = .ok (.istore_n 3, 1) := by decide +kernel
theorem dX9_isFit_4 : decode cX9_isFit 4 = .ok (.iload_n 3, 1) := by decide +kernel
theorem dX9_isFit_5 : decode cX9_isFit 5 = .ok (.aload_n 0, 1) := by decide +kernel
theorem dX9_isFit_6 : decode cX9_isFit 6 = .ok (.getfield 296, 3) := by decide +kernel
theorem dX9_isFit_9 : decode cX9_isFit 9 = .ok (.if_icmp .ge 50, 3) := by decide +kernel
theorem dX9_isFit_12 : decode cX9_isFit 12 = .ok (.iload_n 2, 1) := by decide +kernel
theorem dX9_isFit_13 : decode cX9_isFit 13 = .ok (.ifCond .eq 38, 3) := by decide +kernel
theorem dX9_isFit_16 : decode cX9_isFit 16 = .ok (.iload_n 1, 1) := by decide +kernel
theorem dX9_isFit_17 : decode cX9_isFit 17 = .ok (.aload_n 0, 1) := by decide +kernel
theorem dX9_isFit_18 : decode cX9_isFit 18 = .ok (.getfield 34, 3) := by decide +kernel
theorem dX9_isFit_21 : decode cX9_isFit 21 = .ok (.iload_n 3, 1) := by decide +kernel
theorem dX9_isFit_22 : decode cX9_isFit 22 = .ok (.iaload, 1) := by decide +kernel
theorem dX9_isFit_23 : decode cX9_isFit 23 = .ok (.aload_n 0, 1) := by decide +kernel
theorem dX9_isFit_24 : decode cX9_isFit 24 = .ok (.getfield 37, 3) := by decide +kernel
theorem dX9_isFit_27 : decode cX9_isFit 27 = .ok (.iload_n 3, 1) := by decide +kernel
theorem dX9_isFit_28 : decode cX9_isFit 28 = .ok (.iaload, 1) := by decide +kernel
theorem dX9_isFit_29 : decode cX9_isFit 29 = .ok (.aload_n 0, 1) := by decide +kernel
theorem dX9_isFit_30 : decode cX9_isFit 30 = .ok (.getfield 40, 3) := by decide +kernel
theorem dX9_isFit_33 : decode cX9_isFit 33 = .ok (.iload_n 3, 1) := by decide +kernel
theorem dX9_isFit_34 : decode cX9_isFit 34 = .ok (.iaload, 1) := by decide +kernel
theorem dX9_isFit_35 : decode cX9_isFit 35 = .ok (.invokestatic 299, 3) := by decide +kernel
theorem dX9_isFit_38 : decode cX9_isFit 38 = .ok (.aload_n 0, 1) := by decide +kernel
theorem dX9_isFit_39 : decode cX9_isFit 39 = .ok (.getfield 43, 3) := by decide +kernel
theorem dX9_isFit_42 : decode cX9_isFit 42 = .ok (.iload_n 3, 1) := by decide +kernel
theorem dX9_isFit_43 : decode cX9_isFit 43 = .ok (.iaload, 1) := by decide +kernel
theorem dX9_isFit_44 : decode cX9_isFit 44 = .ok (.if_icmp .ne 7, 3) := by decide +kernel
theorem dX9_isFit_47 : decode cX9_isFit 47 = .ok (.iconst 1, 1) := by decide +kernel
theorem dX9_isFit_48 : decode cX9_isFit 48 = .ok (.goto 4, 3) := by decide +kernel
theorem dX9_isFit_51 : decode cX9_isFit 51 = .ok (.iconst 0, 1) := by decide +kernel
theorem dX9_isFit_52 : decode cX9_isFit 52 = .ok (.istore_n 2, 1) := by decide +kernel
theorem dX9_isFit_53 : decode cX9_isFit 53 = .ok (.iinc 3 1, 3) := by decide +kernel
theorem dX9_isFit_56 : decode cX9_isFit 56 = .ok (.goto (-52), 3) := by decide +kernel
theorem dX9_isFit_59 : decode cX9_isFit 59 = .ok (.iload_n 2, 1) := by decide +kernel
theorem dX9_isFit_60 : decode cX9_isFit 60 = .ok (.ireturn, 1) := by decide +kernel
theorem dX9_liars_0 : decode cX9_liars 0 = .ok (.iconst 0, 1) := by decide +kernel
theorem dX9_liars_1 : decode cX9_liars 1 = .ok (.istore_n 2, 1) := by decide +kernel
theorem dX9_liars_2 : decode cX9_liars 2 = .ok (.iconst 0, 1) := by decide +kernel
theorem dX9_liars_3 : decode cX9_liars 3 = .ok (.istore_n 3, 1) := by decide +kernel
theorem dX9_liars_4 : decode cX9_liars 4 = .ok (.iload_n 3, 1) := by decide +kernel
theorem dX9_liars_5 : decode cX9_liars 5 = .ok (.bipush 32, 2) := by decide +kernel
theorem dX9_liars_7 : decode cX9_liars 7 = .ok (.if_icmp .ge 27, 3) := by decide +kernel
theorem dX9_liars_10 : decode cX9_liars 10 = .ok (.aload_n 0, 1) := by decide +kernel
theorem dX9_liars_11 : decode cX9_liars 11 = .ok (.iload_n 3, 1) := by decide +kernel
theorem dX9_liars_12 : decode cX9_liars 12 = .ok (.invokevirtual 303, 3) := by decide +kernel
theorem dX9_liars_15 : decode cX9_liars 15 = .ok (.ifCond .eq 13, 3) := by decide +kernel
theorem dX9_liars_18 : decode cX9_liars 18 = .ok (.iload_n 2, 1) := by decide +kernel
theorem dX9_liars_19 : decode cX9_liars 19 = .ok (.iload_n 1, 1) := by decide +kernel
theorem dX9_liars_20 : decode cX9_liars 20 = .ok (.if_icmp .ne 5, 3) := by decide +kernel
theorem dX9_liars_23 : decode cX9_liars 23 = .ok (.iload_n 3, 1) := by decide +kernel
theorem dX9_liars_24 : decode cX9_liars 24 = .ok (.ireturn, 1) := by decide +kernel
theorem dX9_liars_25 : decode cX9_liars 25 = .ok (.iinc 2 1, 3) := by decide +kernel
theorem dX9_liars_28 : decode cX9_liars 28 = .ok (.iinc 3 1, 3) := by decide +kernel
theorem dX9_liars_31 : decode cX9_liars 31 = .ok (.goto (-27), 3) := by decide +kernel
theorem dX9_liars_34 : decode cX9_liars 34 = .ok (.iload_n 1, 1) := by decide +kernel
theorem dX9_liars_35 : decode cX9_liars 35 = .ok (.iconst (-1), 1) := by decide +kernel
theorem dX9_liars_36 : decode cX9_liars 36 = .ok (.if_icmp .ne 7, 3) := by decide +kernel
theorem dX9_liars_39 : decode cX9_liars 39 = .ok (.iload_n 2, 1) := by decide +kernel
theorem dX9_liars_40 : decode cX9_liars 40 = .ok (.goto 5, 3) := by decide +kernel
theorem dX9_liars_43 : decode cX9_liars 43 = .ok (.bipush (-6), 2) := by decide +kernel
theorem dX9_liars_45 : decode cX9_liars 45 = .ok (.ireturn, 1) := by decide +kernel
theorem dX9_mostLeft_0 : decode cX9_mostLeft 0 = .ok (.iconst 0, 1) := by decide +kernel
theorem dX9_mostLeft_1 : decode cX9_mostLeft 1 = .ok (.istore 4, 2) := by decide +kernel
theorem dX9_mostLeft_3 : decode cX9_mostLeft 3 = .ok (.iconst 0, 1) := by decide +kernel
theorem dX9_mostLeft_4 : decode cX9_mostLeft 4 = .ok (.istore 5, 2) := by decide +kernel
theorem dX9_mostLeft_6 : decode cX9_mostLeft 6 = .ok (.iconst 0, 1) := by decide +kernel
theorem dX9_mostLeft_7 : decode cX9_mostLeft 7 = .ok (.istore 6, 2) := by decide +kernel
theorem dX9_mostLeft_9 : decode cX9_mostLeft 9 = .ok (.iload 6, 2) := by decide +kernel
theorem dX9_mostLeft_11 : decode cX9_mostLeft 11 = .ok (.bipush 32, 2) := by decide +kernel
theorem dX9_mostLeft_13 : decode cX9_mostLeft 13 = .ok (.if_icmp .ge 48, 3) := by decide +kernel
theorem dX9_mostLeft_16 : decode cX9_mostLeft 16 = .ok (.aload_n 0, 1) := by decide +kernel
theorem dX9_mostLeft_17 : decode cX9_mostLeft 17 = .ok (.iload 6, 2) := by decide +kernel
theorem dX9_mostLeft_19 : decode cX9_mostLeft 19 = .ok (.invokevirtual 303, 3) := by decide +kernel
theorem dX9_mostLeft_22 : decode cX9_mostLeft 22 = .ok (.ifCond .eq 7, 3) := by decide +kernel
theorem dX9_mostLeft_25 : decode cX9_mostLeft 25 = .ok (.iconst 1, 1) := by decide +kernel
theorem dX9_mostLeft_26 : decode cX9_mostLeft 26 = .ok (.goto 4, 3) := by decide +kernel
theorem dX9_mostLeft_29 : decode cX9_mostLeft 29 = .ok (.iconst 0, 1) := by decide +kernel
theorem dX9_mostLeft_30 : decode cX9_mostLeft 30 = .ok (.istore 7, 2) := by decide +kernel
theorem dX9_mostLeft_32 : decode cX9_mostLeft 32 = .ok (.iload 5, 2) := by decide +kernel
theorem dX9_mostLeft_34 : decode cX9_mostLeft 34 = .ok (.iload 7, 2) := by decide +kernel
theorem dX9_mostLeft_36 : decode cX9_mostLeft 36 = .ok (.iadd, 1) := by decide +kernel
theorem dX9_mostLeft_37 : decode cX9_mostLeft 37 = .ok (.istore 5, 2) := by decide +kernel
theorem dX9_mostLeft_39 : decode cX9_mostLeft 39 = .ok (.iload 4, 2) := by decide +kernel
theorem dX9_mostLeft_41 : decode cX9_mostLeft 41 = .ok (.iload 7, 2) := by decide +kernel
theorem dX9_mostLeft_43 : decode cX9_mostLeft 43 = .ok (.iload 6, 2) := by decide +kernel
theorem dX9_mostLeft_45 : decode cX9_mostLeft 45 = .ok (.iload_n 1, 1) := by decide +kernel
theorem dX9_mostLeft_46 : decode cX9_mostLeft 46 = .ok (.iload_n 2, 1) := by decide +kernel
theorem dX9_mostLeft_47 : decode cX9_mostLeft 47 = .ok (.iload_n 3, 1) := by decide +kernel
theorem dX9_mostLeft_48 : decode cX9_mostLeft 48 = .ok (.invokestatic 299, 3) := by decide +kernel
theorem dX9_mostLeft_51 : decode cX9_mostLeft 51 = .ok (.imul, 1) := by decide +kernel
theorem dX9_mostLeft_52 : decode cX9_mostLeft 52 = .ok (.iadd, 1) := by decide +kernel
theorem dX9_mostLeft_53 : decode cX9_mostLeft 53 = .ok (.istore 4, 2) := by decide +kernel
theorem dX9_mostLeft_55 : decode cX9_mostLeft 55 = .ok (.iinc 6 1, 3) := by decide +kernel
theorem dX9_mostLeft_58 : decode cX9_mostLeft 58 = .ok (.goto (-49), 3) := by decide +kernel
theorem dX9_mostLeft_61 : decode cX9_mostLeft 61 = .ok (.iload 4, 2) := by decide +kernel
theorem dX9_mostLeft_63 : decode cX9_mostLeft 63 = .ok (.iload 5, 2) := by decide +kernel
theorem dX9_mostLeft_65 : decode cX9_mostLeft 65 = .ok (.iload 4, 2) := by decide +kernel
theorem dX9_mostLeft_67 : decode cX9_mostLeft 67 = .ok (.isub, 1) := by decide +kernel
theorem dX9_mostLeft_68 : decode cX9_mostLeft 68 = .ok (.if_icmp .le 8, 3) := by decide +kernel
theorem dX9_mostLeft_71 : decode cX9_mostLeft 71 = .ok (.iload 4, 2) := by decide +kernel
theorem dX9_mostLeft_73 : decode cX9_mostLeft 73 = .ok (.goto 8, 3) := by decide +kernel
theorem dX9_mostLeft_76 : decode cX9_mostLeft 76 = .ok (.iload 5, 2) := by decide +kernel
theorem dX9_mostLeft_78 : decode cX9_mostLeft 78 = .ok (.iload 4, 2) := by decide +kernel
theorem dX9_mostLeft_80 : decode cX9_mostLeft 80 = .ok (.isub, 1) := by decide +kernel
theorem dX9_mostLeft_81 : decode cX9_mostLeft 81 = .ok (.ireturn, 1) := by decide +kernel
theorem dX9_ask_0 : decode cX9_ask 0 = .ok (.iload_n 1, 1) := by decide +kernel
theorem dX9_ask_1 : decode cX9_ask 1 = .ok (.i2l, 1) := by decide +kernel
theorem dX9_ask_2 : decode cX9_ask 2 = .ok (.lconst 0, 1) := by decide +kernel
theorem dX9_ask_3 : decode cX9_ask 3 = .ok (.lconst 1, 1) := by decide +kernel
theorem dX9_ask_4 : decode cX9_ask 4 = .ok (.invokestatic 80, 3) := by decide +kernel
theorem dX9_ask_7 : decode cX9_ask 7 = .ok (.ifCond .ne 6, 3) := by decide +kernel
theorem dX9_ask_10 : decode cX9_ask 10 = .ok (.bipush (-2), 2) := by decide +kernel
theorem dX9_ask_12 : decode cX9_ask 12 = .ok (.ireturn, 1) := by decide +kernel
theorem dX9_ask_13 : decode cX9_ask 13 = .ok (.iconst 0, 1) := by decide +kernel
theorem dX9_ask_14 : decode cX9_ask 14 = .ok (.istore_n 2, 1) := by decide +kernel
theorem dX9_ask_15 : decode cX9_ask 15 = .ok (.aload_n 0, 1) := by decide +kernel
theorem dX9_ask_16 : decode cX9_ask 16 = .ok (.iconst 0, 1) := by decide +kernel
theorem dX9_ask_17 : decode cX9_ask 17 = .ok (.iconst 0, 1) := by decide +kernel
theorem dX9_ask_18 : decode cX9_ask 18 = .ok (.iconst 0, 1) := by decide +kernel
theorem dX9_ask_19 : decode cX9_ask 19 = .ok (.invokevirtual 306, 3) := by decide +kernel
theorem dX9_ask_22 : decode cX9_ask 22 = .ok (.istore_n 3, 1) := by decide +kernel
theorem dX9_ask_23 : decode cX9_ask 23 = .ok (.iconst 1, 1) := by decide +kernel
theorem dX9_ask_24 : decode cX9_ask 24 = .ok (.istore 4, 2) := by decide +kernel
theorem dX9_ask_26 : decode cX9_ask 26 = .ok (.iload 4, 2) := by decide +kernel
theorem dX9_ask_28 : decode cX9_ask 28 = .ok (.sipush 430, 3) := by decide +kernel
theorem dX9_ask_31 : decode cX9_ask 31 = .ok (.if_icmp .ge 91, 3) := by decide +kernel
theorem dX9_ask_34 : decode cX9_ask 34 = .ok (.iload 4, 2) := by decide +kernel
theorem dX9_ask_36 : decode cX9_ask 36 = .ok (.bipush 100, 2) := by decide +kernel
theorem dX9_ask_38 : decode cX9_ask 38 = .ok (.idiv, 1) := by decide +kernel
theorem dX9_ask_39 : decode cX9_ask 39 = .ok (.iload 4, 2) := by decide +kernel
theorem dX9_ask_41 : decode cX9_ask 41 = .ok (.bipush 10, 2) := by decide +kernel
theorem dX9_ask_43 : decode cX9_ask 43 = .ok (.idiv, 1) := by decide +kernel
theorem dX9_ask_44 : decode cX9_ask 44 = .ok (.bipush 10, 2) := by decide +kernel
theorem dX9_ask_46 : decode cX9_ask 46 = .ok (.irem, 1) := by decide +kernel
theorem dX9_ask_47 : decode cX9_ask 47 = .ok (.iload 4, 2) := by decide +kernel
theorem dX9_ask_49 : decode cX9_ask 49 = .ok (.bipush 10, 2) := by decide +kernel
theorem dX9_ask_51 : decode cX9_ask 51 = .ok (.irem, 1) := by decide +kernel
theorem dX9_ask_52 : decode cX9_ask 52 = .ok (.invokestatic 292, 3) := by decide +kernel
theorem dX9_ask_55 : decode cX9_ask 55 = .ok (.istore 5, 2) := by decide +kernel
theorem dX9_ask_57 : decode cX9_ask 57 = .ok (.iload 5, 2) := by decide +kernel
theorem dX9_ask_59 : decode cX9_ask 59 = .ok (.ifCond .eq 28, 3) := by decide +kernel
theorem dX9_ask_62 : decode cX9_ask 62 = .ok (.aload_n 0, 1) := by decide +kernel
theorem dX9_ask_63 : decode cX9_ask 63 = .ok (.iload 4, 2) := by decide +kernel
theorem dX9_ask_65 : decode cX9_ask 65 = .ok (.bipush 100, 2) := by decide +kernel
theorem dX9_ask_67 : decode cX9_ask 67 = .ok (.idiv, 1) := by decide +kernel
theorem dX9_ask_68 : decode cX9_ask 68 = .ok (.iload 4, 2) := by decide +kernel
theorem dX9_ask_70 : decode cX9_ask 70 = .ok (.bipush 10, 2) := by decide +kernel
theorem dX9_ask_72 : decode cX9_ask 72 = .ok (.idiv, 1) := by decide +kernel
theorem dX9_ask_73 : decode cX9_ask 73 = .ok (.bipush 10, 2) := by decide +kernel
theorem dX9_ask_75 : decode cX9_ask 75 = .ok (.irem, 1) := by decide +kernel
theorem dX9_ask_76 : decode cX9_ask 76 = .ok (.iload 4, 2) := by decide +kernel
theorem dX9_ask_78 : decode cX9_ask 78 = .ok (.bipush 10, 2) := by decide +kernel
theorem dX9_ask_80 : decode cX9_ask 80 = .ok (.irem, 1) := by decide +kernel
theorem dX9_ask_81 : decode cX9_ask 81 = .ok (.invokevirtual 306, 3) := by decide +kernel
theorem dX9_ask_84 : decode cX9_ask 84 = .ok (.goto 4, 3) := by decide +kernel
theorem dX9_ask_87 : decode cX9_ask 87 = .ok (.iload_n 3, 1) := by decide +kernel
theorem dX9_ask_88 : decode cX9_ask 88 = .ok (.istore 6, 2) := by decide +kernel
theorem dX9_ask_90 : decode cX9_ask 90 = .ok (.iload 6, 2) := by decide +kernel
theorem dX9_ask_92 : decode cX9_ask 92 = .ok (.iload_n 3, 1) := by decide +kernel
theorem dX9_ask_93 : decode cX9_ask 93 = .ok (.if_icmp .ge 8, 3) := by decide +kernel
theorem dX9_ask_96 : decode cX9_ask 96 = .ok (.iload 4, 2) := by decide +kernel
theorem dX9_ask_98 : decode cX9_ask 98 = .ok (.goto 4, 3) := by decide +kernel
theorem dX9_ask_101 : decode cX9_ask 101 = .ok (.iload_n 2, 1) := by decide +kernel
theorem dX9_ask_102 : decode cX9_ask 102 = .ok (.istore_n 2, 1) := by decide +kernel
theorem dX9_ask_103 : decode cX9_ask 103 = .ok (.iload 6, 2) := by decide +kernel
theorem dX9_ask_105 : decode cX9_ask 105 = .ok (.iload_n 3, 1) := by decide +kernel
theorem dX9_ask_106 : decode cX9_ask 106 = .ok (.if_icmp .ge 8, 3) := by decide +kernel
theorem dX9_ask_109 : decode cX9_ask 109 = .ok (.iload 6, 2) := by decide +kernel
theorem dX9_ask_111 : decode cX9_ask 111 = .ok (.goto 4, 3) := by decide +kernel
theorem dX9_ask_114 : decode cX9_ask 114 = .ok (.iload_n 3, 1) := by decide +kernel
theorem dX9_ask_115 : decode cX9_ask 115 = .ok (.istore_n 3, 1) := by decide +kernel
theorem dX9_ask_116 : decode cX9_ask 116 = .ok (.iinc 4 1, 3) := by decide +kernel
theorem dX9_ask_119 : decode cX9_ask 119 = .ok (.goto (-93), 3) := by decide +kernel
theorem dX9_ask_122 : decode cX9_ask 122 = .ok (.iload_n 3, 1) := by decide +kernel
theorem dX9_ask_123 : decode cX9_ask 123 = .ok (.ifCond .ne 8, 3) := by decide +kernel
theorem dX9_ask_126 : decode cX9_ask 126 = .ok (.bipush (-6), 2) := by decide +kernel
theorem dX9_ask_128 : decode cX9_ask 128 = .ok (.goto 12, 3) := by decide +kernel
theorem dX9_ask_131 : decode cX9_ask 131 = .ok (.iload_n 1, 1) := by decide +kernel
theorem dX9_ask_132 : decode cX9_ask 132 = .ok (.ifCond .ne 7, 3) := by decide +kernel
theorem dX9_ask_135 : decode cX9_ask 135 = .ok (.iload_n 2, 1) := by decide +kernel
theorem dX9_ask_136 : decode cX9_ask 136 = .ok (.goto 4, 3) := by decide +kernel
theorem dX9_ask_139 : decode cX9_ask 139 = .ok (.iload_n 3, 1) := by decide +kernel
theorem dX9_ask_140 : decode cX9_ask 140 = .ok (.ireturn, 1) := by decide +kernel
theorem dX9_leastGo_0 : decode cX9_leastGo 0 = .ok (.bipush (-6), 2) := by decide +kernel
theorem dX9_leastGo_2 : decode cX9_leastGo 2 = .ok (.istore_n 3, 1) := by decide +kernel
theorem dX9_leastGo_3 : decode cX9_leastGo 3 = .ok (.bipush 7, 2) := by decide +kernel
theorem dX9_leastGo_5 : decode cX9_leastGo 5 = .ok (.istore 4, 2) := by decide +kernel
theorem dX9_leastGo_7 : decode cX9_leastGo 7 = .ok (.iload 4, 2) := by decide +kernel
theorem dX9_leastGo_9 : decode cX9_leastGo 9 = .ok (.ifCond .lt 71, 3) := by decide +kernel
theorem dX9_leastGo_12 : decode cX9_leastGo 12 = .ok (.aload_n 0, 1) := by decide +kernel
theorem dX9_leastGo_13 : decode cX9_leastGo 13 = .ok (.getfield 7, 3) := by decide +kernel
theorem dX9_leastGo_16 : decode cX9_leastGo 16 = .ok (.iload_n 2, 1) := by decide +kernel
theorem dX9_leastGo_17 : decode cX9_leastGo 17 = .ok (.iaload, 1) := by decide +kernel
theorem dX9_leastGo_18 : decode cX9_leastGo 18 = .ok (.iload 4, 2) := by decide +kernel
theorem dX9_leastGo_20 : decode cX9_leastGo 20 = .ok (.invokestatic 163, 3) := by decide +kernel
theorem dX9_leastGo_23 : decode cX9_leastGo 23 = .ok (.ifCond .eq 16, 3) := by decide +kernel
theorem dX9_leastGo_26 : decode cX9_leastGo 26 = .ok (.iload_n 1, 1) := by decide +kernel
theorem dX9_leastGo_27 : decode cX9_leastGo 27 = .ok (.iload 4, 2) := by decide +kernel
theorem dX9_leastGo_29 : decode cX9_leastGo 29 = .ok (.invokestatic 163, 3) := by decide +kernel
theorem dX9_leastGo_32 : decode cX9_leastGo 32 = .ok (.ifCond .ne 7, 3) := by decide +kernel
theorem dX9_leastGo_35 : decode cX9_leastGo 35 = .ok (.iconst 1, 1) := by decide +kernel
theorem dX9_leastGo_36 : decode cX9_leastGo 36 = .ok (.goto 4, 3) := by decide +kernel
theorem dX9_leastGo_39 : decode cX9_leastGo 39 = .ok (.iconst 0, 1) := by decide +kernel
theorem dX9_leastGo_40 : decode cX9_leastGo 40 = .ok (.istore 5, 2) := by decide +kernel
theorem dX9_leastGo_42 : decode cX9_leastGo 42 = .ok (.iload 5, 2) := by decide +kernel
theorem dX9_leastGo_44 : decode cX9_leastGo 44 = .ok (.ifCond .eq 28, 3) := by decide +kernel
theorem dX9_leastGo_47 : decode cX9_leastGo 47 = .ok (.aload_n 0, 1) := by decide +kernel
theorem dX9_leastGo_48 : decode cX9_leastGo 48 = .ok (.getfield 61, 3) := by decide +kernel
theorem dX9_leastGo_51 : decode cX9_leastGo 51 = .ok (.bipush 8, 2) := by decide +kernel
theorem dX9_leastGo_53 : decode cX9_leastGo 53 = .ok (.iload_n 1, 1) := by decide +kernel
theorem dX9_leastGo_54 : decode cX9_leastGo 54 = .ok (.iconst 1, 1) := by decide +kernel
theorem dX9_leastGo_55 : decode cX9_leastGo 55 = .ok (.iload 4, 2) := by decide +kernel
theorem dX9_leastGo_57 : decode cX9_leastGo 57 = .ok (.ishl, 1) := by decide +kernel
theorem dX9_leastGo_58 : decode cX9_leastGo 58 = .ok (.ior, 1) := by decide +kernel
theorem dX9_leastGo_59 : decode cX9_leastGo 59 = .ok (.imul, 1) := by decide +kernel
theorem dX9_leastGo_60 : decode cX9_leastGo 60 = .ok (.iload 4, 2) := by decide +kernel
theorem dX9_leastGo_62 : decode cX9_leastGo 62 = .ok (.iadd, 1) := by decide +kernel
theorem dX9_leastGo_63 : decode cX9_leastGo 63 = .ok (.baload, 1) := by decide +kernel
theorem dX9_leastGo_64 : decode cX9_leastGo 64 = .ok (.ifCond .ne 8, 3) := by decide +kernel
theorem dX9_leastGo_67 : decode cX9_leastGo 67 = .ok (.iload 4, 2) := by decide +kernel
theorem dX9_leastGo_69 : decode cX9_leastGo 69 = .ok (.goto 4, 3) := by decide +kernel
theorem dX9_leastGo_72 : decode cX9_leastGo 72 = .ok (.iload_n 3, 1) := by decide +kernel
theorem dX9_leastGo_73 : decode cX9_leastGo 73 = .ok (.istore_n 3, 1) := by decide +kernel
theorem dX9_leastGo_74 : decode cX9_leastGo 74 = .ok (.iinc 4 (-1), 3) := by decide +kernel
theorem dX9_leastGo_77 : decode cX9_leastGo 77 = .ok (.goto (-70), 3) := by decide +kernel
theorem dX9_leastGo_80 : decode cX9_leastGo 80 = .ok (.iload_n 3, 1) := by decide +kernel
theorem dX9_leastGo_81 : decode cX9_leastGo 81 = .ok (.ireturn, 1) := by decide +kernel
theorem dX9_walk_0 : decode cX9_walk 0 = .ok (.iload_n 1, 1) := by decide +kernel
theorem dX9_walk_1 : decode cX9_walk 1 = .ok (.invokestatic 90, 3) := by decide +kernel
theorem dX9_walk_4 : decode cX9_walk 4 = .ok (.ifCond .ne 5, 3) := by decide +kernel
theorem dX9_walk_7 : decode cX9_walk 7 = .ok (.iconst (-1), 1) := by decide +kernel
theorem dX9_walk_8 : decode cX9_walk 8 = .ok (.ireturn, 1) := by decide +kernel
theorem dX9_walk_9 : decode cX9_walk 9 = .ok (.iload_n 2, 1) := by decide +kernel
theorem dX9_walk_10 : decode cX9_walk 10 = .ok (.i2l, 1) := by decide +kernel
theorem dX9_walk_11 : decode cX9_walk 11 = .ok (.lconst 0, 1) := by decide +kernel
theorem dX9_walk_12 : decode cX9_walk 12 = .ok (.lconst 1, 1) := by decide +kernel
theorem dX9_walk_13 : decode cX9_walk 13 = .ok (.invokestatic 80, 3) := by decide +kernel
theorem dX9_walk_16 : decode cX9_walk 16 = .ok (.ifCond .ne 6, 3) := by decide +kernel
theorem dX9_walk_19 : decode cX9_walk 19 = .ok (.bipush (-2), 2) := by decide +kernel
theorem dX9_walk_21 : decode cX9_walk 21 = .ok (.ireturn, 1) := by decide +kernel
theorem dX9_walk_22 : decode cX9_walk 22 = .ok (.sipush 255, 3) := by decide +kernel
theorem dX9_walk_25 : decode cX9_walk 25 = .ok (.istore_n 3, 1) := by decide +kernel
theorem dX9_walk_26 : decode cX9_walk 26 = .ok (.iload_n 3, 1) := by decide +kernel
theorem dX9_walk_27 : decode cX9_walk 27 = .ok (.ifCond .le 61, 3) := by decide +kernel
theorem dX9_walk_30 : decode cX9_walk 30 = .ok (.iconst 0, 1) := by decide +kernel
theorem dX9_walk_31 : decode cX9_walk 31 = .ok (.istore 4, 2) := by decide +kernel
theorem dX9_walk_33 : decode cX9_walk 33 = .ok (.iload 4, 2) := by decide +kernel
theorem dX9_walk_35 : decode cX9_walk 35 = .ok (.bipush 8, 2) := by decide +kernel
theorem dX9_walk_37 : decode cX9_walk 37 = .ok (.if_icmp .ge 45, 3) := by decide +kernel
theorem dX9_walk_40 : decode cX9_walk 40 = .ok (.aload_n 0, 1) := by decide +kernel
theorem dX9_walk_41 : decode cX9_walk 41 = .ok (.getfield 61, 3) := by decide +kernel
theorem dX9_walk_44 : decode cX9_walk 44 = .ok (.bipush 8, 2) := by decide +kernel
theorem dX9_walk_46 : decode cX9_walk 46 = .ok (.iload_n 3, 1) := by decide +kernel
theorem dX9_walk_47 : decode cX9_walk 47 = .ok (.imul, 1) := by decide +kernel
theorem dX9_walk_48 : decode cX9_walk 48 = .ok (.iload 4, 2) := by decide +kernel
theorem dX9_walk_50 : decode cX9_walk 50 = .ok (.iadd, 1) := by decide +kernel
theorem dX9_walk_51 : decode cX9_walk 51 = .ok (.iload_n 3, 1) := by decide +kernel
theorem dX9_walk_52 : decode cX9_walk 52 = .ok (.iload 4, 2) := by decide +kernel
theorem dX9_walk_54 : decode cX9_walk 54 = .ok (.invokestatic 163, 3) := by decide +kernel
theorem dX9_walk_57 : decode cX9_walk 57 = .ok (.ifCond .eq 17, 3) := by decide +kernel
theorem dX9_walk_60 : decode cX9_walk 60 = .ok (.aload_n 0, 1) := by decide +kernel
theorem dX9_walk_61 : decode cX9_walk 61 = .ok (.iload_n 3, 1) := by decide +kernel
theorem dX9_walk_62 : decode cX9_walk 62 = .ok (.iload 4, 2) := by decide +kernel
theorem dX9_walk_64 : decode cX9_walk 64 = .ok (.invokevirtual 309, 3) := by decide +kernel
theorem dX9_walk_67 : decode cX9_walk 67 = .ok (.ifCond .lt 7, 3) := by decide +kernel
theorem dX9_walk_70 : decode cX9_walk 70 = .ok (.iconst 1, 1) := by decide +kernel
theorem dX9_walk_71 : decode cX9_walk 71 = .ok (.goto 4, 3) := by decide +kernel
theorem dX9_walk_74 : decode cX9_walk 74 = .ok (.iconst 0, 1) := by decide +kernel
theorem dX9_walk_75 : decode cX9_walk 75 = .ok (.bastore, 1) := by decide +kernel
theorem dX9_walk_76 : decode cX9_walk 76 = .ok (.iinc 4 1, 3) := by decide +kernel
theorem dX9_walk_79 : decode cX9_walk 79 = .ok (.goto (-46), 3) := by decide +kernel
theorem dX9_walk_82 : decode cX9_walk 82 = .ok (.iinc 3 (-1), 3) := by decide +kernel
theorem dX9_walk_85 : decode cX9_walk 85 = .ok (.goto (-59), 3) := by decide +kernel
theorem dX9_walk_88 : decode cX9_walk 88 = .ok (.aload_n 0, 1) := by decide +kernel
theorem dX9_walk_89 : decode cX9_walk 89 = .ok (.iconst 1, 1) := by decide +kernel
theorem dX9_walk_90 : decode cX9_walk 90 = .ok (.iload_n 1, 1) := by decide +kernel
theorem dX9_walk_91 : decode cX9_walk 91 = .ok (.ishl, 1) := by decide +kernel
theorem dX9_walk_92 : decode cX9_walk 92 = .ok (.iload_n 1, 1) := by decide +kernel
theorem dX9_walk_93 : decode cX9_walk 93 = .ok (.invokevirtual 309, 3) := by decide +kernel
theorem dX9_walk_96 : decode cX9_walk 96 = .ok (.istore_n 3, 1) := by decide +kernel
theorem dX9_walk_97 : decode cX9_walk 97 = .ok (.iload_n 2, 1) := by decide +kernel
theorem dX9_walk_98 : decode cX9_walk 98 = .ok (.iconst 1, 1) := by decide +kernel
theorem dX9_walk_99 : decode cX9_walk 99 = .ok (.if_icmp .ne 7, 3) := by decide +kernel
theorem dX9_walk_102 : decode cX9_walk 102 = .ok (.iload_n 3, 1) := by decide +kernel
theorem dX9_walk_103 : decode cX9_walk 103 = .ok (.goto 12, 3) := by decide +kernel
theorem dX9_walk_106 : decode cX9_walk 106 = .ok (.iload_n 3, 1) := by decide +kernel
theorem dX9_walk_107 : decode cX9_walk 107 = .ok (.ifCond .ge 7, 3) := by decide +kernel
theorem dX9_walk_110 : decode cX9_walk 110 = .ok (.iconst 0, 1) := by decide +kernel
theorem dX9_walk_111 : decode cX9_walk 111 = .ok (.goto 4, 3) := by decide +kernel
theorem dX9_walk_114 : decode cX9_walk 114 = .ok (.iconst 1, 1) := by decide +kernel
theorem dX9_walk_115 : decode cX9_walk 115 = .ok (.ireturn, 1) := by decide +kernel
theorem dX9_layNet_0 : decode cX9_layNet 0 = .ok (.iconst 0, 1) := by decide +kernel
theorem dX9_layNet_1 : decode cX9_layNet 1 = .ok (.istore_n 3, 1) := by decide +kernel
theorem dX9_layNet_2 : decode cX9_layNet 2 = .ok (.iconst 0, 1) := by decide +kernel
theorem dX9_layNet_3 : decode cX9_layNet 3 = .ok (.istore 4, 2) := by decide +kernel
theorem dX9_layNet_5 : decode cX9_layNet 5 = .ok (.iload 4, 2) := by decide +kernel
theorem dX9_layNet_7 : decode cX9_layNet 7 = .ok (.iconst 5, 1) := by decide +kernel
theorem dX9_layNet_8 : decode cX9_layNet 8 = .ok (.if_icmp .ge 17, 3) := by decide +kernel
theorem dX9_layNet_11 : decode cX9_layNet 11 = .ok (.aload_n 0, 1) := by decide +kernel
theorem dX9_layNet_12 : decode cX9_layNet 12 = .ok (.getfield 65, 3) := by decide +kernel
theorem dX9_layNet_15 : decode cX9_layNet 15 = .ok (.iload 4, 2) := by decide +kernel
theorem dX9_layNet_17 : decode cX9_layNet 17 = .ok (.iconst 0, 1) := by decide +kernel
theorem dX9_layNet_18 : decode cX9_layNet 18 = .ok (.iastore, 1) := by decide +kernel
theorem dX9_layNet_19 : decode cX9_layNet 19 = .ok (.iinc 4 1, 3) := by decide +kernel
theorem dX9_layNet_22 : decode cX9_layNet 22 = .ok (.goto (-17), 3) := by decide +kernel
theorem dX9_layNet_25 : decode cX9_layNet 25 = .ok (.iconst 0, 1) := by decide +kernel
theorem dX9_layNet_26 : decode cX9_layNet 26 = .ok (.istore 4, 2) := by decide +kernel
theorem dX9_layNet_28 : decode cX9_layNet 28 = .ok (.iload 4, 2) := by decide +kernel
theorem dX9_layNet_30 : decode cX9_layNet 30 = .ok (.iload_n 2, 1) := by decide +kernel
theorem dX9_layNet_31 : decode cX9_layNet 31 = .ok (.if_icmp .ge 82, 3) := by decide +kernel
theorem dX9_layNet_34 : decode cX9_layNet 34 = .ok (.iload 4, 2) := by decide +kernel
theorem dX9_layNet_36 : decode cX9_layNet 36 = .ok (.iconst 1, 1) := by decide +kernel
theorem dX9_layNet_37 : decode cX9_layNet 37 = .ok (.iadd, 1) := by decide +kernel
theorem dX9_layNet_38 : decode cX9_layNet 38 = .ok (.istore 5, 2) := by decide +kernel
theorem dX9_layNet_40 : decode cX9_layNet 40 = .ok (.iload 5, 2) := by decide +kernel
theorem dX9_layNet_42 : decode cX9_layNet 42 = .ok (.iload_n 2, 1) := by decide +kernel
theorem dX9_layNet_43 : decode cX9_layNet 43 = .ok (.if_icmp .ge 64, 3) := by decide +kernel
theorem dX9_layNet_46 : decode cX9_layNet 46 = .ok (.aload_n 0, 1) := by decide +kernel
theorem dX9_layNet_47 : decode cX9_layNet 47 = .ok (.getfield 65, 3) := by decide +kernel
theorem dX9_layNet_50 : decode cX9_layNet 50 = .ok (.iload 4, 2) := by decide +kernel
theorem dX9_layNet_52 : decode cX9_layNet 52 = .ok (.dup2, 1) := by decide +kernel
theorem dX9_layNet_53 : decode cX9_layNet 53 = .ok (.iaload, 1) := by decide +kernel
theorem dX9_layNet_54 : decode cX9_layNet 54 = .ok (.iload_n 1, 1) := by decide +kernel
theorem dX9_layNet_55 : decode cX9_layNet 55 = .ok (.iload_n 3, 1) := by decide +kernel
theorem dX9_layNet_56 : decode cX9_layNet 56 = .ok (.invokestatic 163, 3) := by decide +kernel
theorem dX9_layNet_59 : decode cX9_layNet 59 = .ok (.ifCond .eq 10, 3) := by decide +kernel
theorem dX9_layNet_62 : decode cX9_layNet 62 = .ok (.iconst 1, 1) := by decide +kernel
theorem dX9_layNet_63 : decode cX9_layNet 63 = .ok (.iload 5, 2) := by decide +kernel
theorem dX9_layNet_65 : decode cX9_layNet 65 = .ok (.ishl, 1) := by decide +kernel
theorem dX9_layNet_66 : decode cX9_layNet 66 = .ok (.goto 4, 3) := by decide +kernel
theorem dX9_layNet_69 : decode cX9_layNet 69 = .ok (.iconst 0, 1) := by decide +kernel
theorem dX9_layNet_70 : decode cX9_layNet 70 = .ok (.ior, 1) := by decide +kernel
theorem dX9_layNet_71 : decode cX9_layNet 71 = .ok (.iastore, 1) := by decide +kernel
theorem dX9_layNet_72 : decode cX9_layNet 72 = .ok (.aload_n 0, 1) := by decide +kernel
theorem dX9_layNet_73 : decode cX9_layNet 73 = .ok (.getfield 65, 3) := by decide +kernel
theorem dX9_layNet_76 : decode cX9_layNet 76 = .ok (.iload 5, 2) := by decide +kernel
theorem dX9_layNet_78 : decode cX9_layNet 78 = .ok (.dup2, 1) := by decide +kernel
theorem dX9_layNet_79 : decode cX9_layNet 79 = .ok (.iaload, 1) := by decide +kernel
theorem dX9_layNet_80 : decode cX9_layNet 80 = .ok (.iload_n 1, 1) := by decide +kernel
theorem dX9_layNet_81 : decode cX9_layNet 81 = .ok (.iload_n 3, 1) := by decide +kernel
theorem dX9_layNet_82 : decode cX9_layNet 82 = .ok (.invokestatic 163, 3) := by decide +kernel
theorem dX9_layNet_85 : decode cX9_layNet 85 = .ok (.ifCond .eq 10, 3) := by decide +kernel
theorem dX9_layNet_88 : decode cX9_layNet 88 = .ok (.iconst 1, 1) := by decide +kernel
theorem dX9_layNet_89 : decode cX9_layNet 89 = .ok (.iload 4, 2) := by decide +kernel
theorem dX9_layNet_91 : decode cX9_layNet 91 = .ok (.ishl, 1) := by decide +kernel
theorem dX9_layNet_92 : decode cX9_layNet 92 = .ok (.goto 4, 3) := by decide +kernel
theorem dX9_layNet_95 : decode cX9_layNet 95 = .ok (.iconst 0, 1) := by decide +kernel
theorem dX9_layNet_96 : decode cX9_layNet 96 = .ok (.ior, 1) := by decide +kernel
theorem dX9_layNet_97 : decode cX9_layNet 97 = .ok (.iastore, 1) := by decide +kernel
theorem dX9_layNet_98 : decode cX9_layNet 98 = .ok (.iinc 3 1, 3) := by decide +kernel
theorem dX9_layNet_101 : decode cX9_layNet 101 = .ok (.iinc 5 1, 3) := by decide +kernel
theorem dX9_layNet_104 : decode cX9_layNet 104 = .ok (.goto (-64), 3) := by decide +kernel
theorem dX9_layNet_107 : decode cX9_layNet 107 = .ok (.iinc 4 1, 3) := by decide +kernel
theorem dX9_layNet_110 : decode cX9_layNet 110 = .ok (.goto (-82), 3) := by decide +kernel
theorem dX9_layNet_113 : decode cX9_layNet 113 = .ok (.return_, 1) := by decide +kernel
theorem dX9_hangs_0 : decode cX9_hangs 0 = .ok (.iconst 1, 1) := by decide +kernel
theorem dX9_hangs_1 : decode cX9_hangs 1 = .ok (.istore_n 2, 1) := by decide +kernel
theorem dX9_hangs_2 : decode cX9_hangs 2 = .ok (.iconst 0, 1) := by decide +kernel
theorem dX9_hangs_3 : decode cX9_hangs 3 = .ok (.istore_n 3, 1) := by decide +kernel
theorem dX9_hangs_4 : decode cX9_hangs 4 = .ok (.iload_n 3, 1) := by decide +kernel
theorem dX9_hangs_5 : decode cX9_hangs 5 = .ok (.iload_n 1, 1) := by decide +kernel
theorem dX9_hangs_6 : decode cX9_hangs 6 = .ok (.if_icmp .ge 47, 3) := by decide +kernel
theorem dX9_hangs_9 : decode cX9_hangs 9 = .ok (.iconst 0, 1) := by decide +kernel
theorem dX9_hangs_10 : decode cX9_hangs 10 = .ok (.istore 4, 2) := by decide +kernel
theorem dX9_hangs_12 : decode cX9_hangs 12 = .ok (.iload 4, 2) := by decide +kernel
theorem dX9_hangs_14 : decode cX9_hangs 14 = .ok (.iload_n 1, 1) := by decide +kernel
theorem dX9_hangs_15 : decode cX9_hangs 15 = .ok (.if_icmp .ge 32, 3) := by decide +kernel
theorem dX9_hangs_18 : decode cX9_hangs 18 = .ok (.iload_n 2, 1) := by decide +kernel
theorem dX9_hangs_19 : decode cX9_hangs 19 = .ok (.iload_n 2, 1) := by decide +kernel
theorem dX9_hangs_20 : decode cX9_hangs 20 = .ok (.iload 4, 2) := by decide +kernel
theorem dX9_hangs_22 : decode cX9_hangs 22 = .ok (.invokestatic 163, 3) := by decide +kernel
theorem dX9_hangs_25 : decode cX9_hangs 25 = .ok (.ifCond .eq 13, 3) := by decide +kernel
theorem dX9_hangs_28 : decode cX9_hangs 28 = .ok (.aload_n 0, 1) := by decide +kernel
theorem dX9_hangs_29 : decode cX9_hangs 29 = .ok (.getfield 65, 3) := by decide +kernel
theorem dX9_hangs_32 : decode cX9_hangs 32 = .ok (.iload 4, 2) := by decide +kernel
theorem dX9_hangs_34 : decode cX9_hangs 34 = .ok (.iaload, 1) := by decide +kernel
theorem dX9_hangs_35 : decode cX9_hangs 35 = .ok (.goto 4, 3) := by decide +kernel
theorem dX9_hangs_38 : decode cX9_hangs 38 = .ok (.iconst 0, 1) := by decide +kernel
theorem dX9_hangs_39 : decode cX9_hangs 39 = .ok (.ior, 1) := by decide +kernel
theorem dX9_hangs_40 : decode cX9_hangs 40 = .ok (.istore_n 2, 1) := by decide +kernel
theorem dX9_hangs_41 : decode cX9_hangs 41 = .ok (.iinc 4 1, 3) := by decide +kernel
theorem dX9_hangs_44 : decode cX9_hangs 44 = .ok (.goto (-32), 3) := by decide +kernel
theorem dX9_hangs_47 : decode cX9_hangs 47 = .ok (.iinc 3 1, 3) := by decide +kernel
theorem dX9_hangs_50 : decode cX9_hangs 50 = .ok (.goto (-46), 3) := by decide +kernel
theorem dX9_hangs_53 : decode cX9_hangs 53 = .ok (.iload_n 2, 1) := by decide +kernel
theorem dX9_hangs_54 : decode cX9_hangs 54 = .ok (.iconst 1, 1) := by decide +kernel
theorem dX9_hangs_55 : decode cX9_hangs 55 = .ok (.iload_n 1, 1) := by decide +kernel
theorem dX9_hangs_56 : decode cX9_hangs 56 = .ok (.ishl, 1) := by decide +kernel
theorem dX9_hangs_57 : decode cX9_hangs 57 = .ok (.iconst 1, 1) := by decide +kernel
theorem dX9_hangs_58 : decode cX9_hangs 58 = .ok (.isub, 1) := by decide +kernel
theorem dX9_hangs_59 : decode cX9_hangs 59 = .ok (.if_icmp .ne 7, 3) := by decide +kernel
theorem dX9_hangs_62 : decode cX9_hangs 62 = .ok (.iconst 1, 1) := by decide +kernel
theorem dX9_hangs_63 : decode cX9_hangs 63 = .ok (.goto 4, 3) := by decide +kernel
theorem dX9_hangs_66 : decode cX9_hangs 66 = .ok (.iconst 0, 1) := by decide +kernel
theorem dX9_hangs_67 : decode cX9_hangs 67 = .ok (.ireturn, 1) := by decide +kernel
theorem dX9_power_0 : decode cX9_power 0 = .ok (.lconst 1, 1) := by decide +kernel
theorem dX9_power_1 : decode cX9_power 1 = .ok (.lstore_n 3, 1) := by decide +kernel
theorem dX9_power_2 : decode cX9_power 2 = .ok (.iconst 0, 1) := by decide +kernel
theorem dX9_power_3 : decode cX9_power 3 = .ok (.istore 5, 2) := by decide +kernel
theorem dX9_power_5 : decode cX9_power 5 = .ok (.iload 5, 2) := by decide +kernel
theorem dX9_power_7 : decode cX9_power 7 = .ok (.iload_n 2, 1) := by decide +kernel
theorem dX9_power_8 : decode cX9_power 8 = .ok (.if_icmp .ge 13, 3) := by decide +kernel
theorem dX9_power_11 : decode cX9_power 11 = .ok (.lload_n 3, 1) := by decide +kernel
theorem dX9_power_12 : decode cX9_power 12 = .ok (.lload_n 0, 1) := by decide +kernel
theorem dX9_power_13 : decode cX9_power 13 = .ok (.lmul, 1) := by decide +kernel
theorem dX9_power_14 : decode cX9_power 14 = .ok (.lstore_n 3, 1) := by decide +kernel
theorem dX9_power_15 : decode cX9_power 15 = .ok (.iinc 5 1, 3) := by decide +kernel
theorem dX9_power_18 : decode cX9_power 18 = .ok (.goto (-13), 3) := by decide +kernel
theorem dX9_power_21 : decode cX9_power 21 = .ok (.lload_n 3, 1) := by decide +kernel
theorem dX9_power_22 : decode cX9_power 22 = .ok (.lreturn, 1) := by decide +kernel
theorem dX9_lowest_0 : decode cX9_lowest 0 = .ok (.lload_n 2, 1) := by decide +kernel
theorem dX9_lowest_1 : decode cX9_lowest 1 = .ok (.lstore 5, 2) := by decide +kernel
theorem dX9_lowest_3 : decode cX9_lowest 3 = .ok (.lload_n 0, 1) := by decide +kernel
theorem dX9_lowest_4 : decode cX9_lowest 4 = .ok (.lstore 7, 2) := by decide +kernel
theorem dX9_lowest_6 : decode cX9_lowest 6 = .ok (.lload 7, 2) := by decide +kernel
theorem dX9_lowest_8 : decode cX9_lowest 8 = .ok (.lconst 0, 1) := by decide +kernel
theorem dX9_lowest_9 : decode cX9_lowest 9 = .ok (.lcmp, 1) := by decide +kernel
theorem dX9_lowest_10 : decode cX9_lowest 10 = .ok (.ifCond .eq 21, 3) := by decide +kernel
theorem dX9_lowest_13 : decode cX9_lowest 13 = .ok (.lload 5, 2) := by decide +kernel
theorem dX9_lowest_15 : decode cX9_lowest 15 = .ok (.lload 7, 2) := by decide +kernel
theorem dX9_lowest_17 : decode cX9_lowest 17 = .ok (.lrem, 1) := by decide +kernel
theorem dX9_lowest_18 : decode cX9_lowest 18 = .ok (.lstore 9, 2) := by decide +kernel
theorem dX9_lowest_20 : decode cX9_lowest 20 = .ok (.lload 7, 2) := by decide +kernel
theorem dX9_lowest_22 : decode cX9_lowest 22 = .ok (.lstore 5, 2) := by decide +kernel
theorem dX9_lowest_24 : decode cX9_lowest 24 = .ok (.lload 9, 2) := by decide +kernel
theorem dX9_lowest_26 : decode cX9_lowest 26 = .ok (.lstore 7, 2) := by decide +kernel
theorem dX9_lowest_28 : decode cX9_lowest 28 = .ok (.goto (-22), 3) := by decide +kernel
theorem dX9_lowest_31 : decode cX9_lowest 31 = .ok (.iload 4, 2) := by decide +kernel
theorem dX9_lowest_33 : decode cX9_lowest 33 = .ok (.ifCond .ne 10, 3) := by decide +kernel
theorem dX9_lowest_36 : decode cX9_lowest 36 = .ok (.lload_n 0, 1) := by decide +kernel
theorem dX9_lowest_37 : decode cX9_lowest 37 = .ok (.lload 5, 2) := by decide +kernel
theorem dX9_lowest_39 : decode cX9_lowest 39 = .ok (.ldiv, 1) := by decide +kernel
theorem dX9_lowest_40 : decode cX9_lowest 40 = .ok (.goto 7, 3) := by decide +kernel
theorem dX9_lowest_43 : decode cX9_lowest 43 = .ok (.lload_n 2, 1) := by decide +kernel
theorem dX9_lowest_44 : decode cX9_lowest 44 = .ok (.lload 5, 2) := by decide +kernel
theorem dX9_lowest_46 : decode cX9_lowest 46 = .ok (.ldiv, 1) := by decide +kernel
theorem dX9_lowest_47 : decode cX9_lowest 47 = .ok (.lreturn, 1) := by decide +kernel
theorem dX9_hang_0 : decode cX9_hang 0 = .ok (.iload_n 1, 1) := by decide +kernel
theorem dX9_hang_1 : decode cX9_hang 1 = .ok (.i2l, 1) := by decide +kernel
theorem dX9_hang_2 : decode cX9_hang 2 = .ok (.lconst 1, 1) := by decide +kernel
theorem dX9_hang_3 : decode cX9_hang 3 = .ok (.ldc2_w 84, 3) := by decide +kernel
theorem dX9_hang_6 : decode cX9_hang 6 = .ok (.invokestatic 80, 3) := by decide +kernel
theorem dX9_hang_9 : decode cX9_hang 9 = .ok (.ifCond .eq 36, 3) := by decide +kernel
theorem dX9_hang_12 : decode cX9_hang 12 = .ok (.iload_n 2, 1) := by decide +kernel
theorem dX9_hang_13 : decode cX9_hang 13 = .ok (.i2l, 1) := by decide +kernel
theorem dX9_hang_14 : decode cX9_hang 14 = .ok (.lconst 0, 1) := by decide +kernel
theorem dX9_hang_15 : decode cX9_hang 15 = .ok (.ldc2_w 312, 3) := by decide +kernel
theorem dX9_hang_18 : decode cX9_hang 18 = .ok (.invokestatic 80, 3) := by decide +kernel
theorem dX9_hang_21 : decode cX9_hang 21 = .ok (.ifCond .eq 24, 3) := by decide +kernel
theorem dX9_hang_24 : decode cX9_hang 24 = .ok (.iload_n 3, 1) := by decide +kernel
theorem dX9_hang_25 : decode cX9_hang 25 = .ok (.i2l, 1) := by decide +kernel
theorem dX9_hang_26 : decode cX9_hang 26 = .ok (.lconst 0, 1) := by decide +kernel
theorem dX9_hang_27 : decode cX9_hang 27 = .ok (.lconst 1, 1) := by decide +kernel
theorem dX9_hang_28 : decode cX9_hang 28 = .ok (.invokestatic 80, 3) := by decide +kernel
theorem dX9_hang_31 : decode cX9_hang 31 = .ok (.ifCond .eq 14, 3) := by decide +kernel
theorem dX9_hang_34 : decode cX9_hang 34 = .ok (.iload 4, 2) := by decide +kernel
theorem dX9_hang_36 : decode cX9_hang 36 = .ok (.i2l, 1) := by decide +kernel
theorem dX9_hang_37 : decode cX9_hang 37 = .ok (.lconst 0, 1) := by decide +kernel
theorem dX9_hang_38 : decode cX9_hang 38 = .ok (.lconst 1, 1) := by decide +kernel
theorem dX9_hang_39 : decode cX9_hang 39 = .ok (.invokestatic 80, 3) := by decide +kernel
theorem dX9_hang_42 : decode cX9_hang 42 = .ok (.ifCond .ne 7, 3) := by decide +kernel
theorem dX9_hang_45 : decode cX9_hang 45 = .ok (.ldc2_w 314, 3) := by decide +kernel
theorem dX9_hang_48 : decode cX9_hang 48 = .ok (.lreturn, 1) := by decide +kernel
theorem dX9_hang_49 : decode cX9_hang 49 = .ok (.iload_n 1, 1) := by decide +kernel
theorem dX9_hang_50 : decode cX9_hang 50 = .ok (.iload_n 1, 1) := by decide +kernel
theorem dX9_hang_51 : decode cX9_hang 51 = .ok (.iconst 1, 1) := by decide +kernel
theorem dX9_hang_52 : decode cX9_hang 52 = .ok (.isub, 1) := by decide +kernel
theorem dX9_hang_53 : decode cX9_hang 53 = .ok (.imul, 1) := by decide +kernel
theorem dX9_hang_54 : decode cX9_hang 54 = .ok (.iconst 2, 1) := by decide +kernel
theorem dX9_hang_55 : decode cX9_hang 55 = .ok (.idiv, 1) := by decide +kernel
theorem dX9_hang_56 : decode cX9_hang 56 = .ok (.istore 5, 2) := by decide +kernel
theorem dX9_hang_58 : decode cX9_hang 58 = .ok (.iload_n 3, 1) := by decide +kernel
theorem dX9_hang_59 : decode cX9_hang 59 = .ok (.iconst 1, 1) := by decide +kernel
theorem dX9_hang_60 : decode cX9_hang 60 = .ok (.if_icmp .ne 18, 3) := by decide +kernel
theorem dX9_hang_63 : decode cX9_hang 63 = .ok (.iload 5, 2) := by decide +kernel
theorem dX9_hang_65 : decode cX9_hang 65 = .ok (.i2l, 1) := by decide +kernel
theorem dX9_hang_66 : decode cX9_hang 66 = .ok (.iload_n 2, 1) := by decide +kernel
theorem dX9_hang_67 : decode cX9_hang 67 = .ok (.i2l, 1) := by decide +kernel
theorem dX9_hang_68 : decode cX9_hang 68 = .ok (.lmul, 1) := by decide +kernel
theorem dX9_hang_69 : decode cX9_hang 69 = .ok (.ldc2_w 312, 3) := by decide +kernel
theorem dX9_hang_72 : decode cX9_hang 72 = .ok (.iload 4, 2) := by decide +kernel
theorem dX9_hang_74 : decode cX9_hang 74 = .ok (.invokestatic 316, 3) := by decide +kernel
theorem dX9_hang_77 : decode cX9_hang 77 = .ok (.lreturn, 1) := by decide +kernel
theorem dX9_hang_78 : decode cX9_hang 78 = .ok (.lconst 0, 1) := by decide +kernel
theorem dX9_hang_79 : decode cX9_hang 79 = .ok (.lstore 6, 2) := by decide +kernel
theorem dX9_hang_81 : decode cX9_hang 81 = .ok (.iconst 0, 1) := by decide +kernel
theorem dX9_hang_82 : decode cX9_hang 82 = .ok (.istore 8, 2) := by decide +kernel
theorem dX9_hang_84 : decode cX9_hang 84 = .ok (.iload 8, 2) := by decide +kernel
theorem dX9_hang_86 : decode cX9_hang 86 = .ok (.iconst 1, 1) := by decide +kernel
theorem dX9_hang_87 : decode cX9_hang 87 = .ok (.iload 5, 2) := by decide +kernel
theorem dX9_hang_89 : decode cX9_hang 89 = .ok (.ishl, 1) := by decide +kernel
theorem dX9_hang_90 : decode cX9_hang 90 = .ok (.if_icmp .ge 61, 3) := by decide +kernel
theorem dX9_hang_93 : decode cX9_hang 93 = .ok (.aload_n 0, 1) := by decide +kernel
theorem dX9_hang_94 : decode cX9_hang 94 = .ok (.iload 8, 2) := by decide +kernel
theorem dX9_hang_96 : decode cX9_hang 96 = .ok (.iload_n 1, 1) := by decide +kernel
theorem dX9_hang_97 : decode cX9_hang 97 = .ok (.invokevirtual 320, 3) := by decide +kernel
theorem dX9_hang_100 : decode cX9_hang 100 = .ok (.lload 6, 2) := by decide +kernel
theorem dX9_hang_102 : decode cX9_hang 102 = .ok (.aload_n 0, 1) := by decide +kernel
theorem dX9_hang_103 : decode cX9_hang 103 = .ok (.iload_n 1, 1) := by decide +kernel
theorem dX9_hang_104 : decode cX9_hang 104 = .ok (.invokevirtual 324, 3) := by decide +kernel
theorem dX9_hang_107 : decode cX9_hang 107 = .ok (.ifCond .eq 34, 3) := by decide +kernel
theorem dX9_hang_110 : decode cX9_hang 110 = .ok (.iload_n 2, 1) := by decide +kernel
theorem dX9_hang_111 : decode cX9_hang 111 = .ok (.i2l, 1) := by decide +kernel
theorem dX9_hang_112 : decode cX9_hang 112 = .ok (.iload 8, 2) := by decide +kernel
theorem dX9_hang_114 : decode cX9_hang 114 = .ok (.invokestatic 86, 3) := by decide +kernel
theorem dX9_hang_117 : decode cX9_hang 117 = .ok (.invokestatic 327, 3) := by decide +kernel
theorem dX9_hang_120 : decode cX9_hang 120 = .ok (.ldc2_w 312, 3) := by decide +kernel
theorem dX9_hang_123 : decode cX9_hang 123 = .ok (.iload_n 2, 1) := by decide +kernel
theorem dX9_hang_124 : decode cX9_hang 124 = .ok (.i2l, 1) := by decide +kernel
theorem dX9_hang_125 : decode cX9_hang 125 = .ok (.lsub, 1) := by decide +kernel
theorem dX9_hang_126 : decode cX9_hang 126 = .ok (.iload 5, 2) := by decide +kernel
theorem dX9_hang_128 : decode cX9_hang 128 = .ok (.iload 8, 2) := by decide +kernel
theorem dX9_hang_130 : decode cX9_hang 130 = .ok (.invokestatic 86, 3) := by decide +kernel
theorem dX9_hang_133 : decode cX9_hang 133 = .ok (.isub, 1) := by decide +kernel
theorem dX9_hang_134 : decode cX9_hang 134 = .ok (.invokestatic 327, 3) := by decide +kernel
theorem dX9_hang_137 : decode cX9_hang 137 = .ok (.lmul, 1) := by decide +kernel
theorem dX9_hang_138 : decode cX9_hang 138 = .ok (.goto 4, 3) := by decide +kernel
theorem dX9_hang_141 : decode cX9_hang 141 = .ok (.lconst 0, 1) := by decide +kernel
theorem dX9_hang_142 : decode cX9_hang 142 = .ok (.ladd, 1) := by decide +kernel
theorem dX9_hang_143 : decode cX9_hang 143 = .ok (.lstore 6, 2) := by decide +kernel
theorem dX9_hang_145 : decode cX9_hang 145 = .ok (.iinc 8 1, 3) := by decide +kernel
theorem dX9_hang_148 : decode cX9_hang 148 = .ok (.goto (-64), 3) := by decide +kernel
theorem dX9_hang_151 : decode cX9_hang 151 = .ok (.lload 6, 2) := by decide +kernel
theorem dX9_hang_153 : decode cX9_hang 153 = .ok (.ldc2_w 312, 3) := by decide +kernel
theorem dX9_hang_156 : decode cX9_hang 156 = .ok (.iload 5, 2) := by decide +kernel
theorem dX9_hang_158 : decode cX9_hang 158 = .ok (.invokestatic 327, 3) := by decide +kernel
theorem dX9_hang_161 : decode cX9_hang 161 = .ok (.iload 4, 2) := by decide +kernel
theorem dX9_hang_163 : decode cX9_hang 163 = .ok (.invokestatic 316, 3) := by decide +kernel
theorem dX9_hang_166 : decode cX9_hang 166 = .ok (.lreturn, 1) := by decide +kernel
theorem dX9_actBy_0 : decode cX9_actBy 0 = .ok (.iload_n 0, 1) := by decide +kernel
theorem dX9_actBy_1 : decode cX9_actBy 1 = .ok (.tableswitch 73 0 6 #[43, 45, 47, 49, 51, 54, 57], 43) := by decide +kernel
theorem dX9_actBy_44 : decode cX9_actBy 44 = .ok (.iconst 0, 1) := by decide +kernel
theorem dX9_actBy_45 : decode cX9_actBy 45 = .ok (.ireturn, 1) := by decide +kernel
theorem dX9_actBy_46 : decode cX9_actBy 46 = .ok (.iconst 1, 1) := by decide +kernel
theorem dX9_actBy_47 : decode cX9_actBy 47 = .ok (.ireturn, 1) := by decide +kernel
theorem dX9_actBy_48 : decode cX9_actBy 48 = .ok (.iconst 2, 1) := by decide +kernel
theorem dX9_actBy_49 : decode cX9_actBy 49 = .ok (.ireturn, 1) := by decide +kernel
theorem dX9_actBy_50 : decode cX9_actBy 50 = .ok (.iconst 4, 1) := by decide +kernel
theorem dX9_actBy_51 : decode cX9_actBy 51 = .ok (.ireturn, 1) := by decide +kernel
theorem dX9_actBy_52 : decode cX9_actBy 52 = .ok (.bipush 6, 2) := by decide +kernel
theorem dX9_actBy_54 : decode cX9_actBy 54 = .ok (.ireturn, 1) := by decide +kernel
theorem dX9_actBy_55 : decode cX9_actBy 55 = .ok (.bipush 7, 2) := by decide +kernel
theorem dX9_actBy_57 : decode cX9_actBy 57 = .ok (.ireturn, 1) := by decide +kernel
theorem dX9_actBy_58 : decode cX9_actBy 58 = .ok (.iload_n 1, 1) := by decide +kernel
theorem dX9_actBy_59 : decode cX9_actBy 59 = .ok (.bipush 6, 2) := by decide +kernel
theorem dX9_actBy_61 : decode cX9_actBy 61 = .ok (.idiv, 1) := by decide +kernel
theorem dX9_actBy_62 : decode cX9_actBy 62 = .ok (.iconst 4, 1) := by decide +kernel
theorem dX9_actBy_63 : decode cX9_actBy 63 = .ok (.irem, 1) := by decide +kernel
theorem dX9_actBy_64 : decode cX9_actBy 64 = .ok (.ifCond .ne 8, 3) := by decide +kernel
theorem dX9_actBy_67 : decode cX9_actBy 67 = .ok (.bipush 8, 2) := by decide +kernel
theorem dX9_actBy_69 : decode cX9_actBy 69 = .ok (.goto 4, 3) := by decide +kernel
theorem dX9_actBy_72 : decode cX9_actBy 72 = .ok (.iconst 5, 1) := by decide +kernel
theorem dX9_actBy_73 : decode cX9_actBy 73 = .ok (.ireturn, 1) := by decide +kernel
theorem dX9_actBy_74 : decode cX9_actBy 74 = .ok (.iload_n 1, 1) := by decide +kernel
theorem dX9_actBy_75 : decode cX9_actBy 75 = .ok (.iconst 4, 1) := by decide +kernel
theorem dX9_actBy_76 : decode cX9_actBy 76 = .ok (.irem, 1) := by decide +kernel
theorem dX9_actBy_77 : decode cX9_actBy 77 = .ok (.ifCond .ne 7, 3) := by decide +kernel
theorem dX9_actBy_80 : decode cX9_actBy 80 = .ok (.iconst 3, 1) := by decide +kernel
theorem dX9_actBy_81 : decode cX9_actBy 81 = .ok (.goto 5, 3) := by decide +kernel
theorem dX9_actBy_84 : decode cX9_actBy 84 = .ok (.bipush 9, 2) := by decide +kernel
theorem dX9_actBy_86 : decode cX9_actBy 86 = .ok (.ireturn, 1) := by decide +kernel
theorem dX9_drawn_0 : decode cX9_drawn 0 = .ok (.iload_n 1, 1) := by decide +kernel
theorem dX9_drawn_1 : decode cX9_drawn 1 = .ok (.iload_n 2, 1) := by decide +kernel
theorem dX9_drawn_2 : decode cX9_drawn 2 = .ok (.invokestatic 331, 3) := by decide +kernel
theorem dX9_drawn_5 : decode cX9_drawn 5 = .ok (.istore_n 3, 1) := by decide +kernel
theorem dX9_drawn_6 : decode cX9_drawn 6 = .ok (.iload_n 1, 1) := by decide +kernel
theorem dX9_drawn_7 : decode cX9_drawn 7 = .ok (.iconst 3, 1) := by decide +kernel
theorem dX9_drawn_8 : decode cX9_drawn 8 = .ok (.if_icmp .ge 10, 3) := by decide +kernel
theorem dX9_drawn_11 : decode cX9_drawn 11 = .ok (.iload_n 2, 1) := by decide +kernel
theorem dX9_drawn_12 : decode cX9_drawn 12 = .ok (.bipush 8, 2) := by decide +kernel
theorem dX9_drawn_14 : decode cX9_drawn 14 = .ok (.irem, 1) := by decide +kernel
theorem dX9_drawn_15 : decode cX9_drawn 15 = .ok (.goto 7, 3) := by decide +kernel
theorem dX9_drawn_18 : decode cX9_drawn 18 = .ok (.iload_n 2, 1) := by decide +kernel
theorem dX9_drawn_19 : decode cX9_drawn 19 = .ok (.bipush 6, 2) := by decide +kernel
theorem dX9_drawn_21 : decode cX9_drawn 21 = .ok (.irem, 1) := by decide +kernel
theorem dX9_drawn_22 : decode cX9_drawn 22 = .ok (.istore 4, 2) := by decide +kernel
theorem dX9_drawn_24 : decode cX9_drawn 24 = .ok (.iload_n 1, 1) := by decide +kernel
theorem dX9_drawn_25 : decode cX9_drawn 25 = .ok (.iconst 3, 1) := by decide +kernel
theorem dX9_drawn_26 : decode cX9_drawn 26 = .ok (.if_icmp .ge 13, 3) := by decide +kernel
theorem dX9_drawn_29 : decode cX9_drawn 29 = .ok (.iload_n 2, 1) := by decide +kernel
theorem dX9_drawn_30 : decode cX9_drawn 30 = .ok (.bipush 8, 2) := by decide +kernel
theorem dX9_drawn_32 : decode cX9_drawn 32 = .ok (.idiv, 1) := by decide +kernel
theorem dX9_drawn_33 : decode cX9_drawn 33 = .ok (.bipush 8, 2) := by decide +kernel
theorem dX9_drawn_35 : decode cX9_drawn 35 = .ok (.irem, 1) := by decide +kernel
theorem dX9_drawn_36 : decode cX9_drawn 36 = .ok (.goto 10, 3) := by decide +kernel
theorem dX9_drawn_39 : decode cX9_drawn 39 = .ok (.iload_n 2, 1) := by decide +kernel
theorem dX9_drawn_40 : decode cX9_drawn 40 = .ok (.bipush 6, 2) := by decide +kernel
theorem dX9_drawn_42 : decode cX9_drawn 42 = .ok (.idiv, 1) := by decide +kernel
theorem dX9_drawn_43 : decode cX9_drawn 43 = .ok (.bipush 8, 2) := by decide +kernel
theorem dX9_drawn_45 : decode cX9_drawn 45 = .ok (.irem, 1) := by decide +kernel
theorem dX9_drawn_46 : decode cX9_drawn 46 = .ok (.istore 5, 2) := by decide +kernel
theorem dX9_drawn_48 : decode cX9_drawn 48 = .ok (.aload_n 0, 1) := by decide +kernel
theorem dX9_drawn_49 : decode cX9_drawn 49 = .ok (.iload_n 3, 1) := by decide +kernel
theorem dX9_drawn_50 : decode cX9_drawn 50 = .ok (.iload 4, 2) := by decide +kernel
theorem dX9_drawn_52 : decode cX9_drawn 52 = .ok (.iload 5, 2) := by decide +kernel
theorem dX9_drawn_54 : decode cX9_drawn 54 = .ok (.invokevirtual 236, 3) := by decide +kernel
theorem dX9_drawn_57 : decode cX9_drawn 57 = .ok (.ifCond .ne 12, 3) := by decide +kernel
theorem dX9_drawn_60 : decode cX9_drawn 60 = .ok (.aload_n 0, 1) := by decide +kernel
theorem dX9_drawn_61 : decode cX9_drawn 61 = .ok (.iload_n 3, 1) := by decide +kernel
theorem dX9_drawn_62 : decode cX9_drawn 62 = .ok (.iload 4, 2) := by decide +kernel
theorem dX9_drawn_64 : decode cX9_drawn 64 = .ok (.iload 5, 2) := by decide +kernel
theorem dX9_drawn_66 : decode cX9_drawn 66 = .ok (.invokevirtual 221, 3) := by decide +kernel
theorem dX9_drawn_69 : decode cX9_drawn 69 = .ok (.return_, 1) := by decide +kernel
theorem dX9_year_0 : decode cX9_year 0 = .ok (.iload_n 1, 1) := by decide +kernel
theorem dX9_year_1 : decode cX9_year 1 = .ok (.i2l, 1) := by decide +kernel
theorem dX9_year_2 : decode cX9_year 2 = .ok (.lconst 0, 1) := by decide +kernel
theorem dX9_year_3 : decode cX9_year 3 = .ok (.ldc2_w 334, 3) := by decide +kernel
theorem dX9_year_6 : decode cX9_year 6 = .ok (.invokestatic 80, 3) := by decide +kernel
theorem dX9_year_9 : decode cX9_year 9 = .ok (.ifCond .eq 27, 3) := by decide +kernel
theorem dX9_year_12 : decode cX9_year 12 = .ok (.iload_n 2, 1) := by decide +kernel
theorem dX9_year_13 : decode cX9_year 13 = .ok (.i2l, 1) := by decide +kernel
theorem dX9_year_14 : decode cX9_year 14 = .ok (.lconst 1, 1) := by decide +kernel
theorem dX9_year_15 : decode cX9_year 15 = .ok (.ldc2_w 336, 3) := by decide +kernel
theorem dX9_year_18 : decode cX9_year 18 = .ok (.invokestatic 80, 3) := by decide +kernel
theorem dX9_year_21 : decode cX9_year 21 = .ok (.ifCond .eq 15, 3) := by decide +kernel
theorem dX9_year_24 : decode cX9_year 24 = .ok (.iload_n 3, 1) := by decide +kernel
theorem dX9_year_25 : decode cX9_year 25 = .ok (.i2l, 1) := by decide +kernel
theorem dX9_year_26 : decode cX9_year 26 = .ok (.lconst 0, 1) := by decide +kernel
theorem dX9_year_27 : decode cX9_year 27 = .ok (.ldc2_w 248, 3) := by decide +kernel
theorem dX9_year_30 : decode cX9_year 30 = .ok (.invokestatic 80, 3) := by decide +kernel
theorem dX9_year_33 : decode cX9_year 33 = .ok (.ifCond .ne 6, 3) := by decide +kernel
theorem dX9_year_36 : decode cX9_year 36 = .ok (.bipush (-2), 2) := by decide +kernel
theorem dX9_year_38 : decode cX9_year 38 = .ok (.ireturn, 1) := by decide +kernel
theorem dX9_year_39 : decode cX9_year 39 = .ok (.aload_n 0, 1) := by decide +kernel
theorem dX9_year_40 : decode cX9_year 40 = .ok (.iconst 0, 1) := by decide +kernel
theorem dX9_year_41 : decode cX9_year 41 = .ok (.invokevirtual 217, 3) := by decide +kernel
theorem dX9_year_44 : decode cX9_year 44 = .ok (.aload_n 0, 1) := by decide +kernel
theorem dX9_year_45 : decode cX9_year 45 = .ok (.iconst 0, 1) := by decide +kernel
theorem dX9_year_46 : decode cX9_year 46 = .ok (.putfield 181, 3) := by decide +kernel
theorem dX9_year_49 : decode cX9_year 49 = .ok (.iload_n 1, 1) := by decide +kernel
theorem dX9_year_50 : decode cX9_year 50 = .ok (.istore 4, 2) := by decide +kernel
theorem dX9_year_52 : decode cX9_year 52 = .ok (.iconst 0, 1) := by decide +kernel
theorem dX9_year_53 : decode cX9_year 53 = .ok (.istore 5, 2) := by decide +kernel
theorem dX9_year_55 : decode cX9_year 55 = .ok (.iload 5, 2) := by decide +kernel
theorem dX9_year_57 : decode cX9_year 57 = .ok (.iload_n 2, 1) := by decide +kernel
theorem dX9_year_58 : decode cX9_year 58 = .ok (.if_icmp .ge 41, 3) := by decide +kernel
theorem dX9_year_61 : decode cX9_year 61 = .ok (.ldc2_w 338, 3) := by decide +kernel
theorem dX9_year_64 : decode cX9_year 64 = .ok (.iload 4, 2) := by decide +kernel
theorem dX9_year_66 : decode cX9_year 66 = .ok (.i2l, 1) := by decide +kernel
theorem dX9_year_67 : decode cX9_year 67 = .ok (.lmul, 1) := by decide +kernel
theorem dX9_year_68 : decode cX9_year 68 = .ok (.ldc2_w 340, 3) := by decide +kernel
theorem dX9_year_71 : decode cX9_year 71 = .ok (.ladd, 1) := by decide +kernel
theorem dX9_year_72 : decode cX9_year 72 = .ok (.ldc2_w 342, 3) := by decide +kernel
theorem dX9_year_75 : decode cX9_year 75 = .ok (.lrem, 1) := by decide +kernel
theorem dX9_year_76 : decode cX9_year 76 = .ok (.l2i, 1) := by decide +kernel
theorem dX9_year_77 : decode cX9_year 77 = .ok (.istore 4, 2) := by decide +kernel
theorem dX9_year_79 : decode cX9_year 79 = .ok (.aload_n 0, 1) := by decide +kernel
theorem dX9_year_80 : decode cX9_year 80 = .ok (.iload 4, 2) := by decide +kernel
theorem dX9_year_82 : decode cX9_year 82 = .ok (.bipush 8, 2) := by decide +kernel
theorem dX9_year_84 : decode cX9_year 84 = .ok (.irem, 1) := by decide +kernel
theorem dX9_year_85 : decode cX9_year 85 = .ok (.iload 4, 2) := by decide +kernel
theorem dX9_year_87 : decode cX9_year 87 = .ok (.bipush 8, 2) := by decide +kernel
theorem dX9_year_89 : decode cX9_year 89 = .ok (.idiv, 1) := by decide +kernel
theorem dX9_year_90 : decode cX9_year 90 = .ok (.invokevirtual 344, 3) := by decide +kernel
theorem dX9_year_93 : decode cX9_year 93 = .ok (.iinc 5 1, 3) := by decide +kernel
theorem dX9_year_96 : decode cX9_year 96 = .ok (.goto (-41), 3) := by decide +kernel
theorem dX9_year_99 : decode cX9_year 99 = .ok (.aload_n 0, 1) := by decide +kernel
theorem dX9_year_100 : decode cX9_year 100 = .ok (.iload_n 3, 1) := by decide +kernel
theorem dX9_year_101 : decode cX9_year 101 = .ok (.ifCond .ne 10, 3) := by decide +kernel
theorem dX9_year_104 : decode cX9_year 104 = .ok (.aload_n 0, 1) := by decide +kernel
theorem dX9_year_105 : decode cX9_year 105 = .ok (.invokevirtual 264, 3) := by decide +kernel
theorem dX9_year_108 : decode cX9_year 108 = .ok (.goto 19, 3) := by decide +kernel
theorem dX9_year_111 : decode cX9_year 111 = .ok (.iload_n 3, 1) := by decide +kernel
theorem dX9_year_112 : decode cX9_year 112 = .ok (.iconst 1, 1) := by decide +kernel
theorem dX9_year_113 : decode cX9_year 113 = .ok (.if_icmp .ne 10, 3) := by decide +kernel
theorem dX9_year_116 : decode cX9_year 116 = .ok (.aload_n 0, 1) := by decide +kernel
theorem dX9_year_117 : decode cX9_year 117 = .ok (.getfield 181, 3) := by decide +kernel
theorem dX9_year_120 : decode cX9_year 120 = .ok (.goto 7, 3) := by decide +kernel
theorem dX9_year_123 : decode cX9_year 123 = .ok (.aload_n 0, 1) := by decide +kernel
theorem dX9_year_124 : decode cX9_year 124 = .ok (.invokevirtual 98, 3) := by decide +kernel
theorem dX9_year_127 : decode cX9_year 127 = .ok (.invokevirtual 253, 3) := by decide +kernel
theorem dX9_year_130 : decode cX9_year 130 = .ok (.ireturn, 1) := by decide +kernel
theorem dX9_pass_0 : decode cX9_pass 0 = .ok (.aload_n 0, 1) := by decide +kernel
theorem dX9_pass_1 : decode cX9_pass 1 = .ok (.getfield 347, 3) := by decide +kernel
theorem dX9_pass_4 : decode cX9_pass 4 = .ok (.ifCond .eq 7, 3) := by decide +kernel
theorem dX9_pass_7 : decode cX9_pass 7 = .ok (.iload_n 1, 1) := by decide +kernel
theorem dX9_pass_8 : decode cX9_pass 8 = .ok (.goto 12, 3) := by decide +kernel
theorem dX9_pass_11 : decode cX9_pass 11 = .ok (.aload_n 0, 1) := by decide +kernel
theorem dX9_pass_12 : decode cX9_pass 12 = .ok (.getfield 68, 3) := by decide +kernel
theorem dX9_pass_15 : decode cX9_pass 15 = .ok (.aload_n 0, 1) := by decide +kernel
theorem dX9_pass_16 : decode cX9_pass 16 = .ok (.getfield 350, 3) := by decide +kernel
theorem dX9_pass_19 : decode cX9_pass 19 = .ok (.iaload, 1) := by decide +kernel
theorem dX9_pass_20 : decode cX9_pass 20 = .ok (.istore_n 2, 1) := by decide +kernel
theorem dX9_pass_21 : decode cX9_pass 21 = .ok (.aload_n 0, 1) := by decide +kernel
theorem dX9_pass_22 : decode cX9_pass 22 = .ok (.getfield 68, 3) := by decide +kernel
theorem dX9_pass_25 : decode cX9_pass 25 = .ok (.aload_n 0, 1) := by decide +kernel
theorem dX9_pass_26 : decode cX9_pass 26 = .ok (.getfield 350, 3) := by decide +kernel
theorem dX9_pass_29 : decode cX9_pass 29 = .ok (.iload_n 2, 1) := by decide +kernel
theorem dX9_pass_30 : decode cX9_pass 30 = .ok (.iastore, 1) := by decide +kernel
theorem dX9_pass_31 : decode cX9_pass 31 = .ok (.aload_n 0, 1) := by decide +kernel
theorem dX9_pass_32 : decode cX9_pass 32 = .ok (.dup, 1) := by decide +kernel
theorem dX9_pass_33 : decode cX9_pass 33 = .ok (.getfield 350, 3) := by decide +kernel
theorem dX9_pass_36 : decode cX9_pass 36 = .ok (.iconst 1, 1) := by decide +kernel
theorem dX9_pass_37 : decode cX9_pass 37 = .ok (.iadd, 1) := by decide +kernel
theorem dX9_pass_38 : decode cX9_pass 38 = .ok (.putfield 350, 3) := by decide +kernel
theorem dX9_pass_41 : decode cX9_pass 41 = .ok (.iload_n 2, 1) := by decide +kernel
theorem dX9_pass_42 : decode cX9_pass 42 = .ok (.ireturn, 1) := by decide +kernel
theorem dX9_passRow_0 : decode cX9_passRow 0 = .ok (.iconst 0, 1) := by decide +kernel
theorem dX9_passRow_1 : decode cX9_passRow 1 = .ok (.istore_n 3, 1) := by decide +kernel
theorem dX9_passRow_2 : decode cX9_passRow 2 = .ok (.iload_n 3, 1) := by decide +kernel
theorem dX9_passRow_3 : decode cX9_passRow 3 = .ok (.iload_n 2, 1) := by decide +kernel
theorem dX9_passRow_4 : decode cX9_passRow 4 = .ok (.if_icmp .ge 19, 3) := by decide +kernel
theorem dX9_passRow_7 : decode cX9_passRow 7 = .ok (.aload_n 1, 1) := by decide +kernel
theorem dX9_passRow_8 : decode cX9_passRow 8 = .ok (.iload_n 3, 1) := by decide +kernel
theorem dX9_passRow_9 : decode cX9_passRow 9 = .ok (.aload_n 0, 1) := by decide +kernel
theorem dX9_passRow_10 : decode cX9_passRow 10 = .ok (.aload_n 1, 1) := by decide +kernel
theorem dX9_passRow_11 : decode cX9_passRow 11 = .ok (.iload_n 3, 1) := by decide +kernel
theorem dX9_passRow_12 : decode cX9_passRow 12 = .ok (.iaload, 1) := by decide +kernel
theorem dX9_passRow_13 : decode cX9_passRow 13 = .ok (.invokevirtual 353, 3) := by decide +kernel
theorem dX9_passRow_16 : decode cX9_passRow 16 = .ok (.iastore, 1) := by decide +kernel
theorem dX9_passRow_17 : decode cX9_passRow 17 = .ok (.iinc 3 1, 3) := by decide +kernel
theorem dX9_passRow_20 : decode cX9_passRow 20 = .ok (.goto (-18), 3) := by decide +kernel
theorem dX9_passRow_23 : decode cX9_passRow 23 = .ok (.return_, 1) := by decide +kernel
theorem dX9_passAll_0 : decode cX9_passAll 0 = .ok (.aload_n 0, 1) := by decide +kernel
theorem dX9_passAll_1 : decode cX9_passAll 1 = .ok (.aload_n 0, 1) := by decide +kernel
theorem dX9_passAll_2 : decode cX9_passAll 2 = .ok (.aload_n 0, 1) := by decide +kernel
theorem dX9_passAll_3 : decode cX9_passAll 3 = .ok (.getfield 74, 3) := by decide +kernel
theorem dX9_passAll_6 : decode cX9_passAll 6 = .ok (.invokevirtual 353, 3) := by decide +kernel
theorem dX9_passAll_9 : decode cX9_passAll 9 = .ok (.putfield 74, 3) := by decide +kernel
theorem dX9_passAll_12 : decode cX9_passAll 12 = .ok (.aload_n 0, 1) := by decide +kernel
theorem dX9_passAll_13 : decode cX9_passAll 13 = .ok (.aload_n 0, 1) := by decide +kernel
theorem dX9_passAll_14 : decode cX9_passAll 14 = .ok (.aload_n 0, 1) := by decide +kernel
theorem dX9_passAll_15 : decode cX9_passAll 15 = .ok (.getfield 174, 3) := by decide +kernel
theorem dX9_passAll_18 : decode cX9_passAll 18 = .ok (.invokevirtual 353, 3) := by decide +kernel
theorem dX9_passAll_21 : decode cX9_passAll 21 = .ok (.putfield 174, 3) := by decide +kernel
theorem dX9_passAll_24 : decode cX9_passAll 24 = .ok (.aload_n 0, 1) := by decide +kernel
theorem dX9_passAll_25 : decode cX9_passAll 25 = .ok (.aload_n 0, 1) := by decide +kernel
theorem dX9_passAll_26 : decode cX9_passAll 26 = .ok (.aload_n 0, 1) := by decide +kernel
theorem dX9_passAll_27 : decode cX9_passAll 27 = .ok (.getfield 281, 3) := by decide +kernel
theorem dX9_passAll_30 : decode cX9_passAll 30 = .ok (.invokevirtual 353, 3) := by decide +kernel
theorem dX9_passAll_33 : decode cX9_passAll 33 = .ok (.putfield 281, 3) := by decide +kernel
theorem dX9_passAll_36 : decode cX9_passAll 36 = .ok (.aload_n 0, 1) := by decide +kernel
theorem dX9_passAll_37 : decode cX9_passAll 37 = .ok (.aload_n 0, 1) := by decide +kernel
theorem dX9_passAll_38 : decode cX9_passAll 38 = .ok (.aload_n 0, 1) := by decide +kernel
theorem dX9_passAll_39 : decode cX9_passAll 39 = .ok (.getfield 296, 3) := by decide +kernel
theorem dX9_passAll_42 : decode cX9_passAll 42 = .ok (.invokevirtual 353, 3) := by decide +kernel
theorem dX9_passAll_45 : decode cX9_passAll 45 = .ok (.putfield 296, 3) := by decide +kernel
theorem dX9_passAll_48 : decode cX9_passAll 48 = .ok (.aload_n 0, 1) := by decide +kernel
theorem dX9_passAll_49 : decode cX9_passAll 49 = .ok (.aload_n 0, 1) := by decide +kernel
theorem dX9_passAll_50 : decode cX9_passAll 50 = .ok (.getfield 7, 3) := by decide +kernel
theorem dX9_passAll_53 : decode cX9_passAll 53 = .ok (.bipush 8, 2) := by decide +kernel
theorem dX9_passAll_55 : decode cX9_passAll 55 = .ok (.invokevirtual 356, 3) := by decide +kernel
theorem dX9_passAll_58 : decode cX9_passAll 58 = .ok (.aload_n 0, 1) := by decide +kernel
theorem dX9_passAll_59 : decode cX9_passAll 59 = .ok (.aload_n 0, 1) := by decide +kernel
theorem dX9_passAll_60 : decode cX9_passAll 60 = .ok (.getfield 13, 3) := by decide +kernel
theorem dX9_passAll_63 : decode cX9_passAll 63 = .ok (.bipush 8, 2) := by decide +kernel
theorem dX9_passAll_65 : decode cX9_passAll 65 = .ok (.invokevirtual 356, 3) := by decide +kernel
theorem dX9_passAll_68 : decode cX9_passAll 68 = .ok (.aload_n 0, 1) := by decide +kernel
theorem dX9_passAll_69 : decode cX9_passAll 69 = .ok (.aload_n 0, 1) := by decide +kernel
theorem dX9_passAll_70 : decode cX9_passAll 70 = .ok (.getfield 16, 3) := by decide +kernel
theorem dX9_passAll_73 : decode cX9_passAll 73 = .ok (.bipush 6, 2) := by decide +kernel
theorem dX9_passAll_75 : decode cX9_passAll 75 = .ok (.invokevirtual 356, 3) := by decide +kernel
theorem dX9_passAll_78 : decode cX9_passAll 78 = .ok (.aload_n 0, 1) := by decide +kernel
theorem dX9_passAll_79 : decode cX9_passAll 79 = .ok (.aload_n 0, 1) := by decide +kernel
theorem dX9_passAll_80 : decode cX9_passAll 80 = .ok (.getfield 19, 3) := by decide +kernel
theorem dX9_passAll_83 : decode cX9_passAll 83 = .ok (.bipush 6, 2) := by decide +kernel
theorem dX9_passAll_85 : decode cX9_passAll 85 = .ok (.invokevirtual 356, 3) := by decide +kernel
theorem dX9_passAll_88 : decode cX9_passAll 88 = .ok (.aload_n 0, 1) := by decide +kernel
theorem dX9_passAll_89 : decode cX9_passAll 89 = .ok (.aload_n 0, 1) := by decide +kernel
theorem dX9_passAll_90 : decode cX9_passAll 90 = .ok (.getfield 22, 3) := by decide +kernel
theorem dX9_passAll_93 : decode cX9_passAll 93 = .ok (.bipush 6, 2) := by decide +kernel
theorem dX9_passAll_95 : decode cX9_passAll 95 = .ok (.invokevirtual 356, 3) := by decide +kernel
theorem dX9_passAll_98 : decode cX9_passAll 98 = .ok (.aload_n 0, 1) := by decide +kernel
theorem dX9_passAll_99 : decode cX9_passAll 99 = .ok (.aload_n 0, 1) := by decide +kernel
theorem dX9_passAll_100 : decode cX9_passAll 100 = .ok (.getfield 25, 3) := by decide +kernel
theorem dX9_passAll_103 : decode cX9_passAll 103 = .ok (.bipush 12, 2) := by decide +kernel
theorem dX9_passAll_105 : decode cX9_passAll 105 = .ok (.invokevirtual 356, 3) := by decide +kernel
theorem dX9_passAll_108 : decode cX9_passAll 108 = .ok (.aload_n 0, 1) := by decide +kernel
theorem dX9_passAll_109 : decode cX9_passAll 109 = .ok (.aload_n 0, 1) := by decide +kernel
theorem dX9_passAll_110 : decode cX9_passAll 110 = .ok (.getfield 28, 3) := by decide +kernel
theorem dX9_passAll_113 : decode cX9_passAll 113 = .ok (.bipush 12, 2) := by decide +kernel
theorem dX9_passAll_115 : decode cX9_passAll 115 = .ok (.invokevirtual 356, 3) := by decide +kernel
theorem dX9_passAll_118 : decode cX9_passAll 118 = .ok (.aload_n 0, 1) := by decide +kernel
theorem dX9_passAll_119 : decode cX9_passAll 119 = .ok (.aload_n 0, 1) := by decide +kernel
theorem dX9_passAll_120 : decode cX9_passAll 120 = .ok (.getfield 31, 3) := by decide +kernel
theorem dX9_passAll_123 : decode cX9_passAll 123 = .ok (.bipush 12, 2) := by decide +kernel
theorem dX9_passAll_125 : decode cX9_passAll 125 = .ok (.invokevirtual 356, 3) := by decide +kernel
theorem dX9_passAll_128 : decode cX9_passAll 128 = .ok (.aload_n 0, 1) := by decide +kernel
theorem dX9_passAll_129 : decode cX9_passAll 129 = .ok (.aload_n 0, 1) := by decide +kernel
theorem dX9_passAll_130 : decode cX9_passAll 130 = .ok (.getfield 34, 3) := by decide +kernel
theorem dX9_passAll_133 : decode cX9_passAll 133 = .ok (.bipush 8, 2) := by decide +kernel
theorem dX9_passAll_135 : decode cX9_passAll 135 = .ok (.invokevirtual 356, 3) := by decide +kernel
theorem dX9_passAll_138 : decode cX9_passAll 138 = .ok (.aload_n 0, 1) := by decide +kernel
theorem dX9_passAll_139 : decode cX9_passAll 139 = .ok (.aload_n 0, 1) := by decide +kernel
theorem dX9_passAll_140 : decode cX9_passAll 140 = .ok (.getfield 37, 3) := by decide +kernel
theorem dX9_passAll_143 : decode cX9_passAll 143 = .ok (.bipush 8, 2) := by decide +kernel
theorem dX9_passAll_145 : decode cX9_passAll 145 = .ok (.invokevirtual 356, 3) := by decide +kernel
theorem dX9_passAll_148 : decode cX9_passAll 148 = .ok (.aload_n 0, 1) := by decide +kernel
theorem dX9_passAll_149 : decode cX9_passAll 149 = .ok (.aload_n 0, 1) := by decide +kernel
theorem dX9_passAll_150 : decode cX9_passAll 150 = .ok (.getfield 40, 3) := by decide +kernel
theorem dX9_passAll_153 : decode cX9_passAll 153 = .ok (.bipush 8, 2) := by decide +kernel
theorem dX9_passAll_155 : decode cX9_passAll 155 = .ok (.invokevirtual 356, 3) := by decide +kernel
theorem dX9_passAll_158 : decode cX9_passAll 158 = .ok (.aload_n 0, 1) := by decide +kernel
theorem dX9_passAll_159 : decode cX9_passAll 159 = .ok (.aload_n 0, 1) := by decide +kernel
theorem dX9_passAll_160 : decode cX9_passAll 160 = .ok (.getfield 43, 3) := by decide +kernel
theorem dX9_passAll_163 : decode cX9_passAll 163 = .ok (.bipush 8, 2) := by decide +kernel
theorem dX9_passAll_165 : decode cX9_passAll 165 = .ok (.invokevirtual 356, 3) := by decide +kernel
theorem dX9_passAll_168 : decode cX9_passAll 168 = .ok (.return_, 1) := by decide +kernel
theorem dX9_image_0 : decode cX9_image 0 = .ok (.iload_n 1, 1) := by decide +kernel
theorem dX9_image_1 : decode cX9_image 1 = .ok (.i2l, 1) := by decide +kernel
theorem dX9_image_2 : decode cX9_image 2 = .ok (.lconst 0, 1) := by decide +kernel
theorem dX9_image_3 : decode cX9_image 3 = .ok (.lconst 1, 1) := by decide +kernel
theorem dX9_image_4 : decode cX9_image 4 = .ok (.invokestatic 80, 3) := by decide +kernel
theorem dX9_image_7 : decode cX9_image 7 = .ok (.ifCond .ne 6, 3) := by decide +kernel
theorem dX9_image_10 : decode cX9_image 10 = .ok (.bipush (-2), 2) := by decide +kernel
theorem dX9_image_12 : decode cX9_image 12 = .ok (.ireturn, 1) := by decide +kernel
theorem dX9_image_13 : decode cX9_image 13 = .ok (.aload_n 0, 1) := by decide +kernel
theorem dX9_image_14 : decode cX9_image 14 = .ok (.bipush 110, 2) := by decide +kernel
theorem dX9_image_16 : decode cX9_image 16 = .ok (.iload_n 1, 1) := by decide +kernel
theorem dX9_image_17 : decode cX9_image 17 = .ok (.imul, 1) := by decide +kernel
theorem dX9_image_18 : decode cX9_image 18 = .ok (.putfield 350, 3) := by decide +kernel
theorem dX9_image_21 : decode cX9_image 21 = .ok (.aload_n 0, 1) := by decide +kernel
theorem dX9_image_22 : decode cX9_image 22 = .ok (.iconst 1, 1) := by decide +kernel
theorem dX9_image_23 : decode cX9_image 23 = .ok (.putfield 347, 3) := by decide +kernel
theorem dX9_image_26 : decode cX9_image 26 = .ok (.aload_n 0, 1) := by decide +kernel
theorem dX9_image_27 : decode cX9_image 27 = .ok (.invokevirtual 359, 3) := by decide +kernel
theorem dX9_image_30 : decode cX9_image 30 = .ok (.aload_n 0, 1) := by decide +kernel
theorem dX9_image_31 : decode cX9_image 31 = .ok (.getfield 71, 3) := by decide +kernel
theorem dX9_image_34 : decode cX9_image 34 = .ok (.iload_n 1, 1) := by decide +kernel
theorem dX9_image_35 : decode cX9_image 35 = .ok (.iconst 1, 1) := by decide +kernel
theorem dX9_image_36 : decode cX9_image 36 = .ok (.bastore, 1) := by decide +kernel
theorem dX9_image_37 : decode cX9_image 37 = .ok (.iconst 1, 1) := by decide +kernel
theorem dX9_image_38 : decode cX9_image 38 = .ok (.ireturn, 1) := by decide +kernel
theorem dX9_restore_0 : decode cX9_restore 0 = .ok (.iload_n 1, 1) := by decide +kernel
theorem dX9_restore_1 : decode cX9_restore 1 = .ok (.i2l, 1) := by decide +kernel
theorem dX9_restore_2 : decode cX9_restore 2 = .ok (.lconst 0, 1) := by decide +kernel
theorem dX9_restore_3 : decode cX9_restore 3 = .ok (.lconst 1, 1) := by decide +kernel
theorem dX9_restore_4 : decode cX9_restore 4 = .ok (.invokestatic 80, 3) := by decide +kernel
theorem dX9_restore_7 : decode cX9_restore 7 = .ok (.ifCond .ne 6, 3) := by decide +kernel
theorem dX9_restore_10 : decode cX9_restore 10 = .ok (.bipush (-2), 2) := by decide +kernel
theorem dX9_restore_12 : decode cX9_restore 12 = .ok (.ireturn, 1) := by decide +kernel
theorem dX9_restore_13 : decode cX9_restore 13 = .ok (.aload_n 0, 1) := by decide +kernel
theorem dX9_restore_14 : decode cX9_restore 14 = .ok (.getfield 71, 3) := by decide +kernel
theorem dX9_restore_17 : decode cX9_restore 17 = .ok (.iload_n 1, 1) := by decide +kernel
theorem dX9_restore_18 : decode cX9_restore 18 = .ok (.baload, 1) := by decide +kernel
theorem dX9_restore_19 : decode cX9_restore 19 = .ok (.ifCond .ne 6, 3) := by decide +kernel
theorem dX9_restore_22 : decode cX9_restore 22 = .ok (.bipush (-3), 2) := by decide +kernel
theorem dX9_restore_24 : decode cX9_restore 24 = .ok (.ireturn, 1) := by decide +kernel
theorem dX9_restore_25 : decode cX9_restore 25 = .ok (.aload_n 0, 1) := by decide +kernel
theorem dX9_restore_26 : decode cX9_restore 26 = .ok (.bipush 110, 2) := by decide +kernel
theorem dX9_restore_28 : decode cX9_restore 28 = .ok (.iload_n 1, 1) := by decide +kernel
theorem dX9_restore_29 : decode cX9_restore 29 = .ok (.imul, 1) := by decide +kernel
theorem dX9_restore_30 : decode cX9_restore 30 = .ok (.putfield 350, 3) := by decide +kernel
theorem dX9_restore_33 : decode cX9_restore 33 = .ok (.aload_n 0, 1) := by decide +kernel
theorem dX9_restore_34 : decode cX9_restore 34 = .ok (.iconst 0, 1) := by decide +kernel
theorem dX9_restore_35 : decode cX9_restore 35 = .ok (.putfield 347, 3) := by decide +kernel
theorem dX9_restore_38 : decode cX9_restore 38 = .ok (.aload_n 0, 1) := by decide +kernel
theorem dX9_restore_39 : decode cX9_restore 39 = .ok (.invokevirtual 359, 3) := by decide +kernel
theorem dX9_restore_42 : decode cX9_restore 42 = .ok (.iconst 1, 1) := by decide +kernel
theorem dX9_restore_43 : decode cX9_restore 43 = .ok (.ireturn, 1) := by decide +kernel
theorem dX9_toldOfPerson_0 : decode cX9_toldOfPerson 0 = .ok (.iload_n 1, 1) := by decide +kernel
theorem dX9_toldOfPerson_1 : decode cX9_toldOfPerson 1 = .ok (.bipush 10, 2) := by decide +kernel
theorem dX9_toldOfPerson_3 : decode cX9_toldOfPerson 3 = .ok (.irem, 1) := by decide +kernel
theorem dX9_toldOfPerson_4 : decode cX9_toldOfPerson 4 = .ok (.istore_n 2, 1) := by decide +kernel
theorem dX9_toldOfPerson_5 : decode cX9_toldOfPerson 5 = .ok (.iload_n 2, 1) := by decide +kernel
theorem dX9_toldOfPerson_6 : decode cX9_toldOfPerson 6 = .ok (.invokestatic 113, 3) := by decide +kernel
theorem dX9_toldOfPerson_9 : decode cX9_toldOfPerson 9 = .ok (.ifCond .eq 17, 3) := by decide +kernel
theorem dX9_toldOfPerson_12 : decode cX9_toldOfPerson 12 = .ok (.aload_n 0, 1) := by decide +kernel
theorem dX9_toldOfPerson_13 : decode cX9_toldOfPerson 13 = .ok (.iload_n 2, 1) := by decide +kernel
theorem dX9_toldOfPerson_14 : decode cX9_toldOfPerson 14 = .ok (.iload_n 1, 1) := by decide +kernel
theorem dX9_toldOfPerson_15 : decode cX9_toldOfPerson 15 = .ok (.bipush 10, 2) := by decide +kernel
theorem dX9_toldOfPerson_17 : decode cX9_toldOfPerson 17 = .ok (.idiv, 1) := by decide +kernel
theorem dX9_toldOfPerson_18 : decode cX9_toldOfPerson 18 = .ok (.iconst 1, 1) := by decide +kernel
theorem dX9_toldOfPerson_19 : decode cX9_toldOfPerson 19 = .ok (.isub, 1) := by decide +kernel
theorem dX9_toldOfPerson_20 : decode cX9_toldOfPerson 20 = .ok (.invokevirtual 261, 3) := by decide +kernel
theorem dX9_toldOfPerson_23 : decode cX9_toldOfPerson 23 = .ok (.goto 5, 3) := by decide +kernel
theorem dX9_toldOfPerson_26 : decode cX9_toldOfPerson 26 = .ok (.bipush (-2), 2) := by decide +kernel
theorem dX9_toldOfPerson_28 : decode cX9_toldOfPerson 28 = .ok (.ireturn, 1) := by decide +kernel
theorem dX9_toldOfOther_0 : decode cX9_toldOfOther 0 = .ok (.iload_n 1, 1) := by decide +kernel
theorem dX9_toldOfOther_1 : decode cX9_toldOfOther 1 = .ok (.bipush 10, 2) := by decide +kernel
theorem dX9_toldOfOther_3 : decode cX9_toldOfOther 3 = .ok (.irem, 1) := by decide +kernel
theorem dX9_toldOfOther_4 : decode cX9_toldOfOther 4 = .ok (.istore_n 2, 1) := by decide +kernel
theorem dX9_toldOfOther_5 : decode cX9_toldOfOther 5 = .ok (.iload_n 2, 1) := by decide +kernel
theorem dX9_toldOfOther_6 : decode cX9_toldOfOther 6 = .ok (.invokestatic 102, 3) := by decide +kernel
theorem dX9_toldOfOther_9 : decode cX9_toldOfOther 9 = .ok (.ifCond .ne 6, 3) := by decide +kernel
theorem dX9_toldOfOther_12 : decode cX9_toldOfOther 12 = .ok (.bipush (-2), 2) := by decide +kernel
theorem dX9_toldOfOther_14 : decode cX9_toldOfOther 14 = .ok (.ireturn, 1) := by decide +kernel
theorem dX9_toldOfOther_15 : decode cX9_toldOfOther 15 = .ok (.iload_n 1, 1) := by decide +kernel
theorem dX9_toldOfOther_16 : decode cX9_toldOfOther 16 = .ok (.bipush 50, 2) := by decide +kernel
theorem dX9_toldOfOther_18 : decode cX9_toldOfOther 18 = .ok (.if_icmp .ge 11, 3) := by decide +kernel
theorem dX9_toldOfOther_21 : decode cX9_toldOfOther 21 = .ok (.aload_n 0, 1) := by decide +kernel
theorem dX9_toldOfOther_22 : decode cX9_toldOfOther 22 = .ok (.iload_n 2, 1) := by decide +kernel
theorem dX9_toldOfOther_23 : decode cX9_toldOfOther 23 = .ok (.invokevirtual 107, 3) := by decide +kernel
theorem dX9_toldOfOther_26 : decode cX9_toldOfOther 26 = .ok (.goto 23, 3) := by decide +kernel
theorem dX9_toldOfOther_29 : decode cX9_toldOfOther 29 = .ok (.iload_n 1, 1) := by decide +kernel
theorem dX9_toldOfOther_30 : decode cX9_toldOfOther 30 = .ok (.bipush 60, 2) := by decide +kernel
theorem dX9_toldOfOther_32 : decode cX9_toldOfOther 32 = .ok (.if_icmp .ge 11, 3) := by decide +kernel
theorem dX9_toldOfOther_35 : decode cX9_toldOfOther 35 = .ok (.aload_n 0, 1) := by decide +kernel
theorem dX9_toldOfOther_36 : decode cX9_toldOfOther 36 = .ok (.iload_n 2, 1) := by decide +kernel
theorem dX9_toldOfOther_37 : decode cX9_toldOfOther 37 = .ok (.invokevirtual 110, 3) := by decide +kernel
theorem dX9_toldOfOther_40 : decode cX9_toldOfOther 40 = .ok (.goto 9, 3) := by decide +kernel
theorem dX9_toldOfOther_43 : decode cX9_toldOfOther 43 = .ok (.aload_n 0, 1) := by decide +kernel
theorem dX9_toldOfOther_44 : decode cX9_toldOfOther 44 = .ok (.getfield 7, 3) := by decide +kernel
theorem dX9_toldOfOther_47 : decode cX9_toldOfOther 47 = .ok (.iload_n 2, 1) := by decide +kernel
theorem dX9_toldOfOther_48 : decode cX9_toldOfOther 48 = .ok (.iaload, 1) := by decide +kernel
theorem dX9_toldOfOther_49 : decode cX9_toldOfOther 49 = .ok (.ireturn, 1) := by decide +kernel
theorem dX9_toldOfAll_0 : decode cX9_toldOfAll 0 = .ok (.iload_n 1, 1) := by decide +kernel
theorem dX9_toldOfAll_1 : decode cX9_toldOfAll 1 = .ok (.tableswitch 69 0 5 #[39, 44, 49, 54, 59, 64], 39) := by decide +kernel
theorem dX9_toldOfAll_40 : decode cX9_toldOfAll 40 = .ok (.aload_n 0, 1) := by decide +kernel
theorem dX9_toldOfAll_41 : decode cX9_toldOfAll 41 = .ok (.getfield 126, 3) := by decide +kernel
theorem dX9_toldOfAll_44 : decode cX9_toldOfAll 44 = .ok (.ireturn, 1) := by decide +kernel
theorem dX9_toldOfAll_45 : decode cX9_toldOfAll 45 = .ok (.aload_n 0, 1) := by decide +kernel
theorem dX9_toldOfAll_46 : decode cX9_toldOfAll 46 = .ok (.invokevirtual 98, 3) := by decide +kernel
theorem dX9_toldOfAll_49 : decode cX9_toldOfAll 49 = .ok (.ireturn, 1) := by decide +kernel
theorem dX9_toldOfAll_50 : decode cX9_toldOfAll 50 = .ok (.aload_n 0, 1) := by decide +kernel
theorem dX9_toldOfAll_51 : decode cX9_toldOfAll 51 = .ok (.getfield 74, 3) := by decide +kernel
theorem dX9_toldOfAll_54 : decode cX9_toldOfAll 54 = .ok (.ireturn, 1) := by decide +kernel
theorem dX9_toldOfAll_55 : decode cX9_toldOfAll 55 = .ok (.aload_n 0, 1) := by decide +kernel
theorem dX9_toldOfAll_56 : decode cX9_toldOfAll 56 = .ok (.getfield 174, 3) := by decide +kernel
theorem dX9_toldOfAll_59 : decode cX9_toldOfAll 59 = .ok (.ireturn, 1) := by decide +kernel
theorem dX9_toldOfAll_60 : decode cX9_toldOfAll 60 = .ok (.aload_n 0, 1) := by decide +kernel
theorem dX9_toldOfAll_61 : decode cX9_toldOfAll 61 = .ok (.getfield 281, 3) := by decide +kernel
theorem dX9_toldOfAll_64 : decode cX9_toldOfAll 64 = .ok (.ireturn, 1) := by decide +kernel
theorem dX9_toldOfAll_65 : decode cX9_toldOfAll 65 = .ok (.aload_n 0, 1) := by decide +kernel
theorem dX9_toldOfAll_66 : decode cX9_toldOfAll 66 = .ok (.getfield 296, 3) := by decide +kernel
theorem dX9_toldOfAll_69 : decode cX9_toldOfAll 69 = .ok (.ireturn, 1) := by decide +kernel
theorem dX9_toldOfAll_70 : decode cX9_toldOfAll 70 = .ok (.bipush (-2), 2) := by decide +kernel
theorem dX9_toldOfAll_72 : decode cX9_toldOfAll 72 = .ok (.ireturn, 1) := by decide +kernel
theorem dX9_told_0 : decode cX9_told 0 = .ok (.iload_n 1, 1) := by decide +kernel
theorem dX9_told_1 : decode cX9_told 1 = .ok (.i2l, 1) := by decide +kernel
theorem dX9_told_2 : decode cX9_told 2 = .ok (.ldc2_w 312, 3) := by decide +kernel
theorem dX9_told_5 : decode cX9_told 5 = .ok (.ldc2_w 362, 3) := by decide +kernel
theorem dX9_told_8 : decode cX9_told 8 = .ok (.invokestatic 80, 3) := by decide +kernel
theorem dX9_told_11 : decode cX9_told 11 = .ok (.ifCond .eq 9, 3) := by decide +kernel
theorem dX9_told_14 : decode cX9_told 14 = .ok (.aload_n 0, 1) := by decide +kernel
theorem dX9_told_15 : decode cX9_told 15 = .ok (.iload_n 1, 1) := by decide +kernel
theorem dX9_told_16 : decode cX9_told 16 = .ok (.invokevirtual 364, 3) := by decide +kernel
theorem dX9_told_19 : decode cX9_told 19 = .ok (.ireturn, 1) := by decide +kernel
theorem dX9_told_20 : decode cX9_told 20 = .ok (.iload_n 1, 1) := by decide +kernel
theorem dX9_told_21 : decode cX9_told 21 = .ok (.i2l, 1) := by decide +kernel
theorem dX9_told_22 : decode cX9_told 22 = .ok (.ldc2_w 367, 3) := by decide +kernel
theorem dX9_told_25 : decode cX9_told 25 = .ok (.ldc2_w 369, 3) := by decide +kernel
theorem dX9_told_28 : decode cX9_told 28 = .ok (.invokestatic 80, 3) := by decide +kernel
theorem dX9_told_31 : decode cX9_told 31 = .ok (.ifCond .eq 11, 3) := by decide +kernel
theorem dX9_told_34 : decode cX9_told 34 = .ok (.aload_n 0, 1) := by decide +kernel
theorem dX9_told_35 : decode cX9_told 35 = .ok (.iload_n 1, 1) := by decide +kernel
theorem dX9_told_36 : decode cX9_told 36 = .ok (.invokevirtual 371, 3) := by decide +kernel
theorem dX9_told_39 : decode cX9_told 39 = .ok (.goto 8, 3) := by decide +kernel
theorem dX9_told_42 : decode cX9_told 42 = .ok (.aload_n 0, 1) := by decide +kernel
theorem dX9_told_43 : decode cX9_told 43 = .ok (.iload_n 1, 1) := by decide +kernel
theorem dX9_told_44 : decode cX9_told 44 = .ok (.invokevirtual 374, 3) := by decide +kernel
theorem dX9_told_47 : decode cX9_told 47 = .ok (.ireturn, 1) := by decide +kernel
theorem dJ6_bitCount_0f7a4_0 : decode cJ6_bitCount_0f7a4 0 = .ok (.iload_n 0, 1) := by decide +kernel
theorem dJ6_bitCount_0f7a4_1 : decode cJ6_bitCount_0f7a4 1 = .ok (.iload_n 0, 1) := by decide +kernel
theorem dJ6_bitCount_0f7a4_2 : decode cJ6_bitCount_0f7a4 2 = .ok (.iconst 1, 1) := by decide +kernel
theorem dJ6_bitCount_0f7a4_3 : decode cJ6_bitCount_0f7a4 3 = .ok (.iushr, 1) := by decide +kernel
theorem dJ6_bitCount_0f7a4_4 : decode cJ6_bitCount_0f7a4 4 = .ok (.ldc_w 265, 3) := by decide +kernel
theorem dJ6_bitCount_0f7a4_7 : decode cJ6_bitCount_0f7a4 7 = .ok (.iand, 1) := by decide +kernel
theorem dJ6_bitCount_0f7a4_8 : decode cJ6_bitCount_0f7a4 8 = .ok (.isub, 1) := by decide +kernel
theorem dJ6_bitCount_0f7a4_9 : decode cJ6_bitCount_0f7a4 9 = .ok (.istore_n 0, 1) := by decide +kernel
theorem dJ6_bitCount_0f7a4_10 : decode cJ6_bitCount_0f7a4 10 = .ok (.iload_n 0, 1) := by decide +kernel
theorem dJ6_bitCount_0f7a4_11 : decode cJ6_bitCount_0f7a4 11 = .ok (.ldc_w 266, 3) := by decide +kernel
theorem dJ6_bitCount_0f7a4_14 : decode cJ6_bitCount_0f7a4 14 = .ok (.iand, 1) := by decide +kernel
theorem dJ6_bitCount_0f7a4_15 : decode cJ6_bitCount_0f7a4 15 = .ok (.iload_n 0, 1) := by decide +kernel
theorem dJ6_bitCount_0f7a4_16 : decode cJ6_bitCount_0f7a4 16 = .ok (.iconst 2, 1) := by decide +kernel
theorem dJ6_bitCount_0f7a4_17 : decode cJ6_bitCount_0f7a4 17 = .ok (.iushr, 1) := by decide +kernel
theorem dJ6_bitCount_0f7a4_18 : decode cJ6_bitCount_0f7a4 18 = .ok (.ldc_w 266, 3) := by decide +kernel
theorem dJ6_bitCount_0f7a4_21 : decode cJ6_bitCount_0f7a4 21 = .ok (.iand, 1) := by decide +kernel
theorem dJ6_bitCount_0f7a4_22 : decode cJ6_bitCount_0f7a4 22 = .ok (.iadd, 1) := by decide +kernel
theorem dJ6_bitCount_0f7a4_23 : decode cJ6_bitCount_0f7a4 23 = .ok (.istore_n 0, 1) := by decide +kernel
theorem dJ6_bitCount_0f7a4_24 : decode cJ6_bitCount_0f7a4 24 = .ok (.iload_n 0, 1) := by decide +kernel
theorem dJ6_bitCount_0f7a4_25 : decode cJ6_bitCount_0f7a4 25 = .ok (.iload_n 0, 1) := by decide +kernel
theorem dJ6_bitCount_0f7a4_26 : decode cJ6_bitCount_0f7a4 26 = .ok (.iconst 4, 1) := by decide +kernel
theorem dJ6_bitCount_0f7a4_27 : decode cJ6_bitCount_0f7a4 27 = .ok (.iushr, 1) := by decide +kernel
theorem dJ6_bitCount_0f7a4_28 : decode cJ6_bitCount_0f7a4 28 = .ok (.iadd, 1) := by decide +kernel
theorem dJ6_bitCount_0f7a4_29 : decode cJ6_bitCount_0f7a4 29 = .ok (.ldc_w 267, 3) := by decide +kernel
theorem dJ6_bitCount_0f7a4_32 : decode cJ6_bitCount_0f7a4 32 = .ok (.iand, 1) := by decide +kernel
theorem dJ6_bitCount_0f7a4_33 : decode cJ6_bitCount_0f7a4 33 = .ok (.istore_n 0, 1) := by decide +kernel
theorem dJ6_bitCount_0f7a4_34 : decode cJ6_bitCount_0f7a4 34 = .ok (.iload_n 0, 1) := by decide +kernel
theorem dJ6_bitCount_0f7a4_35 : decode cJ6_bitCount_0f7a4 35 = .ok (.iload_n 0, 1) := by decide +kernel
theorem dJ6_bitCount_0f7a4_36 : decode cJ6_bitCount_0f7a4 36 = .ok (.bipush 8, 2) := by decide +kernel
theorem dJ6_bitCount_0f7a4_38 : decode cJ6_bitCount_0f7a4 38 = .ok (.iushr, 1) := by decide +kernel
theorem dJ6_bitCount_0f7a4_39 : decode cJ6_bitCount_0f7a4 39 = .ok (.iadd, 1) := by decide +kernel
theorem dJ6_bitCount_0f7a4_40 : decode cJ6_bitCount_0f7a4 40 = .ok (.istore_n 0, 1) := by decide +kernel
theorem dJ6_bitCount_0f7a4_41 : decode cJ6_bitCount_0f7a4 41 = .ok (.iload_n 0, 1) := by decide +kernel
theorem dJ6_bitCount_0f7a4_42 : decode cJ6_bitCount_0f7a4 42 = .ok (.iload_n 0, 1) := by decide +kernel
theorem dJ6_bitCount_0f7a4_43 : decode cJ6_bitCount_0f7a4 43 = .ok (.bipush 16, 2) := by decide +kernel
theorem dJ6_bitCount_0f7a4_45 : decode cJ6_bitCount_0f7a4 45 = .ok (.iushr, 1) := by decide +kernel
theorem dJ6_bitCount_0f7a4_46 : decode cJ6_bitCount_0f7a4 46 = .ok (.iadd, 1) := by decide +kernel
theorem dJ6_bitCount_0f7a4_47 : decode cJ6_bitCount_0f7a4 47 = .ok (.istore_n 0, 1) := by decide +kernel
theorem dJ6_bitCount_0f7a4_48 : decode cJ6_bitCount_0f7a4 48 = .ok (.iload_n 0, 1) := by decide +kernel
theorem dJ6_bitCount_0f7a4_49 : decode cJ6_bitCount_0f7a4 49 = .ok (.bipush 63, 2) := by decide +kernel
theorem dJ6_bitCount_0f7a4_51 : decode cJ6_bitCount_0f7a4 51 = .ok (.iand, 1) := by decide +kernel
theorem dJ6_bitCount_0f7a4_52 : decode cJ6_bitCount_0f7a4 52 = .ok (.ireturn, 1) := by decide +kernel
theorem dJ9_max_7cf53_0 : decode cJ9_max_7cf53 0 = .ok (.iload_n 0, 1) := by decide +kernel
theorem dJ9_max_7cf53_1 : decode cJ9_max_7cf53 1 = .ok (.iload_n 1, 1) := by decide +kernel
theorem dJ9_max_7cf53_2 : decode cJ9_max_7cf53 2 = .ok (.if_icmp .lt 7, 3) := by decide +kernel
theorem dJ9_max_7cf53_5 : decode cJ9_max_7cf53 5 = .ok (.iload_n 0, 1) := by decide +kernel
theorem dJ9_max_7cf53_6 : decode cJ9_max_7cf53 6 = .ok (.goto 4, 3) := by decide +kernel
theorem dJ9_max_7cf53_9 : decode cJ9_max_7cf53 9 = .ok (.iload_n 1, 1) := by decide +kernel
theorem dJ9_max_7cf53_10 : decode cJ9_max_7cf53 10 = .ok (.ireturn, 1) := by decide +kernel
theorem dJ9_min_7cf53_0 : decode cJ9_min_7cf53 0 = .ok (.iload_n 0, 1) := by decide +kernel
theorem dJ9_min_7cf53_1 : decode cJ9_min_7cf53 1 = .ok (.iload_n 1, 1) := by decide +kernel
theorem dJ9_min_7cf53_2 : decode cJ9_min_7cf53 2 = .ok (.if_icmp .gt 7, 3) := by decide +kernel
theorem dJ9_min_7cf53_5 : decode cJ9_min_7cf53 5 = .ok (.iload_n 0, 1) := by decide +kernel
theorem dJ9_min_7cf53_6 : decode cJ9_min_7cf53 6 = .ok (.goto 4, 3) := by decide +kernel
theorem dJ9_min_7cf53_9 : decode cJ9_min_7cf53 9 = .ok (.iload_n 1, 1) := by decide +kernel
theorem dJ9_min_7cf53_10 : decode cJ9_min_7cf53 10 = .ok (.ireturn, 1) := by decide +kernel
theorem dL_law_0 : decode cL_law 0 = .ok (.new 7, 3) := by decide +kernel
theorem dL_law_3 : decode cL_law 3 = .ok (.dup, 1) := by decide +kernel
theorem dL_law_4 : decode cL_law 4 = .ok (.invokespecial 9, 3) := by decide +kernel
theorem dL_law_7 : decode cL_law 7 = .ok (.astore_n 1, 1) := by decide +kernel
theorem dL_law_8 : decode cL_law 8 = .ok (.new 10, 3) := by decide +kernel
theorem dL_law_11 : decode cL_law 11 = .ok (.dup, 1) := by decide +kernel
theorem dL_law_12 : decode cL_law 12 = .ok (.invokespecial 12, 3) := by decide +kernel
theorem dL_law_15 : decode cL_law 15 = .ok (.astore_n 2, 1) := by decide +kernel
theorem dL_law_16 : decode cL_law 16 = .ok (.iconst 0, 1) := by decide +kernel
theorem dL_law_17 : decode cL_law 17 = .ok (.istore_n 3, 1) := by decide +kernel
theorem dL_law_18 : decode cL_law 18 = .ok (.iload_n 3, 1) := by decide +kernel
theorem dL_law_19 : decode cL_law 19 = .ok (.aload_n 0, 1) := by decide +kernel
theorem dL_law_20 : decode cL_law 20 = .ok (.arraylength, 1) := by decide +kernel
theorem dL_law_21 : decode cL_law 21 = .ok (.iconst 5, 1) := by decide +kernel
theorem dL_law_22 : decode cL_law 22 = .ok (.isub, 1) := by decide +kernel
theorem dL_law_23 : decode cL_law 23 = .ok (.if_icmp .gt 1033, 3) := by decide +kernel
theorem dL_law_26 : decode cL_law 26 = .ok (.aload_n 0, 1) := by decide +kernel
theorem dL_law_27 : decode cL_law 27 = .ok (.iload_n 3, 1) := by decide +kernel
theorem dL_law_28 : decode cL_law 28 = .ok (.iaload, 1) := by decide +kernel
theorem dL_law_29 : decode cL_law 29 = .ok (.bipush 31, 2) := by decide +kernel
theorem dL_law_31 : decode cL_law 31 = .ok (.iand, 1) := by decide +kernel
theorem dL_law_32 : decode cL_law 32 = .ok (.tableswitch 1018 0 28 #[132, 191, 224, 267, 306, 329, 342, 355, 378, 411, 444, 467, 490, 503, 536, 579, 622, 635, 658, 691, 760, 773, 796, 819, 852, 906, 949, 972, 995], 132) := by decide +kernel
theorem dL_law_164 : decode cL_law 164 = .ok (.aload_n 1, 1) := by decide +kernel
theorem dL_law_165 : decode cL_law 165 = .ok (.aload_n 0, 1) := by decide +kernel
theorem dL_law_166 : decode cL_law 166 = .ok (.iload_n 3, 1) := by decide +kernel
theorem dL_law_167 : decode cL_law 167 = .ok (.iconst 1, 1) := by decide +kernel
theorem dL_law_168 : decode cL_law 168 = .ok (.iadd, 1) := by decide +kernel
theorem dL_law_169 : decode cL_law 169 = .ok (.iaload, 1) := by decide +kernel
theorem dL_law_170 : decode cL_law 170 = .ok (.aload_n 0, 1) := by decide +kernel
theorem dL_law_171 : decode cL_law 171 = .ok (.iload_n 3, 1) := by decide +kernel
theorem dL_law_172 : decode cL_law 172 = .ok (.iconst 2, 1) := by decide +kernel
theorem dL_law_173 : decode cL_law 173 = .ok (.iadd, 1) := by decide +kernel
theorem dL_law_174 : decode cL_law 174 = .ok (.iaload, 1) := by decide +kernel
theorem dL_law_175 : decode cL_law 175 = .ok (.aload_n 0, 1) := by decide +kernel
theorem dL_law_176 : decode cL_law 176 = .ok (.iload_n 3, 1) := by decide +kernel
theorem dL_law_177 : decode cL_law 177 = .ok (.iconst 3, 1) := by decide +kernel
theorem dL_law_178 : decode cL_law 178 = .ok (.iadd, 1) := by decide +kernel
theorem dL_law_179 : decode cL_law 179 = .ok (.iaload, 1) := by decide +kernel
theorem dL_law_180 : decode cL_law 180 = .ok (.ifCond .eq 7, 3) := by decide +kernel
theorem dL_law_183 : decode cL_law 183 = .ok (.iconst 1, 1) := by decide +kernel
theorem dL_law_184 : decode cL_law 184 = .ok (.goto 4, 3) := by decide +kernel
theorem dL_law_187 : decode cL_law 187 = .ok (.iconst 0, 1) := by decide +kernel
theorem dL_law_188 : decode cL_law 188 = .ok (.invokevirtual 13, 3) := by decide +kernel
theorem dL_law_191 : decode cL_law 191 = .ok (.aload_n 2, 1) := by decide +kernel
theorem dL_law_192 : decode cL_law 192 = .ok (.aload_n 0, 1) := by decide +kernel
theorem dL_law_193 : decode cL_law 193 = .ok (.iload_n 3, 1) := by decide +kernel
theorem dL_law_194 : decode cL_law 194 = .ok (.iconst 1, 1) := by decide +kernel
theorem dL_law_195 : decode cL_law 195 = .ok (.iadd, 1) := by decide +kernel
theorem dL_law_196 : decode cL_law 196 = .ok (.iaload, 1) := by decide +kernel
theorem dL_law_197 : decode cL_law 197 = .ok (.aload_n 0, 1) := by decide +kernel
theorem dL_law_198 : decode cL_law 198 = .ok (.iload_n 3, 1) := by decide +kernel
theorem dL_law_199 : decode cL_law 199 = .ok (.iconst 2, 1) := by decide +kernel
theorem dL_law_200 : decode cL_law 200 = .ok (.iadd, 1) := by decide +kernel
theorem dL_law_201 : decode cL_law 201 = .ok (.iaload, 1) := by decide +kernel
theorem dL_law_202 : decode cL_law 202 = .ok (.aload_n 0, 1) := by decide +kernel
theorem dL_law_203 : decode cL_law 203 = .ok (.iload_n 3, 1) := by decide +kernel
theorem dL_law_204 : decode cL_law 204 = .ok (.iconst 3, 1) := by decide +kernel
theorem dL_law_205 : decode cL_law 205 = .ok (.iadd, 1) := by decide +kernel
theorem dL_law_206 : decode cL_law 206 = .ok (.iaload, 1) := by decide +kernel
theorem dL_law_207 : decode cL_law 207 = .ok (.ifCond .eq 7, 3) := by decide +kernel
theorem dL_law_210 : decode cL_law 210 = .ok (.iconst 1, 1) := by decide +kernel
theorem dL_law_211 : decode cL_law 211 = .ok (.goto 4, 3) := by decide +kernel
theorem dL_law_214 : decode cL_law 214 = .ok (.iconst 0, 1) := by decide +kernel
theorem dL_law_215 : decode cL_law 215 = .ok (.invokevirtual 17, 3) := by decide +kernel
theorem dL_law_218 : decode cL_law 218 = .ok (.if_icmp .eq 832, 3) := by decide +kernel
theorem dL_law_221 : decode cL_law 221 = .ok (.iconst 0, 1) := by decide +kernel
theorem dL_law_222 : decode cL_law 222 = .ok (.ireturn, 1) := by decide +kernel
theorem dL_law_223 : decode cL_law 223 = .ok (.aload_n 1, 1) := by decide +kernel
theorem dL_law_224 : decode cL_law 224 = .ok (.aload_n 0, 1) := by decide +kernel
theorem dL_law_225 : decode cL_law 225 = .ok (.iload_n 3, 1) := by decide +kernel
theorem dL_law_226 : decode cL_law 226 = .ok (.iconst 1, 1) := by decide +kernel
theorem dL_law_227 : decode cL_law 227 = .ok (.iadd, 1) := by decide +kernel
theorem dL_law_228 : decode cL_law 228 = .ok (.iaload, 1) := by decide +kernel
theorem dL_law_229 : decode cL_law 229 = .ok (.aload_n 0, 1) := by decide +kernel
theorem dL_law_230 : decode cL_law 230 = .ok (.iload_n 3, 1) := by decide +kernel
theorem dL_law_231 : decode cL_law 231 = .ok (.iconst 2, 1) := by decide +kernel
theorem dL_law_232 : decode cL_law 232 = .ok (.iadd, 1) := by decide +kernel
theorem dL_law_233 : decode cL_law 233 = .ok (.iaload, 1) := by decide +kernel
theorem dL_law_234 : decode cL_law 234 = .ok (.invokevirtual 18, 3) := by decide +kernel
theorem dL_law_237 : decode cL_law 237 = .ok (.aload_n 2, 1) := by decide +kernel
theorem dL_law_238 : decode cL_law 238 = .ok (.aload_n 0, 1) := by decide +kernel
theorem dL_law_239 : decode cL_law 239 = .ok (.iload_n 3, 1) := by decide +kernel
theorem dL_law_240 : decode cL_law 240 = .ok (.iconst 1, 1) := by decide +kernel
theorem dL_law_241 : decode cL_law 241 = .ok (.iadd, 1) := by decide +kernel
theorem dL_law_242 : decode cL_law 242 = .ok (.iaload, 1) := by decide +kernel
theorem dL_law_243 : decode cL_law 243 = .ok (.aload_n 0, 1) := by decide +kernel
theorem dL_law_244 : decode cL_law 244 = .ok (.iload_n 3, 1) := by decide +kernel
theorem dL_law_245 : decode cL_law 245 = .ok (.iconst 2, 1) := by decide +kernel
theorem dL_law_246 : decode cL_law 246 = .ok (.iadd, 1) := by decide +kernel
theorem dL_law_247 : decode cL_law 247 = .ok (.iaload, 1) := by decide +kernel
theorem dL_law_248 : decode cL_law 248 = .ok (.invokevirtual 22, 3) := by decide +kernel
theorem dL_law_251 : decode cL_law 251 = .ok (.if_icmp .eq 799, 3) := by decide +kernel
theorem dL_law_254 : decode cL_law 254 = .ok (.iconst 0, 1) := by decide +kernel
theorem dL_law_255 : decode cL_law 255 = .ok (.ireturn, 1) := by decide +kernel
theorem dL_law_256 : decode cL_law 256 = .ok (.aload_n 1, 1) := by decide +kernel
theorem dL_law_257 : decode cL_law 257 = .ok (.aload_n 0, 1) := by decide +kernel
theorem dL_law_258 : decode cL_law 258 = .ok (.iload_n 3, 1) := by decide +kernel
theorem dL_law_259 : decode cL_law 259 = .ok (.iconst 1, 1) := by decide +kernel
theorem dL_law_260 : decode cL_law 260 = .ok (.iadd, 1) := by decide +kernel
theorem dL_law_261 : decode cL_law 261 = .ok (.iaload, 1) := by decide +kernel
theorem dL_law_262 : decode cL_law 262 = .ok (.aload_n 0, 1) := by decide +kernel
theorem dL_law_263 : decode cL_law 263 = .ok (.iload_n 3, 1) := by decide +kernel
theorem dL_law_264 : decode cL_law 264 = .ok (.iconst 2, 1) := by decide +kernel
theorem dL_law_265 : decode cL_law 265 = .ok (.iadd, 1) := by decide +kernel
theorem dL_law_266 : decode cL_law 266 = .ok (.iaload, 1) := by decide +kernel
theorem dL_law_267 : decode cL_law 267 = .ok (.aload_n 0, 1) := by decide +kernel
theorem dL_law_268 : decode cL_law 268 = .ok (.iload_n 3, 1) := by decide +kernel
theorem dL_law_269 : decode cL_law 269 = .ok (.iconst 3, 1) := by decide +kernel
theorem dL_law_270 : decode cL_law 270 = .ok (.iadd, 1) := by decide +kernel
theorem dL_law_271 : decode cL_law 271 = .ok (.iaload, 1) := by decide +kernel
theorem dL_law_272 : decode cL_law 272 = .ok (.invokevirtual 23, 3) := by decide +kernel
theorem dL_law_275 : decode cL_law 275 = .ok (.aload_n 2, 1) := by decide +kernel
theorem dL_law_276 : decode cL_law 276 = .ok (.aload_n 0, 1) := by decide +kernel
theorem dL_law_277 : decode cL_law 277 = .ok (.iload_n 3, 1) := by decide +kernel
theorem dL_law_278 : decode cL_law 278 = .ok (.iconst 1, 1) := by decide +kernel
theorem dL_law_279 : decode cL_law 279 = .ok (.iadd, 1) := by decide +kernel
theorem dL_law_280 : decode cL_law 280 = .ok (.iaload, 1) := by decide +kernel
theorem dL_law_281 : decode cL_law 281 = .ok (.aload_n 0, 1) := by decide +kernel
theorem dL_law_282 : decode cL_law 282 = .ok (.iload_n 3, 1) := by decide +kernel
theorem dL_law_283 : decode cL_law 283 = .ok (.iconst 2, 1) := by decide +kernel
theorem dL_law_284 : decode cL_law 284 = .ok (.iadd, 1) := by decide +kernel
theorem dL_law_285 : decode cL_law 285 = .ok (.iaload, 1) := by decide +kernel
theorem dL_law_286 : decode cL_law 286 = .ok (.aload_n 0, 1) := by decide +kernel
theorem dL_law_287 : decode cL_law 287 = .ok (.iload_n 3, 1) := by decide +kernel
theorem dL_law_288 : decode cL_law 288 = .ok (.iconst 3, 1) := by decide +kernel
theorem dL_law_289 : decode cL_law 289 = .ok (.iadd, 1) := by decide +kernel
theorem dL_law_290 : decode cL_law 290 = .ok (.iaload, 1) := by decide +kernel
theorem dL_law_291 : decode cL_law 291 = .ok (.invokevirtual 27, 3) := by decide +kernel
theorem dL_law_294 : decode cL_law 294 = .ok (.if_icmp .eq 756, 3) := by decide +kernel
theorem dL_law_297 : decode cL_law 297 = .ok (.iconst 0, 1) := by decide +kernel
theorem dL_law_298 : decode cL_law 298 = .ok (.ireturn, 1) := by decide +kernel
theorem dL_law_299 : decode cL_law 299 = .ok (.aload_n 1, 1) := by decide +kernel
theorem dL_law_300 : decode cL_law 300 = .ok (.aload_n 0, 1) := by decide +kernel
theorem dL_law_301 : decode cL_law 301 = .ok (.iload_n 3, 1) := by decide +kernel
theorem dL_law_302 : decode cL_law 302 = .ok (.iconst 1, 1) := by decide +kernel
theorem dL_law_303 : decode cL_law 303 = .ok (.iadd, 1) := by decide +kernel
theorem dL_law_304 : decode cL_law 304 = .ok (.iaload, 1) := by decide +kernel
theorem dL_law_305 : decode cL_law 305 = .ok (.ifCond .eq 7, 3) := by decide +kernel
theorem dL_law_308 : decode cL_law 308 = .ok (.iconst 1, 1) := by decide +kernel
theorem dL_law_309 : decode cL_law 309 = .ok (.goto 4, 3) := by decide +kernel
theorem dL_law_312 : decode cL_law 312 = .ok (.iconst 0, 1) := by decide +kernel
theorem dL_law_313 : decode cL_law 313 = .ok (.invokevirtual 28, 3) := by decide +kernel
theorem dL_law_316 : decode cL_law 316 = .ok (.aload_n 2, 1) := by decide +kernel
theorem dL_law_317 : decode cL_law 317 = .ok (.aload_n 0, 1) := by decide +kernel
theorem dL_law_318 : decode cL_law 318 = .ok (.iload_n 3, 1) := by decide +kernel
theorem dL_law_319 : decode cL_law 319 = .ok (.iconst 1, 1) := by decide +kernel
theorem dL_law_320 : decode cL_law 320 = .ok (.iadd, 1) := by decide +kernel
theorem dL_law_321 : decode cL_law 321 = .ok (.iaload, 1) := by decide +kernel
theorem dL_law_322 : decode cL_law 322 = .ok (.ifCond .eq 7, 3) := by decide +kernel
theorem dL_law_325 : decode cL_law 325 = .ok (.iconst 1, 1) := by decide +kernel
theorem dL_law_326 : decode cL_law 326 = .ok (.goto 4, 3) := by decide +kernel
theorem dL_law_329 : decode cL_law 329 = .ok (.iconst 0, 1) := by decide +kernel
theorem dL_law_330 : decode cL_law 330 = .ok (.invokevirtual 32, 3) := by decide +kernel
theorem dL_law_333 : decode cL_law 333 = .ok (.if_icmp .eq 717, 3) := by decide +kernel
theorem dL_law_336 : decode cL_law 336 = .ok (.iconst 0, 1) := by decide +kernel
theorem dL_law_337 : decode cL_law 337 = .ok (.ireturn, 1) := by decide +kernel
theorem dL_law_338 : decode cL_law 338 = .ok (.aload_n 1, 1) := by decide +kernel
theorem dL_law_339 : decode cL_law 339 = .ok (.aload_n 0, 1) := by decide +kernel
theorem dL_law_340 : decode cL_law 340 = .ok (.iload_n 3, 1) := by decide +kernel
theorem dL_law_341 : decode cL_law 341 = .ok (.iconst 1, 1) := by decide +kernel
theorem dL_law_342 : decode cL_law 342 = .ok (.iadd, 1) := by decide +kernel
theorem dL_law_343 : decode cL_law 343 = .ok (.iaload, 1) := by decide +kernel
theorem dL_law_344 : decode cL_law 344 = .ok (.invokevirtual 33, 3) := by decide +kernel
theorem dL_law_347 : decode cL_law 347 = .ok (.aload_n 2, 1) := by decide +kernel
theorem dL_law_348 : decode cL_law 348 = .ok (.aload_n 0, 1) := by decide +kernel
theorem dL_law_349 : decode cL_law 349 = .ok (.iload_n 3, 1) := by decide +kernel
theorem dL_law_350 : decode cL_law 350 = .ok (.iconst 1, 1) := by decide +kernel
theorem dL_law_351 : decode cL_law 351 = .ok (.iadd, 1) := by decide +kernel
theorem dL_law_352 : decode cL_law 352 = .ok (.iaload, 1) := by decide +kernel
theorem dL_law_353 : decode cL_law 353 = .ok (.invokevirtual 37, 3) := by decide +kernel
theorem dL_law_356 : decode cL_law 356 = .ok (.if_icmp .eq 694, 3) := by decide +kernel
theorem dL_law_359 : decode cL_law 359 = .ok (.iconst 0, 1) := by decide +kernel
theorem dL_law_360 : decode cL_law 360 = .ok (.ireturn, 1) := by decide +kernel
theorem dL_law_361 : decode cL_law 361 = .ok (.aload_n 1, 1) := by decide +kernel
theorem dL_law_362 : decode cL_law 362 = .ok (.invokevirtual 38, 3) := by decide +kernel
theorem dL_law_365 : decode cL_law 365 = .ok (.aload_n 2, 1) := by decide +kernel
theorem dL_law_366 : decode cL_law 366 = .ok (.invokevirtual 42, 3) := by decide +kernel
theorem dL_law_369 : decode cL_law 369 = .ok (.if_icmp .eq 681, 3) := by decide +kernel
theorem dL_law_372 : decode cL_law 372 = .ok (.iconst 0, 1) := by decide +kernel
theorem dL_law_373 : decode cL_law 373 = .ok (.ireturn, 1) := by decide +kernel
theorem dL_law_374 : decode cL_law 374 = .ok (.aload_n 1, 1) := by decide +kernel
theorem dL_law_375 : decode cL_law 375 = .ok (.invokevirtual 43, 3) := by decide +kernel
theorem dL_law_378 : decode cL_law 378 = .ok (.aload_n 2, 1) := by decide +kernel
theorem dL_law_379 : decode cL_law 379 = .ok (.invokevirtual 46, 3) := by decide +kernel
theorem dL_law_382 : decode cL_law 382 = .ok (.if_icmp .eq 668, 3) := by decide +kernel
theorem dL_law_385 : decode cL_law 385 = .ok (.iconst 0, 1) := by decide +kernel
theorem dL_law_386 : decode cL_law 386 = .ok (.ireturn, 1) := by decide +kernel
theorem dL_law_387 : decode cL_law 387 = .ok (.aload_n 1, 1) := by decide +kernel
theorem dL_law_388 : decode cL_law 388 = .ok (.aload_n 0, 1) := by decide +kernel
theorem dL_law_389 : decode cL_law 389 = .ok (.iload_n 3, 1) := by decide +kernel
theorem dL_law_390 : decode cL_law 390 = .ok (.iconst 1, 1) := by decide +kernel
theorem dL_law_391 : decode cL_law 391 = .ok (.iadd, 1) := by decide +kernel
theorem dL_law_392 : decode cL_law 392 = .ok (.iaload, 1) := by decide +kernel
theorem dL_law_393 : decode cL_law 393 = .ok (.invokevirtual 47, 3) := by decide +kernel
theorem dL_law_396 : decode cL_law 396 = .ok (.aload_n 2, 1) := by decide +kernel
theorem dL_law_397 : decode cL_law 397 = .ok (.aload_n 0, 1) := by decide +kernel
theorem dL_law_398 : decode cL_law 398 = .ok (.iload_n 3, 1) := by decide +kernel
theorem dL_law_399 : decode cL_law 399 = .ok (.iconst 1, 1) := by decide +kernel
theorem dL_law_400 : decode cL_law 400 = .ok (.iadd, 1) := by decide +kernel
theorem dL_law_401 : decode cL_law 401 = .ok (.iaload, 1) := by decide +kernel
theorem dL_law_402 : decode cL_law 402 = .ok (.invokevirtual 50, 3) := by decide +kernel
theorem dL_law_405 : decode cL_law 405 = .ok (.if_icmp .eq 645, 3) := by decide +kernel
theorem dL_law_408 : decode cL_law 408 = .ok (.iconst 0, 1) := by decide +kernel
theorem dL_law_409 : decode cL_law 409 = .ok (.ireturn, 1) := by decide +kernel
theorem dL_law_410 : decode cL_law 410 = .ok (.aload_n 1, 1) := by decide +kernel
theorem dL_law_411 : decode cL_law 411 = .ok (.aload_n 0, 1) := by decide +kernel
theorem dL_law_412 : decode cL_law 412 = .ok (.iload_n 3, 1) := by decide +kernel
theorem dL_law_413 : decode cL_law 413 = .ok (.iconst 1, 1) := by decide +kernel
theorem dL_law_414 : decode cL_law 414 = .ok (.iadd, 1) := by decide +kernel
theorem dL_law_415 : decode cL_law 415 = .ok (.iaload, 1) := by decide +kernel
theorem dL_law_416 : decode cL_law 416 = .ok (.aload_n 0, 1) := by decide +kernel
theorem dL_law_417 : decode cL_law 417 = .ok (.iload_n 3, 1) := by decide +kernel
theorem dL_law_418 : decode cL_law 418 = .ok (.iconst 2, 1) := by decide +kernel
theorem dL_law_419 : decode cL_law 419 = .ok (.iadd, 1) := by decide +kernel
theorem dL_law_420 : decode cL_law 420 = .ok (.iaload, 1) := by decide +kernel
theorem dL_law_421 : decode cL_law 421 = .ok (.invokevirtual 51, 3) := by decide +kernel
theorem dL_law_424 : decode cL_law 424 = .ok (.aload_n 2, 1) := by decide +kernel
theorem dL_law_425 : decode cL_law 425 = .ok (.aload_n 0, 1) := by decide +kernel
theorem dL_law_426 : decode cL_law 426 = .ok (.iload_n 3, 1) := by decide +kernel
theorem dL_law_427 : decode cL_law 427 = .ok (.iconst 1, 1) := by decide +kernel
theorem dL_law_428 : decode cL_law 428 = .ok (.iadd, 1) := by decide +kernel
theorem dL_law_429 : decode cL_law 429 = .ok (.iaload, 1) := by decide +kernel
theorem dL_law_430 : decode cL_law 430 = .ok (.aload_n 0, 1) := by decide +kernel
theorem dL_law_431 : decode cL_law 431 = .ok (.iload_n 3, 1) := by decide +kernel
theorem dL_law_432 : decode cL_law 432 = .ok (.iconst 2, 1) := by decide +kernel
theorem dL_law_433 : decode cL_law 433 = .ok (.iadd, 1) := by decide +kernel
theorem dL_law_434 : decode cL_law 434 = .ok (.iaload, 1) := by decide +kernel
theorem dL_law_435 : decode cL_law 435 = .ok (.invokevirtual 54, 3) := by decide +kernel
theorem dL_law_438 : decode cL_law 438 = .ok (.if_icmp .eq 612, 3) := by decide +kernel
theorem dL_law_441 : decode cL_law 441 = .ok (.iconst 0, 1) := by decide +kernel
theorem dL_law_442 : decode cL_law 442 = .ok (.ireturn, 1) := by decide +kernel
theorem dL_law_443 : decode cL_law 443 = .ok (.aload_n 1, 1) := by decide +kernel
theorem dL_law_444 : decode cL_law 444 = .ok (.aload_n 0, 1) := by decide +kernel
theorem dL_law_445 : decode cL_law 445 = .ok (.iload_n 3, 1) := by decide +kernel
theorem dL_law_446 : decode cL_law 446 = .ok (.iconst 1, 1) := by decide +kernel
theorem dL_law_447 : decode cL_law 447 = .ok (.iadd, 1) := by decide +kernel
theorem dL_law_448 : decode cL_law 448 = .ok (.iaload, 1) := by decide +kernel
theorem dL_law_449 : decode cL_law 449 = .ok (.aload_n 0, 1) := by decide +kernel
theorem dL_law_450 : decode cL_law 450 = .ok (.iload_n 3, 1) := by decide +kernel
theorem dL_law_451 : decode cL_law 451 = .ok (.iconst 2, 1) := by decide +kernel
theorem dL_law_452 : decode cL_law 452 = .ok (.iadd, 1) := by decide +kernel
theorem dL_law_453 : decode cL_law 453 = .ok (.iaload, 1) := by decide +kernel
theorem dL_law_454 : decode cL_law 454 = .ok (.invokevirtual 55, 3) := by decide +kernel
theorem dL_law_457 : decode cL_law 457 = .ok (.aload_n 2, 1) := by decide +kernel
theorem dL_law_458 : decode cL_law 458 = .ok (.aload_n 0, 1) := by decide +kernel
theorem dL_law_459 : decode cL_law 459 = .ok (.iload_n 3, 1) := by decide +kernel
theorem dL_law_460 : decode cL_law 460 = .ok (.iconst 1, 1) := by decide +kernel
theorem dL_law_461 : decode cL_law 461 = .ok (.iadd, 1) := by decide +kernel
theorem dL_law_462 : decode cL_law 462 = .ok (.iaload, 1) := by decide +kernel
theorem dL_law_463 : decode cL_law 463 = .ok (.aload_n 0, 1) := by decide +kernel
theorem dL_law_464 : decode cL_law 464 = .ok (.iload_n 3, 1) := by decide +kernel
theorem dL_law_465 : decode cL_law 465 = .ok (.iconst 2, 1) := by decide +kernel
theorem dL_law_466 : decode cL_law 466 = .ok (.iadd, 1) := by decide +kernel
theorem dL_law_467 : decode cL_law 467 = .ok (.iaload, 1) := by decide +kernel
theorem dL_law_468 : decode cL_law 468 = .ok (.invokevirtual 58, 3) := by decide +kernel
theorem dL_law_471 : decode cL_law 471 = .ok (.if_icmp .eq 579, 3) := by decide +kernel
theorem dL_law_474 : decode cL_law 474 = .ok (.iconst 0, 1) := by decide +kernel
theorem dL_law_475 : decode cL_law 475 = .ok (.ireturn, 1) := by decide +kernel
theorem dL_law_476 : decode cL_law 476 = .ok (.aload_n 1, 1) := by decide +kernel
theorem dL_law_477 : decode cL_law 477 = .ok (.aload_n 0, 1) := by decide +kernel
theorem dL_law_478 : decode cL_law 478 = .ok (.iload_n 3, 1) := by decide +kernel
theorem dL_law_479 : decode cL_law 479 = .ok (.iconst 1, 1) := by decide +kernel
theorem dL_law_480 : decode cL_law 480 = .ok (.iadd, 1) := by decide +kernel
theorem dL_law_481 : decode cL_law 481 = .ok (.iaload, 1) := by decide +kernel
theorem dL_law_482 : decode cL_law 482 = .ok (.invokevirtual 59, 3) := by decide +kernel
theorem dL_law_485 : decode cL_law 485 = .ok (.aload_n 2, 1) := by decide +kernel
theorem dL_law_486 : decode cL_law 486 = .ok (.aload_n 0, 1) := by decide +kernel
theorem dL_law_487 : decode cL_law 487 = .ok (.iload_n 3, 1) := by decide +kernel
theorem dL_law_488 : decode cL_law 488 = .ok (.iconst 1, 1) := by decide +kernel
theorem dL_law_489 : decode cL_law 489 = .ok (.iadd, 1) := by decide +kernel
theorem dL_law_490 : decode cL_law 490 = .ok (.iaload, 1) := by decide +kernel
theorem dL_law_491 : decode cL_law 491 = .ok (.invokevirtual 62, 3) := by decide +kernel
theorem dL_law_494 : decode cL_law 494 = .ok (.if_icmp .eq 556, 3) := by decide +kernel
theorem dL_law_497 : decode cL_law 497 = .ok (.iconst 0, 1) := by decide +kernel
theorem dL_law_498 : decode cL_law 498 = .ok (.ireturn, 1) := by decide +kernel
theorem dL_law_499 : decode cL_law 499 = .ok (.aload_n 1, 1) := by decide +kernel
theorem dL_law_500 : decode cL_law 500 = .ok (.aload_n 0, 1) := by decide +kernel
theorem dL_law_501 : decode cL_law 501 = .ok (.iload_n 3, 1) := by decide +kernel
theorem dL_law_502 : decode cL_law 502 = .ok (.iconst 1, 1) := by decide +kernel
theorem dL_law_503 : decode cL_law 503 = .ok (.iadd, 1) := by decide +kernel
theorem dL_law_504 : decode cL_law 504 = .ok (.iaload, 1) := by decide +kernel
theorem dL_law_505 : decode cL_law 505 = .ok (.invokevirtual 63, 3) := by decide +kernel
theorem dL_law_508 : decode cL_law 508 = .ok (.aload_n 2, 1) := by decide +kernel
theorem dL_law_509 : decode cL_law 509 = .ok (.aload_n 0, 1) := by decide +kernel
theorem dL_law_510 : decode cL_law 510 = .ok (.iload_n 3, 1) := by decide +kernel
theorem dL_law_511 : decode cL_law 511 = .ok (.iconst 1, 1) := by decide +kernel
theorem dL_law_512 : decode cL_law 512 = .ok (.iadd, 1) := by decide +kernel
theorem dL_law_513 : decode cL_law 513 = .ok (.iaload, 1) := by decide +kernel
theorem dL_law_514 : decode cL_law 514 = .ok (.invokevirtual 66, 3) := by decide +kernel
theorem dL_law_517 : decode cL_law 517 = .ok (.if_icmp .eq 533, 3) := by decide +kernel
theorem dL_law_520 : decode cL_law 520 = .ok (.iconst 0, 1) := by decide +kernel
theorem dL_law_521 : decode cL_law 521 = .ok (.ireturn, 1) := by decide +kernel
theorem dL_law_522 : decode cL_law 522 = .ok (.aload_n 1, 1) := by decide +kernel
theorem dL_law_523 : decode cL_law 523 = .ok (.invokevirtual 67, 3) := by decide +kernel
theorem dL_law_526 : decode cL_law 526 = .ok (.aload_n 2, 1) := by decide +kernel
theorem dL_law_527 : decode cL_law 527 = .ok (.invokevirtual 70, 3) := by decide +kernel
theorem dL_law_530 : decode cL_law 530 = .ok (.if_icmp .eq 520, 3) := by decide +kernel
theorem dL_law_533 : decode cL_law 533 = .ok (.iconst 0, 1) := by decide +kernel
theorem dL_law_534 : decode cL_law 534 = .ok (.ireturn, 1) := by decide +kernel
theorem dL_law_535 : decode cL_law 535 = .ok (.aload_n 1, 1) := by decide +kernel
theorem dL_law_536 : decode cL_law 536 = .ok (.aload_n 0, 1) := by decide +kernel
theorem dL_law_537 : decode cL_law 537 = .ok (.iload_n 3, 1) := by decide +kernel
theorem dL_law_538 : decode cL_law 538 = .ok (.iconst 1, 1) := by decide +kernel
theorem dL_law_539 : decode cL_law 539 = .ok (.iadd, 1) := by decide +kernel
theorem dL_law_540 : decode cL_law 540 = .ok (.iaload, 1) := by decide +kernel
theorem dL_law_541 : decode cL_law 541 = .ok (.aload_n 0, 1) := by decide +kernel
theorem dL_law_542 : decode cL_law 542 = .ok (.iload_n 3, 1) := by decide +kernel
theorem dL_law_543 : decode cL_law 543 = .ok (.iconst 2, 1) := by decide +kernel
theorem dL_law_544 : decode cL_law 544 = .ok (.iadd, 1) := by decide +kernel
theorem dL_law_545 : decode cL_law 545 = .ok (.iaload, 1) := by decide +kernel
theorem dL_law_546 : decode cL_law 546 = .ok (.invokevirtual 71, 3) := by decide +kernel
theorem dL_law_549 : decode cL_law 549 = .ok (.aload_n 2, 1) := by decide +kernel
theorem dL_law_550 : decode cL_law 550 = .ok (.aload_n 0, 1) := by decide +kernel
theorem dL_law_551 : decode cL_law 551 = .ok (.iload_n 3, 1) := by decide +kernel
theorem dL_law_552 : decode cL_law 552 = .ok (.iconst 1, 1) := by decide +kernel
theorem dL_law_553 : decode cL_law 553 = .ok (.iadd, 1) := by decide +kernel
theorem dL_law_554 : decode cL_law 554 = .ok (.iaload, 1) := by decide +kernel
theorem dL_law_555 : decode cL_law 555 = .ok (.aload_n 0, 1) := by decide +kernel
theorem dL_law_556 : decode cL_law 556 = .ok (.iload_n 3, 1) := by decide +kernel
theorem dL_law_557 : decode cL_law 557 = .ok (.iconst 2, 1) := by decide +kernel
theorem dL_law_558 : decode cL_law 558 = .ok (.iadd, 1) := by decide +kernel
theorem dL_law_559 : decode cL_law 559 = .ok (.iaload, 1) := by decide +kernel
theorem dL_law_560 : decode cL_law 560 = .ok (.invokevirtual 74, 3) := by decide +kernel
theorem dL_law_563 : decode cL_law 563 = .ok (.if_icmp .eq 487, 3) := by decide +kernel
theorem dL_law_566 : decode cL_law 566 = .ok (.iconst 0, 1) := by decide +kernel
theorem dL_law_567 : decode cL_law 567 = .ok (.ireturn, 1) := by decide +kernel
theorem dL_law_568 : decode cL_law 568 = .ok (.aload_n 1, 1) := by decide +kernel
theorem dL_law_569 : decode cL_law 569 = .ok (.aload_n 0, 1) := by decide +kernel
theorem dL_law_570 : decode cL_law 570 = .ok (.iload_n 3, 1) := by decide +kernel
theorem dL_law_571 : decode cL_law 571 = .ok (.iconst 1, 1) := by decide +kernel
theorem dL_law_572 : decode cL_law 572 = .ok (.iadd, 1) := by decide +kernel
theorem dL_law_573 : decode cL_law 573 = .ok (.iaload, 1) := by decide +kernel
theorem dL_law_574 : decode cL_law 574 = .ok (.aload_n 0, 1) := by decide +kernel
theorem dL_law_575 : decode cL_law 575 = .ok (.iload_n 3, 1) := by decide +kernel
theorem dL_law_576 : decode cL_law 576 = .ok (.iconst 2, 1) := by decide +kernel
theorem dL_law_577 : decode cL_law 577 = .ok (.iadd, 1) := by decide +kernel
theorem dL_law_578 : decode cL_law 578 = .ok (.iaload, 1) := by decide +kernel
theorem dL_law_579 : decode cL_law 579 = .ok (.aload_n 0, 1) := by decide +kernel
theorem dL_law_580 : decode cL_law 580 = .ok (.iload_n 3, 1) := by decide +kernel
theorem dL_law_581 : decode cL_law 581 = .ok (.iconst 3, 1) := by decide +kernel
theorem dL_law_582 : decode cL_law 582 = .ok (.iadd, 1) := by decide +kernel
theorem dL_law_583 : decode cL_law 583 = .ok (.iaload, 1) := by decide +kernel
theorem dL_law_584 : decode cL_law 584 = .ok (.invokevirtual 75, 3) := by decide +kernel
theorem dL_law_587 : decode cL_law 587 = .ok (.aload_n 2, 1) := by decide +kernel
theorem dL_law_588 : decode cL_law 588 = .ok (.aload_n 0, 1) := by decide +kernel
theorem dL_law_589 : decode cL_law 589 = .ok (.iload_n 3, 1) := by decide +kernel
theorem dL_law_590 : decode cL_law 590 = .ok (.iconst 1, 1) := by decide +kernel
theorem dL_law_591 : decode cL_law 591 = .ok (.iadd, 1) := by decide +kernel
theorem dL_law_592 : decode cL_law 592 = .ok (.iaload, 1) := by decide +kernel
theorem dL_law_593 : decode cL_law 593 = .ok (.aload_n 0, 1) := by decide +kernel
theorem dL_law_594 : decode cL_law 594 = .ok (.iload_n 3, 1) := by decide +kernel
theorem dL_law_595 : decode cL_law 595 = .ok (.iconst 2, 1) := by decide +kernel
theorem dL_law_596 : decode cL_law 596 = .ok (.iadd, 1) := by decide +kernel
theorem dL_law_597 : decode cL_law 597 = .ok (.iaload, 1) := by decide +kernel
theorem dL_law_598 : decode cL_law 598 = .ok (.aload_n 0, 1) := by decide +kernel
theorem dL_law_599 : decode cL_law 599 = .ok (.iload_n 3, 1) := by decide +kernel
theorem dL_law_600 : decode cL_law 600 = .ok (.iconst 3, 1) := by decide +kernel
theorem dL_law_601 : decode cL_law 601 = .ok (.iadd, 1) := by decide +kernel
theorem dL_law_602 : decode cL_law 602 = .ok (.iaload, 1) := by decide +kernel
theorem dL_law_603 : decode cL_law 603 = .ok (.invokevirtual 78, 3) := by decide +kernel
theorem dL_law_606 : decode cL_law 606 = .ok (.if_icmp .eq 444, 3) := by decide +kernel
theorem dL_law_609 : decode cL_law 609 = .ok (.iconst 0, 1) := by decide +kernel
theorem dL_law_610 : decode cL_law 610 = .ok (.ireturn, 1) := by decide +kernel
theorem dL_law_611 : decode cL_law 611 = .ok (.aload_n 1, 1) := by decide +kernel
theorem dL_law_612 : decode cL_law 612 = .ok (.aload_n 0, 1) := by decide +kernel
theorem dL_law_613 : decode cL_law 613 = .ok (.iload_n 3, 1) := by decide +kernel
theorem dL_law_614 : decode cL_law 614 = .ok (.iconst 1, 1) := by decide +kernel
theorem dL_law_615 : decode cL_law 615 = .ok (.iadd, 1) := by decide +kernel
theorem dL_law_616 : decode cL_law 616 = .ok (.iaload, 1) := by decide +kernel
theorem dL_law_617 : decode cL_law 617 = .ok (.aload_n 0, 1) := by decide +kernel
theorem dL_law_618 : decode cL_law 618 = .ok (.iload_n 3, 1) := by decide +kernel
theorem dL_law_619 : decode cL_law 619 = .ok (.iconst 2, 1) := by decide +kernel
theorem dL_law_620 : decode cL_law 620 = .ok (.iadd, 1) := by decide +kernel
theorem dL_law_621 : decode cL_law 621 = .ok (.iaload, 1) := by decide +kernel
theorem dL_law_622 : decode cL_law 622 = .ok (.aload_n 0, 1) := by decide +kernel
theorem dL_law_623 : decode cL_law 623 = .ok (.iload_n 3, 1) := by decide +kernel
theorem dL_law_624 : decode cL_law 624 = .ok (.iconst 3, 1) := by decide +kernel
theorem dL_law_625 : decode cL_law 625 = .ok (.iadd, 1) := by decide +kernel
theorem dL_law_626 : decode cL_law 626 = .ok (.iaload, 1) := by decide +kernel
theorem dL_law_627 : decode cL_law 627 = .ok (.invokevirtual 79, 3) := by decide +kernel
theorem dL_law_630 : decode cL_law 630 = .ok (.aload_n 2, 1) := by decide +kernel
theorem dL_law_631 : decode cL_law 631 = .ok (.aload_n 0, 1) := by decide +kernel
theorem dL_law_632 : decode cL_law 632 = .ok (.iload_n 3, 1) := by decide +kernel
theorem dL_law_633 : decode cL_law 633 = .ok (.iconst 1, 1) := by decide +kernel
theorem dL_law_634 : decode cL_law 634 = .ok (.iadd, 1) := by decide +kernel
theorem dL_law_635 : decode cL_law 635 = .ok (.iaload, 1) := by decide +kernel
theorem dL_law_636 : decode cL_law 636 = .ok (.aload_n 0, 1) := by decide +kernel
theorem dL_law_637 : decode cL_law 637 = .ok (.iload_n 3, 1) := by decide +kernel
theorem dL_law_638 : decode cL_law 638 = .ok (.iconst 2, 1) := by decide +kernel
theorem dL_law_639 : decode cL_law 639 = .ok (.iadd, 1) := by decide +kernel
theorem dL_law_640 : decode cL_law 640 = .ok (.iaload, 1) := by decide +kernel
theorem dL_law_641 : decode cL_law 641 = .ok (.aload_n 0, 1) := by decide +kernel
theorem dL_law_642 : decode cL_law 642 = .ok (.iload_n 3, 1) := by decide +kernel
theorem dL_law_643 : decode cL_law 643 = .ok (.iconst 3, 1) := by decide +kernel
theorem dL_law_644 : decode cL_law 644 = .ok (.iadd, 1) := by decide +kernel
theorem dL_law_645 : decode cL_law 645 = .ok (.iaload, 1) := by decide +kernel
theorem dL_law_646 : decode cL_law 646 = .ok (.invokevirtual 82, 3) := by decide +kernel
theorem dL_law_649 : decode cL_law 649 = .ok (.if_icmp .eq 401, 3) := by decide +kernel
theorem dL_law_652 : decode cL_law 652 = .ok (.iconst 0, 1) := by decide +kernel
theorem dL_law_653 : decode cL_law 653 = .ok (.ireturn, 1) := by decide +kernel
theorem dL_law_654 : decode cL_law 654 = .ok (.aload_n 1, 1) := by decide +kernel
theorem dL_law_655 : decode cL_law 655 = .ok (.invokevirtual 83, 3) := by decide +kernel
theorem dL_law_658 : decode cL_law 658 = .ok (.aload_n 2, 1) := by decide +kernel
theorem dL_law_659 : decode cL_law 659 = .ok (.invokevirtual 86, 3) := by decide +kernel
theorem dL_law_662 : decode cL_law 662 = .ok (.if_icmp .eq 388, 3) := by decide +kernel
theorem dL_law_665 : decode cL_law 665 = .ok (.iconst 0, 1) := by decide +kernel
theorem dL_law_666 : decode cL_law 666 = .ok (.ireturn, 1) := by decide +kernel
theorem dL_law_667 : decode cL_law 667 = .ok (.aload_n 1, 1) := by decide +kernel
theorem dL_law_668 : decode cL_law 668 = .ok (.aload_n 0, 1) := by decide +kernel
theorem dL_law_669 : decode cL_law 669 = .ok (.iload_n 3, 1) := by decide +kernel
theorem dL_law_670 : decode cL_law 670 = .ok (.iconst 1, 1) := by decide +kernel
theorem dL_law_671 : decode cL_law 671 = .ok (.iadd, 1) := by decide +kernel
theorem dL_law_672 : decode cL_law 672 = .ok (.iaload, 1) := by decide +kernel
theorem dL_law_673 : decode cL_law 673 = .ok (.invokevirtual 87, 3) := by decide +kernel
theorem dL_law_676 : decode cL_law 676 = .ok (.aload_n 2, 1) := by decide +kernel
theorem dL_law_677 : decode cL_law 677 = .ok (.aload_n 0, 1) := by decide +kernel
theorem dL_law_678 : decode cL_law 678 = .ok (.iload_n 3, 1) := by decide +kernel
theorem dL_law_679 : decode cL_law 679 = .ok (.iconst 1, 1) := by decide +kernel
theorem dL_law_680 : decode cL_law 680 = .ok (.iadd, 1) := by decide +kernel
theorem dL_law_681 : decode cL_law 681 = .ok (.iaload, 1) := by decide +kernel
theorem dL_law_682 : decode cL_law 682 = .ok (.invokevirtual 90, 3) := by decide +kernel
theorem dL_law_685 : decode cL_law 685 = .ok (.if_icmp .eq 365, 3) := by decide +kernel
theorem dL_law_688 : decode cL_law 688 = .ok (.iconst 0, 1) := by decide +kernel
theorem dL_law_689 : decode cL_law 689 = .ok (.ireturn, 1) := by decide +kernel
theorem dL_law_690 : decode cL_law 690 = .ok (.aload_n 1, 1) := by decide +kernel
theorem dL_law_691 : decode cL_law 691 = .ok (.aload_n 0, 1) := by decide +kernel
theorem dL_law_692 : decode cL_law 692 = .ok (.iload_n 3, 1) := by decide +kernel
theorem dL_law_693 : decode cL_law 693 = .ok (.iconst 1, 1) := by decide +kernel
theorem dL_law_694 : decode cL_law 694 = .ok (.iadd, 1) := by decide +kernel
theorem dL_law_695 : decode cL_law 695 = .ok (.iaload, 1) := by decide +kernel
theorem dL_law_696 : decode cL_law 696 = .ok (.aload_n 0, 1) := by decide +kernel
theorem dL_law_697 : decode cL_law 697 = .ok (.iload_n 3, 1) := by decide +kernel
theorem dL_law_698 : decode cL_law 698 = .ok (.iconst 2, 1) := by decide +kernel
theorem dL_law_699 : decode cL_law 699 = .ok (.iadd, 1) := by decide +kernel
theorem dL_law_700 : decode cL_law 700 = .ok (.iaload, 1) := by decide +kernel
theorem dL_law_701 : decode cL_law 701 = .ok (.invokevirtual 91, 3) := by decide +kernel
theorem dL_law_704 : decode cL_law 704 = .ok (.aload_n 2, 1) := by decide +kernel
theorem dL_law_705 : decode cL_law 705 = .ok (.aload_n 0, 1) := by decide +kernel
theorem dL_law_706 : decode cL_law 706 = .ok (.iload_n 3, 1) := by decide +kernel
theorem dL_law_707 : decode cL_law 707 = .ok (.iconst 1, 1) := by decide +kernel
theorem dL_law_708 : decode cL_law 708 = .ok (.iadd, 1) := by decide +kernel
theorem dL_law_709 : decode cL_law 709 = .ok (.iaload, 1) := by decide +kernel
theorem dL_law_710 : decode cL_law 710 = .ok (.aload_n 0, 1) := by decide +kernel
theorem dL_law_711 : decode cL_law 711 = .ok (.iload_n 3, 1) := by decide +kernel
theorem dL_law_712 : decode cL_law 712 = .ok (.iconst 2, 1) := by decide +kernel
theorem dL_law_713 : decode cL_law 713 = .ok (.iadd, 1) := by decide +kernel
theorem dL_law_714 : decode cL_law 714 = .ok (.iaload, 1) := by decide +kernel
theorem dL_law_715 : decode cL_law 715 = .ok (.invokevirtual 94, 3) := by decide +kernel
theorem dL_law_718 : decode cL_law 718 = .ok (.if_icmp .eq 332, 3) := by decide +kernel
theorem dL_law_721 : decode cL_law 721 = .ok (.iconst 0, 1) := by decide +kernel
theorem dL_law_722 : decode cL_law 722 = .ok (.ireturn, 1) := by decide +kernel
theorem dL_law_723 : decode cL_law 723 = .ok (.aload_n 1, 1) := by decide +kernel
theorem dL_law_724 : decode cL_law 724 = .ok (.aload_n 0, 1) := by decide +kernel
theorem dL_law_725 : decode cL_law 725 = .ok (.iload_n 3, 1) := by decide +kernel
theorem dL_law_726 : decode cL_law 726 = .ok (.iconst 1, 1) := by decide +kernel
theorem dL_law_727 : decode cL_law 727 = .ok (.iadd, 1) := by decide +kernel
theorem dL_law_728 : decode cL_law 728 = .ok (.iaload, 1) := by decide +kernel
theorem dL_law_729 : decode cL_law 729 = .ok (.aload_n 0, 1) := by decide +kernel
theorem dL_law_730 : decode cL_law 730 = .ok (.iload_n 3, 1) := by decide +kernel
theorem dL_law_731 : decode cL_law 731 = .ok (.iconst 2, 1) := by decide +kernel
theorem dL_law_732 : decode cL_law 732 = .ok (.iadd, 1) := by decide +kernel
theorem dL_law_733 : decode cL_law 733 = .ok (.iaload, 1) := by decide +kernel
theorem dL_law_734 : decode cL_law 734 = .ok (.aload_n 0, 1) := by decide +kernel
theorem dL_law_735 : decode cL_law 735 = .ok (.iload_n 3, 1) := by decide +kernel
theorem dL_law_736 : decode cL_law 736 = .ok (.iconst 3, 1) := by decide +kernel
theorem dL_law_737 : decode cL_law 737 = .ok (.iadd, 1) := by decide +kernel
theorem dL_law_738 : decode cL_law 738 = .ok (.iaload, 1) := by decide +kernel
theorem dL_law_739 : decode cL_law 739 = .ok (.aload_n 0, 1) := by decide +kernel
theorem dL_law_740 : decode cL_law 740 = .ok (.iload_n 3, 1) := by decide +kernel
theorem dL_law_741 : decode cL_law 741 = .ok (.iconst 4, 1) := by decide +kernel
theorem dL_law_742 : decode cL_law 742 = .ok (.iadd, 1) := by decide +kernel
theorem dL_law_743 : decode cL_law 743 = .ok (.iaload, 1) := by decide +kernel
theorem dL_law_744 : decode cL_law 744 = .ok (.ifCond .eq 7, 3) := by decide +kernel
theorem dL_law_747 : decode cL_law 747 = .ok (.iconst 1, 1) := by decide +kernel
theorem dL_law_748 : decode cL_law 748 = .ok (.goto 4, 3) := by decide +kernel
theorem dL_law_751 : decode cL_law 751 = .ok (.iconst 0, 1) := by decide +kernel
theorem dL_law_752 : decode cL_law 752 = .ok (.invokevirtual 95, 3) := by decide +kernel
theorem dL_law_755 : decode cL_law 755 = .ok (.aload_n 2, 1) := by decide +kernel
theorem dL_law_756 : decode cL_law 756 = .ok (.aload_n 0, 1) := by decide +kernel
theorem dL_law_757 : decode cL_law 757 = .ok (.iload_n 3, 1) := by decide +kernel
theorem dL_law_758 : decode cL_law 758 = .ok (.iconst 1, 1) := by decide +kernel
theorem dL_law_759 : decode cL_law 759 = .ok (.iadd, 1) := by decide +kernel
theorem dL_law_760 : decode cL_law 760 = .ok (.iaload, 1) := by decide +kernel
theorem dL_law_761 : decode cL_law 761 = .ok (.aload_n 0, 1) := by decide +kernel
theorem dL_law_762 : decode cL_law 762 = .ok (.iload_n 3, 1) := by decide +kernel
theorem dL_law_763 : decode cL_law 763 = .ok (.iconst 2, 1) := by decide +kernel
theorem dL_law_764 : decode cL_law 764 = .ok (.iadd, 1) := by decide +kernel
theorem dL_law_765 : decode cL_law 765 = .ok (.iaload, 1) := by decide +kernel
theorem dL_law_766 : decode cL_law 766 = .ok (.aload_n 0, 1) := by decide +kernel
theorem dL_law_767 : decode cL_law 767 = .ok (.iload_n 3, 1) := by decide +kernel
theorem dL_law_768 : decode cL_law 768 = .ok (.iconst 3, 1) := by decide +kernel
theorem dL_law_769 : decode cL_law 769 = .ok (.iadd, 1) := by decide +kernel
theorem dL_law_770 : decode cL_law 770 = .ok (.iaload, 1) := by decide +kernel
theorem dL_law_771 : decode cL_law 771 = .ok (.aload_n 0, 1) := by decide +kernel
theorem dL_law_772 : decode cL_law 772 = .ok (.iload_n 3, 1) := by decide +kernel
theorem dL_law_773 : decode cL_law 773 = .ok (.iconst 4, 1) := by decide +kernel
theorem dL_law_774 : decode cL_law 774 = .ok (.iadd, 1) := by decide +kernel
theorem dL_law_775 : decode cL_law 775 = .ok (.iaload, 1) := by decide +kernel
theorem dL_law_776 : decode cL_law 776 = .ok (.ifCond .eq 7, 3) := by decide +kernel
theorem dL_law_779 : decode cL_law 779 = .ok (.iconst 1, 1) := by decide +kernel
theorem dL_law_780 : decode cL_law 780 = .ok (.goto 4, 3) := by decide +kernel
theorem dL_law_783 : decode cL_law 783 = .ok (.iconst 0, 1) := by decide +kernel
theorem dL_law_784 : decode cL_law 784 = .ok (.invokevirtual 99, 3) := by decide +kernel
theorem dL_law_787 : decode cL_law 787 = .ok (.if_icmp .eq 263, 3) := by decide +kernel
theorem dL_law_790 : decode cL_law 790 = .ok (.iconst 0, 1) := by decide +kernel
theorem dL_law_791 : decode cL_law 791 = .ok (.ireturn, 1) := by decide +kernel
theorem dL_law_792 : decode cL_law 792 = .ok (.aload_n 1, 1) := by decide +kernel
theorem dL_law_793 : decode cL_law 793 = .ok (.invokevirtual 100, 3) := by decide +kernel
theorem dL_law_796 : decode cL_law 796 = .ok (.aload_n 2, 1) := by decide +kernel
theorem dL_law_797 : decode cL_law 797 = .ok (.invokevirtual 103, 3) := by decide +kernel
theorem dL_law_800 : decode cL_law 800 = .ok (.if_icmp .eq 250, 3) := by decide +kernel
theorem dL_law_803 : decode cL_law 803 = .ok (.iconst 0, 1) := by decide +kernel
theorem dL_law_804 : decode cL_law 804 = .ok (.ireturn, 1) := by decide +kernel
theorem dL_law_805 : decode cL_law 805 = .ok (.aload_n 1, 1) := by decide +kernel
theorem dL_law_806 : decode cL_law 806 = .ok (.aload_n 0, 1) := by decide +kernel
theorem dL_law_807 : decode cL_law 807 = .ok (.iload_n 3, 1) := by decide +kernel
theorem dL_law_808 : decode cL_law 808 = .ok (.iconst 1, 1) := by decide +kernel
theorem dL_law_809 : decode cL_law 809 = .ok (.iadd, 1) := by decide +kernel
theorem dL_law_810 : decode cL_law 810 = .ok (.iaload, 1) := by decide +kernel
theorem dL_law_811 : decode cL_law 811 = .ok (.invokevirtual 104, 3) := by decide +kernel
theorem dL_law_814 : decode cL_law 814 = .ok (.aload_n 2, 1) := by decide +kernel
theorem dL_law_815 : decode cL_law 815 = .ok (.aload_n 0, 1) := by decide +kernel
theorem dL_law_816 : decode cL_law 816 = .ok (.iload_n 3, 1) := by decide +kernel
theorem dL_law_817 : decode cL_law 817 = .ok (.iconst 1, 1) := by decide +kernel
theorem dL_law_818 : decode cL_law 818 = .ok (.iadd, 1) := by decide +kernel
theorem dL_law_819 : decode cL_law 819 = .ok (.iaload, 1) := by decide +kernel
theorem dL_law_820 : decode cL_law 820 = .ok (.invokevirtual 107, 3) := by decide +kernel
theorem dL_law_823 : decode cL_law 823 = .ok (.if_icmp .eq 227, 3) := by decide +kernel
theorem dL_law_826 : decode cL_law 826 = .ok (.iconst 0, 1) := by decide +kernel
theorem dL_law_827 : decode cL_law 827 = .ok (.ireturn, 1) := by decide +kernel
theorem dL_law_828 : decode cL_law 828 = .ok (.aload_n 1, 1) := by decide +kernel
theorem dL_law_829 : decode cL_law 829 = .ok (.aload_n 0, 1) := by decide +kernel
theorem dL_law_830 : decode cL_law 830 = .ok (.iload_n 3, 1) := by decide +kernel
theorem dL_law_831 : decode cL_law 831 = .ok (.iconst 1, 1) := by decide +kernel
theorem dL_law_832 : decode cL_law 832 = .ok (.iadd, 1) := by decide +kernel
theorem dL_law_833 : decode cL_law 833 = .ok (.iaload, 1) := by decide +kernel
theorem dL_law_834 : decode cL_law 834 = .ok (.invokevirtual 108, 3) := by decide +kernel
theorem dL_law_837 : decode cL_law 837 = .ok (.aload_n 2, 1) := by decide +kernel
theorem dL_law_838 : decode cL_law 838 = .ok (.aload_n 0, 1) := by decide +kernel
theorem dL_law_839 : decode cL_law 839 = .ok (.iload_n 3, 1) := by decide +kernel
theorem dL_law_840 : decode cL_law 840 = .ok (.iconst 1, 1) := by decide +kernel
theorem dL_law_841 : decode cL_law 841 = .ok (.iadd, 1) := by decide +kernel
theorem dL_law_842 : decode cL_law 842 = .ok (.iaload, 1) := by decide +kernel
theorem dL_law_843 : decode cL_law 843 = .ok (.invokevirtual 111, 3) := by decide +kernel
theorem dL_law_846 : decode cL_law 846 = .ok (.if_icmp .eq 204, 3) := by decide +kernel
theorem dL_law_849 : decode cL_law 849 = .ok (.iconst 0, 1) := by decide +kernel
theorem dL_law_850 : decode cL_law 850 = .ok (.ireturn, 1) := by decide +kernel
theorem dL_law_851 : decode cL_law 851 = .ok (.aload_n 1, 1) := by decide +kernel
theorem dL_law_852 : decode cL_law 852 = .ok (.aload_n 0, 1) := by decide +kernel
theorem dL_law_853 : decode cL_law 853 = .ok (.iload_n 3, 1) := by decide +kernel
theorem dL_law_854 : decode cL_law 854 = .ok (.iconst 1, 1) := by decide +kernel
theorem dL_law_855 : decode cL_law 855 = .ok (.iadd, 1) := by decide +kernel
theorem dL_law_856 : decode cL_law 856 = .ok (.iaload, 1) := by decide +kernel
theorem dL_law_857 : decode cL_law 857 = .ok (.aload_n 0, 1) := by decide +kernel
theorem dL_law_858 : decode cL_law 858 = .ok (.iload_n 3, 1) := by decide +kernel
theorem dL_law_859 : decode cL_law 859 = .ok (.iconst 2, 1) := by decide +kernel
theorem dL_law_860 : decode cL_law 860 = .ok (.iadd, 1) := by decide +kernel
theorem dL_law_861 : decode cL_law 861 = .ok (.iaload, 1) := by decide +kernel
theorem dL_law_862 : decode cL_law 862 = .ok (.invokevirtual 112, 3) := by decide +kernel
theorem dL_law_865 : decode cL_law 865 = .ok (.aload_n 2, 1) := by decide +kernel
theorem dL_law_866 : decode cL_law 866 = .ok (.aload_n 0, 1) := by decide +kernel
theorem dL_law_867 : decode cL_law 867 = .ok (.iload_n 3, 1) := by decide +kernel
theorem dL_law_868 : decode cL_law 868 = .ok (.iconst 1, 1) := by decide +kernel
theorem dL_law_869 : decode cL_law 869 = .ok (.iadd, 1) := by decide +kernel
theorem dL_law_870 : decode cL_law 870 = .ok (.iaload, 1) := by decide +kernel
theorem dL_law_871 : decode cL_law 871 = .ok (.aload_n 0, 1) := by decide +kernel
theorem dL_law_872 : decode cL_law 872 = .ok (.iload_n 3, 1) := by decide +kernel
theorem dL_law_873 : decode cL_law 873 = .ok (.iconst 2, 1) := by decide +kernel
theorem dL_law_874 : decode cL_law 874 = .ok (.iadd, 1) := by decide +kernel
theorem dL_law_875 : decode cL_law 875 = .ok (.iaload, 1) := by decide +kernel
theorem dL_law_876 : decode cL_law 876 = .ok (.invokevirtual 115, 3) := by decide +kernel
theorem dL_law_879 : decode cL_law 879 = .ok (.if_icmp .eq 171, 3) := by decide +kernel
theorem dL_law_882 : decode cL_law 882 = .ok (.iconst 0, 1) := by decide +kernel
theorem dL_law_883 : decode cL_law 883 = .ok (.ireturn, 1) := by decide +kernel
theorem dL_law_884 : decode cL_law 884 = .ok (.aload_n 1, 1) := by decide +kernel
theorem dL_law_885 : decode cL_law 885 = .ok (.aload_n 0, 1) := by decide +kernel
theorem dL_law_886 : decode cL_law 886 = .ok (.iload_n 3, 1) := by decide +kernel
theorem dL_law_887 : decode cL_law 887 = .ok (.iconst 1, 1) := by decide +kernel
theorem dL_law_888 : decode cL_law 888 = .ok (.iadd, 1) := by decide +kernel
theorem dL_law_889 : decode cL_law 889 = .ok (.iaload, 1) := by decide +kernel
theorem dL_law_890 : decode cL_law 890 = .ok (.aload_n 0, 1) := by decide +kernel
theorem dL_law_891 : decode cL_law 891 = .ok (.iload_n 3, 1) := by decide +kernel
theorem dL_law_892 : decode cL_law 892 = .ok (.iconst 2, 1) := by decide +kernel
theorem dL_law_893 : decode cL_law 893 = .ok (.iadd, 1) := by decide +kernel
theorem dL_law_894 : decode cL_law 894 = .ok (.iaload, 1) := by decide +kernel
theorem dL_law_895 : decode cL_law 895 = .ok (.aload_n 0, 1) := by decide +kernel
theorem dL_law_896 : decode cL_law 896 = .ok (.iload_n 3, 1) := by decide +kernel
theorem dL_law_897 : decode cL_law 897 = .ok (.iconst 3, 1) := by decide +kernel
theorem dL_law_898 : decode cL_law 898 = .ok (.iadd, 1) := by decide +kernel
theorem dL_law_899 : decode cL_law 899 = .ok (.iaload, 1) := by decide +kernel
theorem dL_law_900 : decode cL_law 900 = .ok (.aload_n 0, 1) := by decide +kernel
theorem dL_law_901 : decode cL_law 901 = .ok (.iload_n 3, 1) := by decide +kernel
theorem dL_law_902 : decode cL_law 902 = .ok (.iconst 4, 1) := by decide +kernel
theorem dL_law_903 : decode cL_law 903 = .ok (.iadd, 1) := by decide +kernel
theorem dL_law_904 : decode cL_law 904 = .ok (.iaload, 1) := by decide +kernel
theorem dL_law_905 : decode cL_law 905 = .ok (.invokevirtual 116, 3) := by decide +kernel
theorem dL_law_908 : decode cL_law 908 = .ok (.aload_n 2, 1) := by decide +kernel
theorem dL_law_909 : decode cL_law 909 = .ok (.aload_n 0, 1) := by decide +kernel
theorem dL_law_910 : decode cL_law 910 = .ok (.iload_n 3, 1) := by decide +kernel
theorem dL_law_911 : decode cL_law 911 = .ok (.iconst 1, 1) := by decide +kernel
theorem dL_law_912 : decode cL_law 912 = .ok (.iadd, 1) := by decide +kernel
theorem dL_law_913 : decode cL_law 913 = .ok (.iaload, 1) := by decide +kernel
theorem dL_law_914 : decode cL_law 914 = .ok (.aload_n 0, 1) := by decide +kernel
theorem dL_law_915 : decode cL_law 915 = .ok (.iload_n 3, 1) := by decide +kernel
theorem dL_law_916 : decode cL_law 916 = .ok (.iconst 2, 1) := by decide +kernel
theorem dL_law_917 : decode cL_law 917 = .ok (.iadd, 1) := by decide +kernel
theorem dL_law_918 : decode cL_law 918 = .ok (.iaload, 1) := by decide +kernel
theorem dL_law_919 : decode cL_law 919 = .ok (.aload_n 0, 1) := by decide +kernel
theorem dL_law_920 : decode cL_law 920 = .ok (.iload_n 3, 1) := by decide +kernel
theorem dL_law_921 : decode cL_law 921 = .ok (.iconst 3, 1) := by decide +kernel
theorem dL_law_922 : decode cL_law 922 = .ok (.iadd, 1) := by decide +kernel
theorem dL_law_923 : decode cL_law 923 = .ok (.iaload, 1) := by decide +kernel
theorem dL_law_924 : decode cL_law 924 = .ok (.aload_n 0, 1) := by decide +kernel
theorem dL_law_925 : decode cL_law 925 = .ok (.iload_n 3, 1) := by decide +kernel
theorem dL_law_926 : decode cL_law 926 = .ok (.iconst 4, 1) := by decide +kernel
theorem dL_law_927 : decode cL_law 927 = .ok (.iadd, 1) := by decide +kernel
theorem dL_law_928 : decode cL_law 928 = .ok (.iaload, 1) := by decide +kernel
theorem dL_law_929 : decode cL_law 929 = .ok (.invokevirtual 120, 3) := by decide +kernel
theorem dL_law_932 : decode cL_law 932 = .ok (.lcmp, 1) := by decide +kernel
theorem dL_law_933 : decode cL_law 933 = .ok (.ifCond .eq 117, 3) := by decide +kernel
theorem dL_law_936 : decode cL_law 936 = .ok (.iconst 0, 1) := by decide +kernel
theorem dL_law_937 : decode cL_law 937 = .ok (.ireturn, 1) := by decide +kernel
theorem dL_law_938 : decode cL_law 938 = .ok (.aload_n 1, 1) := by decide +kernel
theorem dL_law_939 : decode cL_law 939 = .ok (.aload_n 0, 1) := by decide +kernel
theorem dL_law_940 : decode cL_law 940 = .ok (.iload_n 3, 1) := by decide +kernel
theorem dL_law_941 : decode cL_law 941 = .ok (.iconst 1, 1) := by decide +kernel
theorem dL_law_942 : decode cL_law 942 = .ok (.iadd, 1) := by decide +kernel
theorem dL_law_943 : decode cL_law 943 = .ok (.iaload, 1) := by decide +kernel
theorem dL_law_944 : decode cL_law 944 = .ok (.aload_n 0, 1) := by decide +kernel
theorem dL_law_945 : decode cL_law 945 = .ok (.iload_n 3, 1) := by decide +kernel
theorem dL_law_946 : decode cL_law 946 = .ok (.iconst 2, 1) := by decide +kernel
theorem dL_law_947 : decode cL_law 947 = .ok (.iadd, 1) := by decide +kernel
theorem dL_law_948 : decode cL_law 948 = .ok (.iaload, 1) := by decide +kernel
theorem dL_law_949 : decode cL_law 949 = .ok (.aload_n 0, 1) := by decide +kernel
theorem dL_law_950 : decode cL_law 950 = .ok (.iload_n 3, 1) := by decide +kernel
theorem dL_law_951 : decode cL_law 951 = .ok (.iconst 3, 1) := by decide +kernel
theorem dL_law_952 : decode cL_law 952 = .ok (.iadd, 1) := by decide +kernel
theorem dL_law_953 : decode cL_law 953 = .ok (.iaload, 1) := by decide +kernel
theorem dL_law_954 : decode cL_law 954 = .ok (.invokevirtual 121, 3) := by decide +kernel
theorem dL_law_957 : decode cL_law 957 = .ok (.aload_n 2, 1) := by decide +kernel
theorem dL_law_958 : decode cL_law 958 = .ok (.aload_n 0, 1) := by decide +kernel
theorem dL_law_959 : decode cL_law 959 = .ok (.iload_n 3, 1) := by decide +kernel
theorem dL_law_960 : decode cL_law 960 = .ok (.iconst 1, 1) := by decide +kernel
theorem dL_law_961 : decode cL_law 961 = .ok (.iadd, 1) := by decide +kernel
theorem dL_law_962 : decode cL_law 962 = .ok (.iaload, 1) := by decide +kernel
theorem dL_law_963 : decode cL_law 963 = .ok (.aload_n 0, 1) := by decide +kernel
theorem dL_law_964 : decode cL_law 964 = .ok (.iload_n 3, 1) := by decide +kernel
theorem dL_law_965 : decode cL_law 965 = .ok (.iconst 2, 1) := by decide +kernel
theorem dL_law_966 : decode cL_law 966 = .ok (.iadd, 1) := by decide +kernel
theorem dL_law_967 : decode cL_law 967 = .ok (.iaload, 1) := by decide +kernel
theorem dL_law_968 : decode cL_law 968 = .ok (.aload_n 0, 1) := by decide +kernel
theorem dL_law_969 : decode cL_law 969 = .ok (.iload_n 3, 1) := by decide +kernel
theorem dL_law_970 : decode cL_law 970 = .ok (.iconst 3, 1) := by decide +kernel
theorem dL_law_971 : decode cL_law 971 = .ok (.iadd, 1) := by decide +kernel
theorem dL_law_972 : decode cL_law 972 = .ok (.iaload, 1) := by decide +kernel
theorem dL_law_973 : decode cL_law 973 = .ok (.invokevirtual 124, 3) := by decide +kernel
theorem dL_law_976 : decode cL_law 976 = .ok (.if_icmp .eq 74, 3) := by decide +kernel
theorem dL_law_979 : decode cL_law 979 = .ok (.iconst 0, 1) := by decide +kernel
theorem dL_law_980 : decode cL_law 980 = .ok (.ireturn, 1) := by decide +kernel
theorem dL_law_981 : decode cL_law 981 = .ok (.aload_n 1, 1) := by decide +kernel
theorem dL_law_982 : decode cL_law 982 = .ok (.aload_n 0, 1) := by decide +kernel
theorem dL_law_983 : decode cL_law 983 = .ok (.iload_n 3, 1) := by decide +kernel
theorem dL_law_984 : decode cL_law 984 = .ok (.iconst 1, 1) := by decide +kernel
theorem dL_law_985 : decode cL_law 985 = .ok (.iadd, 1) := by decide +kernel
theorem dL_law_986 : decode cL_law 986 = .ok (.iaload, 1) := by decide +kernel
theorem dL_law_987 : decode cL_law 987 = .ok (.invokevirtual 125, 3) := by decide +kernel
theorem dL_law_990 : decode cL_law 990 = .ok (.aload_n 2, 1) := by decide +kernel
theorem dL_law_991 : decode cL_law 991 = .ok (.aload_n 0, 1) := by decide +kernel
theorem dL_law_992 : decode cL_law 992 = .ok (.iload_n 3, 1) := by decide +kernel
theorem dL_law_993 : decode cL_law 993 = .ok (.iconst 1, 1) := by decide +kernel
theorem dL_law_994 : decode cL_law 994 = .ok (.iadd, 1) := by decide +kernel
theorem dL_law_995 : decode cL_law 995 = .ok (.iaload, 1) := by decide +kernel
theorem dL_law_996 : decode cL_law 996 = .ok (.invokevirtual 128, 3) := by decide +kernel
theorem dL_law_999 : decode cL_law 999 = .ok (.if_icmp .eq 51, 3) := by decide +kernel
theorem dL_law_1002 : decode cL_law 1002 = .ok (.iconst 0, 1) := by decide +kernel
theorem dL_law_1003 : decode cL_law 1003 = .ok (.ireturn, 1) := by decide +kernel
theorem dL_law_1004 : decode cL_law 1004 = .ok (.aload_n 1, 1) := by decide +kernel
theorem dL_law_1005 : decode cL_law 1005 = .ok (.aload_n 0, 1) := by decide +kernel
theorem dL_law_1006 : decode cL_law 1006 = .ok (.iload_n 3, 1) := by decide +kernel
theorem dL_law_1007 : decode cL_law 1007 = .ok (.iconst 1, 1) := by decide +kernel
theorem dL_law_1008 : decode cL_law 1008 = .ok (.iadd, 1) := by decide +kernel
theorem dL_law_1009 : decode cL_law 1009 = .ok (.iaload, 1) := by decide +kernel
theorem dL_law_1010 : decode cL_law 1010 = .ok (.invokevirtual 129, 3) := by decide +kernel
theorem dL_law_1013 : decode cL_law 1013 = .ok (.aload_n 2, 1) := by decide +kernel
theorem dL_law_1014 : decode cL_law 1014 = .ok (.aload_n 0, 1) := by decide +kernel
theorem dL_law_1015 : decode cL_law 1015 = .ok (.iload_n 3, 1) := by decide +kernel
theorem dL_law_1016 : decode cL_law 1016 = .ok (.iconst 1, 1) := by decide +kernel
theorem dL_law_1017 : decode cL_law 1017 = .ok (.iadd, 1) := by decide +kernel
theorem dL_law_1018 : decode cL_law 1018 = .ok (.iaload, 1) := by decide +kernel
theorem dL_law_1019 : decode cL_law 1019 = .ok (.invokevirtual 132, 3) := by decide +kernel
theorem dL_law_1022 : decode cL_law 1022 = .ok (.if_icmp .eq 28, 3) := by decide +kernel
theorem dL_law_1025 : decode cL_law 1025 = .ok (.iconst 0, 1) := by decide +kernel
theorem dL_law_1026 : decode cL_law 1026 = .ok (.ireturn, 1) := by decide +kernel
theorem dL_law_1027 : decode cL_law 1027 = .ok (.aload_n 1, 1) := by decide +kernel
theorem dL_law_1028 : decode cL_law 1028 = .ok (.aload_n 0, 1) := by decide +kernel
theorem dL_law_1029 : decode cL_law 1029 = .ok (.iload_n 3, 1) := by decide +kernel
theorem dL_law_1030 : decode cL_law 1030 = .ok (.iconst 1, 1) := by decide +kernel
theorem dL_law_1031 : decode cL_law 1031 = .ok (.iadd, 1) := by decide +kernel
theorem dL_law_1032 : decode cL_law 1032 = .ok (.iaload, 1) := by decide +kernel
theorem dL_law_1033 : decode cL_law 1033 = .ok (.invokevirtual 133, 3) := by decide +kernel
theorem dL_law_1036 : decode cL_law 1036 = .ok (.aload_n 2, 1) := by decide +kernel
theorem dL_law_1037 : decode cL_law 1037 = .ok (.aload_n 0, 1) := by decide +kernel
theorem dL_law_1038 : decode cL_law 1038 = .ok (.iload_n 3, 1) := by decide +kernel
theorem dL_law_1039 : decode cL_law 1039 = .ok (.iconst 1, 1) := by decide +kernel
theorem dL_law_1040 : decode cL_law 1040 = .ok (.iadd, 1) := by decide +kernel
theorem dL_law_1041 : decode cL_law 1041 = .ok (.iaload, 1) := by decide +kernel
theorem dL_law_1042 : decode cL_law 1042 = .ok (.invokevirtual 136, 3) := by decide +kernel
theorem dL_law_1045 : decode cL_law 1045 = .ok (.if_icmp .eq 5, 3) := by decide +kernel
theorem dL_law_1048 : decode cL_law 1048 = .ok (.iconst 0, 1) := by decide +kernel
theorem dL_law_1049 : decode cL_law 1049 = .ok (.ireturn, 1) := by decide +kernel
theorem dL_law_1050 : decode cL_law 1050 = .ok (.iinc 3 5, 3) := by decide +kernel
theorem dL_law_1053 : decode cL_law 1053 = .ok (.goto (-1035), 3) := by decide +kernel
theorem dL_law_1056 : decode cL_law 1056 = .ok (.iconst 1, 1) := by decide +kernel
theorem dL_law_1057 : decode cL_law 1057 = .ok (.ireturn, 1) := by decide +kernel
end
section
/-! worlds in pieces: a list of lists of cells; tables' words carried in the world -/
def tb_ok (w : Cond) : Bool := match w with
  | .methodLinkNest _ _ _ _ => true
  | w => goodWord w
def TB (U : State) : Prop := ∀ w ∈ lw_tbl, tb_ok w = true → w.before #[] U = true
theorem tb_move {s U : State} (hW : s.WarmedH U.vm) {w : Cond} (hg : tb_ok w = true) {a a' : Array Value} (h1 : w.before a s = true) : w.before a' U = true := by
  cases w with
  | methodLinkNest a i x h => exact va_Nw.use rfl (va_Nw.warmM hW (va_Nw.of rfl h1))
  | _ => exact word_at hW (good_of_word hg) h1
theorem TB.moved {s U : State} (hW : s.WarmedH U.vm) (h : TB s) : TB U := fun w hw hg => tb_move hW hg (h w hw hg)
theorem TB.wd {U : State} (h : TB U) {args : Array Value} {w : Cond} (hw : w ∈ lw_tbl) (hg : tb_ok w = true) : w.before args U = true := tb_move (State.WarmedH.refl U) hg (h w hw hg)
def kx_tys (cy : Nat → ClassId) : List (ClassId × FieldType) := [(cy 0, .int), (cy 1, .boolean), (cy 2, .long), (cy 3, .object "SwornLane$World")]
def KX (D : va_G) (cy : Nat → ClassId) (U : State) : Prop := va_K D vwCl (kx_tys cy) U ∧ TB U
theorem KX.moved {D : va_G} {cy : Nat → ClassId} {s U : State} (hW : s.WarmedH U.vm) (h : KX D cy s) : KX D cy U := ⟨va_K.moved hW.alike h.1, h.2.moved hW⟩
theorem KX.wd {D : va_G} {cy : Nat → ClassId} {s : State} (h : KX D cy s) {args : Array Value} {w : Cond} (hw : w ∈ lw_tbl) (hg : tb_ok w = true) : w.before args s = true := h.2.wd hw hg
/-- a method's fixed things -/
def CX (p : Program) (m : MethodId) (c : Code) (cc : ByteArray) (nL : Nat) (s : State) (args : Array Value) (own : String) (D : va_G) (cy : Nat → ClassId) : Prop :=
  p.tables.exec = Jvm.exec ∧ c.code = cc ∧ c.maxLocals = nL ∧ s.vm.findClass own = some m.cls ∧ KX D cy s
def PW (D : va_G) (A : Nat → Prop) (H0 : Heap) (Ps : List va_W) (H : Heap) (locs : List Loc) : Prop := va_P D vwCl Ps.flatten H ∧ va_D A Ps.flatten ∧ va_S A H0 H locs ∧ ∀ q, H0.size ≤ q → A q
theorem fl_at : ∀ {Ps : List va_W} {j i : Nat} {P : va_W} {x : Nat × va_E}, Ps[j]? = some P → P[i]? = some x → ∃ k : Nat, Ps.flatten[k]? = some x ∧ ∀ x', Ps.flatten.set k x' = (Ps.set j (P.set i x')).flatten := by
  intro Ps
  induction Ps with
  | nil => intro j i P x h; simp at h
  | cons P0 Ps ih =>
    intro j i P x h hi
    have hlt : i < P.length := (List.getElem?_eq_some_iff.mp hi).1
    cases j with
    | zero =>
      simp only [List.getElem?_cons_zero, Option.some.injEq] at h
      subst h
      refine ⟨i, ?_, fun x' => ?_⟩
      · rw [List.flatten_cons, List.getElem?_append_left hlt]; exact hi
      · rw [List.flatten_cons, List.set_append_left _ _ hlt, List.set_cons_zero, List.flatten_cons]
    | succ j =>
      simp only [List.getElem?_cons_succ] at h
      obtain ⟨k, h1, h2⟩ := ih h hi
      refine ⟨P0.length + k, ?_, fun x' => ?_⟩
      · rw [List.flatten_cons, List.getElem?_append_right (Nat.le_add_right _ _), Nat.add_sub_cancel_left]; exact h1
      · rw [List.flatten_cons, List.set_append_right _ _ (Nat.le_add_right _ _), Nat.add_sub_cancel_left, h2, List.set_cons_succ, List.flatten_cons]
theorem vp_iff {D : va_G} {cl : List vw_C} {ws : va_W} {H : Heap} : va_P D cl ws H ↔ ∀ x ∈ ws, va_at D cl x H := by
  constructor
  · intro h x hx
    obtain ⟨k, hk⟩ := List.getElem?_of_mem hx
    exact h k x hk
  · intro h k x hk
    exact h x (List.mem_of_getElem? hk)
theorem vd_iff {A : Nat → Prop} {ws : va_W} : va_D A ws ↔ ws.Pairwise (fun x y => x.1 ≠ y.1) ∧ ∀ x ∈ ws, A x.1 := by
  constructor
  · intro h
    refine ⟨List.pairwise_iff_getElem.mpr fun i j hi hj hij he => ?_, fun x hx => ?_⟩
    · have := h.1 i j ws[i] ws[j] (List.getElem?_eq_getElem hi) (List.getElem?_eq_getElem hj) he
      omega
    · obtain ⟨k, hk⟩ := List.getElem?_of_mem hx
      exact h.2 k x hk
  · intro h
    refine ⟨fun i j x y hi hj he => ?_, fun k x hk => h.2 x (List.mem_of_getElem? hk)⟩
    have hp := List.pairwise_iff_getElem.mp h.1
    obtain ⟨li, rfl⟩ := List.getElem?_eq_some_iff.mp hi
    obtain ⟨lj, rfl⟩ := List.getElem?_eq_some_iff.mp hj
    rcases Nat.lt_trichotomy i j with q | q | q
    · exact absurd he (hp i j li lj q)
    · exact q
    · exact absurd he.symm (hp j i lj li q)
theorem vd_pieces {A : Nat → Prop} {Ps : List va_W} (h : va_D A Ps.flatten) {i j : Nat} {P Q : va_W} (hi : Ps[i]? = some P) (hj : Ps[j]? = some Q) (hij : i ≠ j) {x y : Nat × va_E} (hx : x ∈ P) (hy : y ∈ Q) : x.1 ≠ y.1 := by
  have hp := List.pairwise_iff_getElem.mp (List.pairwise_flatten.mp (vd_iff.mp h).1).2
  obtain ⟨li, rfl⟩ := List.getElem?_eq_some_iff.mp hi
  obtain ⟨lj, rfl⟩ := List.getElem?_eq_some_iff.mp hj
  rcases Nat.lt_or_gt_of_ne hij with q | q
  · exact hp i j li lj q x hx y hy
  · exact fun he => hp j i lj li q y hy x hx he.symm
theorem vd_of_pieces {A : Nat → Prop} {Ps : List va_W} (h1 : ∀ (i : Nat) (P : va_W), Ps[i]? = some P → va_D A P) (h2 : ∀ (i j : Nat) (P Q : va_W), Ps[i]? = some P → Ps[j]? = some Q → i ≠ j → ∀ x ∈ P, ∀ y ∈ Q, x.1 ≠ y.1) : va_D A Ps.flatten := by
  refine vd_iff.mpr ⟨List.pairwise_flatten.mpr ⟨fun P hP => ?_, List.pairwise_iff_getElem.mpr fun i j hi hj hij => ?_⟩, fun x hx => ?_⟩
  · obtain ⟨k, hk⟩ := List.getElem?_of_mem hP
    exact (vd_iff.mp (h1 k P hk)).1
  · exact h2 i j _ _ (List.getElem?_eq_getElem hi) (List.getElem?_eq_getElem hj) (by omega)
  · obtain ⟨P, hP, hxP⟩ := List.mem_flatten.mp hx
    obtain ⟨k, hk⟩ := List.getElem?_of_mem hP
    exact (vd_iff.mp (h1 k P hk)).2 x hxP
theorem vd_piece {A : Nat → Prop} {Ps : List va_W} (h : va_D A Ps.flatten) {i : Nat} {P : va_W} (hi : Ps[i]? = some P) : va_D A P := by
  have hm := List.mem_of_getElem? hi
  refine vd_iff.mpr ⟨(List.pairwise_flatten.mp (vd_iff.mp h).1).1 P hm, fun x hx => (vd_iff.mp h).2 x (List.mem_flatten.mpr ⟨P, hm, hx⟩)⟩
/-- pieces put back at their places -/
def setAll : List va_W → List Nat → List va_W → List va_W
  | Ps, j :: js, C :: Cs => setAll (Ps.set j C) js Cs
  | Ps, _, _ => Ps
theorem sa_spec : ∀ (js : List Nat) (Cs Ps : List va_W), js.Nodup → js.length = Cs.length → ∀ (i : Nat) (P : va_W), (setAll Ps js Cs)[i]? = some P → (i ∉ js ∧ Ps[i]? = some P) ∨ (∃ k : Nat, js[k]? = some i ∧ Cs[k]? = some P) := by
  intro js
  induction js with
  | nil => intro Cs Ps _ _ i P h; cases Cs <;> exact Or.inl ⟨List.not_mem_nil, h⟩
  | cons j js ih =>
    intro Cs Ps hn hl i P h
    cases Cs with
    | nil => simp at hl
    | cons C Cs =>
      have hn' := List.nodup_cons.mp hn
      rcases ih Cs (Ps.set j C) hn'.2 (by simpa using hl) i P h with ⟨h1, h2⟩ | ⟨k, h1, h2⟩
      · by_cases e : i = j
        · subst e
          refine Or.inr ⟨0, rfl, ?_⟩
          have hlt : i < Ps.length := by
            have := (List.getElem?_eq_some_iff.mp h2).1
            simpa using this
          rw [List.getElem?_set_self hlt] at h2
          simpa using h2
        · rw [List.getElem?_set_ne (Ne.symm e)] at h2
          exact Or.inl ⟨by simp [e, h1], h2⟩
      · exact Or.inr ⟨k + 1, by simpa using h1, by simpa using h2⟩
theorem map_at {Ps Cs : List va_W} {js : List Nat} (hC : js.map (fun j => Ps[j]?) = Cs.map some) {k : Nat} {P : va_W} (hk : Cs[k]? = some P) : ∃ j : Nat, js[k]? = some j ∧ Ps[j]? = some P := by
  have h1 : (js.map (fun j => Ps[j]?))[k]? = some (some P) := by rw [hC, List.getElem?_map, hk]; rfl
  rw [List.getElem?_map] at h1
  cases hi : js[k]? with
  | none => rw [hi] at h1; cases h1
  | some i => rw [hi] at h1; exact ⟨i, rfl, Option.some.inj h1⟩
theorem pw_sub {D : va_G} {A : Nat → Prop} {H0 H : Heap} {Ps Cs : List va_W} {locs : List Loc} {js : List Nat} (hw : PW D A H0 Ps H locs) (hC : js.map (fun j => Ps[j]?) = Cs.map some) (hn : js.Nodup) : va_P D vwCl Cs.flatten H ∧ va_D A Cs.flatten ∧ (∀ q, va_A Cs.flatten H.size q → A q) := by
  obtain ⟨hP, hD, hS, hA⟩ := hw
  have hsub : ∀ x ∈ Cs.flatten, x ∈ Ps.flatten := by
    intro x hx
    obtain ⟨P, hPm, hxP⟩ := List.mem_flatten.mp hx
    obtain ⟨k, hk⟩ := List.getElem?_of_mem hPm
    obtain ⟨j, -, hj⟩ := map_at hC hk
    exact List.mem_flatten.mpr ⟨P, List.mem_of_getElem? hj, hxP⟩
  have hDc : va_D A Cs.flatten := by
    refine vd_of_pieces (fun k P hk => ?_) (fun i j P Q hi hj hij x hx y hy => ?_)
    · obtain ⟨j, -, hj⟩ := map_at hC hk
      exact vd_piece hD hj
    · obtain ⟨a, ha1, ha2⟩ := map_at hC hi
      obtain ⟨b, hb1, hb2⟩ := map_at hC hj
      refine vd_pieces hD ha2 hb2 (fun e => hij ?_) hx hy
      subst e
      obtain ⟨li, ei⟩ := List.getElem?_eq_some_iff.mp ha1
      obtain ⟨lj, ej⟩ := List.getElem?_eq_some_iff.mp hb1
      exact (List.getElem_inj hn).mp (ei.trans ej.symm)
  refine ⟨vp_iff.mpr fun x hx => vp_iff.mp hP x (hsub x hx), hDc, fun q hq => ?_⟩
  rcases hq with ⟨k, e, h⟩ | h
  · exact (vd_iff.mp hDc).2 (q, e) (List.mem_of_getElem? h)
  · exact hA q (Nat.le_trans hS.1 h)
theorem pw_join {D : va_G} {A : Nat → Prop} {H0 H H1 : Heap} {Ps Cs Cs' : List va_W} {locs L : List Loc} {js : List Nat} (hw : PW D A H0 Ps H locs) (hC : js.map (fun j => Ps[j]?) = Cs.map some) (hn : js.Nodup) (hlen : js.length = Cs'.length) (hz : H.size ≤ H1.size) (hk : ∀ q : Nat, q < H.size → ¬ va_A Cs.flatten H.size q → H1[q]? = H[q]?) (hP1 : va_P D vwCl Cs'.flatten H1) (hD1 : va_D (va_A Cs.flatten H.size) Cs'.flatten) (hL : ∀ q ∈ L, va_A Cs.flatten H.size q.base) : PW D A H0 (setAll Ps js Cs') H1 (locs ++ L) := by
  obtain ⟨hPc, hDc, hF⟩ := pw_sub hw hC hn
  obtain ⟨hP, hD, hS, hA⟩ := hw
  have apart : ∀ (i : Nat) (P : va_W), i ∉ js → Ps[i]? = some P → ∀ x ∈ P, x.1 < H.size ∧ ¬ va_A Cs.flatten H.size x.1 := by
    intro i P hi hP0 x hx
    have hl := (vp_iff.mp hP x (List.mem_flatten.mpr ⟨P, List.mem_of_getElem? hP0, hx⟩)).lt
    refine ⟨hl, fun h => ?_⟩
    rcases h with ⟨k, e, h⟩ | h
    · obtain ⟨Q, hQ, hy⟩ := List.mem_flatten.mp (List.mem_of_getElem? h)
      obtain ⟨k2, hk2⟩ := List.getElem?_of_mem hQ
      obtain ⟨j, hj1, hj2⟩ := map_at hC hk2
      exact vd_pieces hD hP0 hj2 (fun e => hi (by rw [e]; exact List.mem_of_getElem? hj1)) hx hy rfl
    · omega
  refine ⟨vp_iff.mpr fun x hx => ?_, vd_of_pieces (fun i P hi => ?_) (fun i j P Q hi hj hij x hx y hy => ?_), ⟨Nat.le_trans hS.1 hz, fun q h1 h2 => ?_, fun q hq => ?_⟩, hA⟩
  · obtain ⟨P, hPm, hxP⟩ := List.mem_flatten.mp hx
    obtain ⟨i, hi⟩ := List.getElem?_of_mem hPm
    rcases sa_spec js Cs' Ps hn hlen i P hi with ⟨h1, h2⟩ | ⟨k, h1, h2⟩
    · obtain ⟨g1, g2⟩ := apart i P h1 h2 x hxP
      exact (vp_iff.mp hP x (List.mem_flatten.mpr ⟨P, List.mem_of_getElem? h2, hxP⟩)).kept (hk x.1 g1 g2)
    · exact vp_iff.mp hP1 x (List.mem_flatten.mpr ⟨P, List.mem_of_getElem? h2, hxP⟩)
  · rcases sa_spec js Cs' Ps hn hlen i P hi with ⟨h1, h2⟩ | ⟨k, h1, h2⟩
    · exact vd_piece hD h2
    · exact (vd_piece hD1 h2).weaken (fun _ q _ h => hF q.1 h)
  · rcases sa_spec js Cs' Ps hn hlen i P hi with ⟨h1, h2⟩ | ⟨k, h1, h2⟩
    · rcases sa_spec js Cs' Ps hn hlen j Q hj with ⟨h3, h4⟩ | ⟨k2, h3, h4⟩
      · exact vd_pieces hD h2 h4 hij hx hy
      · intro he
        refine (apart i P h1 h2 x hx).2 ?_
        rw [he]
        exact (vd_iff.mp (vd_piece hD1 h4)).2 y hy
    · rcases sa_spec js Cs' Ps hn hlen j Q hj with ⟨h3, h4⟩ | ⟨k2, h3, h4⟩
      · intro he
        refine (apart j Q h3 h4 y hy).2 ?_
        rw [← he]
        exact (vd_iff.mp (vd_piece hD1 h2)).2 x hx
      · refine vd_pieces hD1 h2 h4 (fun e => hij ?_) hx hy
        subst e
        exact Option.some.inj (h1.symm.trans h3)
  · rw [hk q (Nat.lt_of_lt_of_le h1 hS.1) (fun z => h2 (hF q z))]
    exact hS.2.1 q h1 h2
  · rcases List.mem_append.mp hq with h | h
    · exact hS.2.2 q h
    · exact hF _ (hL q h)
end
section
/-! contracts over worlds in pieces, and the rows of a walk -/
abbrev pStt : Type := (Nat → Int32) × (Nat → Nat → Int32)
def sI (σ : pStt) (k : Nat) (x : Int32) : pStt := (upd σ.1 k x, σ.2)
def sA (σ : pStt) (k : Nat) (f : Nat → Int32) : pStt := (σ.1, va_up σ.2 k f)
def inB (i : Int32) (n : Nat) : Bool := decide (¬ (i < 0 ∨ n ≤ i.toNatClampNeg))
def ld (f : Nat → Int32) (n : Nat) (i : Int32) : Option Int32 := if inB i n = true then some (f i.toNatClampNeg) else none
def ldL (f : Nat → Int64) (n : Nat) (i : Int32) : Option Int64 := if inB i n = true then some (f i.toNatClampNeg) else none
def stA (σ : pStt) (k n : Nat) (i x : Int32) : Option pStt := if inB i n = true then some (sA σ k (upd (σ.2 k) i.toNatClampNeg x)) else none
def stL (f : Nat → Int64) (n : Nat) (i : Int32) (x : Int64) : Option (Nat → Int64) := if inB i n = true then some (vp_updL f i.toNatClampNeg x) else none
def asB (x : Int32) : Option Int32 := if x = 0 ∨ x = 1 then some x else none
def nzI (y : Int32) : Option Unit := if y = 0 then none else some ()
def nzL (y : Int64) : Option Unit := if y = 0 then none else some ()
theorem ob {α β : Type} {o : Option α} {k : α → Option β} {b : β} (h : o.bind k = some b) : ∃ a, o = some a ∧ k a = some b := by
  cases o with
  | none => cases h
  | some a => exact ⟨a, rfl, h⟩
theorem inB_in {i : Int32} {n : Nat} (h : inB i n = true) : vp_in i n := of_decide_eq_true (p := ¬ (i < 0 ∨ n ≤ i.toNatClampNeg)) h
theorem ld_inv {f : Nat → Int32} {n : Nat} {i x : Int32} (h : ld f n i = some x) : vp_in i n ∧ f i.toNatClampNeg = x := by
  unfold ld at h
  by_cases c : inB i n = true
  · rw [if_pos c] at h; exact ⟨inB_in c, Option.some.inj h⟩
  · rw [if_neg c] at h; cases h
theorem ldL_inv {f : Nat → Int64} {n : Nat} {i : Int32} {x : Int64} (h : ldL f n i = some x) : vp_in i n ∧ f i.toNatClampNeg = x := by
  unfold ldL at h
  by_cases c : inB i n = true
  · rw [if_pos c] at h; exact ⟨inB_in c, Option.some.inj h⟩
  · rw [if_neg c] at h; cases h
theorem stA_inv {σ σ' : pStt} {k n : Nat} {i x : Int32} (h : stA σ k n i x = some σ') : vp_in i n ∧ sA σ k (upd (σ.2 k) i.toNatClampNeg x) = σ' := by
  unfold stA at h
  by_cases c : inB i n = true
  · rw [if_pos c] at h; exact ⟨inB_in c, Option.some.inj h⟩
  · rw [if_neg c] at h; cases h
theorem stL_inv {f f' : Nat → Int64} {n : Nat} {i : Int32} {x : Int64} (h : stL f n i x = some f') : vp_in i n ∧ vp_updL f i.toNatClampNeg x = f' := by
  unfold stL at h
  by_cases c : inB i n = true
  · rw [if_pos c] at h; exact ⟨inB_in c, Option.some.inj h⟩
  · rw [if_neg c] at h; cases h
theorem asB_inv {x y : Int32} (h : asB x = some y) : narrow .boolean (.int x) = .int x ∧ fits .boolean (.int x) = true ∧ x = y := by
  unfold asB at h
  by_cases c : x = 0 ∨ x = 1
  · rw [if_pos c] at h
    refine ⟨?_, ?_, Option.some.inj h⟩
    · rcases c with rfl | rfl <;> decide
    · rcases c with rfl | rfl <;> decide
  · rw [if_neg c] at h; cases h
theorem nzI_inv {y : Int32} {u : Unit} (h : nzI y = some u) : ¬ y = 0 := by
  intro e
  unfold nzI at h
  rw [if_pos e] at h
  cases h
theorem nzL_inv {y : Int64} {u : Unit} (h : nzL y = some u) : ¬ y = 0 := by
  intro e
  unfold nzL at h
  rw [if_pos e] at h
  cases h
/-- a method's end -/
def QQ (D : va_G) (Ps Ps' : List va_W) (sz : Nat) (ov : Option Value) : Array Value → State → Outcome → State → Prop := fun _ st oc t => (oc = .returned ov ∧ va_P D vwCl Ps'.flatten t.heap ∧ va_D (va_A Ps.flatten sz) Ps'.flatten) ∧ va_F (va_A Ps.flatten sz) st t
def PCs (D : va_G) (cy : Nat → ClassId) (Ps : List va_W) (sz : Nat) (U : State) : Prop := U.heap.size = sz ∧ KX D cy U ∧ va_P D vwCl Ps.flatten U.heap ∧ va_D (fun _ => True) Ps.flatten
/-- a method's contract: no cell is made -/
def CT (l : Launch) (y : MethodName) (cc : ByteArray) (maxL : Nat) (ret : Option FieldType) (rm : Room) (D : va_G) (cy : Nat → ClassId) (av : List Value) (Ps : List va_W) (ov : Option Value) (Ps' : List va_W) : Prop :=
  ∀ sz : Nat, Met l y [.code y cc maxL ret] rm (va_Pc av (PCs D cy Ps sz)) (QQ D Ps Ps' sz ov) 0 0 (va_A Ps.flatten sz)
theorem CT.of {l : Launch} {y : MethodName} {cc : ByteArray} {maxL : Nat} {ret : Option FieldType} {rm : Room} {D : va_G} {cy : Nat → ClassId} {av : List Value} {Ps : List va_W} {ov : Option Value} {Ps' : List va_W} (hy : plainName y.cls = true) (hn : (lg_sl av).length ≤ maxL)
    (body : ∀ (p : Program) (e : Env) (s : State) (m : MethodId) (args : Array Value) (below : List Frame) (meth : Method) (c : Code) (ls : Array Slot) (A : Nat → Prop) (Q : State → Prop), A = va_A Ps.flatten s.heap.size → Q = MQ below (QQ D Ps Ps' s.heap.size ov) args s 0 0 (va_A Ps.flatten s.heap.size) → CX p m c cc maxL s args y.cls D cy → meth.sig.returnType = ret → meth.locks = false → lv_has ls maxL (lv_args 0 av) → PW D A s.heap Ps s.heap [] → W p l e rm s m args below meth c s.heap [] 0 0 Q (F0 m 0 ls [])) : CT l y cc maxL ret rm D cy av Ps ov Ps' := by
  intro sz
  refine Met.ofW (cc := cc) (maxL := maxL) (ret := ret) hy rfl ?_
  intro p e s m args below meth c s₁ B hml hv
  obtain ⟨rfl, hsz, hK, hP, hD0⟩ := hv
  subst hsz
  have hl := lv_entry av hn
  rw [lg_entry_eq]
  generalize (lg_sl av ++ List.replicate (maxL - (lg_sl av).length) Slot.unset).toArray = ls at hl ⊢
  exact body p e s m _ below meth c ls _ _ rfl rfl ⟨B.exec, B.bytes, hml, findClass_of_methodNamed B.named, hK⟩ B.returns B.notSynchronized hl ⟨hP, hD0.self, va_S.rf, fun q h => Or.inr h⟩
section RW
variable {p : Program} {l : Launch} {e : Env} {R : Room} {s : State} {m : MethodId} {args : Array Value} {below : List Frame} {meth : Method} {c : Code} {H : Heap} {locs : List Loc} {cells slots : Nat} {Q : State → Prop}
variable {cc : ByteArray} {pc nL : Nat} {ls : Array Slot} {rest : List Value} {D : va_G} {cy : Nat → ClassId} {A : Nat → Prop} {a : Nat} {H0 : Heap} {own : String} {Ps Ps0 : List va_W} {ov : Option Value} {sz : Nat}
theorem w_iret {v : Int32} (S : CX p m c cc nL s args own D cy) (hr : meth.sig.returnType = some .int) (hlk : meth.locks = false) (hA : A = va_A Ps0.flatten s.heap.size) (hQ : Q = MQ below (QQ D Ps0 Ps s.heap.size (some (.int v))) args s cells slots (va_A Ps0.flatten s.heap.size)) (hw : PW D A s.heap Ps H locs) (hdg : decode cc pc = .ok (.ireturn, 1)) : W p l e R s m args below meth c H locs cells slots Q (F0 m pc ls [.int v]) := by
  subst hA; subst hQ
  exact W.iret S.1 S.2.1 hr (fun t ht hW => ⟨⟨rfl, by rw [ht]; exact hw.1, hw.2.1⟩, hw.2.2.1.F ht⟩) hw.2.2.1.2.2 hdg hlk
theorem w_zret {v : Int32} {ty : FieldType} (S : CX p m c cc nL s args own D cy) (hr : meth.sig.returnType = some ty) (hn : narrow ty (.int v) = .int v) (hlk : meth.locks = false) (hA : A = va_A Ps0.flatten s.heap.size) (hQ : Q = MQ below (QQ D Ps0 Ps s.heap.size (some (.int v))) args s cells slots (va_A Ps0.flatten s.heap.size)) (hw : PW D A s.heap Ps H locs) (hdg : decode cc pc = .ok (.ireturn, 1)) : W p l e R s m args below meth c H locs cells slots Q (F0 m pc ls [.int v]) := by
  subst hA; subst hQ
  exact W.zret S.1 S.2.1 hr hn (fun t ht hW => ⟨⟨rfl, by rw [ht]; exact hw.1, hw.2.1⟩, hw.2.2.1.F ht⟩) hw.2.2.1.2.2 hdg hlk
theorem w_lret {v : Int64} (S : CX p m c cc nL s args own D cy) (hr : meth.sig.returnType = some .long) (hlk : meth.locks = false) (hA : A = va_A Ps0.flatten s.heap.size) (hQ : Q = MQ below (QQ D Ps0 Ps s.heap.size (some (.long v))) args s cells slots (va_A Ps0.flatten s.heap.size)) (hw : PW D A s.heap Ps H locs) (hdg : decode cc pc = .ok (.lreturn, 1)) : W p l e R s m args below meth c H locs cells slots Q (F0 m pc ls [.long v]) := by
  subst hA; subst hQ
  exact W.lret S.1 S.2.1 hr (fun t ht hW => ⟨⟨rfl, by rw [ht]; exact hw.1, hw.2.1⟩, hw.2.2.1.F ht⟩) hw.2.2.1.2.2 hdg hlk
theorem w_vret (S : CX p m c cc nL s args own D cy) (hr : meth.sig.returnType = none) (hlk : meth.locks = false) (hA : A = va_A Ps0.flatten s.heap.size) (hQ : Q = MQ below (QQ D Ps0 Ps s.heap.size none) args s cells slots (va_A Ps0.flatten s.heap.size)) (hw : PW D A s.heap Ps H locs) (hdg : decode cc pc = .ok (.return_, 1)) : W p l e R s m args below meth c H locs cells slots Q (F0 m pc ls []) := by
  subst hA; subst hQ
  exact W.vret S.1 S.2.1 hr (fun t ht hW => ⟨⟨rfl, by rw [ht]; exact hw.1, hw.2.1⟩, hw.2.2.1.F ht⟩) hw.2.2.1.2.2 hdg hlk
theorem w_get {ref C : String} {T : u_T} {N ci index : Nat} (S : CX p m c cc nL s args own D cy) (hw : PW D A H0 Ps H locs) (j i : Nat) {P : va_W} (hj : Ps[j]? = some P) {fs : List Value} (hi : P[i]? = some (a, .inr (ci, fs))) (hc : vwCl[ci]? = some (C, T, N)) (hin : ∀ w ∈ u_ws C T N, w.before args s = true) (k : Nat) (hk : k < N) (hlink : (Cond.fieldLink own index ref (T k).2.1 (T k).2.2.1).before args s = true) (hr : (T k).1 = ref) {v : Value} (hv : fs[k]? = some v) (hdg : decode cc pc = .ok (.getfield index, 3))
    (kk : W p l e R s m args below meth c H locs cells slots Q (F0 m (pc + 3) ls (v :: rest))) : W p l e R s m args below meth c H locs cells slots Q (F0 m pc ls (.ref a :: rest)) := by
  obtain ⟨q0, he, -⟩ := fl_at hj hi
  exact va_get S.1 S.2.1 hin (fun _ h => h) S.2.2.2.1 S.2.2.2.2.1 hw.1 q0 he hc k hk hlink (fun x h => by rw [← hr]; exact h) hv hdg kk
theorem w_put {ref C : String} {T : u_T} {N ci index : Nat} (S : CX p m c cc nL s args own D cy) (hw : PW D A H0 Ps H locs) (j i : Nat) {P : va_W} (hj : Ps[j]? = some P) {fs : List Value} (hi : P[i]? = some (a, .inr (ci, fs))) (hc : vwCl[ci]? = some (C, T, N)) (hin : ∀ w ∈ u_ws C T N, w.before args s = true) (ty0 : Nat → FieldType) (hty : ∀ k, k < N → parseFieldDescriptor (T k).2.2.1 = some (ty0 k)) (hnm : ∀ a, a < N → ∀ b, b < N → a ≠ b → (T a).2.1 ≠ (T b).2.1) (k : Nat) (hk : k < N) (hlink : (Cond.fieldLink own index ref (T k).2.1 (T k).2.2.1).before args s = true) (hr : (T k).1 = ref) (hfin : (T k).2.2.2 = false) {ty : FieldType} {v : Value} (hd : parseFieldDescriptor (T k).2.2.1 = some ty) (hn : narrow ty v = v) (hfit : fits ty v = true) (hl : k < fs.length) (hdg : decode cc pc = .ok (.putfield index, 3))
    (kk : ∀ (H1 : Heap) (locs1 : List Loc), PW D A H0 (Ps.set j (P.set i (a, .inr (ci, fs.set k v)))) H1 locs1 → W p l e R s m args below meth c H1 locs1 cells slots Q (F0 m (pc + 3) ls rest)) : W p l e R s m args below meth c H locs cells slots Q (F0 m pc ls (v :: .ref a :: rest)) := by
  obtain ⟨q0, he, hs⟩ := fl_at hj hi
  refine va_put S.1 S.2.1 hin (fun _ h => h) ty0 hty hnm S.2.2.2.1 S.2.2.2.2.1 hw.1 hw.2.1 hw.2.2.1 q0 he hc k hk hlink (fun x h => by rw [← hr]; exact h) hfin hd hn hfit hl hdg (fun H1 locs1 hP hD hS => ?_)
  rw [hs] at hP hD
  exact kk H1 locs1 ⟨hP, hD, hS, hw.2.2.2⟩
theorem w_iald (S : CX p m c cc nL s args own D cy) (hw : PW D A H0 Ps H locs) (j i : Nat) {P : va_W} (hj : Ps[j]? = some P) {n : Nat} {f : Nat → Int32} (hi : P[i]? = some (a, .inl (cy 0, n, .inl f))) {ix x : Int32} (hl : ld f n ix = some x) (hdg : decode cc pc = .ok (.iaload, 1))
    (kk : W p l e R s m args below meth c H locs cells slots Q (F0 m (pc + 1) ls (.int x :: rest))) : W p l e R s m args below meth c H locs cells slots Q (F0 m pc ls (.int ix :: .ref a :: rest)) := by
  obtain ⟨q0, he, -⟩ := fl_at hj hi
  obtain ⟨h1, rfl⟩ := ld_inv hl
  exact va_iald S.1 S.2.1 S.2.2.2.2.1 hw.1 q0 0 he rfl h1 hdg kk
theorem w_zald (S : CX p m c cc nL s args own D cy) (hw : PW D A H0 Ps H locs) (j i : Nat) {P : va_W} (hj : Ps[j]? = some P) {n : Nat} {f : Nat → Int32} (hi : P[i]? = some (a, .inl (cy 1, n, .inl f))) {ix x : Int32} (hl : ld f n ix = some x) (hdg : decode cc pc = .ok (.baload, 1))
    (kk : W p l e R s m args below meth c H locs cells slots Q (F0 m (pc + 1) ls (.int x :: rest))) : W p l e R s m args below meth c H locs cells slots Q (F0 m pc ls (.int ix :: .ref a :: rest)) := by
  obtain ⟨q0, he, -⟩ := fl_at hj hi
  obtain ⟨h1, rfl⟩ := ld_inv hl
  exact va_zald S.1 S.2.1 S.2.2.2.2.1 hw.1 q0 1 he rfl h1 hdg kk
theorem w_lald (S : CX p m c cc nL s args own D cy) (hw : PW D A H0 Ps H locs) (j i : Nat) {P : va_W} (hj : Ps[j]? = some P) {n : Nat} {f : Nat → Int64} (hi : P[i]? = some (a, .inl (cy 2, n, .inr (.inl f)))) {ix : Int32} {x : Int64} (hl : ldL f n ix = some x) (hdg : decode cc pc = .ok (.laload, 1))
    (kk : W p l e R s m args below meth c H locs cells slots Q (F0 m (pc + 1) ls (.long x :: rest))) : W p l e R s m args below meth c H locs cells slots Q (F0 m pc ls (.int ix :: .ref a :: rest)) := by
  obtain ⟨q0, he, -⟩ := fl_at hj hi
  obtain ⟨h1, rfl⟩ := ldL_inv hl
  exact va_lald S.1 S.2.1 S.2.2.2.2.1 hw.1 q0 2 he rfl h1 hdg kk
theorem w_iast (S : CX p m c cc nL s args own D cy) (hw : PW D A H0 Ps H locs) (j i : Nat) {P : va_W} (hj : Ps[j]? = some P) {n : Nat} {f : Nat → Int32} (hi : P[i]? = some (a, .inl (cy 0, n, .inl f))) {ix x : Int32} (h1 : vp_in ix n) (hdg : decode cc pc = .ok (.iastore, 1))
    (kk : ∀ (H1 : Heap) (locs1 : List Loc), PW D A H0 (Ps.set j (P.set i (a, .inl (cy 0, n, .inl (upd f ix.toNatClampNeg x))))) H1 locs1 → W p l e R s m args below meth c H1 locs1 cells slots Q (F0 m (pc + 1) ls rest)) : W p l e R s m args below meth c H locs cells slots Q (F0 m pc ls (.int x :: .int ix :: .ref a :: rest)) := by
  obtain ⟨q0, he, hs⟩ := fl_at hj hi
  refine va_iast S.1 S.2.1 S.2.2.2.2.1 hw.1 hw.2.1 hw.2.2.1 q0 0 he rfl h1 hdg (fun H1 locs1 hP hD hS => ?_)
  rw [hs] at hP hD
  exact kk H1 locs1 ⟨hP, hD, hS, hw.2.2.2⟩
theorem w_zast (S : CX p m c cc nL s args own D cy) (hw : PW D A H0 Ps H locs) (j i : Nat) {P : va_W} (hj : Ps[j]? = some P) {n : Nat} {f : Nat → Int32} (hi : P[i]? = some (a, .inl (cy 1, n, .inl f))) {ix x : Int32} (h1 : vp_in ix n) (hdg : decode cc pc = .ok (.bastore, 1))
    (kk : ∀ (H1 : Heap) (locs1 : List Loc), PW D A H0 (Ps.set j (P.set i (a, .inl (cy 1, n, .inl (upd f ix.toNatClampNeg (x &&& 1)))))) H1 locs1 → W p l e R s m args below meth c H1 locs1 cells slots Q (F0 m (pc + 1) ls rest)) : W p l e R s m args below meth c H locs cells slots Q (F0 m pc ls (.int x :: .int ix :: .ref a :: rest)) := by
  obtain ⟨q0, he, hs⟩ := fl_at hj hi
  refine va_zast S.1 S.2.1 S.2.2.2.2.1 hw.1 hw.2.1 hw.2.2.1 q0 1 he rfl h1 hdg (fun H1 locs1 hP hD hS => ?_)
  rw [hs] at hP hD
  exact kk H1 locs1 ⟨hP, hD, hS, hw.2.2.2⟩
theorem w_last (S : CX p m c cc nL s args own D cy) (hw : PW D A H0 Ps H locs) (j i : Nat) {P : va_W} (hj : Ps[j]? = some P) {n : Nat} {f : Nat → Int64} (hi : P[i]? = some (a, .inl (cy 2, n, .inr (.inl f)))) {ix : Int32} {x : Int64} (h1 : vp_in ix n) (hdg : decode cc pc = .ok (.lastore, 1))
    (kk : ∀ (H1 : Heap) (locs1 : List Loc), PW D A H0 (Ps.set j (P.set i (a, .inl (cy 2, n, .inr (.inl (vp_updL f ix.toNatClampNeg x)))))) H1 locs1 → W p l e R s m args below meth c H1 locs1 cells slots Q (F0 m (pc + 1) ls rest)) : W p l e R s m args below meth c H locs cells slots Q (F0 m pc ls (.long x :: .int ix :: .ref a :: rest)) := by
  obtain ⟨q0, he, hs⟩ := fl_at hj hi
  refine va_last S.1 S.2.1 S.2.2.2.2.1 hw.1 hw.2.1 hw.2.2.1 q0 2 he rfl h1 hdg (fun H1 locs1 hP hD hS => ?_)
  rw [hs] at hP hD
  exact kk H1 locs1 ⟨hP, hD, hS, hw.2.2.2⟩
theorem w_alen (S : CX p m c cc nL s args own D cy) (hw : PW D A H0 Ps H locs) (j i : Nat) {P : va_W} (hj : Ps[j]? = some P) {n : Nat} {f : Nat → Int32} (hi : P[i]? = some (a, .inl (cy 0, n, .inl f))) {v : Int32} (hv : Int32.ofNat n = v) (hdg : decode cc pc = .ok (.arraylength, 1))
    (kk : W p l e R s m args below meth c H locs cells slots Q (F0 m (pc + 1) ls (.int v :: rest))) : W p l e R s m args below meth c H locs cells slots Q (F0 m pc ls (.ref a :: rest)) := by
  obtain ⟨q0, he, -⟩ := fl_at hj hi
  exact va_alen S.1 S.2.1 S.2.2.2.2.1 hw.1 q0 0 he rfl hv hdg kk
/-- System.arraycopy of ints, between two places of the world -/
theorem w_copyi (S : CX p m c cc nL s args own D cy) (hw : PW D A H0 Ps H locs) (hml : ls.size = nL) {index : Nat} (hlink : (Cond.methodLink own index arraycopyName).before args s = true) (hnat : (Cond.native arraycopyName).before args s = true) (hstat : (Cond.static arraycopyName).before args s = true) (hini : (Cond.initialized "java/lang/System").before args s = true)
    (j0 i0 j1 i1 : Nat) {P0 P1 : va_W} (hj0 : Ps[j0]? = some P0) (hj1 : Ps[j1]? = some P1) {a0 n0 n1 : Nat} {f g : Nat → Int32} (hi0 : P0[i0]? = some (a0, .inl (cy 0, n0, .inl f))) (hi1 : P1[i1]? = some (a, .inl (cy 0, n1, .inl g))) {sp dp n : Int32} (h1 : ¬ sp < 0) (h2 : ¬ dp < 0) (h3 : ¬ n < 0) (h4 : sp.toNatClampNeg + n.toNatClampNeg ≤ n0) (h5 : dp.toNatClampNeg + n.toNatClampNeg ≤ n1)
    (hframes : 1 ≤ R.frames) (hlocals : (rest.map fun v => v.category).sum + (nativeFrameWords "java/lang/System" "arraycopy" 5 + 11) ≤ R.locals) (hdg : decode cc pc = .ok (.invokestatic index, 3))
    (kk : ∀ (H1 : Heap) (locs1 : List Loc), PW D A H0 (Ps.set j1 (P1.set i1 (a, .inl (cy 0, n1, .inl (va_cpy f g sp.toNatClampNeg dp.toNatClampNeg n.toNatClampNeg))))) H1 locs1 → W p l e R s m args below meth c H1 locs1 cells slots Q (F0 m (pc + 3) ls rest)) : W p l e R s m args below meth c H locs cells slots Q (F0 m pc ls (.int n :: .int dp :: .ref a :: .int sp :: .ref a0 :: rest)) := by
  obtain ⟨q0, he0, -⟩ := fl_at hj0 hi0
  obtain ⟨q1, he1, hs⟩ := fl_at hj1 hi1
  refine va_copyi (ty := .int) S.1 S.2.1 (S.2.2.1.trans hml.symm) S.2.2.2.1 hlink hnat hstat hini S.2.2.2.2.1 hw.1 hw.2.1 hw.2.2.1 q0 q1 0 0 he0 he1 rfl rfl rfl h1 h2 h3 h4 h5 (fun _ _ => rfl) hframes hlocals hdg (fun H1 locs1 hP hD hS => ?_)
  rw [hs] at hP hD
  exact kk H1 locs1 ⟨hP, hD, hS, hw.2.2.2⟩
/-- what the tables say of a method -/
def MF (y : MethodName) (bytes : ByteArray) (maxL : Nat) (ret : Option FieldType) (n : Nat) (args : Array Value) (s : State) : Prop := (Cond.code y bytes maxL ret).before args s = true ∧ (Cond.initialized y.cls).before args s = true ∧ (y.cls ≠ "java/lang/invoke/MethodHandle" ∧ y.cls ≠ "java/lang/invoke/VarHandle") ∧ (∀ sig, parseMethodDescriptor y.desc = some sig → n = sig.parameters.length)
theorem MF.of {y : MethodName} {bytes : ByteArray} {maxL : Nat} {ret : Option FieldType} {n : Nat} {args : Array Value} {s : State} (h : KX D cy s) (h1 : Cond.code y bytes maxL ret ∈ lw_tbl) (h2 : Cond.initialized y.cls ∈ lw_tbl) (hd : y.cls ≠ "java/lang/invoke/MethodHandle" ∧ y.cls ≠ "java/lang/invoke/VarHandle" ∧ (parseMethodDescriptor y.desc).map (fun d => d.parameters.length) = some n) : MF y bytes maxL ret n args s := by
  refine ⟨h.wd h1 rfl, h.wd h2 rfl, ⟨hd.1, hd.2.1⟩, fun sig hs => ?_⟩
  have h3 := hd.2.2
  rw [hs] at h3
  exact (Option.some.inj h3).symm
def RMok (rm R : Room) (maxL : Nat) : Prop := rm.cells = 0 ∧ rm.slots = 0 ∧ rm.frames + 1 ≤ R.frames ∧ 8 + (maxL + 11) + rm.locals ≤ R.locals
variable {y : MethodName} {bytes : ByteArray} {maxL n index : Nat} {ret : Option FieldType} {rm : Room} {As : List Value} {Cs Cs' : List va_W} {st0 : List Value} {b : Nat}
theorem pc_blind {av : List Value} : FrameBlind (va_Pc av (PCs D cy Cs sz)) := fun a U g mk q => ⟨q.1, q.2.1, KX.moved (s := U) (U := U.calling g mk a) (State.WarmedH.refl U) q.2.2.1, q.2.2.2.1, q.2.2.2.2⟩
theorem w_callB {aa : Array Value} (hr : va_Run p l e R s m args below meth c H locs cells slots 0 0 (F0 m pc ls st0) rest (QQ D Cs Cs' H.size ov aa) (va_A Cs.flatten H.size)) (hw : PW D A H0 Ps H locs) (js : List Nat) (hC : js.map (fun j => Ps[j]?) = Cs.map some) (hn : js.Nodup) (hlen : js.length = Cs'.length)
    (kk : ∀ (H1 : Heap) (locs1 : List Loc), PW D A H0 (setAll Ps js Cs') H1 locs1 → W p l e R s m args below meth c H1 locs1 cells slots Q (F0 m (pc + 3) ls (ov.toList ++ rest))) : W p l e R s m args below meth c H locs cells slots Q (F0 m pc ls st0) := by
  intro T hT X
  obtain ⟨v, st₀, t, T', L, h0, X', hL, e1, e2, ⟨⟨hv, hP1, hD1⟩, hz, hk⟩, st⟩ := hr T hT X
  cases hv
  rw [h0] at hz hk
  have hj := pw_join hw hC hn hlen (H1 := T'.heap) (by rw [e1]; exact hz) (fun q h1 h2 => by rw [e1]; exact hk q h1 h2) (by rw [e1]; exact hP1) hD1 hL
  obtain ⟨t2, a1, b1⟩ := kk T'.heap (locs ++ L) hj T' rfl X'
  exact ⟨t2, st t2 a1, b1⟩
theorem w_callS (S : CX p m c cc nL s args own D cy) (hw : PW D A H0 Ps H locs) (hM : CT l y bytes maxL ret rm D cy As Cs ov Cs') (F : MF y bytes maxL ret n args s) (hst : (Cond.static y).before args s = true) (hl : (Cond.methodLink own index y).before args s = true) (hR : RMok rm R maxL) (js : List Nat) (hC : js.map (fun j => Ps[j]?) = Cs.map some) (hnd : js.Nodup) (hlen : js.length = Cs'.length) (hn : As.length = n) (hsize : ls.size = nL) (hs0 : st0 = As.reverse ++ rest) (hrest : (rest.map fun v => v.category).sum ≤ 8) (hdg : decode cc pc = .ok (.invokestatic index, 3)) (hcs : cells ≤ R.cells ∧ slots ≤ R.slots)
    (kk : ∀ (H1 : Heap) (locs1 : List Loc), PW D A H0 (setAll Ps js Cs') H1 locs1 → W p l e R s m args below meth c H1 locs1 cells slots Q (F0 m (pc + 3) ls (ov.toList ++ rest))) : W p l e R s m args below meth c H locs cells slots Q (F0 m pc ls st0) := by
  obtain ⟨h1, h2, h3⟩ := pw_sub hw hC hnd
  refine w_callB (va_runS (Ts := []) ⟨S.1, S.2.1, S.2.2.1, S.2.2.2.1, fun _ h => absurd h List.not_mem_nil⟩ (hM H.size) ⟨⟨hR.1, hR.2.1, hR.2.2.1, hR.2.2.2, fun w hw a' U hW => ?_, List.mem_singleton.mpr rfl, F.1, F.2.1, F.2.2.1, F.2.2.2, hl⟩, hst⟩ ⟨pc_blind, fun U hU hW => ⟨rfl, by rw [hU], S.2.2.2.2.moved hW, by rw [hU]; exact h1, h2.weaken (fun _ _ _ _ => trivial)⟩⟩ rfl hn hsize hs0 (lv_room hrest) hdg hcs) hw js hC hnd hlen kk
  rw [List.mem_singleton.mp hw]
  exact word_at hW (Or.inl rfl) F.1
theorem w_callV {ci : Nat} {T : u_T} {N : Nat} {fs : List Value} {P0 : va_W} (S : CX p m c cc nL s args own D cy) (hw : PW D A H0 Ps H locs) (hM : CT l y bytes maxL ret rm D cy (.ref b :: As) Cs ov Cs') (F : MF y bytes maxL ret n args s) (hin : (Cond.instanceMethod y).before args s = true) (hse : (Cond.selects y.cls y y).before args s = true) (hl : (Cond.methodLink own index y).before args s = true) (hR : RMok rm R maxL) (js : List Nat) (hC : js.map (fun j => Ps[j]?) = Cs.map some) (hnd : js.Nodup) (hlen : js.length = Cs'.length) (hP0 : Cs[0]? = some P0) (hr0 : P0[0]? = some (b, .inr (ci, fs))) (hci : vwCl[ci]? = some (y.cls, T, N)) (hn : As.length = n) (hsize : ls.size = nL) (hs0 : st0 = As.reverse ++ .ref b :: rest) (hrest : (rest.map fun v => v.category).sum ≤ 8) (hdg : decode cc pc = .ok (.invokevirtual index, 3)) (hcs : cells ≤ R.cells ∧ slots ≤ R.slots)
    (kk : ∀ (H1 : Heap) (locs1 : List Loc), PW D A H0 (setAll Ps js Cs') H1 locs1 → W p l e R s m args below meth c H1 locs1 cells slots Q (F0 m (pc + 3) ls (ov.toList ++ rest))) : W p l e R s m args below meth c H locs cells slots Q (F0 m pc ls st0) := by
  obtain ⟨h1, h2, h3⟩ := pw_sub hw hC hnd
  obtain ⟨q0, he, -⟩ := fl_at hP0 hr0
  refine w_callB (va_runV (Ts := []) (C := y.cls) ⟨S.1, S.2.1, S.2.2.1, S.2.2.2.1, fun _ h => absurd h List.not_mem_nil⟩ (hM H.size) ⟨⟨hR.1, hR.2.1, hR.2.2.1, hR.2.2.2, fun w hw a' U hW => ?_, List.mem_singleton.mpr rfl, F.1, F.2.1, F.2.2.1, F.2.2.2, hl⟩, hin, hse⟩ ⟨pc_blind, va_recv S.2.2.2.2.1 h1 hci he, fun U hU hW => ⟨rfl, by rw [hU], S.2.2.2.2.moved hW, by rw [hU]; exact h1, h2.weaken (fun _ _ _ _ => trivial)⟩⟩ rfl hn hsize hs0 (lv_room hrest) hdg hcs) hw js hC hnd hlen kk
  rw [List.mem_singleton.mp hw]
  exact word_at hW (Or.inl rfl) F.1
theorem w_callSN {host : String} (S : CX p m c cc nL s args own D cy) (hw : PW D A H0 Ps H locs) (hM : CT l y bytes maxL ret rm D cy As Cs ov Cs') (F : MF y bytes maxL ret n args s) (hst : (Cond.static y).before args s = true) (hl : (Cond.methodLinkNest own index y host).before args s = true) (hR : RMok rm R maxL) (js : List Nat) (hC : js.map (fun j => Ps[j]?) = Cs.map some) (hnd : js.Nodup) (hlen : js.length = Cs'.length) (hn : As.length = n) (hsize : ls.size = nL) (hs0 : st0 = As.reverse ++ rest) (hrest : (rest.map fun v => v.category).sum ≤ 8) (hdg : decode cc pc = .ok (.invokestatic index, 3)) (hcs : cells ≤ R.cells ∧ slots ≤ R.slots)
    (kk : ∀ (H1 : Heap) (locs1 : List Loc), PW D A H0 (setAll Ps js Cs') H1 locs1 → W p l e R s m args below meth c H1 locs1 cells slots Q (F0 m (pc + 3) ls (ov.toList ++ rest))) : W p l e R s m args below meth c H locs cells slots Q (F0 m pc ls st0) := by
  obtain ⟨h1, h2, h3⟩ := pw_sub hw hC hnd
  refine w_callB (va_runSN (Ts := []) (host := host) ⟨S.1, S.2.1, S.2.2.1, S.2.2.2.1, fun _ h => absurd h List.not_mem_nil⟩ (hM H.size) ⟨⟨⟨hR.1, hR.2.1, hR.2.2.1, hR.2.2.2, fun w hw a' U hW => ?_, List.mem_singleton.mpr rfl⟩, F.1, F.2.1, F.2.2.1, F.2.2.2, hl⟩, hst, trivial⟩ ⟨pc_blind, fun U hU hW => ⟨rfl, by rw [hU], S.2.2.2.2.moved hW, by rw [hU]; exact h1, h2.weaken (fun _ _ _ _ => trivial)⟩⟩ rfl hn hsize hs0 (lv_room hrest) hdg hcs) hw js hC hnd hlen kk
  rw [List.mem_singleton.mp hw]
  exact word_at hW (Or.inl rfl) F.1
end RW
end
