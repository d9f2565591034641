section
-- ===== PART A: goes FIRST, ahead of the names: the tables' words, and 'selects' of the private methods out of them =====
/-- a private method of a class that the tables say can be made, by its rows of tables_1 -/
def lw_okq (q : MethodName × Nat) : Prop := (q.1.cls ≠ "java/lang/invoke/MethodHandle" ∧ q.1.cls ≠ "java/lang/invoke/VarHandle") ∧ Cond.instantiable q.1.cls q.2 ∈ tables_1 ∧ Cond.privateMethod q.1 ∈ tables_1 ∧ Cond.instanceMethod q.1 ∈ tables_1
theorem lw_p0 : lw_okq (⟨"SnakeMesh$Grid", "layPlace", "(II)V"⟩, 5) := ⟨⟨by decide +kernel, by decide +kernel⟩, List.mem_of_getElem? (i := 94) (by decide +kernel), List.mem_of_getElem? (i := 188) (by decide +kernel), List.mem_of_getElem? (i := 189) (by decide +kernel)⟩
theorem lw_p1 : lw_okq (⟨"SnakeMesh", "makeMesh", "(II)I"⟩, 11) := ⟨⟨by decide +kernel, by decide +kernel⟩, List.mem_of_getElem? (i := 15) (by decide +kernel), List.mem_of_getElem? (i := 249) (by decide +kernel), List.mem_of_getElem? (i := 250) (by decide +kernel)⟩
theorem lw_p2 : lw_okq (⟨"SnakeMesh", "settle", "(I)I"⟩, 11) := ⟨⟨by decide +kernel, by decide +kernel⟩, List.mem_of_getElem? (i := 15) (by decide +kernel), List.mem_of_getElem? (i := 257) (by decide +kernel), List.mem_of_getElem? (i := 258) (by decide +kernel)⟩
theorem lw_p3 : lw_okq (⟨"SnakeMesh", "refuse", "(I)I"⟩, 11) := ⟨⟨by decide +kernel, by decide +kernel⟩, List.mem_of_getElem? (i := 15) (by decide +kernel), List.mem_of_getElem? (i := 261) (by decide +kernel), List.mem_of_getElem? (i := 262) (by decide +kernel)⟩
theorem lw_p4 : lw_okq (⟨"SnakeMesh", "addMessage", "(III)I"⟩, 11) := ⟨⟨by decide +kernel, by decide +kernel⟩, List.mem_of_getElem? (i := 15) (by decide +kernel), List.mem_of_getElem? (i := 277) (by decide +kernel), List.mem_of_getElem? (i := 278) (by decide +kernel)⟩
theorem lw_p5 : lw_okq (⟨"SnakeMesh", "layMessage", "(I)V"⟩, 11) := ⟨⟨by decide +kernel, by decide +kernel⟩, List.mem_of_getElem? (i := 15) (by decide +kernel), List.mem_of_getElem? (i := 287) (by decide +kernel), List.mem_of_getElem? (i := 288) (by decide +kernel)⟩
theorem lw_p6 : lw_okq (⟨"SnakeMesh$Ways", "layTo", "(LSnakeMesh$Grid;II)V"⟩, 3) := ⟨⟨by decide +kernel, by decide +kernel⟩, List.mem_of_getElem? (i := 116) (by decide +kernel), List.mem_of_getElem? (i := 315) (by decide +kernel), List.mem_of_getElem? (i := 316) (by decide +kernel)⟩
theorem lw_p7 : lw_okq (⟨"SnakeMesh", "turnGoal", "(III)I"⟩, 11) := ⟨⟨by decide +kernel, by decide +kernel⟩, List.mem_of_getElem? (i := 15) (by decide +kernel), List.mem_of_getElem? (i := 331) (by decide +kernel), List.mem_of_getElem? (i := 332) (by decide +kernel)⟩
theorem lw_p8 : lw_okq (⟨"SnakeMesh", "hasMessage", "(I)Z"⟩, 11) := ⟨⟨by decide +kernel, by decide +kernel⟩, List.mem_of_getElem? (i := 15) (by decide +kernel), List.mem_of_getElem? (i := 335) (by decide +kernel), List.mem_of_getElem? (i := 336) (by decide +kernel)⟩
theorem lw_p9 : lw_okq (⟨"SnakeMesh", "turnChannel", "(III)I"⟩, 11) := ⟨⟨by decide +kernel, by decide +kernel⟩, List.mem_of_getElem? (i := 15) (by decide +kernel), List.mem_of_getElem? (i := 349) (by decide +kernel), List.mem_of_getElem? (i := 350) (by decide +kernel)⟩
theorem lw_p10 : lw_okq (⟨"SnakeMesh", "goSteps", "(I)I"⟩, 11) := ⟨⟨by decide +kernel, by decide +kernel⟩, List.mem_of_getElem? (i := 15) (by decide +kernel), List.mem_of_getElem? (i := 369) (by decide +kernel), List.mem_of_getElem? (i := 370) (by decide +kernel)⟩
theorem lw_p11 : lw_okq (⟨"SnakeMesh$Traffic", "isStopped", "(LSnakeMesh$State;I)Z"⟩, 2) := ⟨⟨by decide +kernel, by decide +kernel⟩, List.mem_of_getElem? (i := 134) (by decide +kernel), List.mem_of_getElem? (i := 413) (by decide +kernel), List.mem_of_getElem? (i := 414) (by decide +kernel)⟩
theorem lw_p12 : lw_okq (⟨"SnakeMesh$Traffic", "moveOn", "(LSnakeMesh$State;I)V"⟩, 2) := ⟨⟨by decide +kernel, by decide +kernel⟩, List.mem_of_getElem? (i := 134) (by decide +kernel), List.mem_of_getElem? (i := 422) (by decide +kernel), List.mem_of_getElem? (i := 423) (by decide +kernel)⟩
theorem lw_p13 : lw_okq (⟨"SnakeMesh$Traffic", "waitFor", "(LSnakeMesh$State;I)V"⟩, 2) := ⟨⟨by decide +kernel, by decide +kernel⟩, List.mem_of_getElem? (i := 134) (by decide +kernel), List.mem_of_getElem? (i := 427) (by decide +kernel), List.mem_of_getElem? (i := 428) (by decide +kernel)⟩
theorem lw_p14 : lw_okq (⟨"SnakeMesh", "startAgain", "()I"⟩, 11) := ⟨⟨by decide +kernel, by decide +kernel⟩, List.mem_of_getElem? (i := 15) (by decide +kernel), List.mem_of_getElem? (i := 441) (by decide +kernel), List.mem_of_getElem? (i := 442) (by decide +kernel)⟩
theorem lw_p15 : lw_okq (⟨"SnakeMesh", "hasWorm", "(II)Z"⟩, 11) := ⟨⟨by decide +kernel, by decide +kernel⟩, List.mem_of_getElem? (i := 15) (by decide +kernel), List.mem_of_getElem? (i := 490) (by decide +kernel), List.mem_of_getElem? (i := 491) (by decide +kernel)⟩
def lw_privs_1 : List (MethodName × Nat) := [(⟨"SnakeMesh$Grid", "layPlace", "(II)V"⟩, 5), (⟨"SnakeMesh", "makeMesh", "(II)I"⟩, 11), (⟨"SnakeMesh", "settle", "(I)I"⟩, 11), (⟨"SnakeMesh", "refuse", "(I)I"⟩, 11), (⟨"SnakeMesh", "addMessage", "(III)I"⟩, 11), (⟨"SnakeMesh", "layMessage", "(I)V"⟩, 11), (⟨"SnakeMesh$Ways", "layTo", "(LSnakeMesh$Grid;II)V"⟩, 3), (⟨"SnakeMesh", "turnGoal", "(III)I"⟩, 11), (⟨"SnakeMesh", "hasMessage", "(I)Z"⟩, 11), (⟨"SnakeMesh", "turnChannel", "(III)I"⟩, 11), (⟨"SnakeMesh", "goSteps", "(I)I"⟩, 11), (⟨"SnakeMesh$Traffic", "isStopped", "(LSnakeMesh$State;I)Z"⟩, 2), (⟨"SnakeMesh$Traffic", "moveOn", "(LSnakeMesh$State;I)V"⟩, 2), (⟨"SnakeMesh$Traffic", "waitFor", "(LSnakeMesh$State;I)V"⟩, 2), (⟨"SnakeMesh", "startAgain", "()I"⟩, 11), (⟨"SnakeMesh", "hasWorm", "(II)Z"⟩, 11)]
theorem lw_r1 : ∀ q ∈ lw_privs_1, lw_okq q := List.forall_mem_cons.mpr ⟨lw_p0, List.forall_mem_cons.mpr ⟨lw_p1, List.forall_mem_cons.mpr ⟨lw_p2, List.forall_mem_cons.mpr ⟨lw_p3, List.forall_mem_cons.mpr ⟨lw_p4, List.forall_mem_cons.mpr ⟨lw_p5, List.forall_mem_cons.mpr ⟨lw_p6, List.forall_mem_cons.mpr ⟨lw_p7, List.forall_mem_cons.mpr ⟨lw_p8, List.forall_mem_cons.mpr ⟨lw_p9, List.forall_mem_cons.mpr ⟨lw_p10, List.forall_mem_cons.mpr ⟨lw_p11, List.forall_mem_cons.mpr ⟨lw_p12, List.forall_mem_cons.mpr ⟨lw_p13, List.forall_mem_cons.mpr ⟨lw_p14, List.forall_mem_cons.mpr ⟨lw_p15, fun _ h => absurd h List.not_mem_nil⟩⟩⟩⟩⟩⟩⟩⟩⟩⟩⟩⟩⟩⟩⟩⟩
theorem lw_p16 : lw_okq (⟨"SnakeMesh", "wormFact", "(II)I"⟩, 11) := ⟨⟨by decide +kernel, by decide +kernel⟩, List.mem_of_getElem? (i := 15) (by decide +kernel), List.mem_of_getElem? (i := 494) (by decide +kernel), List.mem_of_getElem? (i := 495) (by decide +kernel)⟩
theorem lw_p17 : lw_okq (⟨"SnakeMesh", "messageFact", "(II)I"⟩, 11) := ⟨⟨by decide +kernel, by decide +kernel⟩, List.mem_of_getElem? (i := 15) (by decide +kernel), List.mem_of_getElem? (i := 532) (by decide +kernel), List.mem_of_getElem? (i := 533) (by decide +kernel)⟩
theorem lw_p18 : lw_okq (⟨"SnakeMesh", "straightWays", "(I)I"⟩, 11) := ⟨⟨by decide +kernel, by decide +kernel⟩, List.mem_of_getElem? (i := 15) (by decide +kernel), List.mem_of_getElem? (i := 544) (by decide +kernel), List.mem_of_getElem? (i := 545) (by decide +kernel)⟩
theorem lw_p19 : lw_okq (⟨"SnakeMesh", "stepsUntilDone", "(I)I"⟩, 11) := ⟨⟨by decide +kernel, by decide +kernel⟩, List.mem_of_getElem? (i := 15) (by decide +kernel), List.mem_of_getElem? (i := 552) (by decide +kernel), List.mem_of_getElem? (i := 553) (by decide +kernel)⟩
theorem lw_p20 : lw_okq (⟨"SnakeMesh", "countFact", "(I)I"⟩, 11) := ⟨⟨by decide +kernel, by decide +kernel⟩, List.mem_of_getElem? (i := 15) (by decide +kernel), List.mem_of_getElem? (i := 561) (by decide +kernel), List.mem_of_getElem? (i := 562) (by decide +kernel)⟩
theorem lw_p21 : lw_okq (⟨"SnakeMesh", "messagesDone", "()I"⟩, 11) := ⟨⟨by decide +kernel, by decide +kernel⟩, List.mem_of_getElem? (i := 15) (by decide +kernel), List.mem_of_getElem? (i := 584) (by decide +kernel), List.mem_of_getElem? (i := 585) (by decide +kernel)⟩
theorem lw_p22 : lw_okq (⟨"SnakeMesh$Text", "passBlanks", "()V"⟩, 6) := ⟨⟨by decide +kernel, by decide +kernel⟩, List.mem_of_getElem? (i := 148) (by decide +kernel), List.mem_of_getElem? (i := 616) (by decide +kernel), List.mem_of_getElem? (i := 617) (by decide +kernel)⟩
theorem lw_p23 : lw_okq (⟨"SnakeMesh$Text", "readOrder", "()Z"⟩, 6) := ⟨⟨by decide +kernel, by decide +kernel⟩, List.mem_of_getElem? (i := 148) (by decide +kernel), List.mem_of_getElem? (i := 620) (by decide +kernel), List.mem_of_getElem? (i := 621) (by decide +kernel)⟩
theorem lw_p24 : lw_okq (⟨"SnakeMesh$Text", "byteHere", "()I"⟩, 6) := ⟨⟨by decide +kernel, by decide +kernel⟩, List.mem_of_getElem? (i := 148) (by decide +kernel), List.mem_of_getElem? (i := 624) (by decide +kernel), List.mem_of_getElem? (i := 625) (by decide +kernel)⟩
theorem lw_p25 : lw_okq (⟨"SnakeMesh$Text", "readNumber", "(I)Z"⟩, 6) := ⟨⟨by decide +kernel, by decide +kernel⟩, List.mem_of_getElem? (i := 148) (by decide +kernel), List.mem_of_getElem? (i := 631) (by decide +kernel), List.mem_of_getElem? (i := 632) (by decide +kernel)⟩
theorem lw_p26 : lw_okq (⟨"SnakeMesh", "perform", "(IIII)I"⟩, 11) := ⟨⟨by decide +kernel, by decide +kernel⟩, List.mem_of_getElem? (i := 15) (by decide +kernel), List.mem_of_getElem? (i := 650) (by decide +kernel), List.mem_of_getElem? (i := 651) (by decide +kernel)⟩
theorem lw_p27 : lw_okq (⟨"SnakeMesh", "layAll", "()V"⟩, 11) := ⟨⟨by decide +kernel, by decide +kernel⟩, List.mem_of_getElem? (i := 15) (by decide +kernel), List.mem_of_getElem? (i := 654) (by decide +kernel), List.mem_of_getElem? (i := 655) (by decide +kernel)⟩
theorem lw_p28 : lw_okq (⟨"SnakeMesh", "toldFact", "(I)I"⟩, 11) := ⟨⟨by decide +kernel, by decide +kernel⟩, List.mem_of_getElem? (i := 15) (by decide +kernel), List.mem_of_getElem? (i := 674) (by decide +kernel), List.mem_of_getElem? (i := 675) (by decide +kernel)⟩
theorem lw_p29 : lw_okq (⟨"SnakeMesh", "digestMessage", "(JI)J"⟩, 11) := ⟨⟨by decide +kernel, by decide +kernel⟩, List.mem_of_getElem? (i := 15) (by decide +kernel), List.mem_of_getElem? (i := 684) (by decide +kernel), List.mem_of_getElem? (i := 685) (by decide +kernel)⟩
theorem lw_p30 : lw_okq (⟨"SnakeMeshModel", "refuses", "(I)I"⟩, 17) := ⟨⟨by decide +kernel, by decide +kernel⟩, List.mem_of_getElem? (i := 688) (by decide +kernel), List.mem_of_getElem? (i := 750) (by decide +kernel), List.mem_of_getElem? (i := 751) (by decide +kernel)⟩
theorem lw_p31 : lw_okq (⟨"SnakeMeshModel", "laysAside", "()V"⟩, 17) := ⟨⟨by decide +kernel, by decide +kernel⟩, List.mem_of_getElem? (i := 688) (by decide +kernel), List.mem_of_getElem? (i := 758) (by decide +kernel), List.mem_of_getElem? (i := 759) (by decide +kernel)⟩
def lw_privs_2 : List (MethodName × Nat) := [(⟨"SnakeMesh", "wormFact", "(II)I"⟩, 11), (⟨"SnakeMesh", "messageFact", "(II)I"⟩, 11), (⟨"SnakeMesh", "straightWays", "(I)I"⟩, 11), (⟨"SnakeMesh", "stepsUntilDone", "(I)I"⟩, 11), (⟨"SnakeMesh", "countFact", "(I)I"⟩, 11), (⟨"SnakeMesh", "messagesDone", "()I"⟩, 11), (⟨"SnakeMesh$Text", "passBlanks", "()V"⟩, 6), (⟨"SnakeMesh$Text", "readOrder", "()Z"⟩, 6), (⟨"SnakeMesh$Text", "byteHere", "()I"⟩, 6), (⟨"SnakeMesh$Text", "readNumber", "(I)Z"⟩, 6), (⟨"SnakeMesh", "perform", "(IIII)I"⟩, 11), (⟨"SnakeMesh", "layAll", "()V"⟩, 11), (⟨"SnakeMesh", "toldFact", "(I)I"⟩, 11), (⟨"SnakeMesh", "digestMessage", "(JI)J"⟩, 11), (⟨"SnakeMeshModel", "refuses", "(I)I"⟩, 17), (⟨"SnakeMeshModel", "laysAside", "()V"⟩, 17)]
theorem lw_r2 : ∀ q ∈ lw_privs_2, lw_okq q := List.forall_mem_cons.mpr ⟨lw_p16, List.forall_mem_cons.mpr ⟨lw_p17, List.forall_mem_cons.mpr ⟨lw_p18, List.forall_mem_cons.mpr ⟨lw_p19, List.forall_mem_cons.mpr ⟨lw_p20, List.forall_mem_cons.mpr ⟨lw_p21, List.forall_mem_cons.mpr ⟨lw_p22, List.forall_mem_cons.mpr ⟨lw_p23, List.forall_mem_cons.mpr ⟨lw_p24, List.forall_mem_cons.mpr ⟨lw_p25, List.forall_mem_cons.mpr ⟨lw_p26, List.forall_mem_cons.mpr ⟨lw_p27, List.forall_mem_cons.mpr ⟨lw_p28, List.forall_mem_cons.mpr ⟨lw_p29, List.forall_mem_cons.mpr ⟨lw_p30, List.forall_mem_cons.mpr ⟨lw_p31, fun _ h => absurd h List.not_mem_nil⟩⟩⟩⟩⟩⟩⟩⟩⟩⟩⟩⟩⟩⟩⟩⟩
theorem lw_p32 : lw_okq (⟨"SnakeMeshModel", "putMesh", "(II)I"⟩, 17) := ⟨⟨by decide +kernel, by decide +kernel⟩, List.mem_of_getElem? (i := 688) (by decide +kernel), List.mem_of_getElem? (i := 762) (by decide +kernel), List.mem_of_getElem? (i := 763) (by decide +kernel)⟩
theorem lw_p33 : lw_okq (⟨"SnakeMeshModel", "finished", "(I)I"⟩, 17) := ⟨⟨by decide +kernel, by decide +kernel⟩, List.mem_of_getElem? (i := 688) (by decide +kernel), List.mem_of_getElem? (i := 769) (by decide +kernel), List.mem_of_getElem? (i := 770) (by decide +kernel)⟩
theorem lw_p34 : lw_okq (⟨"SnakeMeshModel", "remembers", "()V"⟩, 17) := ⟨⟨by decide +kernel, by decide +kernel⟩, List.mem_of_getElem? (i := 688) (by decide +kernel), List.mem_of_getElem? (i := 773) (by decide +kernel), List.mem_of_getElem? (i := 774) (by decide +kernel)⟩
theorem lw_p35 : lw_okq (⟨"SnakeMeshModel", "putMessage", "(III)I"⟩, 17) := ⟨⟨by decide +kernel, by decide +kernel⟩, List.mem_of_getElem? (i := 688) (by decide +kernel), List.mem_of_getElem? (i := 781) (by decide +kernel), List.mem_of_getElem? (i := 782) (by decide +kernel)⟩
theorem lw_p36 : lw_okq (⟨"SnakeMeshModel", "isPlace", "(II)Z"⟩, 17) := ⟨⟨by decide +kernel, by decide +kernel⟩, List.mem_of_getElem? (i := 688) (by decide +kernel), List.mem_of_getElem? (i := 785) (by decide +kernel), List.mem_of_getElem? (i := 786) (by decide +kernel)⟩
theorem lw_p37 : lw_okq (⟨"SnakeMeshModel", "spotOf", "(II)I"⟩, 17) := ⟨⟨by decide +kernel, by decide +kernel⟩, List.mem_of_getElem? (i := 688) (by decide +kernel), List.mem_of_getElem? (i := 789) (by decide +kernel), List.mem_of_getElem? (i := 790) (by decide +kernel)⟩
theorem lw_p38 : lw_okq (⟨"SnakeMeshModel", "labelOf", "(II)I"⟩, 17) := ⟨⟨by decide +kernel, by decide +kernel⟩, List.mem_of_getElem? (i := 688) (by decide +kernel), List.mem_of_getElem? (i := 793) (by decide +kernel), List.mem_of_getElem? (i := 794) (by decide +kernel)⟩
theorem lw_p39 : lw_okq (⟨"SnakeMeshModel", "putGoal", "(III)I"⟩, 17) := ⟨⟨by decide +kernel, by decide +kernel⟩, List.mem_of_getElem? (i := 688) (by decide +kernel), List.mem_of_getElem? (i := 801) (by decide +kernel), List.mem_of_getElem? (i := 802) (by decide +kernel)⟩
theorem lw_p40 : lw_okq (⟨"SnakeMeshModel", "isMessage", "(I)Z"⟩, 17) := ⟨⟨by decide +kernel, by decide +kernel⟩, List.mem_of_getElem? (i := 688) (by decide +kernel), List.mem_of_getElem? (i := 805) (by decide +kernel), List.mem_of_getElem? (i := 806) (by decide +kernel)⟩
theorem lw_p41 : lw_okq (⟨"SnakeMeshModel", "of0", "(II)I"⟩, 17) := ⟨⟨by decide +kernel, by decide +kernel⟩, List.mem_of_getElem? (i := 688) (by decide +kernel), List.mem_of_getElem? (i := 809) (by decide +kernel), List.mem_of_getElem? (i := 810) (by decide +kernel)⟩
theorem lw_p42 : lw_okq (⟨"SnakeMeshModel", "goalsOf", "(I)I"⟩, 17) := ⟨⟨by decide +kernel, by decide +kernel⟩, List.mem_of_getElem? (i := 688) (by decide +kernel), List.mem_of_getElem? (i := 813) (by decide +kernel), List.mem_of_getElem? (i := 814) (by decide +kernel)⟩
theorem lw_p43 : lw_okq (⟨"SnakeMeshModel", "isGoal", "(II)Z"⟩, 17) := ⟨⟨by decide +kernel, by decide +kernel⟩, List.mem_of_getElem? (i := 688) (by decide +kernel), List.mem_of_getElem? (i := 817) (by decide +kernel), List.mem_of_getElem? (i := 818) (by decide +kernel)⟩
theorem lw_p44 : lw_okq (⟨"SnakeMeshModel", "putTurn", "(III)I"⟩, 17) := ⟨⟨by decide +kernel, by decide +kernel⟩, List.mem_of_getElem? (i := 688) (by decide +kernel), List.mem_of_getElem? (i := 825) (by decide +kernel), List.mem_of_getElem? (i := 826) (by decide +kernel)⟩
theorem lw_p45 : lw_okq (⟨"SnakeMeshModel", "isChannel", "(III)Z"⟩, 17) := ⟨⟨by decide +kernel, by decide +kernel⟩, List.mem_of_getElem? (i := 688) (by decide +kernel), List.mem_of_getElem? (i := 829) (by decide +kernel), List.mem_of_getElem? (i := 830) (by decide +kernel)⟩
theorem lw_p46 : lw_okq (⟨"SnakeMeshModel", "beside", "(II)I"⟩, 17) := ⟨⟨by decide +kernel, by decide +kernel⟩, List.mem_of_getElem? (i := 688) (by decide +kernel), List.mem_of_getElem? (i := 833) (by decide +kernel), List.mem_of_getElem? (i := 834) (by decide +kernel)⟩
theorem lw_p47 : lw_okq (⟨"SnakeMeshModel", "xOf", "(I)I"⟩, 17) := ⟨⟨by decide +kernel, by decide +kernel⟩, List.mem_of_getElem? (i := 688) (by decide +kernel), List.mem_of_getElem? (i := 837) (by decide +kernel), List.mem_of_getElem? (i := 838) (by decide +kernel)⟩
def lw_privs_3 : List (MethodName × Nat) := [(⟨"SnakeMeshModel", "putMesh", "(II)I"⟩, 17), (⟨"SnakeMeshModel", "finished", "(I)I"⟩, 17), (⟨"SnakeMeshModel", "remembers", "()V"⟩, 17), (⟨"SnakeMeshModel", "putMessage", "(III)I"⟩, 17), (⟨"SnakeMeshModel", "isPlace", "(II)Z"⟩, 17), (⟨"SnakeMeshModel", "spotOf", "(II)I"⟩, 17), (⟨"SnakeMeshModel", "labelOf", "(II)I"⟩, 17), (⟨"SnakeMeshModel", "putGoal", "(III)I"⟩, 17), (⟨"SnakeMeshModel", "isMessage", "(I)Z"⟩, 17), (⟨"SnakeMeshModel", "of0", "(II)I"⟩, 17), (⟨"SnakeMeshModel", "goalsOf", "(I)I"⟩, 17), (⟨"SnakeMeshModel", "isGoal", "(II)Z"⟩, 17), (⟨"SnakeMeshModel", "putTurn", "(III)I"⟩, 17), (⟨"SnakeMeshModel", "isChannel", "(III)Z"⟩, 17), (⟨"SnakeMeshModel", "beside", "(II)I"⟩, 17), (⟨"SnakeMeshModel", "xOf", "(I)I"⟩, 17)]
theorem lw_r3 : ∀ q ∈ lw_privs_3, lw_okq q := List.forall_mem_cons.mpr ⟨lw_p32, List.forall_mem_cons.mpr ⟨lw_p33, List.forall_mem_cons.mpr ⟨lw_p34, List.forall_mem_cons.mpr ⟨lw_p35, List.forall_mem_cons.mpr ⟨lw_p36, List.forall_mem_cons.mpr ⟨lw_p37, List.forall_mem_cons.mpr ⟨lw_p38, List.forall_mem_cons.mpr ⟨lw_p39, List.forall_mem_cons.mpr ⟨lw_p40, List.forall_mem_cons.mpr ⟨lw_p41, List.forall_mem_cons.mpr ⟨lw_p42, List.forall_mem_cons.mpr ⟨lw_p43, List.forall_mem_cons.mpr ⟨lw_p44, List.forall_mem_cons.mpr ⟨lw_p45, List.forall_mem_cons.mpr ⟨lw_p46, List.forall_mem_cons.mpr ⟨lw_p47, fun _ h => absurd h List.not_mem_nil⟩⟩⟩⟩⟩⟩⟩⟩⟩⟩⟩⟩⟩⟩⟩⟩
theorem lw_p48 : lw_okq (⟨"SnakeMeshModel", "yOf", "(I)I"⟩, 17) := ⟨⟨by decide +kernel, by decide +kernel⟩, List.mem_of_getElem? (i := 688) (by decide +kernel), List.mem_of_getElem? (i := 841) (by decide +kernel), List.mem_of_getElem? (i := 842) (by decide +kernel)⟩
theorem lw_p49 : lw_okq (⟨"SnakeMeshModel", "isDown", "(II)Z"⟩, 17) := ⟨⟨by decide +kernel, by decide +kernel⟩, List.mem_of_getElem? (i := 688) (by decide +kernel), List.mem_of_getElem? (i := 845) (by decide +kernel), List.mem_of_getElem? (i := 846) (by decide +kernel)⟩
theorem lw_p50 : lw_okq (⟨"SnakeMeshModel", "putSteps", "(I)I"⟩, 17) := ⟨⟨by decide +kernel, by decide +kernel⟩, List.mem_of_getElem? (i := 688) (by decide +kernel), List.mem_of_getElem? (i := 853) (by decide +kernel), List.mem_of_getElem? (i := 854) (by decide +kernel)⟩
theorem lw_p51 : lw_okq (⟨"SnakeMeshModel", "laysWays", "()V"⟩, 17) := ⟨⟨by decide +kernel, by decide +kernel⟩, List.mem_of_getElem? (i := 688) (by decide +kernel), List.mem_of_getElem? (i := 857) (by decide +kernel), List.mem_of_getElem? (i := 858) (by decide +kernel)⟩
theorem lw_p52 : lw_okq (⟨"SnakeMeshModel", "laysWay", "(II)V"⟩, 17) := ⟨⟨by decide +kernel, by decide +kernel⟩, List.mem_of_getElem? (i := 688) (by decide +kernel), List.mem_of_getElem? (i := 861) (by decide +kernel), List.mem_of_getElem? (i := 862) (by decide +kernel)⟩
theorem lw_p53 : lw_okq (⟨"SnakeMeshModel", "nextOf", "(II)I"⟩, 17) := ⟨⟨by decide +kernel, by decide +kernel⟩, List.mem_of_getElem? (i := 688) (by decide +kernel), List.mem_of_getElem? (i := 865) (by decide +kernel), List.mem_of_getElem? (i := 866) (by decide +kernel)⟩
theorem lw_p54 : lw_okq (⟨"SnakeMeshModel", "step", "()V"⟩, 17) := ⟨⟨by decide +kernel, by decide +kernel⟩, List.mem_of_getElem? (i := 688) (by decide +kernel), List.mem_of_getElem? (i := 869) (by decide +kernel), List.mem_of_getElem? (i := 870) (by decide +kernel)⟩
theorem lw_p55 : lw_okq (⟨"SnakeMeshModel", "isDone", "(I)Z"⟩, 17) := ⟨⟨by decide +kernel, by decide +kernel⟩, List.mem_of_getElem? (i := 688) (by decide +kernel), List.mem_of_getElem? (i := 873) (by decide +kernel), List.mem_of_getElem? (i := 874) (by decide +kernel)⟩
theorem lw_p56 : lw_okq (⟨"SnakeMeshModel", "moves", "(I)I"⟩, 17) := ⟨⟨by decide +kernel, by decide +kernel⟩, List.mem_of_getElem? (i := 688) (by decide +kernel), List.mem_of_getElem? (i := 877) (by decide +kernel), List.mem_of_getElem? (i := 878) (by decide +kernel)⟩
theorem lw_p57 : lw_okq (⟨"SnakeMeshModel", "goes", "(I)V"⟩, 17) := ⟨⟨by decide +kernel, by decide +kernel⟩, List.mem_of_getElem? (i := 688) (by decide +kernel), List.mem_of_getElem? (i := 881) (by decide +kernel), List.mem_of_getElem? (i := 882) (by decide +kernel)⟩
theorem lw_p58 : lw_okq (⟨"SnakeMeshModel", "wayTo", "(II)I"⟩, 17) := ⟨⟨by decide +kernel, by decide +kernel⟩, List.mem_of_getElem? (i := 688) (by decide +kernel), List.mem_of_getElem? (i := 885) (by decide +kernel), List.mem_of_getElem? (i := 886) (by decide +kernel)⟩
theorem lw_p59 : lw_okq (⟨"SnakeMeshModel", "holder", "(II)I"⟩, 17) := ⟨⟨by decide +kernel, by decide +kernel⟩, List.mem_of_getElem? (i := 688) (by decide +kernel), List.mem_of_getElem? (i := 889) (by decide +kernel), List.mem_of_getElem? (i := 890) (by decide +kernel)⟩
theorem lw_p60 : lw_okq (⟨"SnakeMeshModel", "isHeldBy", "(III)Z"⟩, 17) := ⟨⟨by decide +kernel, by decide +kernel⟩, List.mem_of_getElem? (i := 688) (by decide +kernel), List.mem_of_getElem? (i := 893) (by decide +kernel), List.mem_of_getElem? (i := 894) (by decide +kernel)⟩
theorem lw_p61 : lw_okq (⟨"SnakeMeshModel", "heldFrom", "(I)I"⟩, 17) := ⟨⟨by decide +kernel, by decide +kernel⟩, List.mem_of_getElem? (i := 688) (by decide +kernel), List.mem_of_getElem? (i := 897) (by decide +kernel), List.mem_of_getElem? (i := 898) (by decide +kernel)⟩
theorem lw_p62 : lw_okq (⟨"SnakeMeshModel", "heldTo", "(I)I"⟩, 17) := ⟨⟨by decide +kernel, by decide +kernel⟩, List.mem_of_getElem? (i := 688) (by decide +kernel), List.mem_of_getElem? (i := 901) (by decide +kernel), List.mem_of_getElem? (i := 902) (by decide +kernel)⟩
theorem lw_p63 : lw_okq (⟨"SnakeMeshModel", "notDone", "()I"⟩, 17) := ⟨⟨by decide +kernel, by decide +kernel⟩, List.mem_of_getElem? (i := 688) (by decide +kernel), List.mem_of_getElem? (i := 905) (by decide +kernel), List.mem_of_getElem? (i := 906) (by decide +kernel)⟩
def lw_privs_4 : List (MethodName × Nat) := [(⟨"SnakeMeshModel", "yOf", "(I)I"⟩, 17), (⟨"SnakeMeshModel", "isDown", "(II)Z"⟩, 17), (⟨"SnakeMeshModel", "putSteps", "(I)I"⟩, 17), (⟨"SnakeMeshModel", "laysWays", "()V"⟩, 17), (⟨"SnakeMeshModel", "laysWay", "(II)V"⟩, 17), (⟨"SnakeMeshModel", "nextOf", "(II)I"⟩, 17), (⟨"SnakeMeshModel", "step", "()V"⟩, 17), (⟨"SnakeMeshModel", "isDone", "(I)Z"⟩, 17), (⟨"SnakeMeshModel", "moves", "(I)I"⟩, 17), (⟨"SnakeMeshModel", "goes", "(I)V"⟩, 17), (⟨"SnakeMeshModel", "wayTo", "(II)I"⟩, 17), (⟨"SnakeMeshModel", "holder", "(II)I"⟩, 17), (⟨"SnakeMeshModel", "isHeldBy", "(III)Z"⟩, 17), (⟨"SnakeMeshModel", "heldFrom", "(I)I"⟩, 17), (⟨"SnakeMeshModel", "heldTo", "(I)I"⟩, 17), (⟨"SnakeMeshModel", "notDone", "()I"⟩, 17)]
theorem lw_r4 : ∀ q ∈ lw_privs_4, lw_okq q := List.forall_mem_cons.mpr ⟨lw_p48, List.forall_mem_cons.mpr ⟨lw_p49, List.forall_mem_cons.mpr ⟨lw_p50, List.forall_mem_cons.mpr ⟨lw_p51, List.forall_mem_cons.mpr ⟨lw_p52, List.forall_mem_cons.mpr ⟨lw_p53, List.forall_mem_cons.mpr ⟨lw_p54, List.forall_mem_cons.mpr ⟨lw_p55, List.forall_mem_cons.mpr ⟨lw_p56, List.forall_mem_cons.mpr ⟨lw_p57, List.forall_mem_cons.mpr ⟨lw_p58, List.forall_mem_cons.mpr ⟨lw_p59, List.forall_mem_cons.mpr ⟨lw_p60, List.forall_mem_cons.mpr ⟨lw_p61, List.forall_mem_cons.mpr ⟨lw_p62, List.forall_mem_cons.mpr ⟨lw_p63, fun _ h => absurd h List.not_mem_nil⟩⟩⟩⟩⟩⟩⟩⟩⟩⟩⟩⟩⟩⟩⟩⟩
theorem lw_p64 : lw_okq (⟨"SnakeMeshModel", "putAgain", "()I"⟩, 17) := ⟨⟨by decide +kernel, by decide +kernel⟩, List.mem_of_getElem? (i := 688) (by decide +kernel), List.mem_of_getElem? (i := 913) (by decide +kernel), List.mem_of_getElem? (i := 914) (by decide +kernel)⟩
theorem lw_p65 : lw_okq (⟨"SnakeMeshModel", "isLabel", "(I)Z"⟩, 17) := ⟨⟨by decide +kernel, by decide +kernel⟩, List.mem_of_getElem? (i := 688) (by decide +kernel), List.mem_of_getElem? (i := 925) (by decide +kernel), List.mem_of_getElem? (i := 926) (by decide +kernel)⟩
theorem lw_p66 : lw_okq (⟨"SnakeMeshModel", "toldOf", "(I)I"⟩, 17) := ⟨⟨by decide +kernel, by decide +kernel⟩, List.mem_of_getElem? (i := 688) (by decide +kernel), List.mem_of_getElem? (i := 929) (by decide +kernel), List.mem_of_getElem? (i := 930) (by decide +kernel)⟩
theorem lw_p67 : lw_okq (⟨"SnakeMeshModel", "farOf", "(II)I"⟩, 17) := ⟨⟨by decide +kernel, by decide +kernel⟩, List.mem_of_getElem? (i := 688) (by decide +kernel), List.mem_of_getElem? (i := 941) (by decide +kernel), List.mem_of_getElem? (i := 942) (by decide +kernel)⟩
theorem lw_p68 : lw_okq (⟨"SnakeMeshModel", "isWorm", "(II)Z"⟩, 17) := ⟨⟨by decide +kernel, by decide +kernel⟩, List.mem_of_getElem? (i := 688) (by decide +kernel), List.mem_of_getElem? (i := 953) (by decide +kernel), List.mem_of_getElem? (i := 954) (by decide +kernel)⟩
theorem lw_p69 : lw_okq (⟨"SnakeMeshModel", "wormTold", "(II)I"⟩, 17) := ⟨⟨by decide +kernel, by decide +kernel⟩, List.mem_of_getElem? (i := 688) (by decide +kernel), List.mem_of_getElem? (i := 957) (by decide +kernel), List.mem_of_getElem? (i := 958) (by decide +kernel)⟩
theorem lw_p70 : lw_okq (⟨"SnakeMeshModel", "arrived", "(I)I"⟩, 17) := ⟨⟨by decide +kernel, by decide +kernel⟩, List.mem_of_getElem? (i := 688) (by decide +kernel), List.mem_of_getElem? (i := 961) (by decide +kernel), List.mem_of_getElem? (i := 962) (by decide +kernel)⟩
theorem lw_p71 : lw_okq (⟨"SnakeMeshModel", "heldMany", "(I)I"⟩, 17) := ⟨⟨by decide +kernel, by decide +kernel⟩, List.mem_of_getElem? (i := 688) (by decide +kernel), List.mem_of_getElem? (i := 965) (by decide +kernel), List.mem_of_getElem? (i := 966) (by decide +kernel)⟩
theorem lw_p72 : lw_okq (⟨"SnakeMeshModel", "downOf", "(I)I"⟩, 17) := ⟨⟨by decide +kernel, by decide +kernel⟩, List.mem_of_getElem? (i := 688) (by decide +kernel), List.mem_of_getElem? (i := 969) (by decide +kernel), List.mem_of_getElem? (i := 970) (by decide +kernel)⟩
theorem lw_p73 : lw_okq (⟨"SnakeMeshModel", "messageTold", "(II)I"⟩, 17) := ⟨⟨by decide +kernel, by decide +kernel⟩, List.mem_of_getElem? (i := 688) (by decide +kernel), List.mem_of_getElem? (i := 985) (by decide +kernel), List.mem_of_getElem? (i := 986) (by decide +kernel)⟩
theorem lw_p74 : lw_okq (⟨"SnakeMeshModel", "whenDone", "(I)I"⟩, 17) := ⟨⟨by decide +kernel, by decide +kernel⟩, List.mem_of_getElem? (i := 688) (by decide +kernel), List.mem_of_getElem? (i := 993) (by decide +kernel), List.mem_of_getElem? (i := 994) (by decide +kernel)⟩
theorem lw_p75 : lw_okq (⟨"SnakeMeshModel", "areDone", "(I)Z"⟩, 17) := ⟨⟨by decide +kernel, by decide +kernel⟩, List.mem_of_getElem? (i := 688) (by decide +kernel), List.mem_of_getElem? (i := 997) (by decide +kernel), List.mem_of_getElem? (i := 998) (by decide +kernel)⟩
theorem lw_p76 : lw_okq (⟨"SnakeMeshModel", "takesBack", "()V"⟩, 17) := ⟨⟨by decide +kernel, by decide +kernel⟩, List.mem_of_getElem? (i := 688) (by decide +kernel), List.mem_of_getElem? (i := 1001) (by decide +kernel), List.mem_of_getElem? (i := 1002) (by decide +kernel)⟩
theorem lw_p77 : lw_okq (⟨"SnakeMeshModel", "countTold", "(I)I"⟩, 17) := ⟨⟨by decide +kernel, by decide +kernel⟩, List.mem_of_getElem? (i := 688) (by decide +kernel), List.mem_of_getElem? (i := 1009) (by decide +kernel), List.mem_of_getElem? (i := 1010) (by decide +kernel)⟩
theorem lw_p78 : lw_okq (⟨"SnakeMeshModel", "isRead", "()Z"⟩, 17) := ⟨⟨by decide +kernel, by decide +kernel⟩, List.mem_of_getElem? (i := 688) (by decide +kernel), List.mem_of_getElem? (i := 1025) (by decide +kernel), List.mem_of_getElem? (i := 1026) (by decide +kernel)⟩
theorem lw_p79 : lw_okq (⟨"SnakeMeshModel", "blanks", "()V"⟩, 17) := ⟨⟨by decide +kernel, by decide +kernel⟩, List.mem_of_getElem? (i := 688) (by decide +kernel), List.mem_of_getElem? (i := 1029) (by decide +kernel), List.mem_of_getElem? (i := 1030) (by decide +kernel)⟩
def lw_privs_5 : List (MethodName × Nat) := [(⟨"SnakeMeshModel", "putAgain", "()I"⟩, 17), (⟨"SnakeMeshModel", "isLabel", "(I)Z"⟩, 17), (⟨"SnakeMeshModel", "toldOf", "(I)I"⟩, 17), (⟨"SnakeMeshModel", "farOf", "(II)I"⟩, 17), (⟨"SnakeMeshModel", "isWorm", "(II)Z"⟩, 17), (⟨"SnakeMeshModel", "wormTold", "(II)I"⟩, 17), (⟨"SnakeMeshModel", "arrived", "(I)I"⟩, 17), (⟨"SnakeMeshModel", "heldMany", "(I)I"⟩, 17), (⟨"SnakeMeshModel", "downOf", "(I)I"⟩, 17), (⟨"SnakeMeshModel", "messageTold", "(II)I"⟩, 17), (⟨"SnakeMeshModel", "whenDone", "(I)I"⟩, 17), (⟨"SnakeMeshModel", "areDone", "(I)Z"⟩, 17), (⟨"SnakeMeshModel", "takesBack", "()V"⟩, 17), (⟨"SnakeMeshModel", "countTold", "(I)I"⟩, 17), (⟨"SnakeMeshModel", "isRead", "()Z"⟩, 17), (⟨"SnakeMeshModel", "blanks", "()V"⟩, 17)]
theorem lw_r5 : ∀ q ∈ lw_privs_5, lw_okq q := List.forall_mem_cons.mpr ⟨lw_p64, List.forall_mem_cons.mpr ⟨lw_p65, List.forall_mem_cons.mpr ⟨lw_p66, List.forall_mem_cons.mpr ⟨lw_p67, List.forall_mem_cons.mpr ⟨lw_p68, List.forall_mem_cons.mpr ⟨lw_p69, List.forall_mem_cons.mpr ⟨lw_p70, List.forall_mem_cons.mpr ⟨lw_p71, List.forall_mem_cons.mpr ⟨lw_p72, List.forall_mem_cons.mpr ⟨lw_p73, List.forall_mem_cons.mpr ⟨lw_p74, List.forall_mem_cons.mpr ⟨lw_p75, List.forall_mem_cons.mpr ⟨lw_p76, List.forall_mem_cons.mpr ⟨lw_p77, List.forall_mem_cons.mpr ⟨lw_p78, List.forall_mem_cons.mpr ⟨lw_p79, fun _ h => absurd h List.not_mem_nil⟩⟩⟩⟩⟩⟩⟩⟩⟩⟩⟩⟩⟩⟩⟩⟩
theorem lw_p80 : lw_okq (⟨"SnakeMeshModel", "isAt", "(II)Z"⟩, 17) := ⟨⟨by decide +kernel, by decide +kernel⟩, List.mem_of_getElem? (i := 688) (by decide +kernel), List.mem_of_getElem? (i := 1033) (by decide +kernel), List.mem_of_getElem? (i := 1034) (by decide +kernel)⟩
theorem lw_p81 : lw_okq (⟨"SnakeMeshModel", "takesOrder", "()Z"⟩, 17) := ⟨⟨by decide +kernel, by decide +kernel⟩, List.mem_of_getElem? (i := 688) (by decide +kernel), List.mem_of_getElem? (i := 1037) (by decide +kernel), List.mem_of_getElem? (i := 1038) (by decide +kernel)⟩
theorem lw_p82 : lw_okq (⟨"SnakeMeshModel", "fails", "()Z"⟩, 17) := ⟨⟨by decide +kernel, by decide +kernel⟩, List.mem_of_getElem? (i := 688) (by decide +kernel), List.mem_of_getElem? (i := 1044) (by decide +kernel), List.mem_of_getElem? (i := 1045) (by decide +kernel)⟩
theorem lw_p83 : lw_okq (⟨"SnakeMeshModel", "takesNumber", "(I)Z"⟩, 17) := ⟨⟨by decide +kernel, by decide +kernel⟩, List.mem_of_getElem? (i := 688) (by decide +kernel), List.mem_of_getElem? (i := 1048) (by decide +kernel), List.mem_of_getElem? (i := 1049) (by decide +kernel)⟩
theorem lw_p84 : lw_okq (⟨"SnakeMeshModel", "doneOne", "(I)I"⟩, 17) := ⟨⟨by decide +kernel, by decide +kernel⟩, List.mem_of_getElem? (i := 688) (by decide +kernel), List.mem_of_getElem? (i := 1052) (by decide +kernel), List.mem_of_getElem? (i := 1053) (by decide +kernel)⟩
theorem lw_p85 : lw_okq (⟨"SnakeMeshModel", "toldAt", "(I)I"⟩, 17) := ⟨⟨by decide +kernel, by decide +kernel⟩, List.mem_of_getElem? (i := 688) (by decide +kernel), List.mem_of_getElem? (i := 1060) (by decide +kernel), List.mem_of_getElem? (i := 1061) (by decide +kernel)⟩
theorem lw_p86 : lw_okq (⟨"SnakeMeshModel", "mix", "(J)V"⟩, 17) := ⟨⟨by decide +kernel, by decide +kernel⟩, List.mem_of_getElem? (i := 688) (by decide +kernel), List.mem_of_getElem? (i := 1069) (by decide +kernel), List.mem_of_getElem? (i := 1070) (by decide +kernel)⟩
theorem lw_p87 : lw_okq (⟨"SnakeMeshModel", "mixMessage", "(I)V"⟩, 17) := ⟨⟨by decide +kernel, by decide +kernel⟩, List.mem_of_getElem? (i := 688) (by decide +kernel), List.mem_of_getElem? (i := 1074) (by decide +kernel), List.mem_of_getElem? (i := 1075) (by decide +kernel)⟩
def lw_privs_6 : List (MethodName × Nat) := [(⟨"SnakeMeshModel", "isAt", "(II)Z"⟩, 17), (⟨"SnakeMeshModel", "takesOrder", "()Z"⟩, 17), (⟨"SnakeMeshModel", "fails", "()Z"⟩, 17), (⟨"SnakeMeshModel", "takesNumber", "(I)Z"⟩, 17), (⟨"SnakeMeshModel", "doneOne", "(I)I"⟩, 17), (⟨"SnakeMeshModel", "toldAt", "(I)I"⟩, 17), (⟨"SnakeMeshModel", "mix", "(J)V"⟩, 17), (⟨"SnakeMeshModel", "mixMessage", "(I)V"⟩, 17)]
theorem lw_r6 : ∀ q ∈ lw_privs_6, lw_okq q := List.forall_mem_cons.mpr ⟨lw_p80, List.forall_mem_cons.mpr ⟨lw_p81, List.forall_mem_cons.mpr ⟨lw_p82, List.forall_mem_cons.mpr ⟨lw_p83, List.forall_mem_cons.mpr ⟨lw_p84, List.forall_mem_cons.mpr ⟨lw_p85, List.forall_mem_cons.mpr ⟨lw_p86, List.forall_mem_cons.mpr ⟨lw_p87, fun _ h => absurd h List.not_mem_nil⟩⟩⟩⟩⟩⟩⟩⟩
def lw_privs : List (MethodName × Nat) := lw_privs_1 ++ (lw_privs_2 ++ (lw_privs_3 ++ (lw_privs_4 ++ (lw_privs_5 ++ (lw_privs_6)))))
def lw_tbl : List Cond := k2_sels lw_privs ++ tables_1
theorem lw_privs_ok : ∀ q ∈ lw_privs, lw_okq q := by
  show ∀ q ∈ lw_privs_1 ++ (lw_privs_2 ++ (lw_privs_3 ++ (lw_privs_4 ++ (lw_privs_5 ++ (lw_privs_6))))), lw_okq q
  exact List.forall_mem_append.mpr ⟨lw_r1, List.forall_mem_append.mpr ⟨lw_r2, List.forall_mem_append.mpr ⟨lw_r3, List.forall_mem_append.mpr ⟨lw_r4, List.forall_mem_append.mpr ⟨lw_r5, lw_r6⟩⟩⟩⟩⟩
-- the words that stay true from state to state: every contract takes all of them
def wAll : List Cond := lw_tbl.filter goodWord
end
section
def RX0 : String := "SnakeMesh$Grid"
def TX0 : u_T := fun k => match k with
  | 0 => ("SnakeMesh$Grid", "wide", "I", false)
  | 1 => ("SnakeMesh$Grid", "high", "I", false)
  | 2 => ("SnakeMesh$Grid", "xs", "[I", true)
  | 3 => ("SnakeMesh$Grid", "ys", "[I", true)
  | _ => ("SnakeMesh$Grid", "ends", "[I", true)
def tyX0 : Nat → FieldType := fun k => match k with
  | 0 => .int
  | 1 => .int
  | 2 => .array .int
  | 3 => .array .int
  | _ => .array .int
abbrev wsX00 : List Cond := u_ws RX0 TX0 5
theorem nmX0 : ∀ a, a < 5 → ∀ b, b < 5 → a ≠ b → (TX0 a).2.1 ≠ (TX0 b).2.1 := by decide +kernel
theorem tyX0_ok : ∀ k, k < 5 → parseFieldDescriptor (TX0 k).2.2.1 = some (tyX0 k) := by decide +kernel
abbrev cX0_init : ByteArray := prog_2_method_1_code
def yX0_init : MethodName := ⟨RX0, "<init>", "()V"⟩
abbrev cX0_lay : ByteArray := prog_2_method_2_code
def yX0_lay : MethodName := ⟨RX0, "lay", "(II)V"⟩
abbrev cX0_layPlace : ByteArray := prog_2_method_3_code
def yX0_layPlace : MethodName := ⟨RX0, "layPlace", "(II)V"⟩
abbrev cX0_places : ByteArray := prog_2_method_4_code
def yX0_places : MethodName := ⟨RX0, "places", "()I"⟩
abbrev cX0_has : ByteArray := prog_2_method_5_code
def yX0_has : MethodName := ⟨RX0, "has", "(II)Z"⟩
abbrev cX0_hasLabel : ByteArray := prog_2_method_6_code
def yX0_hasLabel : MethodName := ⟨RX0, "hasLabel", "(I)Z"⟩
abbrev cX0_labelAt : ByteArray := prog_2_method_7_code
def yX0_labelAt : MethodName := ⟨RX0, "labelAt", "(II)I"⟩
abbrev cX0_xOf : ByteArray := prog_2_method_8_code
def yX0_xOf : MethodName := ⟨RX0, "xOf", "(I)I"⟩
abbrev cX0_yOf : ByteArray := prog_2_method_9_code
def yX0_yOf : MethodName := ⟨RX0, "yOf", "(I)I"⟩
abbrev cX0_tell : ByteArray := prog_2_method_10_code
def yX0_tell : MethodName := ⟨RX0, "tell", "(I)I"⟩
abbrev cX0_endOf : ByteArray := prog_2_method_11_code
def yX0_endOf : MethodName := ⟨RX0, "endOf", "(I)I"⟩
abbrev cX0_channelAt : ByteArray := prog_2_method_12_code
def yX0_channelAt : MethodName := ⟨RX0, "channelAt", "(III)I"⟩
abbrev cX0_channelTowards : ByteArray := prog_2_method_13_code
def yX0_channelTowards : MethodName := ⟨RX0, "channelTowards", "(II)I"⟩
abbrev cX0_distance : ByteArray := prog_2_method_14_code
def yX0_distance : MethodName := ⟨RX0, "distance", "(II)I"⟩
def RX1 : String := "SnakeMesh$History"
def TX1 : u_T := fun k => match k with
  | 0 => ("SnakeMesh$History", "kept", "[LSnakeMesh$State;", true)
  | 1 => ("SnakeMesh$History", "top", "I", false)
  | _ => ("SnakeMesh$History", "held", "I", false)
def tyX1 : Nat → FieldType := fun k => match k with
  | 0 => .array (.object "SnakeMesh$State")
  | 1 => .int
  | _ => .int
abbrev wsX10 : List Cond := u_ws RX1 TX1 3
theorem nmX1 : ∀ a, a < 3 → ∀ b, b < 3 → a ≠ b → (TX1 a).2.1 ≠ (TX1 b).2.1 := by decide +kernel
theorem tyX1_ok : ∀ k, k < 3 → parseFieldDescriptor (TX1 k).2.2.1 = some (tyX1 k) := by decide +kernel
abbrev cX1_init : ByteArray := prog_3_method_1_code
def yX1_init : MethodName := ⟨RX1, "<init>", "()V"⟩
abbrev cX1_size : ByteArray := prog_3_method_2_code
def yX1_size : MethodName := ⟨RX1, "size", "()I"⟩
abbrev cX1_push : ByteArray := prog_3_method_3_code
def yX1_push : MethodName := ⟨RX1, "push", "(LSnakeMesh$State;)V"⟩
abbrev cX1_popInto : ByteArray := prog_3_method_4_code
def yX1_popInto : MethodName := ⟨RX1, "popInto", "(LSnakeMesh$State;)Z"⟩
def RX2 : String := "SnakeMesh$State"
def TX2 : u_T := fun k => match k with
  | 0 => ("SnakeMesh$State", "wide", "I", false)
  | 1 => ("SnakeMesh$State", "high", "I", false)
  | 2 => ("SnakeMesh$State", "stepped", "I", false)
  | 3 => ("SnakeMesh$State", "messages", "I", false)
  | 4 => ("SnakeMesh$State", "down", "[I", true)
  | 5 => ("SnakeMesh$State", "source", "[I", true)
  | 6 => ("SnakeMesh$State", "length", "[I", true)
  | 7 => ("SnakeMesh$State", "goals", "[J", true)
  | 8 => ("SnakeMesh$State", "moves", "[I", true)
  | _ => ("SnakeMesh$State", "waited", "[I", true)
def tyX2 : Nat → FieldType := fun k => match k with
  | 0 => .int
  | 1 => .int
  | 2 => .int
  | 3 => .int
  | 4 => .array .int
  | 5 => .array .int
  | 6 => .array .int
  | 7 => .array .long
  | 8 => .array .int
  | _ => .array .int
abbrev wsX20 : List Cond := u_ws RX2 TX2 10
theorem nmX2 : ∀ a, a < 10 → ∀ b, b < 10 → a ≠ b → (TX2 a).2.1 ≠ (TX2 b).2.1 := by decide +kernel
theorem tyX2_ok : ∀ k, k < 10 → parseFieldDescriptor (TX2 k).2.2.1 = some (tyX2 k) := by decide +kernel
abbrev cX2_init : ByteArray := prog_4_method_1_code
def yX2_init : MethodName := ⟨RX2, "<init>", "()V"⟩
abbrev cX2_begin : ByteArray := prog_4_method_2_code
def yX2_begin : MethodName := ⟨RX2, "begin", "(II)V"⟩
abbrev cX2_standStill : ByteArray := prog_4_method_3_code
def yX2_standStill : MethodName := ⟨RX2, "standStill", "()V"⟩
abbrev cX2_copyFrom : ByteArray := prog_4_method_4_code
def yX2_copyFrom : MethodName := ⟨RX2, "copyFrom", "(LSnakeMesh$State;)V"⟩
abbrev cX2_addMessage : ByteArray := prog_4_method_5_code
def yX2_addMessage : MethodName := ⟨RX2, "addMessage", "(II)I"⟩
abbrev cX2_worms : ByteArray := prog_4_method_6_code
def yX2_worms : MethodName := ⟨RX2, "worms", "()I"⟩
abbrev cX2_lengthOf : ByteArray := prog_4_method_7_code
def yX2_lengthOf : MethodName := ⟨RX2, "lengthOf", "(I)I"⟩
abbrev cX2_sourceOf : ByteArray := prog_4_method_8_code
def yX2_sourceOf : MethodName := ⟨RX2, "sourceOf", "(I)I"⟩
abbrev cX2_rises : ByteArray := prog_4_method_9_code
def yX2_rises : MethodName := ⟨RX2, "rises", "(I)Z"⟩
abbrev cX2_goalsOfWorm : ByteArray := prog_4_method_10_code
def yX2_goalsOfWorm : MethodName := ⟨RX2, "goalsOfWorm", "(I)J"⟩
abbrev cX2_isDown : ByteArray := prog_4_method_11_code
def yX2_isDown : MethodName := ⟨RX2, "isDown", "(I)Z"⟩
abbrev cX2_turn : ByteArray := prog_4_method_12_code
def yX2_turn : MethodName := ⟨RX2, "turn", "(I)V"⟩
abbrev cX2_channelsDown : ByteArray := prog_4_method_13_code
def yX2_channelsDown : MethodName := ⟨RX2, "channelsDown", "()I"⟩
abbrev cX2_waitedInAll : ByteArray := prog_4_method_14_code
def yX2_waitedInAll : MethodName := ⟨RX2, "waitedInAll", "()I"⟩
def RX3 : String := "SnakeMesh$Text"
def TX3 : u_T := fun k => match k with
  | 0 => ("SnakeMesh$Text", "bytes", "[I", true)
  | 1 => ("SnakeMesh$Text", "typed", "I", false)
  | 2 => ("SnakeMesh$Text", "letters", "[I", true)
  | 3 => ("SnakeMesh$Text", "numbers", "[I", true)
  | 4 => ("SnakeMesh$Text", "found", "I", false)
  | _ => ("SnakeMesh$Text", "spot", "I", false)
def tyX3 : Nat → FieldType := fun k => match k with
  | 0 => .array .int
  | 1 => .int
  | 2 => .array .int
  | 3 => .array .int
  | 4 => .int
  | _ => .int
abbrev wsX30 : List Cond := u_ws RX3 TX3 6
theorem nmX3 : ∀ a, a < 6 → ∀ b, b < 6 → a ≠ b → (TX3 a).2.1 ≠ (TX3 b).2.1 := by decide +kernel
theorem tyX3_ok : ∀ k, k < 6 → parseFieldDescriptor (TX3 k).2.2.1 = some (tyX3 k) := by decide +kernel
abbrev cX3_init : ByteArray := prog_5_method_1_code
def yX3_init : MethodName := ⟨RX3, "<init>", "()V"⟩
abbrev cX3_add : ByteArray := prog_5_method_2_code
def yX3_add : MethodName := ⟨RX3, "add", "(I)Z"⟩
abbrev cX3_empty : ByteArray := prog_5_method_3_code
def yX3_empty : MethodName := ⟨RX3, "empty", "()I"⟩
abbrev cX3_size : ByteArray := prog_5_method_4_code
def yX3_size : MethodName := ⟨RX3, "size", "()I"⟩
abbrev cX3_orders : ByteArray := prog_5_method_5_code
def yX3_orders : MethodName := ⟨RX3, "orders", "()I"⟩
abbrev cX3_letterOf : ByteArray := prog_5_method_6_code
def yX3_letterOf : MethodName := ⟨RX3, "letterOf", "(I)I"⟩
abbrev cX3_numberOf : ByteArray := prog_5_method_7_code
def yX3_numberOf : MethodName := ⟨RX3, "numberOf", "(II)I"⟩
abbrev cX3_read : ByteArray := prog_5_method_8_code
def yX3_read : MethodName := ⟨RX3, "read", "()I"⟩
abbrev cX3_readOrder : ByteArray := prog_5_method_9_code
def yX3_readOrder : MethodName := ⟨RX3, "readOrder", "()Z"⟩
abbrev cX3_readNumber : ByteArray := prog_5_method_10_code
def yX3_readNumber : MethodName := ⟨RX3, "readNumber", "(I)Z"⟩
abbrev cX3_numbersDue : ByteArray := prog_5_method_11_code
def yX3_numbersDue : MethodName := ⟨RX3, "numbersDue", "(I)I"⟩
abbrev cX3_isFigure : ByteArray := prog_5_method_12_code
def yX3_isFigure : MethodName := ⟨RX3, "isFigure", "(I)Z"⟩
abbrev cX3_passBlanks : ByteArray := prog_5_method_13_code
def yX3_passBlanks : MethodName := ⟨RX3, "passBlanks", "()V"⟩
abbrev cX3_byteHere : ByteArray := prog_5_method_14_code
def yX3_byteHere : MethodName := ⟨RX3, "byteHere", "()I"⟩
def RX4 : String := "SnakeMesh$Traffic"
def TX4 : u_T := fun k => match k with
  | 0 => ("SnakeMesh$Traffic", "ways", "LSnakeMesh$Ways;", true)
  | _ => ("SnakeMesh$Traffic", "taken", "[Z", true)
def tyX4 : Nat → FieldType := fun k => match k with
  | 0 => .object "SnakeMesh$Ways"
  | _ => .array .boolean
abbrev wsX40 : List Cond := u_ws RX4 TX4 2
theorem nmX4 : ∀ a, a < 2 → ∀ b, b < 2 → a ≠ b → (TX4 a).2.1 ≠ (TX4 b).2.1 := by decide +kernel
theorem tyX4_ok : ∀ k, k < 2 → parseFieldDescriptor (TX4 k).2.2.1 = some (tyX4 k) := by decide +kernel
abbrev cX4_init : ByteArray := prog_6_method_1_code
def yX4_init : MethodName := ⟨RX4, "<init>", "(LSnakeMesh$Ways;)V"⟩
abbrev cX4_enter : ByteArray := prog_6_method_2_code
def yX4_enter : MethodName := ⟨RX4, "enter", "(LSnakeMesh$State;)V"⟩
abbrev cX4_run : ByteArray := prog_6_method_3_code
def yX4_run : MethodName := ⟨RX4, "run", "(LSnakeMesh$State;I)V"⟩
abbrev cX4_stepOnce : ByteArray := prog_6_method_4_code
def yX4_stepOnce : MethodName := ⟨RX4, "stepOnce", "(LSnakeMesh$State;)Z"⟩
abbrev cX4_isStopped : ByteArray := prog_6_method_5_code
def yX4_isStopped : MethodName := ⟨RX4, "isStopped", "(LSnakeMesh$State;I)Z"⟩
abbrev cX4_moveOn : ByteArray := prog_6_method_6_code
def yX4_moveOn : MethodName := ⟨RX4, "moveOn", "(LSnakeMesh$State;I)V"⟩
abbrev cX4_waitFor : ByteArray := prog_6_method_7_code
def yX4_waitFor : MethodName := ⟨RX4, "waitFor", "(LSnakeMesh$State;I)V"⟩
def RX5 : String := "SnakeMesh$Ways"
def TX5 : u_T := fun k => match k with
  | 0 => ("SnakeMesh$Ways", "lengths", "[I", true)
  | 1 => ("SnakeMesh$Ways", "places", "[[I", true)
  | _ => ("SnakeMesh$Ways", "channels", "[[I", true)
def tyX5 : Nat → FieldType := fun k => match k with
  | 0 => .array .int
  | 1 => .array (.array .int)
  | _ => .array (.array .int)
abbrev wsX50 : List Cond := u_ws RX5 TX5 3
theorem nmX5 : ∀ a, a < 3 → ∀ b, b < 3 → a ≠ b → (TX5 a).2.1 ≠ (TX5 b).2.1 := by decide +kernel
theorem tyX5_ok : ∀ k, k < 3 → parseFieldDescriptor (TX5 k).2.2.1 = some (tyX5 k) := by decide +kernel
abbrev cX5_init : ByteArray := prog_7_method_1_code
def yX5_init : MethodName := ⟨RX5, "<init>", "()V"⟩
abbrev cX5_lay : ByteArray := prog_7_method_2_code
def yX5_lay : MethodName := ⟨RX5, "lay", "(LSnakeMesh$Grid;LSnakeMesh$State;I)V"⟩
abbrev cX5_layTo : ByteArray := prog_7_method_3_code
def yX5_layTo : MethodName := ⟨RX5, "layTo", "(LSnakeMesh$Grid;II)V"⟩
abbrev cX5_channelsOf : ByteArray := prog_7_method_4_code
def yX5_channelsOf : MethodName := ⟨RX5, "channelsOf", "(I)I"⟩
abbrev cX5_placeOf : ByteArray := prog_7_method_5_code
def yX5_placeOf : MethodName := ⟨RX5, "placeOf", "(II)I"⟩
abbrev cX5_channelOf : ByteArray := prog_7_method_6_code
def yX5_channelOf : MethodName := ⟨RX5, "channelOf", "(II)I"⟩
abbrev cX5_goalOf : ByteArray := prog_7_method_7_code
def yX5_goalOf : MethodName := ⟨RX5, "goalOf", "(LSnakeMesh$State;II)I"⟩
abbrev cX5_headOf : ByteArray := prog_7_method_8_code
def yX5_headOf : MethodName := ⟨RX5, "headOf", "(LSnakeMesh$State;I)I"⟩
abbrev cX5_tailOf : ByteArray := prog_7_method_9_code
def yX5_tailOf : MethodName := ⟨RX5, "tailOf", "(LSnakeMesh$State;I)I"⟩
abbrev cX5_arrived : ByteArray := prog_7_method_10_code
def yX5_arrived : MethodName := ⟨RX5, "arrived", "(LSnakeMesh$State;I)I"⟩
abbrev cX5_isDone : ByteArray := prog_7_method_11_code
def yX5_isDone : MethodName := ⟨RX5, "isDone", "(LSnakeMesh$State;I)Z"⟩
abbrev cX5_channelsDown : ByteArray := prog_7_method_12_code
def yX5_channelsDown : MethodName := ⟨RX5, "channelsDown", "(LSnakeMesh$State;I)I"⟩
abbrev cX5_undone : ByteArray := prog_7_method_13_code
def yX5_undone : MethodName := ⟨RX5, "undone", "(LSnakeMesh$State;I)I"⟩
abbrev cX5_channelsHeld : ByteArray := prog_7_method_14_code
def yX5_channelsHeld : MethodName := ⟨RX5, "channelsHeld", "(LSnakeMesh$State;)I"⟩
abbrev cX5_holderOf : ByteArray := prog_7_method_15_code
def yX5_holderOf : MethodName := ⟨RX5, "holderOf", "(LSnakeMesh$State;I)I"⟩
def RX6 : String := "SnakeMesh"
def TX6 : u_T := fun k => match k with
  | 0 => ("SnakeMesh", "now", "LSnakeMesh$State;", true)
  | 1 => ("SnakeMesh", "before", "LSnakeMesh$State;", true)
  | 2 => ("SnakeMesh", "ahead", "LSnakeMesh$State;", true)
  | 3 => ("SnakeMesh", "history", "LSnakeMesh$History;", true)
  | 4 => ("SnakeMesh", "grid", "LSnakeMesh$Grid;", true)
  | 5 => ("SnakeMesh", "ways", "LSnakeMesh$Ways;", true)
  | 6 => ("SnakeMesh", "traffic", "LSnakeMesh$Traffic;", true)
  | 7 => ("SnakeMesh", "text", "LSnakeMesh$Text;", true)
  | 8 => ("SnakeMesh", "refusedBad", "I", false)
  | 9 => ("SnakeMesh", "refusedNo", "I", false)
  | _ => ("SnakeMesh", "refusedFull", "I", false)
def tyX6 : Nat → FieldType := fun k => match k with
  | 0 => .object "SnakeMesh$State"
  | 1 => .object "SnakeMesh$State"
  | 2 => .object "SnakeMesh$State"
  | 3 => .object "SnakeMesh$History"
  | 4 => .object "SnakeMesh$Grid"
  | 5 => .object "SnakeMesh$Ways"
  | 6 => .object "SnakeMesh$Traffic"
  | 7 => .object "SnakeMesh$Text"
  | 8 => .int
  | 9 => .int
  | _ => .int
abbrev wsX60 : List Cond := u_ws RX6 TX6 11
theorem nmX6 : ∀ a, a < 11 → ∀ b, b < 11 → a ≠ b → (TX6 a).2.1 ≠ (TX6 b).2.1 := by decide +kernel
theorem tyX6_ok : ∀ k, k < 11 → parseFieldDescriptor (TX6 k).2.2.1 = some (tyX6 k) := by decide +kernel
abbrev cX6_init : ByteArray := prog_1_method_1_code
def yX6_init : MethodName := ⟨RX6, "<init>", "()V"⟩
abbrev cX6_mesh : ByteArray := prog_1_method_2_code
def yX6_mesh : MethodName := ⟨RX6, "mesh", "(II)I"⟩
abbrev cX6_message : ByteArray := prog_1_method_3_code
def yX6_message : MethodName := ⟨RX6, "message", "(III)I"⟩
abbrev cX6_goal : ByteArray := prog_1_method_4_code
def yX6_goal : MethodName := ⟨RX6, "goal", "(III)I"⟩
abbrev cX6_turns : ByteArray := prog_1_method_5_code
def yX6_turns : MethodName := ⟨RX6, "turns", "(III)I"⟩
abbrev cX6_steps : ByteArray := prog_1_method_6_code
def yX6_steps : MethodName := ⟨RX6, "steps", "(I)I"⟩
abbrev cX6_again : ByteArray := prog_1_method_7_code
def yX6_again : MethodName := ⟨RX6, "again", "()I"⟩
abbrev cX6_label : ByteArray := prog_1_method_8_code
def yX6_label : MethodName := ⟨RX6, "label", "(II)I"⟩
abbrev cX6_place : ByteArray := prog_1_method_9_code
def yX6_place : MethodName := ⟨RX6, "place", "(I)I"⟩
abbrev cX6_next : ByteArray := prog_1_method_10_code
def yX6_next : MethodName := ⟨RX6, "next", "(IIII)I"⟩
abbrev cX6_far : ByteArray := prog_1_method_11_code
def yX6_far : MethodName := ⟨RX6, "far", "(IIII)I"⟩
abbrev cX6_holds : ByteArray := prog_1_method_12_code
def yX6_holds : MethodName := ⟨RX6, "holds", "(III)I"⟩
abbrev cX6_worm : ByteArray := prog_1_method_13_code
def yX6_worm : MethodName := ⟨RX6, "worm", "(III)I"⟩
abbrev cX6_way : ByteArray := prog_1_method_14_code
def yX6_way : MethodName := ⟨RX6, "way", "(III)I"⟩
abbrev cX6_goalAt : ByteArray := prog_1_method_15_code
def yX6_goalAt : MethodName := ⟨RX6, "goalAt", "(III)I"⟩
abbrev cX6_of : ByteArray := prog_1_method_16_code
def yX6_of : MethodName := ⟨RX6, "of", "(II)I"⟩
abbrev cX6_when : ByteArray := prog_1_method_17_code
def yX6_when : MethodName := ⟨RX6, "when", "(I)I"⟩
abbrev cX6_count : ByteArray := prog_1_method_18_code
def yX6_count : MethodName := ⟨RX6, "count", "(I)I"⟩
abbrev cX6_type : ByteArray := prog_1_method_19_code
def yX6_type : MethodName := ⟨RX6, "type", "(I)I"⟩
abbrev cX6_clear : ByteArray := prog_1_method_20_code
def yX6_clear : MethodName := ⟨RX6, "clear", "()I"⟩
abbrev cX6_does : ByteArray := prog_1_method_21_code
def yX6_does : MethodName := ⟨RX6, "does", "()I"⟩
abbrev cX6_back : ByteArray := prog_1_method_22_code
def yX6_back : MethodName := ⟨RX6, "back", "()I"⟩
abbrev cX6_told : ByteArray := prog_1_method_23_code
def yX6_told : MethodName := ⟨RX6, "told", "(I)I"⟩
abbrev cX6_digest : ByteArray := prog_1_method_24_code
def yX6_digest : MethodName := ⟨RX6, "digest", "()J"⟩
abbrev cX6_digestMessage : ByteArray := prog_1_method_25_code
def yX6_digestMessage : MethodName := ⟨RX6, "digestMessage", "(JI)J"⟩
abbrev cX6_refuse : ByteArray := prog_1_method_26_code
def yX6_refuse : MethodName := ⟨RX6, "refuse", "(I)I"⟩
abbrev cX6_settle : ByteArray := prog_1_method_27_code
def yX6_settle : MethodName := ⟨RX6, "settle", "(I)I"⟩
abbrev cX6_perform : ByteArray := prog_1_method_28_code
def yX6_perform : MethodName := ⟨RX6, "perform", "(IIII)I"⟩
abbrev cX6_makeMesh : ByteArray := prog_1_method_29_code
def yX6_makeMesh : MethodName := ⟨RX6, "makeMesh", "(II)I"⟩
abbrev cX6_addMessage : ByteArray := prog_1_method_30_code
def yX6_addMessage : MethodName := ⟨RX6, "addMessage", "(III)I"⟩
abbrev cX6_turnGoal : ByteArray := prog_1_method_31_code
def yX6_turnGoal : MethodName := ⟨RX6, "turnGoal", "(III)I"⟩
abbrev cX6_turnChannel : ByteArray := prog_1_method_32_code
def yX6_turnChannel : MethodName := ⟨RX6, "turnChannel", "(III)I"⟩
abbrev cX6_goSteps : ByteArray := prog_1_method_33_code
def yX6_goSteps : MethodName := ⟨RX6, "goSteps", "(I)I"⟩
abbrev cX6_startAgain : ByteArray := prog_1_method_34_code
def yX6_startAgain : MethodName := ⟨RX6, "startAgain", "()I"⟩
abbrev cX6_hasMessage : ByteArray := prog_1_method_35_code
def yX6_hasMessage : MethodName := ⟨RX6, "hasMessage", "(I)Z"⟩
abbrev cX6_hasWorm : ByteArray := prog_1_method_36_code
def yX6_hasWorm : MethodName := ⟨RX6, "hasWorm", "(II)Z"⟩
abbrev cX6_wormFact : ByteArray := prog_1_method_37_code
def yX6_wormFact : MethodName := ⟨RX6, "wormFact", "(II)I"⟩
abbrev cX6_messageFact : ByteArray := prog_1_method_38_code
def yX6_messageFact : MethodName := ⟨RX6, "messageFact", "(II)I"⟩
abbrev cX6_straightWays : ByteArray := prog_1_method_39_code
def yX6_straightWays : MethodName := ⟨RX6, "straightWays", "(I)I"⟩
abbrev cX6_countFact : ByteArray := prog_1_method_40_code
def yX6_countFact : MethodName := ⟨RX6, "countFact", "(I)I"⟩
abbrev cX6_messagesDone : ByteArray := prog_1_method_41_code
def yX6_messagesDone : MethodName := ⟨RX6, "messagesDone", "()I"⟩
abbrev cX6_toldFact : ByteArray := prog_1_method_42_code
def yX6_toldFact : MethodName := ⟨RX6, "toldFact", "(I)I"⟩
abbrev cX6_stepsUntilDone : ByteArray := prog_1_method_43_code
def yX6_stepsUntilDone : MethodName := ⟨RX6, "stepsUntilDone", "(I)I"⟩
abbrev cX6_layAll : ByteArray := prog_1_method_44_code
def yX6_layAll : MethodName := ⟨RX6, "layAll", "()V"⟩
abbrev cX6_layMessage : ByteArray := prog_1_method_45_code
def yX6_layMessage : MethodName := ⟨RX6, "layMessage", "(I)V"⟩
def RX7 : String := "SnakeMeshModel"
def TX7 : u_T := fun k => match k with
  | 0 => ("SnakeMeshModel", "now", "[I", true)
  | 1 => ("SnakeMeshModel", "aside", "[I", true)
  | 2 => ("SnakeMeshModel", "past", "[I", true)
  | 3 => ("SnakeMeshModel", "states", "I", false)
  | 4 => ("SnakeMeshModel", "refusals", "[I", true)
  | 5 => ("SnakeMeshModel", "text", "[I", true)
  | 6 => ("SnakeMeshModel", "bytes", "I", false)
  | 7 => ("SnakeMeshModel", "ways", "[I", true)
  | 8 => ("SnakeMeshModel", "wayLong", "[I", true)
  | 9 => ("SnakeMeshModel", "goalMany", "[I", true)
  | 10 => ("SnakeMeshModel", "goalAtWay", "[I", true)
  | 11 => ("SnakeMeshModel", "letters", "[I", true)
  | 12 => ("SnakeMeshModel", "numbers", "[I", true)
  | 13 => ("SnakeMeshModel", "orders", "I", false)
  | 14 => ("SnakeMeshModel", "spot", "I", false)
  | 15 => ("SnakeMeshModel", "wrongAt", "I", false)
  | _ => ("SnakeMeshModel", "hash", "J", false)
def tyX7 : Nat → FieldType := fun k => match k with
  | 0 => .array .int
  | 1 => .array .int
  | 2 => .array .int
  | 3 => .int
  | 4 => .array .int
  | 5 => .array .int
  | 6 => .int
  | 7 => .array .int
  | 8 => .array .int
  | 9 => .array .int
  | 10 => .array .int
  | 11 => .array .int
  | 12 => .array .int
  | 13 => .int
  | 14 => .int
  | 15 => .int
  | _ => .long
abbrev wsX70 : List Cond := u_ws RX7 TX7 17
theorem nmX7 : ∀ a, a < 17 → ∀ b, b < 17 → a ≠ b → (TX7 a).2.1 ≠ (TX7 b).2.1 := by decide +kernel
theorem tyX7_ok : ∀ k, k < 17 → parseFieldDescriptor (TX7 k).2.2.1 = some (tyX7 k) := by decide +kernel
abbrev cX7_init : ByteArray := prog_9_method_1_code
def yX7_init : MethodName := ⟨RX7, "<init>", "()V"⟩
abbrev cX7_in : ByteArray := prog_9_method_3_code
def yX7_in : MethodName := ⟨RX7, "in", "(III)Z"⟩
abbrev cX7_refuses : ByteArray := prog_9_method_4_code
def yX7_refuses : MethodName := ⟨RX7, "refuses", "(I)I"⟩
abbrev cX7_laysAside : ByteArray := prog_9_method_5_code
def yX7_laysAside : MethodName := ⟨RX7, "laysAside", "()V"⟩
abbrev cX7_takesBack : ByteArray := prog_9_method_6_code
def yX7_takesBack : MethodName := ⟨RX7, "takesBack", "()V"⟩
abbrev cX7_remembers : ByteArray := prog_9_method_7_code
def yX7_remembers : MethodName := ⟨RX7, "remembers", "()V"⟩
abbrev cX7_back : ByteArray := prog_9_method_8_code
def yX7_back : MethodName := ⟨RX7, "back", "()I"⟩
abbrev cX7_finished : ByteArray := prog_9_method_9_code
def yX7_finished : MethodName := ⟨RX7, "finished", "(I)I"⟩
abbrev cX7_isPlace : ByteArray := prog_9_method_10_code
def yX7_isPlace : MethodName := ⟨RX7, "isPlace", "(II)Z"⟩
abbrev cX7_labelOf : ByteArray := prog_9_method_11_code
def yX7_labelOf : MethodName := ⟨RX7, "labelOf", "(II)I"⟩
abbrev cX7_xOf : ByteArray := prog_9_method_12_code
def yX7_xOf : MethodName := ⟨RX7, "xOf", "(I)I"⟩
abbrev cX7_yOf : ByteArray := prog_9_method_13_code
def yX7_yOf : MethodName := ⟨RX7, "yOf", "(I)I"⟩
abbrev cX7_toldOf : ByteArray := prog_9_method_14_code
def yX7_toldOf : MethodName := ⟨RX7, "toldOf", "(I)I"⟩
abbrev cX7_beside : ByteArray := prog_9_method_15_code
def yX7_beside : MethodName := ⟨RX7, "beside", "(II)I"⟩
abbrev cX7_nextOf : ByteArray := prog_9_method_16_code
def yX7_nextOf : MethodName := ⟨RX7, "nextOf", "(II)I"⟩
abbrev cX7_farOf : ByteArray := prog_9_method_17_code
def yX7_farOf : MethodName := ⟨RX7, "farOf", "(II)I"⟩
abbrev cX7_spotOf : ByteArray := prog_9_method_18_code
def yX7_spotOf : MethodName := ⟨RX7, "spotOf", "(II)I"⟩
abbrev cX7_of0 : ByteArray := prog_9_method_19_code
def yX7_of0 : MethodName := ⟨RX7, "of0", "(II)I"⟩
abbrev cX7_isMessage : ByteArray := prog_9_method_20_code
def yX7_isMessage : MethodName := ⟨RX7, "isMessage", "(I)Z"⟩
abbrev cX7_isGoal : ByteArray := prog_9_method_21_code
def yX7_isGoal : MethodName := ⟨RX7, "isGoal", "(II)Z"⟩
abbrev cX7_laysWay : ByteArray := prog_9_method_22_code
def yX7_laysWay : MethodName := ⟨RX7, "laysWay", "(II)V"⟩
abbrev cX7_laysWays : ByteArray := prog_9_method_23_code
def yX7_laysWays : MethodName := ⟨RX7, "laysWays", "()V"⟩
abbrev cX7_moves : ByteArray := prog_9_method_24_code
def yX7_moves : MethodName := ⟨RX7, "moves", "(I)I"⟩
abbrev cX7_isDone : ByteArray := prog_9_method_25_code
def yX7_isDone : MethodName := ⟨RX7, "isDone", "(I)Z"⟩
abbrev cX7_heldFrom : ByteArray := prog_9_method_26_code
def yX7_heldFrom : MethodName := ⟨RX7, "heldFrom", "(I)I"⟩
abbrev cX7_heldTo : ByteArray := prog_9_method_27_code
def yX7_heldTo : MethodName := ⟨RX7, "heldTo", "(I)I"⟩
abbrev cX7_isHeldBy : ByteArray := prog_9_method_28_code
def yX7_isHeldBy : MethodName := ⟨RX7, "isHeldBy", "(III)Z"⟩
abbrev cX7_holder : ByteArray := prog_9_method_29_code
def yX7_holder : MethodName := ⟨RX7, "holder", "(II)I"⟩
abbrev cX7_wayTo : ByteArray := prog_9_method_30_code
def yX7_wayTo : MethodName := ⟨RX7, "wayTo", "(II)I"⟩
abbrev cX7_isDown : ByteArray := prog_9_method_31_code
def yX7_isDown : MethodName := ⟨RX7, "isDown", "(II)Z"⟩
abbrev cX7_goes : ByteArray := prog_9_method_32_code
def yX7_goes : MethodName := ⟨RX7, "goes", "(I)V"⟩
abbrev cX7_step : ByteArray := prog_9_method_33_code
def yX7_step : MethodName := ⟨RX7, "step", "()V"⟩
abbrev cX7_putMesh : ByteArray := prog_9_method_34_code
def yX7_putMesh : MethodName := ⟨RX7, "putMesh", "(II)I"⟩
abbrev cX7_putMessage : ByteArray := prog_9_method_35_code
def yX7_putMessage : MethodName := ⟨RX7, "putMessage", "(III)I"⟩
abbrev cX7_goalsOf : ByteArray := prog_9_method_36_code
def yX7_goalsOf : MethodName := ⟨RX7, "goalsOf", "(I)I"⟩
abbrev cX7_putGoal : ByteArray := prog_9_method_37_code
def yX7_putGoal : MethodName := ⟨RX7, "putGoal", "(III)I"⟩
abbrev cX7_isChannel : ByteArray := prog_9_method_38_code
def yX7_isChannel : MethodName := ⟨RX7, "isChannel", "(III)Z"⟩
abbrev cX7_putTurn : ByteArray := prog_9_method_39_code
def yX7_putTurn : MethodName := ⟨RX7, "putTurn", "(III)I"⟩
abbrev cX7_notDone : ByteArray := prog_9_method_40_code
def yX7_notDone : MethodName := ⟨RX7, "notDone", "()I"⟩
abbrev cX7_putSteps : ByteArray := prog_9_method_41_code
def yX7_putSteps : MethodName := ⟨RX7, "putSteps", "(I)I"⟩
abbrev cX7_putAgain : ByteArray := prog_9_method_42_code
def yX7_putAgain : MethodName := ⟨RX7, "putAgain", "()I"⟩
abbrev cX7_mesh : ByteArray := prog_9_method_43_code
def yX7_mesh : MethodName := ⟨RX7, "mesh", "(II)I"⟩
abbrev cX7_message : ByteArray := prog_9_method_44_code
def yX7_message : MethodName := ⟨RX7, "message", "(III)I"⟩
abbrev cX7_goal : ByteArray := prog_9_method_45_code
def yX7_goal : MethodName := ⟨RX7, "goal", "(III)I"⟩
abbrev cX7_turns : ByteArray := prog_9_method_46_code
def yX7_turns : MethodName := ⟨RX7, "turns", "(III)I"⟩
abbrev cX7_steps : ByteArray := prog_9_method_47_code
def yX7_steps : MethodName := ⟨RX7, "steps", "(I)I"⟩
abbrev cX7_again : ByteArray := prog_9_method_48_code
def yX7_again : MethodName := ⟨RX7, "again", "()I"⟩
abbrev cX7_label : ByteArray := prog_9_method_49_code
def yX7_label : MethodName := ⟨RX7, "label", "(II)I"⟩
abbrev cX7_isLabel : ByteArray := prog_9_method_50_code
def yX7_isLabel : MethodName := ⟨RX7, "isLabel", "(I)Z"⟩
abbrev cX7_place : ByteArray := prog_9_method_51_code
def yX7_place : MethodName := ⟨RX7, "place", "(I)I"⟩
abbrev cX7_next : ByteArray := prog_9_method_52_code
def yX7_next : MethodName := ⟨RX7, "next", "(IIII)I"⟩
abbrev cX7_far : ByteArray := prog_9_method_53_code
def yX7_far : MethodName := ⟨RX7, "far", "(IIII)I"⟩
abbrev cX7_holds : ByteArray := prog_9_method_54_code
def yX7_holds : MethodName := ⟨RX7, "holds", "(III)I"⟩
abbrev cX7_arrived : ByteArray := prog_9_method_55_code
def yX7_arrived : MethodName := ⟨RX7, "arrived", "(I)I"⟩
abbrev cX7_downOf : ByteArray := prog_9_method_56_code
def yX7_downOf : MethodName := ⟨RX7, "downOf", "(I)I"⟩
abbrev cX7_wormTold : ByteArray := prog_9_method_57_code
def yX7_wormTold : MethodName := ⟨RX7, "wormTold", "(II)I"⟩
abbrev cX7_heldMany : ByteArray := prog_9_method_58_code
def yX7_heldMany : MethodName := ⟨RX7, "heldMany", "(I)I"⟩
abbrev cX7_isWorm : ByteArray := prog_9_method_59_code
def yX7_isWorm : MethodName := ⟨RX7, "isWorm", "(II)Z"⟩
abbrev cX7_worm : ByteArray := prog_9_method_60_code
def yX7_worm : MethodName := ⟨RX7, "worm", "(III)I"⟩
abbrev cX7_way : ByteArray := prog_9_method_61_code
def yX7_way : MethodName := ⟨RX7, "way", "(III)I"⟩
abbrev cX7_goalAt : ByteArray := prog_9_method_62_code
def yX7_goalAt : MethodName := ⟨RX7, "goalAt", "(III)I"⟩
abbrev cX7_messageTold : ByteArray := prog_9_method_63_code
def yX7_messageTold : MethodName := ⟨RX7, "messageTold", "(II)I"⟩
abbrev cX7_of : ByteArray := prog_9_method_64_code
def yX7_of : MethodName := ⟨RX7, "of", "(II)I"⟩
abbrev cX7_areDone : ByteArray := prog_9_method_65_code
def yX7_areDone : MethodName := ⟨RX7, "areDone", "(I)Z"⟩
abbrev cX7_whenDone : ByteArray := prog_9_method_66_code
def yX7_whenDone : MethodName := ⟨RX7, "whenDone", "(I)I"⟩
abbrev cX7_when : ByteArray := prog_9_method_67_code
def yX7_when : MethodName := ⟨RX7, "when", "(I)I"⟩
abbrev cX7_countTold : ByteArray := prog_9_method_68_code
def yX7_countTold : MethodName := ⟨RX7, "countTold", "(I)I"⟩
abbrev cX7_count : ByteArray := prog_9_method_69_code
def yX7_count : MethodName := ⟨RX7, "count", "(I)I"⟩
abbrev cX7_type : ByteArray := prog_9_method_70_code
def yX7_type : MethodName := ⟨RX7, "type", "(I)I"⟩
abbrev cX7_clear : ByteArray := prog_9_method_71_code
def yX7_clear : MethodName := ⟨RX7, "clear", "()I"⟩
abbrev cX7_isAt : ByteArray := prog_9_method_72_code
def yX7_isAt : MethodName := ⟨RX7, "isAt", "(II)Z"⟩
abbrev cX7_blanks : ByteArray := prog_9_method_73_code
def yX7_blanks : MethodName := ⟨RX7, "blanks", "()V"⟩
abbrev cX7_fails : ByteArray := prog_9_method_74_code
def yX7_fails : MethodName := ⟨RX7, "fails", "()Z"⟩
abbrev cX7_manyOf : ByteArray := prog_9_method_75_code
def yX7_manyOf : MethodName := ⟨RX7, "manyOf", "(I)I"⟩
abbrev cX7_takesNumber : ByteArray := prog_9_method_76_code
def yX7_takesNumber : MethodName := ⟨RX7, "takesNumber", "(I)Z"⟩
abbrev cX7_takesOrder : ByteArray := prog_9_method_77_code
def yX7_takesOrder : MethodName := ⟨RX7, "takesOrder", "()Z"⟩
abbrev cX7_isRead : ByteArray := prog_9_method_78_code
def yX7_isRead : MethodName := ⟨RX7, "isRead", "()Z"⟩
abbrev cX7_doneOne : ByteArray := prog_9_method_79_code
def yX7_doneOne : MethodName := ⟨RX7, "doneOne", "(I)I"⟩
abbrev cX7_does : ByteArray := prog_9_method_80_code
def yX7_does : MethodName := ⟨RX7, "does", "()I"⟩
abbrev cX7_toldAt : ByteArray := prog_9_method_81_code
def yX7_toldAt : MethodName := ⟨RX7, "toldAt", "(I)I"⟩
abbrev cX7_told : ByteArray := prog_9_method_82_code
def yX7_told : MethodName := ⟨RX7, "told", "(I)I"⟩
abbrev cX7_mix : ByteArray := prog_9_method_83_code
def yX7_mix : MethodName := ⟨RX7, "mix", "(J)V"⟩
abbrev cX7_mixMessage : ByteArray := prog_9_method_84_code
def yX7_mixMessage : MethodName := ⟨RX7, "mixMessage", "(I)V"⟩
abbrev cX7_digest : ByteArray := prog_9_method_85_code
def yX7_digest : MethodName := ⟨RX7, "digest", "()J"⟩
def RJ6 : String := "java/lang/Integer"
def TJ6 : u_T := fun k => match k with
  | _ => ("", "", "", false)
def tyJ6 : Nat → FieldType := fun k => match k with
  | _ => .int
abbrev wsJ60 : List Cond := u_ws RJ6 TJ6 0
theorem nmJ6 : ∀ a, a < 0 → ∀ b, b < 0 → a ≠ b → (TJ6 a).2.1 ≠ (TJ6 b).2.1 := by decide +kernel
theorem tyJ6_ok : ∀ k, k < 0 → parseFieldDescriptor (TJ6 k).2.2.1 = some (tyJ6 k) := by decide +kernel
abbrev cJ6_bitCount_0f7a4 : ByteArray := prog_10_method_49_code
def yJ6_bitCount_0f7a4 : MethodName := ⟨RJ6, "bitCount", "(I)I"⟩
def RJ13 : String := "java/lang/Long"
def TJ13 : u_T := fun k => match k with
  | _ => ("", "", "", false)
def tyJ13 : Nat → FieldType := fun k => match k with
  | _ => .int
abbrev wsJ130 : List Cond := u_ws RJ13 TJ13 0
theorem nmJ13 : ∀ a, a < 0 → ∀ b, b < 0 → a ≠ b → (TJ13 a).2.1 ≠ (TJ13 b).2.1 := by decide +kernel
theorem tyJ13_ok : ∀ k, k < 0 → parseFieldDescriptor (TJ13 k).2.2.1 = some (tyJ13 k) := by decide +kernel
abbrev cJ13_bitCount_95d88 : ByteArray := prog_11_method_50_code
def yJ13_bitCount_95d88 : MethodName := ⟨RJ13, "bitCount", "(J)I"⟩
def RJ9 : String := "java/lang/Math"
def TJ9 : u_T := fun k => match k with
  | _ => ("", "", "", false)
def tyJ9 : Nat → FieldType := fun k => match k with
  | _ => .int
abbrev wsJ90 : List Cond := u_ws RJ9 TJ9 0
theorem nmJ9 : ∀ a, a < 0 → ∀ b, b < 0 → a ≠ b → (TJ9 a).2.1 ≠ (TJ9 b).2.1 := by decide +kernel
theorem tyJ9_ok : ∀ k, k < 0 → parseFieldDescriptor (TJ9 k).2.2.1 = some (tyJ9 k) := by decide +kernel
abbrev cJ9_max_7cf53 : ByteArray := prog_12_method_65_code
def yJ9_max_7cf53 : MethodName := ⟨RJ9, "max", "(II)I"⟩
abbrev cJ9_min_7cf53 : ByteArray := prog_12_method_69_code
def yJ9_min_7cf53 : MethodName := ⟨RJ9, "min", "(II)I"⟩
def RJ10 : String := "java/lang/System"
def TJ10 : u_T := fun k => match k with
  | _ => ("", "", "", false)
def tyJ10 : Nat → FieldType := fun k => match k with
  | _ => .int
abbrev wsJ100 : List Cond := u_ws RJ10 TJ10 0
theorem nmJ10 : ∀ a, a < 0 → ∀ b, b < 0 → a ≠ b → (TJ10 a).2.1 ≠ (TJ10 b).2.1 := by decide +kernel
theorem tyJ10_ok : ∀ k, k < 0 → parseFieldDescriptor (TJ10 k).2.2.1 = some (tyJ10 k) := by decide +kernel
def RJ7 : String := "java/util/Arrays"
def TJ7 : u_T := fun k => match k with
  | _ => ("", "", "", false)
def tyJ7 : Nat → FieldType := fun k => match k with
  | _ => .int
abbrev wsJ70 : List Cond := u_ws RJ7 TJ7 0
theorem nmJ7 : ∀ a, a < 0 → ∀ b, b < 0 → a ≠ b → (TJ7 a).2.1 ≠ (TJ7 b).2.1 := by decide +kernel
theorem tyJ7_ok : ∀ k, k < 0 → parseFieldDescriptor (TJ7 k).2.2.1 = some (tyJ7 k) := by decide +kernel
abbrev cJ7_fill_53178 : ByteArray := prog_14_method_103_code
def yJ7_fill_53178 : MethodName := ⟨RJ7, "fill", "([II)V"⟩
def RL : String := "SnakeMeshLaw"
abbrev cL_law : ByteArray := code
def yL_law : MethodName := ⟨RL, "law", "([I)Z"⟩
abbrev vwCl : List vw_C := [(RX0, TX0, 5), (RX1, TX1, 3), (RX2, TX2, 10), (RX3, TX3, 6), (RX4, TX4, 2), (RX5, TX5, 3), (RX6, TX6, 11), (RX7, TX7, 17)]
end
section
theorem dX0_init_0 : decode cX0_init 0 = .ok (.aload_n 0, 1) := by decide +kernel
theorem dX0_init_1 : decode cX0_init 1 = .ok (.invokespecial 3, 3) := by decide +kernel
theorem dX0_init_4 : decode cX0_init 4 = .ok (.aload_n 0, 1) := by decide +kernel
theorem dX0_init_5 : decode cX0_init 5 = .ok (.bipush 36, 2) := by decide +kernel
theorem dX0_init_7 : decode cX0_init 7 = .ok (.newarray .int, 2) := by decide +kernel
theorem dX0_init_9 : decode cX0_init 9 = .ok (.putfield 9, 3) := by decide +kernel
theorem dX0_init_12 : decode cX0_init 12 = .ok (.aload_n 0, 1) := by decide +kernel
theorem dX0_init_13 : decode cX0_init 13 = .ok (.bipush 36, 2) := by decide +kernel
theorem dX0_init_15 : decode cX0_init 15 = .ok (.newarray .int, 2) := by decide +kernel
theorem dX0_init_17 : decode cX0_init 17 = .ok (.putfield 15, 3) := by decide +kernel
theorem dX0_init_20 : decode cX0_init 20 = .ok (.aload_n 0, 1) := by decide +kernel
theorem dX0_init_21 : decode cX0_init 21 = .ok (.sipush 144, 3) := by decide +kernel
theorem dX0_init_24 : decode cX0_init 24 = .ok (.newarray .int, 2) := by decide +kernel
theorem dX0_init_26 : decode cX0_init 26 = .ok (.putfield 18, 3) := by decide +kernel
theorem dX0_init_29 : decode cX0_init 29 = .ok (.return_, 1) := by decide +kernel
theorem dX0_lay_0 : decode cX0_lay 0 = .ok (.iload_n 1, 1) := by decide +kernel
theorem dX0_lay_1 : decode cX0_lay 1 = .ok (.aload_n 0, 1) := by decide +kernel
theorem dX0_lay_2 : decode cX0_lay 2 = .ok (.getfield 21, 3) := by decide +kernel
theorem dX0_lay_5 : decode cX0_lay 5 = .ok (.if_icmp .ne 12, 3) := by decide +kernel
theorem dX0_lay_8 : decode cX0_lay 8 = .ok (.iload_n 2, 1) := by decide +kernel
theorem dX0_lay_9 : decode cX0_lay 9 = .ok (.aload_n 0, 1) := by decide +kernel
theorem dX0_lay_10 : decode cX0_lay 10 = .ok (.getfield 25, 3) := by decide +kernel
theorem dX0_lay_13 : decode cX0_lay 13 = .ok (.if_icmp .ne 4, 3) := by decide +kernel
theorem dX0_lay_16 : decode cX0_lay 16 = .ok (.return_, 1) := by decide +kernel
theorem dX0_lay_17 : decode cX0_lay 17 = .ok (.aload_n 0, 1) := by decide +kernel
theorem dX0_lay_18 : decode cX0_lay 18 = .ok (.iload_n 1, 1) := by decide +kernel
theorem dX0_lay_19 : decode cX0_lay 19 = .ok (.putfield 21, 3) := by decide +kernel
theorem dX0_lay_22 : decode cX0_lay 22 = .ok (.aload_n 0, 1) := by decide +kernel
theorem dX0_lay_23 : decode cX0_lay 23 = .ok (.iload_n 2, 1) := by decide +kernel
theorem dX0_lay_24 : decode cX0_lay 24 = .ok (.putfield 25, 3) := by decide +kernel
theorem dX0_lay_27 : decode cX0_lay 27 = .ok (.iconst 0, 1) := by decide +kernel
theorem dX0_lay_28 : decode cX0_lay 28 = .ok (.istore_n 3, 1) := by decide +kernel
theorem dX0_lay_29 : decode cX0_lay 29 = .ok (.iload_n 3, 1) := by decide +kernel
theorem dX0_lay_30 : decode cX0_lay 30 = .ok (.aload_n 0, 1) := by decide +kernel
theorem dX0_lay_31 : decode cX0_lay 31 = .ok (.getfield 25, 3) := by decide +kernel
theorem dX0_lay_34 : decode cX0_lay 34 = .ok (.if_icmp .ge 34, 3) := by decide +kernel
theorem dX0_lay_37 : decode cX0_lay 37 = .ok (.iconst 0, 1) := by decide +kernel
theorem dX0_lay_38 : decode cX0_lay 38 = .ok (.istore 4, 2) := by decide +kernel
theorem dX0_lay_40 : decode cX0_lay 40 = .ok (.iload 4, 2) := by decide +kernel
theorem dX0_lay_42 : decode cX0_lay 42 = .ok (.aload_n 0, 1) := by decide +kernel
theorem dX0_lay_43 : decode cX0_lay 43 = .ok (.getfield 21, 3) := by decide +kernel
theorem dX0_lay_46 : decode cX0_lay 46 = .ok (.if_icmp .ge 16, 3) := by decide +kernel
theorem dX0_lay_49 : decode cX0_lay 49 = .ok (.aload_n 0, 1) := by decide +kernel
theorem dX0_lay_50 : decode cX0_lay 50 = .ok (.iload 4, 2) := by decide +kernel
theorem dX0_lay_52 : decode cX0_lay 52 = .ok (.iload_n 3, 1) := by decide +kernel
theorem dX0_lay_53 : decode cX0_lay 53 = .ok (.invokevirtual 28, 3) := by decide +kernel
theorem dX0_lay_56 : decode cX0_lay 56 = .ok (.iinc 4 1, 3) := by decide +kernel
theorem dX0_lay_59 : decode cX0_lay 59 = .ok (.goto (-19), 3) := by decide +kernel
theorem dX0_lay_62 : decode cX0_lay 62 = .ok (.iinc 3 1, 3) := by decide +kernel
theorem dX0_lay_65 : decode cX0_lay 65 = .ok (.goto (-36), 3) := by decide +kernel
theorem dX0_lay_68 : decode cX0_lay 68 = .ok (.return_, 1) := by decide +kernel
theorem dX0_layPlace_0 : decode cX0_layPlace 0 = .ok (.aload_n 0, 1) := by decide +kernel
theorem dX0_layPlace_1 : decode cX0_layPlace 1 = .ok (.iload_n 1, 1) := by decide +kernel
theorem dX0_layPlace_2 : decode cX0_layPlace 2 = .ok (.iload_n 2, 1) := by decide +kernel
theorem dX0_layPlace_3 : decode cX0_layPlace 3 = .ok (.invokevirtual 32, 3) := by decide +kernel
theorem dX0_layPlace_6 : decode cX0_layPlace 6 = .ok (.istore_n 3, 1) := by decide +kernel
theorem dX0_layPlace_7 : decode cX0_layPlace 7 = .ok (.aload_n 0, 1) := by decide +kernel
theorem dX0_layPlace_8 : decode cX0_layPlace 8 = .ok (.getfield 9, 3) := by decide +kernel
theorem dX0_layPlace_11 : decode cX0_layPlace 11 = .ok (.iload_n 3, 1) := by decide +kernel
theorem dX0_layPlace_12 : decode cX0_layPlace 12 = .ok (.iload_n 1, 1) := by decide +kernel
theorem dX0_layPlace_13 : decode cX0_layPlace 13 = .ok (.iastore, 1) := by decide +kernel
theorem dX0_layPlace_14 : decode cX0_layPlace 14 = .ok (.aload_n 0, 1) := by decide +kernel
theorem dX0_layPlace_15 : decode cX0_layPlace 15 = .ok (.getfield 15, 3) := by decide +kernel
theorem dX0_layPlace_18 : decode cX0_layPlace 18 = .ok (.iload_n 3, 1) := by decide +kernel
theorem dX0_layPlace_19 : decode cX0_layPlace 19 = .ok (.iload_n 2, 1) := by decide +kernel
theorem dX0_layPlace_20 : decode cX0_layPlace 20 = .ok (.iastore, 1) := by decide +kernel
theorem dX0_layPlace_21 : decode cX0_layPlace 21 = .ok (.iconst 0, 1) := by decide +kernel
theorem dX0_layPlace_22 : decode cX0_layPlace 22 = .ok (.istore 4, 2) := by decide +kernel
theorem dX0_layPlace_24 : decode cX0_layPlace 24 = .ok (.iload 4, 2) := by decide +kernel
theorem dX0_layPlace_26 : decode cX0_layPlace 26 = .ok (.iconst 4, 1) := by decide +kernel
theorem dX0_layPlace_27 : decode cX0_layPlace 27 = .ok (.if_icmp .ge 63, 3) := by decide +kernel
theorem dX0_layPlace_30 : decode cX0_layPlace 30 = .ok (.iload_n 1, 1) := by decide +kernel
theorem dX0_layPlace_31 : decode cX0_layPlace 31 = .ok (.getstatic 36, 3) := by decide +kernel
theorem dX0_layPlace_34 : decode cX0_layPlace 34 = .ok (.iload 4, 2) := by decide +kernel
theorem dX0_layPlace_36 : decode cX0_layPlace 36 = .ok (.iaload, 1) := by decide +kernel
theorem dX0_layPlace_37 : decode cX0_layPlace 37 = .ok (.iadd, 1) := by decide +kernel
theorem dX0_layPlace_38 : decode cX0_layPlace 38 = .ok (.istore 5, 2) := by decide +kernel
theorem dX0_layPlace_40 : decode cX0_layPlace 40 = .ok (.iload_n 2, 1) := by decide +kernel
theorem dX0_layPlace_41 : decode cX0_layPlace 41 = .ok (.getstatic 39, 3) := by decide +kernel
theorem dX0_layPlace_44 : decode cX0_layPlace 44 = .ok (.iload 4, 2) := by decide +kernel
theorem dX0_layPlace_46 : decode cX0_layPlace 46 = .ok (.iaload, 1) := by decide +kernel
theorem dX0_layPlace_47 : decode cX0_layPlace 47 = .ok (.iadd, 1) := by decide +kernel
theorem dX0_layPlace_48 : decode cX0_layPlace 48 = .ok (.istore 6, 2) := by decide +kernel
theorem dX0_layPlace_50 : decode cX0_layPlace 50 = .ok (.aload_n 0, 1) := by decide +kernel
theorem dX0_layPlace_51 : decode cX0_layPlace 51 = .ok (.getfield 18, 3) := by decide +kernel
theorem dX0_layPlace_54 : decode cX0_layPlace 54 = .ok (.iload_n 3, 1) := by decide +kernel
theorem dX0_layPlace_55 : decode cX0_layPlace 55 = .ok (.iconst 4, 1) := by decide +kernel
theorem dX0_layPlace_56 : decode cX0_layPlace 56 = .ok (.imul, 1) := by decide +kernel
theorem dX0_layPlace_57 : decode cX0_layPlace 57 = .ok (.iload 4, 2) := by decide +kernel
theorem dX0_layPlace_59 : decode cX0_layPlace 59 = .ok (.iadd, 1) := by decide +kernel
theorem dX0_layPlace_60 : decode cX0_layPlace 60 = .ok (.aload_n 0, 1) := by decide +kernel
theorem dX0_layPlace_61 : decode cX0_layPlace 61 = .ok (.iload 5, 2) := by decide +kernel
theorem dX0_layPlace_63 : decode cX0_layPlace 63 = .ok (.iload 6, 2) := by decide +kernel
theorem dX0_layPlace_65 : decode cX0_layPlace 65 = .ok (.invokevirtual 42, 3) := by decide +kernel
theorem dX0_layPlace_68 : decode cX0_layPlace 68 = .ok (.ifCond .eq 14, 3) := by decide +kernel
theorem dX0_layPlace_71 : decode cX0_layPlace 71 = .ok (.aload_n 0, 1) := by decide +kernel
theorem dX0_layPlace_72 : decode cX0_layPlace 72 = .ok (.iload 5, 2) := by decide +kernel
theorem dX0_layPlace_74 : decode cX0_layPlace 74 = .ok (.iload 6, 2) := by decide +kernel
theorem dX0_layPlace_76 : decode cX0_layPlace 76 = .ok (.invokevirtual 32, 3) := by decide +kernel
theorem dX0_layPlace_79 : decode cX0_layPlace 79 = .ok (.goto 4, 3) := by decide +kernel
theorem dX0_layPlace_82 : decode cX0_layPlace 82 = .ok (.iconst (-1), 1) := by decide +kernel
theorem dX0_layPlace_83 : decode cX0_layPlace 83 = .ok (.iastore, 1) := by decide +kernel
theorem dX0_layPlace_84 : decode cX0_layPlace 84 = .ok (.iinc 4 1, 3) := by decide +kernel
theorem dX0_layPlace_87 : decode cX0_layPlace 87 = .ok (.goto (-63), 3) := by decide +kernel
theorem dX0_layPlace_90 : decode cX0_layPlace 90 = .ok (.return_, 1) := by decide +kernel
theorem dX0_places_0 : decode cX0_places 0 = .ok (.aload_n 0, 1) := by decide +kernel
theorem dX0_places_1 : decode cX0_places 1 = .ok (.getfield 21, 3) := by decide +kernel
theorem dX0_places_4 : decode cX0_places 4 = .ok (.aload_n 0, 1) := by decide +kernel
theorem dX0_places_5 : decode cX0_places 5 = .ok (.getfield 25, 3) := by decide +kernel
theorem dX0_places_8 : decode cX0_places 8 = .ok (.imul, 1) := by decide +kernel
theorem dX0_places_9 : decode cX0_places 9 = .ok (.ireturn, 1) := by decide +kernel
theorem dX0_has_0 : decode cX0_has 0 = .ok (.iload_n 1, 1) := by decide +kernel
theorem dX0_has_1 : decode cX0_has 1 = .ok (.ifCond .lt 27, 3) := by decide +kernel
theorem dX0_has_4 : decode cX0_has 4 = .ok (.iload_n 1, 1) := by decide +kernel
theorem dX0_has_5 : decode cX0_has 5 = .ok (.aload_n 0, 1) := by decide +kernel
theorem dX0_has_6 : decode cX0_has 6 = .ok (.getfield 21, 3) := by decide +kernel
theorem dX0_has_9 : decode cX0_has 9 = .ok (.if_icmp .ge 19, 3) := by decide +kernel
theorem dX0_has_12 : decode cX0_has 12 = .ok (.iload_n 2, 1) := by decide +kernel
theorem dX0_has_13 : decode cX0_has 13 = .ok (.ifCond .lt 15, 3) := by decide +kernel
theorem dX0_has_16 : decode cX0_has 16 = .ok (.iload_n 2, 1) := by decide +kernel
theorem dX0_has_17 : decode cX0_has 17 = .ok (.aload_n 0, 1) := by decide +kernel
theorem dX0_has_18 : decode cX0_has 18 = .ok (.getfield 25, 3) := by decide +kernel
theorem dX0_has_21 : decode cX0_has 21 = .ok (.if_icmp .ge 7, 3) := by decide +kernel
theorem dX0_has_24 : decode cX0_has 24 = .ok (.iconst 1, 1) := by decide +kernel
theorem dX0_has_25 : decode cX0_has 25 = .ok (.goto 4, 3) := by decide +kernel
theorem dX0_has_28 : decode cX0_has 28 = .ok (.iconst 0, 1) := by decide +kernel
theorem dX0_has_29 : decode cX0_has 29 = .ok (.ireturn, 1) := by decide +kernel
theorem dX0_hasLabel_0 : decode cX0_hasLabel 0 = .ok (.iload_n 1, 1) := by decide +kernel
theorem dX0_hasLabel_1 : decode cX0_hasLabel 1 = .ok (.ifCond .lt 15, 3) := by decide +kernel
theorem dX0_hasLabel_4 : decode cX0_hasLabel 4 = .ok (.iload_n 1, 1) := by decide +kernel
theorem dX0_hasLabel_5 : decode cX0_hasLabel 5 = .ok (.aload_n 0, 1) := by decide +kernel
theorem dX0_hasLabel_6 : decode cX0_hasLabel 6 = .ok (.invokevirtual 46, 3) := by decide +kernel
theorem dX0_hasLabel_9 : decode cX0_hasLabel 9 = .ok (.if_icmp .ge 7, 3) := by decide +kernel
theorem dX0_hasLabel_12 : decode cX0_hasLabel 12 = .ok (.iconst 1, 1) := by decide +kernel
theorem dX0_hasLabel_13 : decode cX0_hasLabel 13 = .ok (.goto 4, 3) := by decide +kernel
theorem dX0_hasLabel_16 : decode cX0_hasLabel 16 = .ok (.iconst 0, 1) := by decide +kernel
theorem dX0_hasLabel_17 : decode cX0_hasLabel 17 = .ok (.ireturn, 1) := by decide +kernel
theorem dX0_labelAt_0 : decode cX0_labelAt 0 = .ok (.iload_n 2, 1) := by decide +kernel
theorem dX0_labelAt_1 : decode cX0_labelAt 1 = .ok (.aload_n 0, 1) := by decide +kernel
theorem dX0_labelAt_2 : decode cX0_labelAt 2 = .ok (.getfield 21, 3) := by decide +kernel
theorem dX0_labelAt_5 : decode cX0_labelAt 5 = .ok (.imul, 1) := by decide +kernel
theorem dX0_labelAt_6 : decode cX0_labelAt 6 = .ok (.iload_n 2, 1) := by decide +kernel
theorem dX0_labelAt_7 : decode cX0_labelAt 7 = .ok (.iconst 1, 1) := by decide +kernel
theorem dX0_labelAt_8 : decode cX0_labelAt 8 = .ok (.iand, 1) := by decide +kernel
theorem dX0_labelAt_9 : decode cX0_labelAt 9 = .ok (.ifCond .ne 7, 3) := by decide +kernel
theorem dX0_labelAt_12 : decode cX0_labelAt 12 = .ok (.iload_n 1, 1) := by decide +kernel
theorem dX0_labelAt_13 : decode cX0_labelAt 13 = .ok (.goto 11, 3) := by decide +kernel
theorem dX0_labelAt_16 : decode cX0_labelAt 16 = .ok (.aload_n 0, 1) := by decide +kernel
theorem dX0_labelAt_17 : decode cX0_labelAt 17 = .ok (.getfield 21, 3) := by decide +kernel
theorem dX0_labelAt_20 : decode cX0_labelAt 20 = .ok (.iconst 1, 1) := by decide +kernel
theorem dX0_labelAt_21 : decode cX0_labelAt 21 = .ok (.isub, 1) := by decide +kernel
theorem dX0_labelAt_22 : decode cX0_labelAt 22 = .ok (.iload_n 1, 1) := by decide +kernel
theorem dX0_labelAt_23 : decode cX0_labelAt 23 = .ok (.isub, 1) := by decide +kernel
theorem dX0_labelAt_24 : decode cX0_labelAt 24 = .ok (.iadd, 1) := by decide +kernel
theorem dX0_labelAt_25 : decode cX0_labelAt 25 = .ok (.ireturn, 1) := by decide +kernel
theorem dX0_xOf_0 : decode cX0_xOf 0 = .ok (.aload_n 0, 1) := by decide +kernel
theorem dX0_xOf_1 : decode cX0_xOf 1 = .ok (.getfield 9, 3) := by decide +kernel
theorem dX0_xOf_4 : decode cX0_xOf 4 = .ok (.iload_n 1, 1) := by decide +kernel
theorem dX0_xOf_5 : decode cX0_xOf 5 = .ok (.iaload, 1) := by decide +kernel
theorem dX0_xOf_6 : decode cX0_xOf 6 = .ok (.ireturn, 1) := by decide +kernel
theorem dX0_yOf_0 : decode cX0_yOf 0 = .ok (.aload_n 0, 1) := by decide +kernel
theorem dX0_yOf_1 : decode cX0_yOf 1 = .ok (.getfield 15, 3) := by decide +kernel
theorem dX0_yOf_4 : decode cX0_yOf 4 = .ok (.iload_n 1, 1) := by decide +kernel
theorem dX0_yOf_5 : decode cX0_yOf 5 = .ok (.iaload, 1) := by decide +kernel
theorem dX0_yOf_6 : decode cX0_yOf 6 = .ok (.ireturn, 1) := by decide +kernel
theorem dX0_tell_0 : decode cX0_tell 0 = .ok (.aload_n 0, 1) := by decide +kernel
theorem dX0_tell_1 : decode cX0_tell 1 = .ok (.iload_n 1, 1) := by decide +kernel
theorem dX0_tell_2 : decode cX0_tell 2 = .ok (.invokevirtual 50, 3) := by decide +kernel
theorem dX0_tell_5 : decode cX0_tell 5 = .ok (.ifCond .eq 22, 3) := by decide +kernel
theorem dX0_tell_8 : decode cX0_tell 8 = .ok (.bipush 10, 2) := by decide +kernel
theorem dX0_tell_10 : decode cX0_tell 10 = .ok (.aload_n 0, 1) := by decide +kernel
theorem dX0_tell_11 : decode cX0_tell 11 = .ok (.getfield 9, 3) := by decide +kernel
theorem dX0_tell_14 : decode cX0_tell 14 = .ok (.iload_n 1, 1) := by decide +kernel
theorem dX0_tell_15 : decode cX0_tell 15 = .ok (.iaload, 1) := by decide +kernel
theorem dX0_tell_16 : decode cX0_tell 16 = .ok (.imul, 1) := by decide +kernel
theorem dX0_tell_17 : decode cX0_tell 17 = .ok (.aload_n 0, 1) := by decide +kernel
theorem dX0_tell_18 : decode cX0_tell 18 = .ok (.getfield 15, 3) := by decide +kernel
theorem dX0_tell_21 : decode cX0_tell 21 = .ok (.iload_n 1, 1) := by decide +kernel
theorem dX0_tell_22 : decode cX0_tell 22 = .ok (.iaload, 1) := by decide +kernel
theorem dX0_tell_23 : decode cX0_tell 23 = .ok (.iadd, 1) := by decide +kernel
theorem dX0_tell_24 : decode cX0_tell 24 = .ok (.goto 4, 3) := by decide +kernel
theorem dX0_tell_27 : decode cX0_tell 27 = .ok (.iconst (-1), 1) := by decide +kernel
theorem dX0_tell_28 : decode cX0_tell 28 = .ok (.ireturn, 1) := by decide +kernel
theorem dX0_endOf_0 : decode cX0_endOf 0 = .ok (.iload_n 1, 1) := by decide +kernel
theorem dX0_endOf_1 : decode cX0_endOf 1 = .ok (.ifCond .lt 19, 3) := by decide +kernel
theorem dX0_endOf_4 : decode cX0_endOf 4 = .ok (.iload_n 1, 1) := by decide +kernel
theorem dX0_endOf_5 : decode cX0_endOf 5 = .ok (.sipush 144, 3) := by decide +kernel
theorem dX0_endOf_8 : decode cX0_endOf 8 = .ok (.if_icmp .ge 12, 3) := by decide +kernel
theorem dX0_endOf_11 : decode cX0_endOf 11 = .ok (.aload_n 0, 1) := by decide +kernel
theorem dX0_endOf_12 : decode cX0_endOf 12 = .ok (.getfield 18, 3) := by decide +kernel
theorem dX0_endOf_15 : decode cX0_endOf 15 = .ok (.iload_n 1, 1) := by decide +kernel
theorem dX0_endOf_16 : decode cX0_endOf 16 = .ok (.iaload, 1) := by decide +kernel
theorem dX0_endOf_17 : decode cX0_endOf 17 = .ok (.goto 4, 3) := by decide +kernel
theorem dX0_endOf_20 : decode cX0_endOf 20 = .ok (.iconst (-1), 1) := by decide +kernel
theorem dX0_endOf_21 : decode cX0_endOf 21 = .ok (.ireturn, 1) := by decide +kernel
theorem dX0_channelAt_0 : decode cX0_channelAt 0 = .ok (.aload_n 0, 1) := by decide +kernel
theorem dX0_channelAt_1 : decode cX0_channelAt 1 = .ok (.iload_n 1, 1) := by decide +kernel
theorem dX0_channelAt_2 : decode cX0_channelAt 2 = .ok (.iload_n 2, 1) := by decide +kernel
theorem dX0_channelAt_3 : decode cX0_channelAt 3 = .ok (.invokevirtual 42, 3) := by decide +kernel
theorem dX0_channelAt_6 : decode cX0_channelAt 6 = .ok (.ifCond .eq 12, 3) := by decide +kernel
theorem dX0_channelAt_9 : decode cX0_channelAt 9 = .ok (.iload_n 3, 1) := by decide +kernel
theorem dX0_channelAt_10 : decode cX0_channelAt 10 = .ok (.ifCond .lt 8, 3) := by decide +kernel
theorem dX0_channelAt_13 : decode cX0_channelAt 13 = .ok (.iload_n 3, 1) := by decide +kernel
theorem dX0_channelAt_14 : decode cX0_channelAt 14 = .ok (.iconst 4, 1) := by decide +kernel
theorem dX0_channelAt_15 : decode cX0_channelAt 15 = .ok (.if_icmp .lt 5, 3) := by decide +kernel
theorem dX0_channelAt_18 : decode cX0_channelAt 18 = .ok (.iconst (-1), 1) := by decide +kernel
theorem dX0_channelAt_19 : decode cX0_channelAt 19 = .ok (.ireturn, 1) := by decide +kernel
theorem dX0_channelAt_20 : decode cX0_channelAt 20 = .ok (.aload_n 0, 1) := by decide +kernel
theorem dX0_channelAt_21 : decode cX0_channelAt 21 = .ok (.iload_n 1, 1) := by decide +kernel
theorem dX0_channelAt_22 : decode cX0_channelAt 22 = .ok (.iload_n 2, 1) := by decide +kernel
theorem dX0_channelAt_23 : decode cX0_channelAt 23 = .ok (.invokevirtual 32, 3) := by decide +kernel
theorem dX0_channelAt_26 : decode cX0_channelAt 26 = .ok (.iconst 4, 1) := by decide +kernel
theorem dX0_channelAt_27 : decode cX0_channelAt 27 = .ok (.imul, 1) := by decide +kernel
theorem dX0_channelAt_28 : decode cX0_channelAt 28 = .ok (.iload_n 3, 1) := by decide +kernel
theorem dX0_channelAt_29 : decode cX0_channelAt 29 = .ok (.iadd, 1) := by decide +kernel
theorem dX0_channelAt_30 : decode cX0_channelAt 30 = .ok (.istore 4, 2) := by decide +kernel
theorem dX0_channelAt_32 : decode cX0_channelAt 32 = .ok (.aload_n 0, 1) := by decide +kernel
theorem dX0_channelAt_33 : decode cX0_channelAt 33 = .ok (.getfield 18, 3) := by decide +kernel
theorem dX0_channelAt_36 : decode cX0_channelAt 36 = .ok (.iload 4, 2) := by decide +kernel
theorem dX0_channelAt_38 : decode cX0_channelAt 38 = .ok (.iaload, 1) := by decide +kernel
theorem dX0_channelAt_39 : decode cX0_channelAt 39 = .ok (.iconst (-1), 1) := by decide +kernel
theorem dX0_channelAt_40 : decode cX0_channelAt 40 = .ok (.if_icmp .ne 7, 3) := by decide +kernel
theorem dX0_channelAt_43 : decode cX0_channelAt 43 = .ok (.iconst (-1), 1) := by decide +kernel
theorem dX0_channelAt_44 : decode cX0_channelAt 44 = .ok (.goto 5, 3) := by decide +kernel
theorem dX0_channelAt_47 : decode cX0_channelAt 47 = .ok (.iload 4, 2) := by decide +kernel
theorem dX0_channelAt_49 : decode cX0_channelAt 49 = .ok (.ireturn, 1) := by decide +kernel
theorem dX0_channelTowards_0 : decode cX0_channelTowards 0 = .ok (.iload_n 1, 1) := by decide +kernel
theorem dX0_channelTowards_1 : decode cX0_channelTowards 1 = .ok (.ifCond .lt 9, 3) := by decide +kernel
theorem dX0_channelTowards_4 : decode cX0_channelTowards 4 = .ok (.iload_n 1, 1) := by decide +kernel
theorem dX0_channelTowards_5 : decode cX0_channelTowards 5 = .ok (.bipush 36, 2) := by decide +kernel
theorem dX0_channelTowards_7 : decode cX0_channelTowards 7 = .ok (.if_icmp .lt 5, 3) := by decide +kernel
theorem dX0_channelTowards_10 : decode cX0_channelTowards 10 = .ok (.iconst (-1), 1) := by decide +kernel
theorem dX0_channelTowards_11 : decode cX0_channelTowards 11 = .ok (.ireturn, 1) := by decide +kernel
theorem dX0_channelTowards_12 : decode cX0_channelTowards 12 = .ok (.iconst (-1), 1) := by decide +kernel
theorem dX0_channelTowards_13 : decode cX0_channelTowards 13 = .ok (.istore_n 3, 1) := by decide +kernel
theorem dX0_channelTowards_14 : decode cX0_channelTowards 14 = .ok (.iconst (-1), 1) := by decide +kernel
theorem dX0_channelTowards_15 : decode cX0_channelTowards 15 = .ok (.istore 4, 2) := by decide +kernel
theorem dX0_channelTowards_17 : decode cX0_channelTowards 17 = .ok (.iload_n 1, 1) := by decide +kernel
theorem dX0_channelTowards_18 : decode cX0_channelTowards 18 = .ok (.iconst 4, 1) := by decide +kernel
theorem dX0_channelTowards_19 : decode cX0_channelTowards 19 = .ok (.imul, 1) := by decide +kernel
theorem dX0_channelTowards_20 : decode cX0_channelTowards 20 = .ok (.istore 5, 2) := by decide +kernel
theorem dX0_channelTowards_22 : decode cX0_channelTowards 22 = .ok (.iload 5, 2) := by decide +kernel
theorem dX0_channelTowards_24 : decode cX0_channelTowards 24 = .ok (.iload_n 1, 1) := by decide +kernel
theorem dX0_channelTowards_25 : decode cX0_channelTowards 25 = .ok (.iconst 4, 1) := by decide +kernel
theorem dX0_channelTowards_26 : decode cX0_channelTowards 26 = .ok (.imul, 1) := by decide +kernel
theorem dX0_channelTowards_27 : decode cX0_channelTowards 27 = .ok (.iconst 4, 1) := by decide +kernel
theorem dX0_channelTowards_28 : decode cX0_channelTowards 28 = .ok (.iadd, 1) := by decide +kernel
theorem dX0_channelTowards_29 : decode cX0_channelTowards 29 = .ok (.if_icmp .ge 91, 3) := by decide +kernel
theorem dX0_channelTowards_32 : decode cX0_channelTowards 32 = .ok (.aload_n 0, 1) := by decide +kernel
theorem dX0_channelTowards_33 : decode cX0_channelTowards 33 = .ok (.getfield 18, 3) := by decide +kernel
theorem dX0_channelTowards_36 : decode cX0_channelTowards 36 = .ok (.iload 5, 2) := by decide +kernel
theorem dX0_channelTowards_38 : decode cX0_channelTowards 38 = .ok (.iaload, 1) := by decide +kernel
theorem dX0_channelTowards_39 : decode cX0_channelTowards 39 = .ok (.istore 6, 2) := by decide +kernel
theorem dX0_channelTowards_41 : decode cX0_channelTowards 41 = .ok (.iload 6, 2) := by decide +kernel
theorem dX0_channelTowards_43 : decode cX0_channelTowards 43 = .ok (.iconst (-1), 1) := by decide +kernel
theorem dX0_channelTowards_44 : decode cX0_channelTowards 44 = .ok (.if_icmp .ne 6, 3) := by decide +kernel
theorem dX0_channelTowards_47 : decode cX0_channelTowards 47 = .ok (.goto 67, 3) := by decide +kernel
theorem dX0_channelTowards_50 : decode cX0_channelTowards 50 = .ok (.iload_n 2, 1) := by decide +kernel
theorem dX0_channelTowards_51 : decode cX0_channelTowards 51 = .ok (.iload_n 1, 1) := by decide +kernel
theorem dX0_channelTowards_52 : decode cX0_channelTowards 52 = .ok (.if_icmp .le 24, 3) := by decide +kernel
theorem dX0_channelTowards_55 : decode cX0_channelTowards 55 = .ok (.iload 6, 2) := by decide +kernel
theorem dX0_channelTowards_57 : decode cX0_channelTowards 57 = .ok (.iload_n 2, 1) := by decide +kernel
theorem dX0_channelTowards_58 : decode cX0_channelTowards 58 = .ok (.if_icmp .gt 14, 3) := by decide +kernel
theorem dX0_channelTowards_61 : decode cX0_channelTowards 61 = .ok (.iload 6, 2) := by decide +kernel
theorem dX0_channelTowards_63 : decode cX0_channelTowards 63 = .ok (.iload 4, 2) := by decide +kernel
theorem dX0_channelTowards_65 : decode cX0_channelTowards 65 = .ok (.if_icmp .le 7, 3) := by decide +kernel
theorem dX0_channelTowards_68 : decode cX0_channelTowards 68 = .ok (.iconst 1, 1) := by decide +kernel
theorem dX0_channelTowards_69 : decode cX0_channelTowards 69 = .ok (.goto 31, 3) := by decide +kernel
theorem dX0_channelTowards_72 : decode cX0_channelTowards 72 = .ok (.iconst 0, 1) := by decide +kernel
theorem dX0_channelTowards_73 : decode cX0_channelTowards 73 = .ok (.goto 27, 3) := by decide +kernel
theorem dX0_channelTowards_76 : decode cX0_channelTowards 76 = .ok (.iload 6, 2) := by decide +kernel
theorem dX0_channelTowards_78 : decode cX0_channelTowards 78 = .ok (.iload_n 2, 1) := by decide +kernel
theorem dX0_channelTowards_79 : decode cX0_channelTowards 79 = .ok (.if_icmp .lt 20, 3) := by decide +kernel
theorem dX0_channelTowards_82 : decode cX0_channelTowards 82 = .ok (.iload 4, 2) := by decide +kernel
theorem dX0_channelTowards_84 : decode cX0_channelTowards 84 = .ok (.iconst (-1), 1) := by decide +kernel
theorem dX0_channelTowards_85 : decode cX0_channelTowards 85 = .ok (.if_icmp .eq 10, 3) := by decide +kernel
theorem dX0_channelTowards_88 : decode cX0_channelTowards 88 = .ok (.iload 6, 2) := by decide +kernel
theorem dX0_channelTowards_90 : decode cX0_channelTowards 90 = .ok (.iload 4, 2) := by decide +kernel
theorem dX0_channelTowards_92 : decode cX0_channelTowards 92 = .ok (.if_icmp .ge 7, 3) := by decide +kernel
theorem dX0_channelTowards_95 : decode cX0_channelTowards 95 = .ok (.iconst 1, 1) := by decide +kernel
theorem dX0_channelTowards_96 : decode cX0_channelTowards 96 = .ok (.goto 4, 3) := by decide +kernel
theorem dX0_channelTowards_99 : decode cX0_channelTowards 99 = .ok (.iconst 0, 1) := by decide +kernel
theorem dX0_channelTowards_100 : decode cX0_channelTowards 100 = .ok (.istore 7, 2) := by decide +kernel
theorem dX0_channelTowards_102 : decode cX0_channelTowards 102 = .ok (.iload 7, 2) := by decide +kernel
theorem dX0_channelTowards_104 : decode cX0_channelTowards 104 = .ok (.ifCond .eq 10, 3) := by decide +kernel
theorem dX0_channelTowards_107 : decode cX0_channelTowards 107 = .ok (.iload 5, 2) := by decide +kernel
theorem dX0_channelTowards_109 : decode cX0_channelTowards 109 = .ok (.istore_n 3, 1) := by decide +kernel
theorem dX0_channelTowards_110 : decode cX0_channelTowards 110 = .ok (.iload 6, 2) := by decide +kernel
theorem dX0_channelTowards_112 : decode cX0_channelTowards 112 = .ok (.istore 4, 2) := by decide +kernel
theorem dX0_channelTowards_114 : decode cX0_channelTowards 114 = .ok (.iinc 5 1, 3) := by decide +kernel
theorem dX0_channelTowards_117 : decode cX0_channelTowards 117 = .ok (.goto (-95), 3) := by decide +kernel
theorem dX0_channelTowards_120 : decode cX0_channelTowards 120 = .ok (.iload_n 3, 1) := by decide +kernel
theorem dX0_channelTowards_121 : decode cX0_channelTowards 121 = .ok (.ireturn, 1) := by decide +kernel
theorem dX0_distance_0 : decode cX0_distance 0 = .ok (.iload_n 1, 1) := by decide +kernel
theorem dX0_distance_1 : decode cX0_distance 1 = .ok (.istore_n 3, 1) := by decide +kernel
theorem dX0_distance_2 : decode cX0_distance 2 = .ok (.iconst 0, 1) := by decide +kernel
theorem dX0_distance_3 : decode cX0_distance 3 = .ok (.istore 4, 2) := by decide +kernel
theorem dX0_distance_5 : decode cX0_distance 5 = .ok (.iload_n 3, 1) := by decide +kernel
theorem dX0_distance_6 : decode cX0_distance 6 = .ok (.iload_n 2, 1) := by decide +kernel
theorem dX0_distance_7 : decode cX0_distance 7 = .ok (.if_icmp .eq 27, 3) := by decide +kernel
theorem dX0_distance_10 : decode cX0_distance 10 = .ok (.iload 4, 2) := by decide +kernel
theorem dX0_distance_12 : decode cX0_distance 12 = .ok (.bipush 36, 2) := by decide +kernel
theorem dX0_distance_14 : decode cX0_distance 14 = .ok (.if_icmp .ge 20, 3) := by decide +kernel
theorem dX0_distance_17 : decode cX0_distance 17 = .ok (.aload_n 0, 1) := by decide +kernel
theorem dX0_distance_18 : decode cX0_distance 18 = .ok (.aload_n 0, 1) := by decide +kernel
theorem dX0_distance_19 : decode cX0_distance 19 = .ok (.iload_n 3, 1) := by decide +kernel
theorem dX0_distance_20 : decode cX0_distance 20 = .ok (.iload_n 2, 1) := by decide +kernel
theorem dX0_distance_21 : decode cX0_distance 21 = .ok (.invokevirtual 54, 3) := by decide +kernel
theorem dX0_distance_24 : decode cX0_distance 24 = .ok (.invokevirtual 57, 3) := by decide +kernel
theorem dX0_distance_27 : decode cX0_distance 27 = .ok (.istore_n 3, 1) := by decide +kernel
theorem dX0_distance_28 : decode cX0_distance 28 = .ok (.iinc 4 1, 3) := by decide +kernel
theorem dX0_distance_31 : decode cX0_distance 31 = .ok (.goto (-26), 3) := by decide +kernel
theorem dX0_distance_34 : decode cX0_distance 34 = .ok (.iload 4, 2) := by decide +kernel
theorem dX0_distance_36 : decode cX0_distance 36 = .ok (.ireturn, 1) := by decide +kernel
theorem dX1_init_0 : decode cX1_init 0 = .ok (.aload_n 0, 1) := by decide +kernel
theorem dX1_init_1 : decode cX1_init 1 = .ok (.invokespecial 3, 3) := by decide +kernel
theorem dX1_init_4 : decode cX1_init 4 = .ok (.aload_n 0, 1) := by decide +kernel
theorem dX1_init_5 : decode cX1_init 5 = .ok (.iconst 5, 1) := by decide +kernel
theorem dX1_init_6 : decode cX1_init 6 = .ok (.anewarray 9, 3) := by decide +kernel
theorem dX1_init_9 : decode cX1_init 9 = .ok (.putfield 11, 3) := by decide +kernel
theorem dX1_init_12 : decode cX1_init 12 = .ok (.iconst 0, 1) := by decide +kernel
theorem dX1_init_13 : decode cX1_init 13 = .ok (.istore_n 1, 1) := by decide +kernel
theorem dX1_init_14 : decode cX1_init 14 = .ok (.iload_n 1, 1) := by decide +kernel
theorem dX1_init_15 : decode cX1_init 15 = .ok (.iconst 5, 1) := by decide +kernel
theorem dX1_init_16 : decode cX1_init 16 = .ok (.if_icmp .ge 22, 3) := by decide +kernel
theorem dX1_init_19 : decode cX1_init 19 = .ok (.aload_n 0, 1) := by decide +kernel
theorem dX1_init_20 : decode cX1_init 20 = .ok (.getfield 11, 3) := by decide +kernel
theorem dX1_init_23 : decode cX1_init 23 = .ok (.iload_n 1, 1) := by decide +kernel
theorem dX1_init_24 : decode cX1_init 24 = .ok (.new 9, 3) := by decide +kernel
theorem dX1_init_27 : decode cX1_init 27 = .ok (.dup, 1) := by decide +kernel
theorem dX1_init_28 : decode cX1_init 28 = .ok (.invokespecial 17, 3) := by decide +kernel
theorem dX1_init_31 : decode cX1_init 31 = .ok (.aastore, 1) := by decide +kernel
theorem dX1_init_32 : decode cX1_init 32 = .ok (.iinc 1 1, 3) := by decide +kernel
theorem dX1_init_35 : decode cX1_init 35 = .ok (.goto (-21), 3) := by decide +kernel
theorem dX1_init_38 : decode cX1_init 38 = .ok (.return_, 1) := by decide +kernel
theorem dX1_size_0 : decode cX1_size 0 = .ok (.aload_n 0, 1) := by decide +kernel
theorem dX1_size_1 : decode cX1_size 1 = .ok (.getfield 18, 3) := by decide +kernel
theorem dX1_size_4 : decode cX1_size 4 = .ok (.ireturn, 1) := by decide +kernel
theorem dX1_push_0 : decode cX1_push 0 = .ok (.aload_n 0, 1) := by decide +kernel
theorem dX1_push_1 : decode cX1_push 1 = .ok (.getfield 11, 3) := by decide +kernel
theorem dX1_push_4 : decode cX1_push 4 = .ok (.aload_n 0, 1) := by decide +kernel
theorem dX1_push_5 : decode cX1_push 5 = .ok (.getfield 22, 3) := by decide +kernel
theorem dX1_push_8 : decode cX1_push 8 = .ok (.aaload, 1) := by decide +kernel
theorem dX1_push_9 : decode cX1_push 9 = .ok (.aload_n 1, 1) := by decide +kernel
theorem dX1_push_10 : decode cX1_push 10 = .ok (.invokevirtual 25, 3) := by decide +kernel
theorem dX1_push_13 : decode cX1_push 13 = .ok (.aload_n 0, 1) := by decide +kernel
theorem dX1_push_14 : decode cX1_push 14 = .ok (.aload_n 0, 1) := by decide +kernel
theorem dX1_push_15 : decode cX1_push 15 = .ok (.getfield 22, 3) := by decide +kernel
theorem dX1_push_18 : decode cX1_push 18 = .ok (.iconst 1, 1) := by decide +kernel
theorem dX1_push_19 : decode cX1_push 19 = .ok (.iadd, 1) := by decide +kernel
theorem dX1_push_20 : decode cX1_push 20 = .ok (.iconst 5, 1) := by decide +kernel
theorem dX1_push_21 : decode cX1_push 21 = .ok (.if_icmp .ge 12, 3) := by decide +kernel
theorem dX1_push_24 : decode cX1_push 24 = .ok (.aload_n 0, 1) := by decide +kernel
theorem dX1_push_25 : decode cX1_push 25 = .ok (.getfield 22, 3) := by decide +kernel
theorem dX1_push_28 : decode cX1_push 28 = .ok (.iconst 1, 1) := by decide +kernel
theorem dX1_push_29 : decode cX1_push 29 = .ok (.iadd, 1) := by decide +kernel
theorem dX1_push_30 : decode cX1_push 30 = .ok (.goto 4, 3) := by decide +kernel
theorem dX1_push_33 : decode cX1_push 33 = .ok (.iconst 0, 1) := by decide +kernel
theorem dX1_push_34 : decode cX1_push 34 = .ok (.putfield 22, 3) := by decide +kernel
theorem dX1_push_37 : decode cX1_push 37 = .ok (.aload_n 0, 1) := by decide +kernel
theorem dX1_push_38 : decode cX1_push 38 = .ok (.aload_n 0, 1) := by decide +kernel
theorem dX1_push_39 : decode cX1_push 39 = .ok (.getfield 18, 3) := by decide +kernel
theorem dX1_push_42 : decode cX1_push 42 = .ok (.iconst 1, 1) := by decide +kernel
theorem dX1_push_43 : decode cX1_push 43 = .ok (.iadd, 1) := by decide +kernel
theorem dX1_push_44 : decode cX1_push 44 = .ok (.iconst 5, 1) := by decide +kernel
theorem dX1_push_45 : decode cX1_push 45 = .ok (.invokestatic 29, 3) := by decide +kernel
theorem dX1_push_48 : decode cX1_push 48 = .ok (.putfield 18, 3) := by decide +kernel
theorem dX1_push_51 : decode cX1_push 51 = .ok (.return_, 1) := by decide +kernel
theorem dX1_popInto_0 : decode cX1_popInto 0 = .ok (.aload_n 0, 1) := by decide +kernel
theorem dX1_popInto_1 : decode cX1_popInto 1 = .ok (.getfield 18, 3) := by decide +kernel
theorem dX1_popInto_4 : decode cX1_popInto 4 = .ok (.ifCond .ne 5, 3) := by decide +kernel
theorem dX1_popInto_7 : decode cX1_popInto 7 = .ok (.iconst 0, 1) := by decide +kernel
theorem dX1_popInto_8 : decode cX1_popInto 8 = .ok (.ireturn, 1) := by decide +kernel
theorem dX1_popInto_9 : decode cX1_popInto 9 = .ok (.aload_n 0, 1) := by decide +kernel
theorem dX1_popInto_10 : decode cX1_popInto 10 = .ok (.aload_n 0, 1) := by decide +kernel
theorem dX1_popInto_11 : decode cX1_popInto 11 = .ok (.getfield 22, 3) := by decide +kernel
theorem dX1_popInto_14 : decode cX1_popInto 14 = .ok (.ifCond .le 12, 3) := by decide +kernel
theorem dX1_popInto_17 : decode cX1_popInto 17 = .ok (.aload_n 0, 1) := by decide +kernel
theorem dX1_popInto_18 : decode cX1_popInto 18 = .ok (.getfield 22, 3) := by decide +kernel
theorem dX1_popInto_21 : decode cX1_popInto 21 = .ok (.iconst 1, 1) := by decide +kernel
theorem dX1_popInto_22 : decode cX1_popInto 22 = .ok (.isub, 1) := by decide +kernel
theorem dX1_popInto_23 : decode cX1_popInto 23 = .ok (.goto 4, 3) := by decide +kernel
theorem dX1_popInto_26 : decode cX1_popInto 26 = .ok (.iconst 4, 1) := by decide +kernel
theorem dX1_popInto_27 : decode cX1_popInto 27 = .ok (.putfield 22, 3) := by decide +kernel
theorem dX1_popInto_30 : decode cX1_popInto 30 = .ok (.aload_n 0, 1) := by decide +kernel
theorem dX1_popInto_31 : decode cX1_popInto 31 = .ok (.dup, 1) := by decide +kernel
theorem dX1_popInto_32 : decode cX1_popInto 32 = .ok (.getfield 18, 3) := by decide +kernel
theorem dX1_popInto_35 : decode cX1_popInto 35 = .ok (.iconst 1, 1) := by decide +kernel
theorem dX1_popInto_36 : decode cX1_popInto 36 = .ok (.isub, 1) := by decide +kernel
theorem dX1_popInto_37 : decode cX1_popInto 37 = .ok (.putfield 18, 3) := by decide +kernel
theorem dX1_popInto_40 : decode cX1_popInto 40 = .ok (.aload_n 1, 1) := by decide +kernel
theorem dX1_popInto_41 : decode cX1_popInto 41 = .ok (.aload_n 0, 1) := by decide +kernel
theorem dX1_popInto_42 : decode cX1_popInto 42 = .ok (.getfield 11, 3) := by decide +kernel
theorem dX1_popInto_45 : decode cX1_popInto 45 = .ok (.aload_n 0, 1) := by decide +kernel
theorem dX1_popInto_46 : decode cX1_popInto 46 = .ok (.getfield 22, 3) := by decide +kernel
theorem dX1_popInto_49 : decode cX1_popInto 49 = .ok (.aaload, 1) := by decide +kernel
theorem dX1_popInto_50 : decode cX1_popInto 50 = .ok (.invokevirtual 25, 3) := by decide +kernel
theorem dX1_popInto_53 : decode cX1_popInto 53 = .ok (.iconst 1, 1) := by decide +kernel
theorem dX1_popInto_54 : decode cX1_popInto 54 = .ok (.ireturn, 1) := by decide +kernel
theorem dX2_init_0 : decode cX2_init 0 = .ok (.aload_n 0, 1) := by decide +kernel
theorem dX2_init_1 : decode cX2_init 1 = .ok (.invokespecial 3, 3) := by decide +kernel
theorem dX2_init_4 : decode cX2_init 4 = .ok (.aload_n 0, 1) := by decide +kernel
theorem dX2_init_5 : decode cX2_init 5 = .ok (.bipush 36, 2) := by decide +kernel
theorem dX2_init_7 : decode cX2_init 7 = .ok (.newarray .int, 2) := by decide +kernel
theorem dX2_init_9 : decode cX2_init 9 = .ok (.putfield 9, 3) := by decide +kernel
theorem dX2_init_12 : decode cX2_init 12 = .ok (.aload_n 0, 1) := by decide +kernel
theorem dX2_init_13 : decode cX2_init 13 = .ok (.iconst 5, 1) := by decide +kernel
theorem dX2_init_14 : decode cX2_init 14 = .ok (.newarray .int, 2) := by decide +kernel
theorem dX2_init_16 : decode cX2_init 16 = .ok (.putfield 15, 3) := by decide +kernel
theorem dX2_init_19 : decode cX2_init 19 = .ok (.aload_n 0, 1) := by decide +kernel
theorem dX2_init_20 : decode cX2_init 20 = .ok (.iconst 5, 1) := by decide +kernel
theorem dX2_init_21 : decode cX2_init 21 = .ok (.newarray .int, 2) := by decide +kernel
theorem dX2_init_23 : decode cX2_init 23 = .ok (.putfield 18, 3) := by decide +kernel
theorem dX2_init_26 : decode cX2_init 26 = .ok (.aload_n 0, 1) := by decide +kernel
theorem dX2_init_27 : decode cX2_init 27 = .ok (.iconst 5, 1) := by decide +kernel
theorem dX2_init_28 : decode cX2_init 28 = .ok (.newarray .long, 2) := by decide +kernel
theorem dX2_init_30 : decode cX2_init 30 = .ok (.putfield 21, 3) := by decide +kernel
theorem dX2_init_33 : decode cX2_init 33 = .ok (.aload_n 0, 1) := by decide +kernel
theorem dX2_init_34 : decode cX2_init 34 = .ok (.bipush 10, 2) := by decide +kernel
theorem dX2_init_36 : decode cX2_init 36 = .ok (.newarray .int, 2) := by decide +kernel
theorem dX2_init_38 : decode cX2_init 38 = .ok (.putfield 25, 3) := by decide +kernel
theorem dX2_init_41 : decode cX2_init 41 = .ok (.aload_n 0, 1) := by decide +kernel
theorem dX2_init_42 : decode cX2_init 42 = .ok (.bipush 10, 2) := by decide +kernel
theorem dX2_init_44 : decode cX2_init 44 = .ok (.newarray .int, 2) := by decide +kernel
theorem dX2_init_46 : decode cX2_init 46 = .ok (.putfield 28, 3) := by decide +kernel
theorem dX2_init_49 : decode cX2_init 49 = .ok (.return_, 1) := by decide +kernel
theorem dX2_begin_0 : decode cX2_begin 0 = .ok (.aload_n 0, 1) := by decide +kernel
theorem dX2_begin_1 : decode cX2_begin 1 = .ok (.iload_n 1, 1) := by decide +kernel
theorem dX2_begin_2 : decode cX2_begin 2 = .ok (.putfield 31, 3) := by decide +kernel
theorem dX2_begin_5 : decode cX2_begin 5 = .ok (.aload_n 0, 1) := by decide +kernel
theorem dX2_begin_6 : decode cX2_begin 6 = .ok (.iload_n 2, 1) := by decide +kernel
theorem dX2_begin_7 : decode cX2_begin 7 = .ok (.putfield 35, 3) := by decide +kernel
theorem dX2_begin_10 : decode cX2_begin 10 = .ok (.aload_n 0, 1) := by decide +kernel
theorem dX2_begin_11 : decode cX2_begin 11 = .ok (.iconst 0, 1) := by decide +kernel
theorem dX2_begin_12 : decode cX2_begin 12 = .ok (.putfield 38, 3) := by decide +kernel
theorem dX2_begin_15 : decode cX2_begin 15 = .ok (.aload_n 0, 1) := by decide +kernel
theorem dX2_begin_16 : decode cX2_begin 16 = .ok (.getfield 9, 3) := by decide +kernel
theorem dX2_begin_19 : decode cX2_begin 19 = .ok (.iconst 0, 1) := by decide +kernel
theorem dX2_begin_20 : decode cX2_begin 20 = .ok (.invokestatic 41, 3) := by decide +kernel
theorem dX2_begin_23 : decode cX2_begin 23 = .ok (.aload_n 0, 1) := by decide +kernel
theorem dX2_begin_24 : decode cX2_begin 24 = .ok (.invokevirtual 47, 3) := by decide +kernel
theorem dX2_begin_27 : decode cX2_begin 27 = .ok (.return_, 1) := by decide +kernel
theorem dX2_standStill_0 : decode cX2_standStill 0 = .ok (.aload_n 0, 1) := by decide +kernel
theorem dX2_standStill_1 : decode cX2_standStill 1 = .ok (.iconst 0, 1) := by decide +kernel
theorem dX2_standStill_2 : decode cX2_standStill 2 = .ok (.putfield 50, 3) := by decide +kernel
theorem dX2_standStill_5 : decode cX2_standStill 5 = .ok (.aload_n 0, 1) := by decide +kernel
theorem dX2_standStill_6 : decode cX2_standStill 6 = .ok (.getfield 25, 3) := by decide +kernel
theorem dX2_standStill_9 : decode cX2_standStill 9 = .ok (.iconst 0, 1) := by decide +kernel
theorem dX2_standStill_10 : decode cX2_standStill 10 = .ok (.invokestatic 41, 3) := by decide +kernel
theorem dX2_standStill_13 : decode cX2_standStill 13 = .ok (.aload_n 0, 1) := by decide +kernel
theorem dX2_standStill_14 : decode cX2_standStill 14 = .ok (.getfield 28, 3) := by decide +kernel
theorem dX2_standStill_17 : decode cX2_standStill 17 = .ok (.iconst 0, 1) := by decide +kernel
theorem dX2_standStill_18 : decode cX2_standStill 18 = .ok (.invokestatic 41, 3) := by decide +kernel
theorem dX2_standStill_21 : decode cX2_standStill 21 = .ok (.return_, 1) := by decide +kernel
theorem dX2_copyFrom_0 : decode cX2_copyFrom 0 = .ok (.aload_n 0, 1) := by decide +kernel
theorem dX2_copyFrom_1 : decode cX2_copyFrom 1 = .ok (.aload_n 1, 1) := by decide +kernel
theorem dX2_copyFrom_2 : decode cX2_copyFrom 2 = .ok (.getfield 31, 3) := by decide +kernel
theorem dX2_copyFrom_5 : decode cX2_copyFrom 5 = .ok (.putfield 31, 3) := by decide +kernel
theorem dX2_copyFrom_8 : decode cX2_copyFrom 8 = .ok (.aload_n 0, 1) := by decide +kernel
theorem dX2_copyFrom_9 : decode cX2_copyFrom 9 = .ok (.aload_n 1, 1) := by decide +kernel
theorem dX2_copyFrom_10 : decode cX2_copyFrom 10 = .ok (.getfield 35, 3) := by decide +kernel
theorem dX2_copyFrom_13 : decode cX2_copyFrom 13 = .ok (.putfield 35, 3) := by decide +kernel
theorem dX2_copyFrom_16 : decode cX2_copyFrom 16 = .ok (.aload_n 0, 1) := by decide +kernel
theorem dX2_copyFrom_17 : decode cX2_copyFrom 17 = .ok (.aload_n 1, 1) := by decide +kernel
theorem dX2_copyFrom_18 : decode cX2_copyFrom 18 = .ok (.getfield 50, 3) := by decide +kernel
theorem dX2_copyFrom_21 : decode cX2_copyFrom 21 = .ok (.putfield 50, 3) := by decide +kernel
theorem dX2_copyFrom_24 : decode cX2_copyFrom 24 = .ok (.aload_n 0, 1) := by decide +kernel
theorem dX2_copyFrom_25 : decode cX2_copyFrom 25 = .ok (.aload_n 1, 1) := by decide +kernel
theorem dX2_copyFrom_26 : decode cX2_copyFrom 26 = .ok (.getfield 38, 3) := by decide +kernel
theorem dX2_copyFrom_29 : decode cX2_copyFrom 29 = .ok (.putfield 38, 3) := by decide +kernel
theorem dX2_copyFrom_32 : decode cX2_copyFrom 32 = .ok (.aload_n 1, 1) := by decide +kernel
theorem dX2_copyFrom_33 : decode cX2_copyFrom 33 = .ok (.getfield 9, 3) := by decide +kernel
theorem dX2_copyFrom_36 : decode cX2_copyFrom 36 = .ok (.iconst 0, 1) := by decide +kernel
theorem dX2_copyFrom_37 : decode cX2_copyFrom 37 = .ok (.aload_n 0, 1) := by decide +kernel
theorem dX2_copyFrom_38 : decode cX2_copyFrom 38 = .ok (.getfield 9, 3) := by decide +kernel
theorem dX2_copyFrom_41 : decode cX2_copyFrom 41 = .ok (.iconst 0, 1) := by decide +kernel
theorem dX2_copyFrom_42 : decode cX2_copyFrom 42 = .ok (.bipush 36, 2) := by decide +kernel
theorem dX2_copyFrom_44 : decode cX2_copyFrom 44 = .ok (.invokestatic 53, 3) := by decide +kernel
theorem dX2_copyFrom_47 : decode cX2_copyFrom 47 = .ok (.aload_n 1, 1) := by decide +kernel
theorem dX2_copyFrom_48 : decode cX2_copyFrom 48 = .ok (.getfield 15, 3) := by decide +kernel
theorem dX2_copyFrom_51 : decode cX2_copyFrom 51 = .ok (.iconst 0, 1) := by decide +kernel
theorem dX2_copyFrom_52 : decode cX2_copyFrom 52 = .ok (.aload_n 0, 1) := by decide +kernel
theorem dX2_copyFrom_53 : decode cX2_copyFrom 53 = .ok (.getfield 15, 3) := by decide +kernel
theorem dX2_copyFrom_56 : decode cX2_copyFrom 56 = .ok (.iconst 0, 1) := by decide +kernel
theorem dX2_copyFrom_57 : decode cX2_copyFrom 57 = .ok (.iconst 5, 1) := by decide +kernel
theorem dX2_copyFrom_58 : decode cX2_copyFrom 58 = .ok (.invokestatic 53, 3) := by decide +kernel
theorem dX2_copyFrom_61 : decode cX2_copyFrom 61 = .ok (.aload_n 1, 1) := by decide +kernel
theorem dX2_copyFrom_62 : decode cX2_copyFrom 62 = .ok (.getfield 18, 3) := by decide +kernel
theorem dX2_copyFrom_65 : decode cX2_copyFrom 65 = .ok (.iconst 0, 1) := by decide +kernel
theorem dX2_copyFrom_66 : decode cX2_copyFrom 66 = .ok (.aload_n 0, 1) := by decide +kernel
theorem dX2_copyFrom_67 : decode cX2_copyFrom 67 = .ok (.getfield 18, 3) := by decide +kernel
theorem dX2_copyFrom_70 : decode cX2_copyFrom 70 = .ok (.iconst 0, 1) := by decide +kernel
theorem dX2_copyFrom_71 : decode cX2_copyFrom 71 = .ok (.iconst 5, 1) := by decide +kernel
theorem dX2_copyFrom_72 : decode cX2_copyFrom 72 = .ok (.invokestatic 53, 3) := by decide +kernel
theorem dX2_copyFrom_75 : decode cX2_copyFrom 75 = .ok (.aload_n 1, 1) := by decide +kernel
theorem dX2_copyFrom_76 : decode cX2_copyFrom 76 = .ok (.getfield 21, 3) := by decide +kernel
theorem dX2_copyFrom_79 : decode cX2_copyFrom 79 = .ok (.iconst 0, 1) := by decide +kernel
theorem dX2_copyFrom_80 : decode cX2_copyFrom 80 = .ok (.aload_n 0, 1) := by decide +kernel
theorem dX2_copyFrom_81 : decode cX2_copyFrom 81 = .ok (.getfield 21, 3) := by decide +kernel
theorem dX2_copyFrom_84 : decode cX2_copyFrom 84 = .ok (.iconst 0, 1) := by decide +kernel
theorem dX2_copyFrom_85 : decode cX2_copyFrom 85 = .ok (.iconst 5, 1) := by decide +kernel
theorem dX2_copyFrom_86 : decode cX2_copyFrom 86 = .ok (.invokestatic 53, 3) := by decide +kernel
theorem dX2_copyFrom_89 : decode cX2_copyFrom 89 = .ok (.aload_n 1, 1) := by decide +kernel
theorem dX2_copyFrom_90 : decode cX2_copyFrom 90 = .ok (.getfield 25, 3) := by decide +kernel
theorem dX2_copyFrom_93 : decode cX2_copyFrom 93 = .ok (.iconst 0, 1) := by decide +kernel
theorem dX2_copyFrom_94 : decode cX2_copyFrom 94 = .ok (.aload_n 0, 1) := by decide +kernel
theorem dX2_copyFrom_95 : decode cX2_copyFrom 95 = .ok (.getfield 25, 3) := by decide +kernel
theorem dX2_copyFrom_98 : decode cX2_copyFrom 98 = .ok (.iconst 0, 1) := by decide +kernel
theorem dX2_copyFrom_99 : decode cX2_copyFrom 99 = .ok (.bipush 10, 2) := by decide +kernel
theorem dX2_copyFrom_101 : decode cX2_copyFrom 101 = .ok (.invokestatic 53, 3) := by decide +kernel
theorem dX2_copyFrom_104 : decode cX2_copyFrom 104 = .ok (.aload_n 1, 1) := by decide +kernel
theorem dX2_copyFrom_105 : decode cX2_copyFrom 105 = .ok (.getfield 28, 3) := by decide +kernel
theorem dX2_copyFrom_108 : decode cX2_copyFrom 108 = .ok (.iconst 0, 1) := by decide +kernel
theorem dX2_copyFrom_109 : decode cX2_copyFrom 109 = .ok (.aload_n 0, 1) := by decide +kernel
theorem dX2_copyFrom_110 : decode cX2_copyFrom 110 = .ok (.getfield 28, 3) := by decide +kernel
theorem dX2_copyFrom_113 : decode cX2_copyFrom 113 = .ok (.iconst 0, 1) := by decide +kernel
theorem dX2_copyFrom_114 : decode cX2_copyFrom 114 = .ok (.bipush 10, 2) := by decide +kernel
theorem dX2_copyFrom_116 : decode cX2_copyFrom 116 = .ok (.invokestatic 53, 3) := by decide +kernel
theorem dX2_copyFrom_119 : decode cX2_copyFrom 119 = .ok (.return_, 1) := by decide +kernel
theorem dX2_addMessage_0 : decode cX2_addMessage 0 = .ok (.aload_n 0, 1) := by decide +kernel
theorem dX2_addMessage_1 : decode cX2_addMessage 1 = .ok (.getfield 38, 3) := by decide +kernel
theorem dX2_addMessage_4 : decode cX2_addMessage 4 = .ok (.istore_n 3, 1) := by decide +kernel
theorem dX2_addMessage_5 : decode cX2_addMessage 5 = .ok (.iload_n 3, 1) := by decide +kernel
theorem dX2_addMessage_6 : decode cX2_addMessage 6 = .ok (.iconst 5, 1) := by decide +kernel
theorem dX2_addMessage_7 : decode cX2_addMessage 7 = .ok (.if_icmp .lt 6, 3) := by decide +kernel
theorem dX2_addMessage_10 : decode cX2_addMessage 10 = .ok (.bipush (-4), 2) := by decide +kernel
theorem dX2_addMessage_12 : decode cX2_addMessage 12 = .ok (.ireturn, 1) := by decide +kernel
theorem dX2_addMessage_13 : decode cX2_addMessage 13 = .ok (.aload_n 0, 1) := by decide +kernel
theorem dX2_addMessage_14 : decode cX2_addMessage 14 = .ok (.getfield 15, 3) := by decide +kernel
theorem dX2_addMessage_17 : decode cX2_addMessage 17 = .ok (.iload_n 3, 1) := by decide +kernel
theorem dX2_addMessage_18 : decode cX2_addMessage 18 = .ok (.iload_n 1, 1) := by decide +kernel
theorem dX2_addMessage_19 : decode cX2_addMessage 19 = .ok (.iastore, 1) := by decide +kernel
theorem dX2_addMessage_20 : decode cX2_addMessage 20 = .ok (.aload_n 0, 1) := by decide +kernel
theorem dX2_addMessage_21 : decode cX2_addMessage 21 = .ok (.getfield 18, 3) := by decide +kernel
theorem dX2_addMessage_24 : decode cX2_addMessage 24 = .ok (.iload_n 3, 1) := by decide +kernel
theorem dX2_addMessage_25 : decode cX2_addMessage 25 = .ok (.iload_n 2, 1) := by decide +kernel
theorem dX2_addMessage_26 : decode cX2_addMessage 26 = .ok (.iastore, 1) := by decide +kernel
theorem dX2_addMessage_27 : decode cX2_addMessage 27 = .ok (.aload_n 0, 1) := by decide +kernel
theorem dX2_addMessage_28 : decode cX2_addMessage 28 = .ok (.getfield 21, 3) := by decide +kernel
theorem dX2_addMessage_31 : decode cX2_addMessage 31 = .ok (.iload_n 3, 1) := by decide +kernel
theorem dX2_addMessage_32 : decode cX2_addMessage 32 = .ok (.lconst 0, 1) := by decide +kernel
theorem dX2_addMessage_33 : decode cX2_addMessage 33 = .ok (.lastore, 1) := by decide +kernel
theorem dX2_addMessage_34 : decode cX2_addMessage 34 = .ok (.iload_n 3, 1) := by decide +kernel
theorem dX2_addMessage_35 : decode cX2_addMessage 35 = .ok (.iconst 2, 1) := by decide +kernel
theorem dX2_addMessage_36 : decode cX2_addMessage 36 = .ok (.imul, 1) := by decide +kernel
theorem dX2_addMessage_37 : decode cX2_addMessage 37 = .ok (.istore 4, 2) := by decide +kernel
theorem dX2_addMessage_39 : decode cX2_addMessage 39 = .ok (.iload 4, 2) := by decide +kernel
theorem dX2_addMessage_41 : decode cX2_addMessage 41 = .ok (.iload_n 3, 1) := by decide +kernel
theorem dX2_addMessage_42 : decode cX2_addMessage 42 = .ok (.iconst 2, 1) := by decide +kernel
theorem dX2_addMessage_43 : decode cX2_addMessage 43 = .ok (.imul, 1) := by decide +kernel
theorem dX2_addMessage_44 : decode cX2_addMessage 44 = .ok (.iconst 2, 1) := by decide +kernel
theorem dX2_addMessage_45 : decode cX2_addMessage 45 = .ok (.iadd, 1) := by decide +kernel
theorem dX2_addMessage_46 : decode cX2_addMessage 46 = .ok (.if_icmp .ge 25, 3) := by decide +kernel
theorem dX2_addMessage_49 : decode cX2_addMessage 49 = .ok (.aload_n 0, 1) := by decide +kernel
theorem dX2_addMessage_50 : decode cX2_addMessage 50 = .ok (.getfield 25, 3) := by decide +kernel
theorem dX2_addMessage_53 : decode cX2_addMessage 53 = .ok (.iload 4, 2) := by decide +kernel
theorem dX2_addMessage_55 : decode cX2_addMessage 55 = .ok (.iconst 0, 1) := by decide +kernel
theorem dX2_addMessage_56 : decode cX2_addMessage 56 = .ok (.iastore, 1) := by decide +kernel
theorem dX2_addMessage_57 : decode cX2_addMessage 57 = .ok (.aload_n 0, 1) := by decide +kernel
theorem dX2_addMessage_58 : decode cX2_addMessage 58 = .ok (.getfield 28, 3) := by decide +kernel
theorem dX2_addMessage_61 : decode cX2_addMessage 61 = .ok (.iload 4, 2) := by decide +kernel
theorem dX2_addMessage_63 : decode cX2_addMessage 63 = .ok (.iconst 0, 1) := by decide +kernel
theorem dX2_addMessage_64 : decode cX2_addMessage 64 = .ok (.iastore, 1) := by decide +kernel
theorem dX2_addMessage_65 : decode cX2_addMessage 65 = .ok (.iinc 4 1, 3) := by decide +kernel
theorem dX2_addMessage_68 : decode cX2_addMessage 68 = .ok (.goto (-29), 3) := by decide +kernel
theorem dX2_addMessage_71 : decode cX2_addMessage 71 = .ok (.aload_n 0, 1) := by decide +kernel
theorem dX2_addMessage_72 : decode cX2_addMessage 72 = .ok (.dup, 1) := by decide +kernel
theorem dX2_addMessage_73 : decode cX2_addMessage 73 = .ok (.getfield 38, 3) := by decide +kernel
theorem dX2_addMessage_76 : decode cX2_addMessage 76 = .ok (.iconst 1, 1) := by decide +kernel
theorem dX2_addMessage_77 : decode cX2_addMessage 77 = .ok (.iadd, 1) := by decide +kernel
theorem dX2_addMessage_78 : decode cX2_addMessage 78 = .ok (.putfield 38, 3) := by decide +kernel
theorem dX2_addMessage_81 : decode cX2_addMessage 81 = .ok (.iload_n 3, 1) := by decide +kernel
theorem dX2_addMessage_82 : decode cX2_addMessage 82 = .ok (.ireturn, 1) := by decide +kernel
theorem dX2_worms_0 : decode cX2_worms 0 = .ok (.aload_n 0, 1) := by decide +kernel
theorem dX2_worms_1 : decode cX2_worms 1 = .ok (.getfield 38, 3) := by decide +kernel
theorem dX2_worms_4 : decode cX2_worms 4 = .ok (.iconst 2, 1) := by decide +kernel
theorem dX2_worms_5 : decode cX2_worms 5 = .ok (.imul, 1) := by decide +kernel
theorem dX2_worms_6 : decode cX2_worms 6 = .ok (.ireturn, 1) := by decide +kernel
theorem dX2_lengthOf_0 : decode cX2_lengthOf 0 = .ok (.aload_n 0, 1) := by decide +kernel
theorem dX2_lengthOf_1 : decode cX2_lengthOf 1 = .ok (.getfield 18, 3) := by decide +kernel
theorem dX2_lengthOf_4 : decode cX2_lengthOf 4 = .ok (.iload_n 1, 1) := by decide +kernel
theorem dX2_lengthOf_5 : decode cX2_lengthOf 5 = .ok (.iconst 1, 1) := by decide +kernel
theorem dX2_lengthOf_6 : decode cX2_lengthOf 6 = .ok (.ishr, 1) := by decide +kernel
theorem dX2_lengthOf_7 : decode cX2_lengthOf 7 = .ok (.iaload, 1) := by decide +kernel
theorem dX2_lengthOf_8 : decode cX2_lengthOf 8 = .ok (.ireturn, 1) := by decide +kernel
theorem dX2_sourceOf_0 : decode cX2_sourceOf 0 = .ok (.aload_n 0, 1) := by decide +kernel
theorem dX2_sourceOf_1 : decode cX2_sourceOf 1 = .ok (.getfield 15, 3) := by decide +kernel
theorem dX2_sourceOf_4 : decode cX2_sourceOf 4 = .ok (.iload_n 1, 1) := by decide +kernel
theorem dX2_sourceOf_5 : decode cX2_sourceOf 5 = .ok (.iconst 1, 1) := by decide +kernel
theorem dX2_sourceOf_6 : decode cX2_sourceOf 6 = .ok (.ishr, 1) := by decide +kernel
theorem dX2_sourceOf_7 : decode cX2_sourceOf 7 = .ok (.iaload, 1) := by decide +kernel
theorem dX2_sourceOf_8 : decode cX2_sourceOf 8 = .ok (.ireturn, 1) := by decide +kernel
theorem dX2_rises_0 : decode cX2_rises 0 = .ok (.iload_n 1, 1) := by decide +kernel
theorem dX2_rises_1 : decode cX2_rises 1 = .ok (.iconst 1, 1) := by decide +kernel
theorem dX2_rises_2 : decode cX2_rises 2 = .ok (.iand, 1) := by decide +kernel
theorem dX2_rises_3 : decode cX2_rises 3 = .ok (.ifCond .ne 7, 3) := by decide +kernel
theorem dX2_rises_6 : decode cX2_rises 6 = .ok (.iconst 1, 1) := by decide +kernel
theorem dX2_rises_7 : decode cX2_rises 7 = .ok (.goto 4, 3) := by decide +kernel
theorem dX2_rises_10 : decode cX2_rises 10 = .ok (.iconst 0, 1) := by decide +kernel
theorem dX2_rises_11 : decode cX2_rises 11 = .ok (.ireturn, 1) := by decide +kernel
theorem dX2_goalsOfWorm_0 : decode cX2_goalsOfWorm 0 = .ok (.lconst 1, 1) := by decide +kernel
theorem dX2_goalsOfWorm_1 : decode cX2_goalsOfWorm 1 = .ok (.aload_n 0, 1) := by decide +kernel
theorem dX2_goalsOfWorm_2 : decode cX2_goalsOfWorm 2 = .ok (.iload_n 1, 1) := by decide +kernel
theorem dX2_goalsOfWorm_3 : decode cX2_goalsOfWorm 3 = .ok (.invokevirtual 59, 3) := by decide +kernel
theorem dX2_goalsOfWorm_6 : decode cX2_goalsOfWorm 6 = .ok (.lshl, 1) := by decide +kernel
theorem dX2_goalsOfWorm_7 : decode cX2_goalsOfWorm 7 = .ok (.lconst 1, 1) := by decide +kernel
theorem dX2_goalsOfWorm_8 : decode cX2_goalsOfWorm 8 = .ok (.lsub, 1) := by decide +kernel
theorem dX2_goalsOfWorm_9 : decode cX2_goalsOfWorm 9 = .ok (.lstore_n 2, 1) := by decide +kernel
theorem dX2_goalsOfWorm_10 : decode cX2_goalsOfWorm 10 = .ok (.aload_n 0, 1) := by decide +kernel
theorem dX2_goalsOfWorm_11 : decode cX2_goalsOfWorm 11 = .ok (.getfield 21, 3) := by decide +kernel
theorem dX2_goalsOfWorm_14 : decode cX2_goalsOfWorm 14 = .ok (.iload_n 1, 1) := by decide +kernel
theorem dX2_goalsOfWorm_15 : decode cX2_goalsOfWorm 15 = .ok (.iconst 1, 1) := by decide +kernel
theorem dX2_goalsOfWorm_16 : decode cX2_goalsOfWorm 16 = .ok (.ishr, 1) := by decide +kernel
theorem dX2_goalsOfWorm_17 : decode cX2_goalsOfWorm 17 = .ok (.laload, 1) := by decide +kernel
theorem dX2_goalsOfWorm_18 : decode cX2_goalsOfWorm 18 = .ok (.aload_n 0, 1) := by decide +kernel
theorem dX2_goalsOfWorm_19 : decode cX2_goalsOfWorm 19 = .ok (.iload_n 1, 1) := by decide +kernel
theorem dX2_goalsOfWorm_20 : decode cX2_goalsOfWorm 20 = .ok (.invokevirtual 63, 3) := by decide +kernel
theorem dX2_goalsOfWorm_23 : decode cX2_goalsOfWorm 23 = .ok (.ifCond .eq 11, 3) := by decide +kernel
theorem dX2_goalsOfWorm_26 : decode cX2_goalsOfWorm 26 = .ok (.lload_n 2, 1) := by decide +kernel
theorem dX2_goalsOfWorm_27 : decode cX2_goalsOfWorm 27 = .ok (.ldc2_w 67, 3) := by decide +kernel
theorem dX2_goalsOfWorm_30 : decode cX2_goalsOfWorm 30 = .ok (.lxor, 1) := by decide +kernel
theorem dX2_goalsOfWorm_31 : decode cX2_goalsOfWorm 31 = .ok (.goto 4, 3) := by decide +kernel
theorem dX2_goalsOfWorm_34 : decode cX2_goalsOfWorm 34 = .ok (.lload_n 2, 1) := by decide +kernel
theorem dX2_goalsOfWorm_35 : decode cX2_goalsOfWorm 35 = .ok (.land, 1) := by decide +kernel
theorem dX2_goalsOfWorm_36 : decode cX2_goalsOfWorm 36 = .ok (.lreturn, 1) := by decide +kernel
theorem dX2_isDown_0 : decode cX2_isDown 0 = .ok (.aload_n 0, 1) := by decide +kernel
theorem dX2_isDown_1 : decode cX2_isDown 1 = .ok (.getfield 9, 3) := by decide +kernel
theorem dX2_isDown_4 : decode cX2_isDown 4 = .ok (.iload_n 1, 1) := by decide +kernel
theorem dX2_isDown_5 : decode cX2_isDown 5 = .ok (.iconst 2, 1) := by decide +kernel
theorem dX2_isDown_6 : decode cX2_isDown 6 = .ok (.ishr, 1) := by decide +kernel
theorem dX2_isDown_7 : decode cX2_isDown 7 = .ok (.iaload, 1) := by decide +kernel
theorem dX2_isDown_8 : decode cX2_isDown 8 = .ok (.iload_n 1, 1) := by decide +kernel
theorem dX2_isDown_9 : decode cX2_isDown 9 = .ok (.iconst 3, 1) := by decide +kernel
theorem dX2_isDown_10 : decode cX2_isDown 10 = .ok (.iand, 1) := by decide +kernel
theorem dX2_isDown_11 : decode cX2_isDown 11 = .ok (.ishr, 1) := by decide +kernel
theorem dX2_isDown_12 : decode cX2_isDown 12 = .ok (.iconst 1, 1) := by decide +kernel
theorem dX2_isDown_13 : decode cX2_isDown 13 = .ok (.iand, 1) := by decide +kernel
theorem dX2_isDown_14 : decode cX2_isDown 14 = .ok (.ifCond .eq 7, 3) := by decide +kernel
theorem dX2_isDown_17 : decode cX2_isDown 17 = .ok (.iconst 1, 1) := by decide +kernel
theorem dX2_isDown_18 : decode cX2_isDown 18 = .ok (.goto 4, 3) := by decide +kernel
theorem dX2_isDown_21 : decode cX2_isDown 21 = .ok (.iconst 0, 1) := by decide +kernel
theorem dX2_isDown_22 : decode cX2_isDown 22 = .ok (.ireturn, 1) := by decide +kernel
theorem dX2_turn_0 : decode cX2_turn 0 = .ok (.aload_n 0, 1) := by decide +kernel
theorem dX2_turn_1 : decode cX2_turn 1 = .ok (.getfield 9, 3) := by decide +kernel
theorem dX2_turn_4 : decode cX2_turn 4 = .ok (.iload_n 1, 1) := by decide +kernel
theorem dX2_turn_5 : decode cX2_turn 5 = .ok (.iconst 2, 1) := by decide +kernel
theorem dX2_turn_6 : decode cX2_turn 6 = .ok (.ishr, 1) := by decide +kernel
theorem dX2_turn_7 : decode cX2_turn 7 = .ok (.dup2, 1) := by decide +kernel
theorem dX2_turn_8 : decode cX2_turn 8 = .ok (.iaload, 1) := by decide +kernel
theorem dX2_turn_9 : decode cX2_turn 9 = .ok (.iconst 1, 1) := by decide +kernel
theorem dX2_turn_10 : decode cX2_turn 10 = .ok (.iload_n 1, 1) := by decide +kernel
theorem dX2_turn_11 : decode cX2_turn 11 = .ok (.iconst 3, 1) := by decide +kernel
theorem dX2_turn_12 : decode cX2_turn 12 = .ok (.iand, 1) := by decide +kernel
theorem dX2_turn_13 : decode cX2_turn 13 = .ok (.ishl, 1) := by decide +kernel
theorem dX2_turn_14 : decode cX2_turn 14 = .ok (.ixor, 1) := by decide +kernel
theorem dX2_turn_15 : decode cX2_turn 15 = .ok (.iastore, 1) := by decide +kernel
theorem dX2_turn_16 : decode cX2_turn 16 = .ok (.return_, 1) := by decide +kernel
theorem dX2_channelsDown_0 : decode cX2_channelsDown 0 = .ok (.iconst 0, 1) := by decide +kernel
theorem dX2_channelsDown_1 : decode cX2_channelsDown 1 = .ok (.istore_n 1, 1) := by decide +kernel
theorem dX2_channelsDown_2 : decode cX2_channelsDown 2 = .ok (.iconst 0, 1) := by decide +kernel
theorem dX2_channelsDown_3 : decode cX2_channelsDown 3 = .ok (.istore_n 2, 1) := by decide +kernel
theorem dX2_channelsDown_4 : decode cX2_channelsDown 4 = .ok (.iload_n 2, 1) := by decide +kernel
theorem dX2_channelsDown_5 : decode cX2_channelsDown 5 = .ok (.bipush 36, 2) := by decide +kernel
theorem dX2_channelsDown_7 : decode cX2_channelsDown 7 = .ok (.if_icmp .ge 21, 3) := by decide +kernel
theorem dX2_channelsDown_10 : decode cX2_channelsDown 10 = .ok (.iload_n 1, 1) := by decide +kernel
theorem dX2_channelsDown_11 : decode cX2_channelsDown 11 = .ok (.aload_n 0, 1) := by decide +kernel
theorem dX2_channelsDown_12 : decode cX2_channelsDown 12 = .ok (.getfield 9, 3) := by decide +kernel
theorem dX2_channelsDown_15 : decode cX2_channelsDown 15 = .ok (.iload_n 2, 1) := by decide +kernel
theorem dX2_channelsDown_16 : decode cX2_channelsDown 16 = .ok (.iaload, 1) := by decide +kernel
theorem dX2_channelsDown_17 : decode cX2_channelsDown 17 = .ok (.invokestatic 69, 3) := by decide +kernel
theorem dX2_channelsDown_20 : decode cX2_channelsDown 20 = .ok (.iadd, 1) := by decide +kernel
theorem dX2_channelsDown_21 : decode cX2_channelsDown 21 = .ok (.istore_n 1, 1) := by decide +kernel
theorem dX2_channelsDown_22 : decode cX2_channelsDown 22 = .ok (.iinc 2 1, 3) := by decide +kernel
theorem dX2_channelsDown_25 : decode cX2_channelsDown 25 = .ok (.goto (-21), 3) := by decide +kernel
theorem dX2_channelsDown_28 : decode cX2_channelsDown 28 = .ok (.iload_n 1, 1) := by decide +kernel
theorem dX2_channelsDown_29 : decode cX2_channelsDown 29 = .ok (.ireturn, 1) := by decide +kernel
theorem dX2_waitedInAll_0 : decode cX2_waitedInAll 0 = .ok (.iconst 0, 1) := by decide +kernel
theorem dX2_waitedInAll_1 : decode cX2_waitedInAll 1 = .ok (.istore_n 1, 1) := by decide +kernel
theorem dX2_waitedInAll_2 : decode cX2_waitedInAll 2 = .ok (.iconst 0, 1) := by decide +kernel
theorem dX2_waitedInAll_3 : decode cX2_waitedInAll 3 = .ok (.istore_n 2, 1) := by decide +kernel
theorem dX2_waitedInAll_4 : decode cX2_waitedInAll 4 = .ok (.iload_n 2, 1) := by decide +kernel
theorem dX2_waitedInAll_5 : decode cX2_waitedInAll 5 = .ok (.aload_n 0, 1) := by decide +kernel
theorem dX2_waitedInAll_6 : decode cX2_waitedInAll 6 = .ok (.invokevirtual 74, 3) := by decide +kernel
theorem dX2_waitedInAll_9 : decode cX2_waitedInAll 9 = .ok (.if_icmp .ge 18, 3) := by decide +kernel
theorem dX2_waitedInAll_12 : decode cX2_waitedInAll 12 = .ok (.iload_n 1, 1) := by decide +kernel
theorem dX2_waitedInAll_13 : decode cX2_waitedInAll 13 = .ok (.aload_n 0, 1) := by decide +kernel
theorem dX2_waitedInAll_14 : decode cX2_waitedInAll 14 = .ok (.getfield 28, 3) := by decide +kernel
theorem dX2_waitedInAll_17 : decode cX2_waitedInAll 17 = .ok (.iload_n 2, 1) := by decide +kernel
theorem dX2_waitedInAll_18 : decode cX2_waitedInAll 18 = .ok (.iaload, 1) := by decide +kernel
theorem dX2_waitedInAll_19 : decode cX2_waitedInAll 19 = .ok (.iadd, 1) := by decide +kernel
theorem dX2_waitedInAll_20 : decode cX2_waitedInAll 20 = .ok (.istore_n 1, 1) := by decide +kernel
theorem dX2_waitedInAll_21 : decode cX2_waitedInAll 21 = .ok (.iinc 2 1, 3) := by decide +kernel
theorem dX2_waitedInAll_24 : decode cX2_waitedInAll 24 = .ok (.goto (-20), 3) := by decide +kernel
theorem dX2_waitedInAll_27 : decode cX2_waitedInAll 27 = .ok (.iload_n 1, 1) := by decide +kernel
theorem dX2_waitedInAll_28 : decode cX2_waitedInAll 28 = .ok (.ireturn, 1) := by decide +kernel
theorem dX3_init_0 : decode cX3_init 0 = .ok (.aload_n 0, 1) := by decide +kernel
theorem dX3_init_1 : decode cX3_init 1 = .ok (.invokespecial 3, 3) := by decide +kernel
theorem dX3_init_4 : decode cX3_init 4 = .ok (.aload_n 0, 1) := by decide +kernel
theorem dX3_init_5 : decode cX3_init 5 = .ok (.bipush 120, 2) := by decide +kernel
theorem dX3_init_7 : decode cX3_init 7 = .ok (.newarray .int, 2) := by decide +kernel
theorem dX3_init_9 : decode cX3_init 9 = .ok (.putfield 9, 3) := by decide +kernel
theorem dX3_init_12 : decode cX3_init 12 = .ok (.aload_n 0, 1) := by decide +kernel
theorem dX3_init_13 : decode cX3_init 13 = .ok (.bipush 60, 2) := by decide +kernel
theorem dX3_init_15 : decode cX3_init 15 = .ok (.newarray .int, 2) := by decide +kernel
theorem dX3_init_17 : decode cX3_init 17 = .ok (.putfield 15, 3) := by decide +kernel
theorem dX3_init_20 : decode cX3_init 20 = .ok (.aload_n 0, 1) := by decide +kernel
theorem dX3_init_21 : decode cX3_init 21 = .ok (.sipush 180, 3) := by decide +kernel
theorem dX3_init_24 : decode cX3_init 24 = .ok (.newarray .int, 2) := by decide +kernel
theorem dX3_init_26 : decode cX3_init 26 = .ok (.putfield 18, 3) := by decide +kernel
theorem dX3_init_29 : decode cX3_init 29 = .ok (.return_, 1) := by decide +kernel
theorem dX3_add_0 : decode cX3_add 0 = .ok (.aload_n 0, 1) := by decide +kernel
theorem dX3_add_1 : decode cX3_add 1 = .ok (.getfield 21, 3) := by decide +kernel
theorem dX3_add_4 : decode cX3_add 4 = .ok (.bipush 120, 2) := by decide +kernel
theorem dX3_add_6 : decode cX3_add 6 = .ok (.if_icmp .lt 5, 3) := by decide +kernel
theorem dX3_add_9 : decode cX3_add 9 = .ok (.iconst 0, 1) := by decide +kernel
theorem dX3_add_10 : decode cX3_add 10 = .ok (.ireturn, 1) := by decide +kernel
theorem dX3_add_11 : decode cX3_add 11 = .ok (.aload_n 0, 1) := by decide +kernel
theorem dX3_add_12 : decode cX3_add 12 = .ok (.getfield 9, 3) := by decide +kernel
theorem dX3_add_15 : decode cX3_add 15 = .ok (.aload_n 0, 1) := by decide +kernel
theorem dX3_add_16 : decode cX3_add 16 = .ok (.getfield 21, 3) := by decide +kernel
theorem dX3_add_19 : decode cX3_add 19 = .ok (.iload_n 1, 1) := by decide +kernel
theorem dX3_add_20 : decode cX3_add 20 = .ok (.iastore, 1) := by decide +kernel
theorem dX3_add_21 : decode cX3_add 21 = .ok (.aload_n 0, 1) := by decide +kernel
theorem dX3_add_22 : decode cX3_add 22 = .ok (.dup, 1) := by decide +kernel
theorem dX3_add_23 : decode cX3_add 23 = .ok (.getfield 21, 3) := by decide +kernel
theorem dX3_add_26 : decode cX3_add 26 = .ok (.iconst 1, 1) := by decide +kernel
theorem dX3_add_27 : decode cX3_add 27 = .ok (.iadd, 1) := by decide +kernel
theorem dX3_add_28 : decode cX3_add 28 = .ok (.putfield 21, 3) := by decide +kernel
theorem dX3_add_31 : decode cX3_add 31 = .ok (.iconst 1, 1) := by decide +kernel
theorem dX3_add_32 : decode cX3_add 32 = .ok (.ireturn, 1) := by decide +kernel
theorem dX3_empty_0 : decode cX3_empty 0 = .ok (.aload_n 0, 1) := by decide +kernel
theorem dX3_empty_1 : decode cX3_empty 1 = .ok (.getfield 21, 3) := by decide +kernel
theorem dX3_empty_4 : decode cX3_empty 4 = .ok (.istore_n 1, 1) := by decide +kernel
theorem dX3_empty_5 : decode cX3_empty 5 = .ok (.aload_n 0, 1) := by decide +kernel
theorem dX3_empty_6 : decode cX3_empty 6 = .ok (.iconst 0, 1) := by decide +kernel
theorem dX3_empty_7 : decode cX3_empty 7 = .ok (.putfield 21, 3) := by decide +kernel
theorem dX3_empty_10 : decode cX3_empty 10 = .ok (.iload_n 1, 1) := by decide +kernel
theorem dX3_empty_11 : decode cX3_empty 11 = .ok (.ireturn, 1) := by decide +kernel
theorem dX3_size_0 : decode cX3_size 0 = .ok (.aload_n 0, 1) := by decide +kernel
theorem dX3_size_1 : decode cX3_size 1 = .ok (.getfield 21, 3) := by decide +kernel
theorem dX3_size_4 : decode cX3_size 4 = .ok (.ireturn, 1) := by decide +kernel
theorem dX3_orders_0 : decode cX3_orders 0 = .ok (.aload_n 0, 1) := by decide +kernel
theorem dX3_orders_1 : decode cX3_orders 1 = .ok (.getfield 25, 3) := by decide +kernel
theorem dX3_orders_4 : decode cX3_orders 4 = .ok (.ireturn, 1) := by decide +kernel
theorem dX3_letterOf_0 : decode cX3_letterOf 0 = .ok (.aload_n 0, 1) := by decide +kernel
theorem dX3_letterOf_1 : decode cX3_letterOf 1 = .ok (.getfield 15, 3) := by decide +kernel
theorem dX3_letterOf_4 : decode cX3_letterOf 4 = .ok (.iload_n 1, 1) := by decide +kernel
theorem dX3_letterOf_5 : decode cX3_letterOf 5 = .ok (.iaload, 1) := by decide +kernel
theorem dX3_letterOf_6 : decode cX3_letterOf 6 = .ok (.ireturn, 1) := by decide +kernel
theorem dX3_numberOf_0 : decode cX3_numberOf 0 = .ok (.aload_n 0, 1) := by decide +kernel
theorem dX3_numberOf_1 : decode cX3_numberOf 1 = .ok (.getfield 18, 3) := by decide +kernel
theorem dX3_numberOf_4 : decode cX3_numberOf 4 = .ok (.iload_n 1, 1) := by decide +kernel
theorem dX3_numberOf_5 : decode cX3_numberOf 5 = .ok (.iconst 3, 1) := by decide +kernel
theorem dX3_numberOf_6 : decode cX3_numberOf 6 = .ok (.imul, 1) := by decide +kernel
theorem dX3_numberOf_7 : decode cX3_numberOf 7 = .ok (.iload_n 2, 1) := by decide +kernel
theorem dX3_numberOf_8 : decode cX3_numberOf 8 = .ok (.iadd, 1) := by decide +kernel
theorem dX3_numberOf_9 : decode cX3_numberOf 9 = .ok (.iaload, 1) := by decide +kernel
theorem dX3_numberOf_10 : decode cX3_numberOf 10 = .ok (.ireturn, 1) := by decide +kernel
theorem dX3_read_0 : decode cX3_read 0 = .ok (.aload_n 0, 1) := by decide +kernel
theorem dX3_read_1 : decode cX3_read 1 = .ok (.iconst 0, 1) := by decide +kernel
theorem dX3_read_2 : decode cX3_read 2 = .ok (.putfield 25, 3) := by decide +kernel
theorem dX3_read_5 : decode cX3_read 5 = .ok (.aload_n 0, 1) := by decide +kernel
theorem dX3_read_6 : decode cX3_read 6 = .ok (.iconst 0, 1) := by decide +kernel
theorem dX3_read_7 : decode cX3_read 7 = .ok (.putfield 28, 3) := by decide +kernel
theorem dX3_read_10 : decode cX3_read 10 = .ok (.aload_n 0, 1) := by decide +kernel
theorem dX3_read_11 : decode cX3_read 11 = .ok (.invokevirtual 31, 3) := by decide +kernel
theorem dX3_read_14 : decode cX3_read 14 = .ok (.aload_n 0, 1) := by decide +kernel
theorem dX3_read_15 : decode cX3_read 15 = .ok (.getfield 25, 3) := by decide +kernel
theorem dX3_read_18 : decode cX3_read 18 = .ok (.bipush 60, 2) := by decide +kernel
theorem dX3_read_20 : decode cX3_read 20 = .ok (.if_icmp .ge 50, 3) := by decide +kernel
theorem dX3_read_23 : decode cX3_read 23 = .ok (.aload_n 0, 1) := by decide +kernel
theorem dX3_read_24 : decode cX3_read 24 = .ok (.getfield 28, 3) := by decide +kernel
theorem dX3_read_27 : decode cX3_read 27 = .ok (.aload_n 0, 1) := by decide +kernel
theorem dX3_read_28 : decode cX3_read 28 = .ok (.getfield 21, 3) := by decide +kernel
theorem dX3_read_31 : decode cX3_read 31 = .ok (.if_icmp .lt 10, 3) := by decide +kernel
theorem dX3_read_34 : decode cX3_read 34 = .ok (.aload_n 0, 1) := by decide +kernel
theorem dX3_read_35 : decode cX3_read 35 = .ok (.getfield 25, 3) := by decide +kernel
theorem dX3_read_38 : decode cX3_read 38 = .ok (.ifCond .ne 32, 3) := by decide +kernel
theorem dX3_read_41 : decode cX3_read 41 = .ok (.aload_n 0, 1) := by decide +kernel
theorem dX3_read_42 : decode cX3_read 42 = .ok (.invokevirtual 34, 3) := by decide +kernel
theorem dX3_read_45 : decode cX3_read 45 = .ok (.ifCond .ne 8, 3) := by decide +kernel
theorem dX3_read_48 : decode cX3_read 48 = .ok (.aload_n 0, 1) := by decide +kernel
theorem dX3_read_49 : decode cX3_read 49 = .ok (.getfield 28, 3) := by decide +kernel
theorem dX3_read_52 : decode cX3_read 52 = .ok (.ireturn, 1) := by decide +kernel
theorem dX3_read_53 : decode cX3_read 53 = .ok (.aload_n 0, 1) := by decide +kernel
theorem dX3_read_54 : decode cX3_read 54 = .ok (.dup, 1) := by decide +kernel
theorem dX3_read_55 : decode cX3_read 55 = .ok (.getfield 25, 3) := by decide +kernel
theorem dX3_read_58 : decode cX3_read 58 = .ok (.iconst 1, 1) := by decide +kernel
theorem dX3_read_59 : decode cX3_read 59 = .ok (.iadd, 1) := by decide +kernel
theorem dX3_read_60 : decode cX3_read 60 = .ok (.putfield 25, 3) := by decide +kernel
theorem dX3_read_63 : decode cX3_read 63 = .ok (.aload_n 0, 1) := by decide +kernel
theorem dX3_read_64 : decode cX3_read 64 = .ok (.invokevirtual 31, 3) := by decide +kernel
theorem dX3_read_67 : decode cX3_read 67 = .ok (.goto (-53), 3) := by decide +kernel
theorem dX3_read_70 : decode cX3_read 70 = .ok (.iconst (-1), 1) := by decide +kernel
theorem dX3_read_71 : decode cX3_read 71 = .ok (.ireturn, 1) := by decide +kernel
theorem dX3_readOrder_0 : decode cX3_readOrder 0 = .ok (.aload_n 0, 1) := by decide +kernel
theorem dX3_readOrder_1 : decode cX3_readOrder 1 = .ok (.invokevirtual 38, 3) := by decide +kernel
theorem dX3_readOrder_4 : decode cX3_readOrder 4 = .ok (.istore_n 1, 1) := by decide +kernel
theorem dX3_readOrder_5 : decode cX3_readOrder 5 = .ok (.iload_n 1, 1) := by decide +kernel
theorem dX3_readOrder_6 : decode cX3_readOrder 6 = .ok (.invokestatic 42, 3) := by decide +kernel
theorem dX3_readOrder_9 : decode cX3_readOrder 9 = .ok (.istore_n 2, 1) := by decide +kernel
theorem dX3_readOrder_10 : decode cX3_readOrder 10 = .ok (.iload_n 2, 1) := by decide +kernel
theorem dX3_readOrder_11 : decode cX3_readOrder 11 = .ok (.iconst (-1), 1) := by decide +kernel
theorem dX3_readOrder_12 : decode cX3_readOrder 12 = .ok (.if_icmp .ne 5, 3) := by decide +kernel
theorem dX3_readOrder_15 : decode cX3_readOrder 15 = .ok (.iconst 0, 1) := by decide +kernel
theorem dX3_readOrder_16 : decode cX3_readOrder 16 = .ok (.ireturn, 1) := by decide +kernel
theorem dX3_readOrder_17 : decode cX3_readOrder 17 = .ok (.aload_n 0, 1) := by decide +kernel
theorem dX3_readOrder_18 : decode cX3_readOrder 18 = .ok (.getfield 15, 3) := by decide +kernel
theorem dX3_readOrder_21 : decode cX3_readOrder 21 = .ok (.aload_n 0, 1) := by decide +kernel
theorem dX3_readOrder_22 : decode cX3_readOrder 22 = .ok (.getfield 25, 3) := by decide +kernel
theorem dX3_readOrder_25 : decode cX3_readOrder 25 = .ok (.iload_n 1, 1) := by decide +kernel
theorem dX3_readOrder_26 : decode cX3_readOrder 26 = .ok (.iastore, 1) := by decide +kernel
theorem dX3_readOrder_27 : decode cX3_readOrder 27 = .ok (.aload_n 0, 1) := by decide +kernel
theorem dX3_readOrder_28 : decode cX3_readOrder 28 = .ok (.dup, 1) := by decide +kernel
theorem dX3_readOrder_29 : decode cX3_readOrder 29 = .ok (.getfield 28, 3) := by decide +kernel
theorem dX3_readOrder_32 : decode cX3_readOrder 32 = .ok (.iconst 1, 1) := by decide +kernel
theorem dX3_readOrder_33 : decode cX3_readOrder 33 = .ok (.iadd, 1) := by decide +kernel
theorem dX3_readOrder_34 : decode cX3_readOrder 34 = .ok (.putfield 28, 3) := by decide +kernel
theorem dX3_readOrder_37 : decode cX3_readOrder 37 = .ok (.iconst 0, 1) := by decide +kernel
theorem dX3_readOrder_38 : decode cX3_readOrder 38 = .ok (.istore_n 3, 1) := by decide +kernel
theorem dX3_readOrder_39 : decode cX3_readOrder 39 = .ok (.iload_n 3, 1) := by decide +kernel
theorem dX3_readOrder_40 : decode cX3_readOrder 40 = .ok (.iconst 3, 1) := by decide +kernel
theorem dX3_readOrder_41 : decode cX3_readOrder 41 = .ok (.if_icmp .ge 23, 3) := by decide +kernel
theorem dX3_readOrder_44 : decode cX3_readOrder 44 = .ok (.aload_n 0, 1) := by decide +kernel
theorem dX3_readOrder_45 : decode cX3_readOrder 45 = .ok (.getfield 18, 3) := by decide +kernel
theorem dX3_readOrder_48 : decode cX3_readOrder 48 = .ok (.aload_n 0, 1) := by decide +kernel
theorem dX3_readOrder_49 : decode cX3_readOrder 49 = .ok (.getfield 25, 3) := by decide +kernel
theorem dX3_readOrder_52 : decode cX3_readOrder 52 = .ok (.iconst 3, 1) := by decide +kernel
theorem dX3_readOrder_53 : decode cX3_readOrder 53 = .ok (.imul, 1) := by decide +kernel
theorem dX3_readOrder_54 : decode cX3_readOrder 54 = .ok (.iload_n 3, 1) := by decide +kernel
theorem dX3_readOrder_55 : decode cX3_readOrder 55 = .ok (.iadd, 1) := by decide +kernel
theorem dX3_readOrder_56 : decode cX3_readOrder 56 = .ok (.iconst 0, 1) := by decide +kernel
theorem dX3_readOrder_57 : decode cX3_readOrder 57 = .ok (.iastore, 1) := by decide +kernel
theorem dX3_readOrder_58 : decode cX3_readOrder 58 = .ok (.iinc 3 1, 3) := by decide +kernel
theorem dX3_readOrder_61 : decode cX3_readOrder 61 = .ok (.goto (-22), 3) := by decide +kernel
theorem dX3_readOrder_64 : decode cX3_readOrder 64 = .ok (.iconst 0, 1) := by decide +kernel
theorem dX3_readOrder_65 : decode cX3_readOrder 65 = .ok (.istore_n 3, 1) := by decide +kernel
theorem dX3_readOrder_66 : decode cX3_readOrder 66 = .ok (.iload_n 3, 1) := by decide +kernel
theorem dX3_readOrder_67 : decode cX3_readOrder 67 = .ok (.iload_n 2, 1) := by decide +kernel
theorem dX3_readOrder_68 : decode cX3_readOrder 68 = .ok (.if_icmp .ge 30, 3) := by decide +kernel
theorem dX3_readOrder_71 : decode cX3_readOrder 71 = .ok (.aload_n 0, 1) := by decide +kernel
theorem dX3_readOrder_72 : decode cX3_readOrder 72 = .ok (.invokevirtual 31, 3) := by decide +kernel
theorem dX3_readOrder_75 : decode cX3_readOrder 75 = .ok (.aload_n 0, 1) := by decide +kernel
theorem dX3_readOrder_76 : decode cX3_readOrder 76 = .ok (.aload_n 0, 1) := by decide +kernel
theorem dX3_readOrder_77 : decode cX3_readOrder 77 = .ok (.getfield 25, 3) := by decide +kernel
theorem dX3_readOrder_80 : decode cX3_readOrder 80 = .ok (.iconst 3, 1) := by decide +kernel
theorem dX3_readOrder_81 : decode cX3_readOrder 81 = .ok (.imul, 1) := by decide +kernel
theorem dX3_readOrder_82 : decode cX3_readOrder 82 = .ok (.iload_n 3, 1) := by decide +kernel
theorem dX3_readOrder_83 : decode cX3_readOrder 83 = .ok (.iadd, 1) := by decide +kernel
theorem dX3_readOrder_84 : decode cX3_readOrder 84 = .ok (.invokevirtual 46, 3) := by decide +kernel
theorem dX3_readOrder_87 : decode cX3_readOrder 87 = .ok (.ifCond .ne 5, 3) := by decide +kernel
theorem dX3_readOrder_90 : decode cX3_readOrder 90 = .ok (.iconst 0, 1) := by decide +kernel
theorem dX3_readOrder_91 : decode cX3_readOrder 91 = .ok (.ireturn, 1) := by decide +kernel
theorem dX3_readOrder_92 : decode cX3_readOrder 92 = .ok (.iinc 3 1, 3) := by decide +kernel
theorem dX3_readOrder_95 : decode cX3_readOrder 95 = .ok (.goto (-29), 3) := by decide +kernel
theorem dX3_readOrder_98 : decode cX3_readOrder 98 = .ok (.aload_n 0, 1) := by decide +kernel
theorem dX3_readOrder_99 : decode cX3_readOrder 99 = .ok (.invokevirtual 31, 3) := by decide +kernel
theorem dX3_readOrder_102 : decode cX3_readOrder 102 = .ok (.aload_n 0, 1) := by decide +kernel
theorem dX3_readOrder_103 : decode cX3_readOrder 103 = .ok (.invokevirtual 38, 3) := by decide +kernel
theorem dX3_readOrder_106 : decode cX3_readOrder 106 = .ok (.bipush 59, 2) := by decide +kernel
theorem dX3_readOrder_108 : decode cX3_readOrder 108 = .ok (.if_icmp .eq 5, 3) := by decide +kernel
theorem dX3_readOrder_111 : decode cX3_readOrder 111 = .ok (.iconst 0, 1) := by decide +kernel
theorem dX3_readOrder_112 : decode cX3_readOrder 112 = .ok (.ireturn, 1) := by decide +kernel
theorem dX3_readOrder_113 : decode cX3_readOrder 113 = .ok (.aload_n 0, 1) := by decide +kernel
theorem dX3_readOrder_114 : decode cX3_readOrder 114 = .ok (.dup, 1) := by decide +kernel
theorem dX3_readOrder_115 : decode cX3_readOrder 115 = .ok (.getfield 28, 3) := by decide +kernel
theorem dX3_readOrder_118 : decode cX3_readOrder 118 = .ok (.iconst 1, 1) := by decide +kernel
theorem dX3_readOrder_119 : decode cX3_readOrder 119 = .ok (.iadd, 1) := by decide +kernel
theorem dX3_readOrder_120 : decode cX3_readOrder 120 = .ok (.putfield 28, 3) := by decide +kernel
theorem dX3_readOrder_123 : decode cX3_readOrder 123 = .ok (.iconst 1, 1) := by decide +kernel
theorem dX3_readOrder_124 : decode cX3_readOrder 124 = .ok (.ireturn, 1) := by decide +kernel
theorem dX3_readNumber_0 : decode cX3_readNumber 0 = .ok (.iconst 0, 1) := by decide +kernel
theorem dX3_readNumber_1 : decode cX3_readNumber 1 = .ok (.istore_n 2, 1) := by decide +kernel
theorem dX3_readNumber_2 : decode cX3_readNumber 2 = .ok (.iconst 0, 1) := by decide +kernel
theorem dX3_readNumber_3 : decode cX3_readNumber 3 = .ok (.istore_n 3, 1) := by decide +kernel
theorem dX3_readNumber_4 : decode cX3_readNumber 4 = .ok (.iload_n 2, 1) := by decide +kernel
theorem dX3_readNumber_5 : decode cX3_readNumber 5 = .ok (.iconst 3, 1) := by decide +kernel
theorem dX3_readNumber_6 : decode cX3_readNumber 6 = .ok (.if_icmp .ge 42, 3) := by decide +kernel
theorem dX3_readNumber_9 : decode cX3_readNumber 9 = .ok (.aload_n 0, 1) := by decide +kernel
theorem dX3_readNumber_10 : decode cX3_readNumber 10 = .ok (.invokevirtual 38, 3) := by decide +kernel
theorem dX3_readNumber_13 : decode cX3_readNumber 13 = .ok (.invokestatic 50, 3) := by decide +kernel
theorem dX3_readNumber_16 : decode cX3_readNumber 16 = .ok (.ifCond .eq 32, 3) := by decide +kernel
theorem dX3_readNumber_19 : decode cX3_readNumber 19 = .ok (.bipush 10, 2) := by decide +kernel
theorem dX3_readNumber_21 : decode cX3_readNumber 21 = .ok (.iload_n 3, 1) := by decide +kernel
theorem dX3_readNumber_22 : decode cX3_readNumber 22 = .ok (.imul, 1) := by decide +kernel
theorem dX3_readNumber_23 : decode cX3_readNumber 23 = .ok (.aload_n 0, 1) := by decide +kernel
theorem dX3_readNumber_24 : decode cX3_readNumber 24 = .ok (.invokevirtual 38, 3) := by decide +kernel
theorem dX3_readNumber_27 : decode cX3_readNumber 27 = .ok (.iadd, 1) := by decide +kernel
theorem dX3_readNumber_28 : decode cX3_readNumber 28 = .ok (.bipush 48, 2) := by decide +kernel
theorem dX3_readNumber_30 : decode cX3_readNumber 30 = .ok (.isub, 1) := by decide +kernel
theorem dX3_readNumber_31 : decode cX3_readNumber 31 = .ok (.istore_n 3, 1) := by decide +kernel
theorem dX3_readNumber_32 : decode cX3_readNumber 32 = .ok (.iinc 2 1, 3) := by decide +kernel
theorem dX3_readNumber_35 : decode cX3_readNumber 35 = .ok (.aload_n 0, 1) := by decide +kernel
theorem dX3_readNumber_36 : decode cX3_readNumber 36 = .ok (.dup, 1) := by decide +kernel
theorem dX3_readNumber_37 : decode cX3_readNumber 37 = .ok (.getfield 28, 3) := by decide +kernel
theorem dX3_readNumber_40 : decode cX3_readNumber 40 = .ok (.iconst 1, 1) := by decide +kernel
theorem dX3_readNumber_41 : decode cX3_readNumber 41 = .ok (.iadd, 1) := by decide +kernel
theorem dX3_readNumber_42 : decode cX3_readNumber 42 = .ok (.putfield 28, 3) := by decide +kernel
theorem dX3_readNumber_45 : decode cX3_readNumber 45 = .ok (.goto (-41), 3) := by decide +kernel
theorem dX3_readNumber_48 : decode cX3_readNumber 48 = .ok (.aload_n 0, 1) := by decide +kernel
theorem dX3_readNumber_49 : decode cX3_readNumber 49 = .ok (.getfield 18, 3) := by decide +kernel
theorem dX3_readNumber_52 : decode cX3_readNumber 52 = .ok (.iload_n 1, 1) := by decide +kernel
theorem dX3_readNumber_53 : decode cX3_readNumber 53 = .ok (.iload_n 3, 1) := by decide +kernel
theorem dX3_readNumber_54 : decode cX3_readNumber 54 = .ok (.iastore, 1) := by decide +kernel
theorem dX3_readNumber_55 : decode cX3_readNumber 55 = .ok (.iload_n 2, 1) := by decide +kernel
theorem dX3_readNumber_56 : decode cX3_readNumber 56 = .ok (.ifCond .le 17, 3) := by decide +kernel
theorem dX3_readNumber_59 : decode cX3_readNumber 59 = .ok (.aload_n 0, 1) := by decide +kernel
theorem dX3_readNumber_60 : decode cX3_readNumber 60 = .ok (.invokevirtual 38, 3) := by decide +kernel
theorem dX3_readNumber_63 : decode cX3_readNumber 63 = .ok (.invokestatic 50, 3) := by decide +kernel
theorem dX3_readNumber_66 : decode cX3_readNumber 66 = .ok (.ifCond .ne 7, 3) := by decide +kernel
theorem dX3_readNumber_69 : decode cX3_readNumber 69 = .ok (.iconst 1, 1) := by decide +kernel
theorem dX3_readNumber_70 : decode cX3_readNumber 70 = .ok (.goto 4, 3) := by decide +kernel
theorem dX3_readNumber_73 : decode cX3_readNumber 73 = .ok (.iconst 0, 1) := by decide +kernel
theorem dX3_readNumber_74 : decode cX3_readNumber 74 = .ok (.ireturn, 1) := by decide +kernel
theorem dX3_numbersDue_0 : decode cX3_numbersDue 0 = .ok (.iload_n 0, 1) := by decide +kernel
theorem dX3_numbersDue_1 : decode cX3_numbersDue 1 = .ok (.lookupswitch 67 #[(97, 65), (103, 61), (107, 63), (109, 61), (116, 61), (119, 59)], 59) := by decide +kernel
theorem dX3_numbersDue_60 : decode cX3_numbersDue 60 = .ok (.iconst 2, 1) := by decide +kernel
theorem dX3_numbersDue_61 : decode cX3_numbersDue 61 = .ok (.ireturn, 1) := by decide +kernel
theorem dX3_numbersDue_62 : decode cX3_numbersDue 62 = .ok (.iconst 3, 1) := by decide +kernel
theorem dX3_numbersDue_63 : decode cX3_numbersDue 63 = .ok (.ireturn, 1) := by decide +kernel
theorem dX3_numbersDue_64 : decode cX3_numbersDue 64 = .ok (.iconst 1, 1) := by decide +kernel
theorem dX3_numbersDue_65 : decode cX3_numbersDue 65 = .ok (.ireturn, 1) := by decide +kernel
theorem dX3_numbersDue_66 : decode cX3_numbersDue 66 = .ok (.iconst 0, 1) := by decide +kernel
theorem dX3_numbersDue_67 : decode cX3_numbersDue 67 = .ok (.ireturn, 1) := by decide +kernel
theorem dX3_numbersDue_68 : decode cX3_numbersDue 68 = .ok (.iconst (-1), 1) := by decide +kernel
theorem dX3_numbersDue_69 : decode cX3_numbersDue 69 = .ok (.ireturn, 1) := by decide +kernel
theorem dX3_isFigure_0 : decode cX3_isFigure 0 = .ok (.iload_n 0, 1) := by decide +kernel
theorem dX3_isFigure_1 : decode cX3_isFigure 1 = .ok (.bipush 48, 2) := by decide +kernel
theorem dX3_isFigure_3 : decode cX3_isFigure 3 = .ok (.if_icmp .lt 13, 3) := by decide +kernel
theorem dX3_isFigure_6 : decode cX3_isFigure 6 = .ok (.iload_n 0, 1) := by decide +kernel
theorem dX3_isFigure_7 : decode cX3_isFigure 7 = .ok (.bipush 57, 2) := by decide +kernel
theorem dX3_isFigure_9 : decode cX3_isFigure 9 = .ok (.if_icmp .gt 7, 3) := by decide +kernel
theorem dX3_isFigure_12 : decode cX3_isFigure 12 = .ok (.iconst 1, 1) := by decide +kernel
theorem dX3_isFigure_13 : decode cX3_isFigure 13 = .ok (.goto 4, 3) := by decide +kernel
theorem dX3_isFigure_16 : decode cX3_isFigure 16 = .ok (.iconst 0, 1) := by decide +kernel
theorem dX3_isFigure_17 : decode cX3_isFigure 17 = .ok (.ireturn, 1) := by decide +kernel
theorem dX3_passBlanks_0 : decode cX3_passBlanks 0 = .ok (.aload_n 0, 1) := by decide +kernel
theorem dX3_passBlanks_1 : decode cX3_passBlanks 1 = .ok (.getfield 28, 3) := by decide +kernel
theorem dX3_passBlanks_4 : decode cX3_passBlanks 4 = .ok (.aload_n 0, 1) := by decide +kernel
theorem dX3_passBlanks_5 : decode cX3_passBlanks 5 = .ok (.getfield 21, 3) := by decide +kernel
theorem dX3_passBlanks_8 : decode cX3_passBlanks 8 = .ok (.if_icmp .ge 30, 3) := by decide +kernel
theorem dX3_passBlanks_11 : decode cX3_passBlanks 11 = .ok (.aload_n 0, 1) := by decide +kernel
theorem dX3_passBlanks_12 : decode cX3_passBlanks 12 = .ok (.getfield 9, 3) := by decide +kernel
theorem dX3_passBlanks_15 : decode cX3_passBlanks 15 = .ok (.aload_n 0, 1) := by decide +kernel
theorem dX3_passBlanks_16 : decode cX3_passBlanks 16 = .ok (.getfield 28, 3) := by decide +kernel
theorem dX3_passBlanks_19 : decode cX3_passBlanks 19 = .ok (.iaload, 1) := by decide +kernel
theorem dX3_passBlanks_20 : decode cX3_passBlanks 20 = .ok (.bipush 32, 2) := by decide +kernel
theorem dX3_passBlanks_22 : decode cX3_passBlanks 22 = .ok (.if_icmp .ne 16, 3) := by decide +kernel
theorem dX3_passBlanks_25 : decode cX3_passBlanks 25 = .ok (.aload_n 0, 1) := by decide +kernel
theorem dX3_passBlanks_26 : decode cX3_passBlanks 26 = .ok (.dup, 1) := by decide +kernel
theorem dX3_passBlanks_27 : decode cX3_passBlanks 27 = .ok (.getfield 28, 3) := by decide +kernel
theorem dX3_passBlanks_30 : decode cX3_passBlanks 30 = .ok (.iconst 1, 1) := by decide +kernel
theorem dX3_passBlanks_31 : decode cX3_passBlanks 31 = .ok (.iadd, 1) := by decide +kernel
theorem dX3_passBlanks_32 : decode cX3_passBlanks 32 = .ok (.putfield 28, 3) := by decide +kernel
theorem dX3_passBlanks_35 : decode cX3_passBlanks 35 = .ok (.goto (-35), 3) := by decide +kernel
theorem dX3_passBlanks_38 : decode cX3_passBlanks 38 = .ok (.return_, 1) := by decide +kernel
theorem dX3_byteHere_0 : decode cX3_byteHere 0 = .ok (.aload_n 0, 1) := by decide +kernel
theorem dX3_byteHere_1 : decode cX3_byteHere 1 = .ok (.getfield 28, 3) := by decide +kernel
theorem dX3_byteHere_4 : decode cX3_byteHere 4 = .ok (.aload_n 0, 1) := by decide +kernel
theorem dX3_byteHere_5 : decode cX3_byteHere 5 = .ok (.getfield 21, 3) := by decide +kernel
theorem dX3_byteHere_8 : decode cX3_byteHere 8 = .ok (.if_icmp .ge 15, 3) := by decide +kernel
theorem dX3_byteHere_11 : decode cX3_byteHere 11 = .ok (.aload_n 0, 1) := by decide +kernel
theorem dX3_byteHere_12 : decode cX3_byteHere 12 = .ok (.getfield 9, 3) := by decide +kernel
theorem dX3_byteHere_15 : decode cX3_byteHere 15 = .ok (.aload_n 0, 1) := by decide +kernel
theorem dX3_byteHere_16 : decode cX3_byteHere 16 = .ok (.getfield 28, 3) := by decide +kernel
theorem dX3_byteHere_19 : decode cX3_byteHere 19 = .ok (.iaload, 1) := by decide +kernel
theorem dX3_byteHere_20 : decode cX3_byteHere 20 = .ok (.goto 4, 3) := by decide +kernel
theorem dX3_byteHere_23 : decode cX3_byteHere 23 = .ok (.iconst (-1), 1) := by decide +kernel
theorem dX3_byteHere_24 : decode cX3_byteHere 24 = .ok (.ireturn, 1) := by decide +kernel
theorem dX4_init_0 : decode cX4_init 0 = .ok (.aload_n 0, 1) := by decide +kernel
theorem dX4_init_1 : decode cX4_init 1 = .ok (.invokespecial 3, 3) := by decide +kernel
theorem dX4_init_4 : decode cX4_init 4 = .ok (.aload_n 0, 1) := by decide +kernel
theorem dX4_init_5 : decode cX4_init 5 = .ok (.sipush 144, 3) := by decide +kernel
theorem dX4_init_8 : decode cX4_init 8 = .ok (.newarray .boolean, 2) := by decide +kernel
theorem dX4_init_10 : decode cX4_init 10 = .ok (.putfield 9, 3) := by decide +kernel
theorem dX4_init_13 : decode cX4_init 13 = .ok (.aload_n 0, 1) := by decide +kernel
theorem dX4_init_14 : decode cX4_init 14 = .ok (.aload_n 1, 1) := by decide +kernel
theorem dX4_init_15 : decode cX4_init 15 = .ok (.putfield 15, 3) := by decide +kernel
theorem dX4_init_18 : decode cX4_init 18 = .ok (.return_, 1) := by decide +kernel
theorem dX4_enter_0 : decode cX4_enter 0 = .ok (.iconst 0, 1) := by decide +kernel
theorem dX4_enter_1 : decode cX4_enter 1 = .ok (.istore_n 2, 1) := by decide +kernel
theorem dX4_enter_2 : decode cX4_enter 2 = .ok (.iload_n 2, 1) := by decide +kernel
theorem dX4_enter_3 : decode cX4_enter 3 = .ok (.sipush 144, 3) := by decide +kernel
theorem dX4_enter_6 : decode cX4_enter 6 = .ok (.if_icmp .ge 16, 3) := by decide +kernel
theorem dX4_enter_9 : decode cX4_enter 9 = .ok (.aload_n 0, 1) := by decide +kernel
theorem dX4_enter_10 : decode cX4_enter 10 = .ok (.getfield 9, 3) := by decide +kernel
theorem dX4_enter_13 : decode cX4_enter 13 = .ok (.iload_n 2, 1) := by decide +kernel
theorem dX4_enter_14 : decode cX4_enter 14 = .ok (.iconst 0, 1) := by decide +kernel
theorem dX4_enter_15 : decode cX4_enter 15 = .ok (.bastore, 1) := by decide +kernel
theorem dX4_enter_16 : decode cX4_enter 16 = .ok (.iinc 2 1, 3) := by decide +kernel
theorem dX4_enter_19 : decode cX4_enter 19 = .ok (.goto (-17), 3) := by decide +kernel
theorem dX4_enter_22 : decode cX4_enter 22 = .ok (.iconst 0, 1) := by decide +kernel
theorem dX4_enter_23 : decode cX4_enter 23 = .ok (.istore_n 2, 1) := by decide +kernel
theorem dX4_enter_24 : decode cX4_enter 24 = .ok (.iload_n 2, 1) := by decide +kernel
theorem dX4_enter_25 : decode cX4_enter 25 = .ok (.aload_n 1, 1) := by decide +kernel
theorem dX4_enter_26 : decode cX4_enter 26 = .ok (.invokevirtual 19, 3) := by decide +kernel
theorem dX4_enter_29 : decode cX4_enter 29 = .ok (.if_icmp .ge 53, 3) := by decide +kernel
theorem dX4_enter_32 : decode cX4_enter 32 = .ok (.aload_n 0, 1) := by decide +kernel
theorem dX4_enter_33 : decode cX4_enter 33 = .ok (.getfield 15, 3) := by decide +kernel
theorem dX4_enter_36 : decode cX4_enter 36 = .ok (.aload_n 1, 1) := by decide +kernel
theorem dX4_enter_37 : decode cX4_enter 37 = .ok (.iload_n 2, 1) := by decide +kernel
theorem dX4_enter_38 : decode cX4_enter 38 = .ok (.invokevirtual 25, 3) := by decide +kernel
theorem dX4_enter_41 : decode cX4_enter 41 = .ok (.istore_n 3, 1) := by decide +kernel
theorem dX4_enter_42 : decode cX4_enter 42 = .ok (.iload_n 3, 1) := by decide +kernel
theorem dX4_enter_43 : decode cX4_enter 43 = .ok (.aload_n 0, 1) := by decide +kernel
theorem dX4_enter_44 : decode cX4_enter 44 = .ok (.getfield 15, 3) := by decide +kernel
theorem dX4_enter_47 : decode cX4_enter 47 = .ok (.aload_n 1, 1) := by decide +kernel
theorem dX4_enter_48 : decode cX4_enter 48 = .ok (.iload_n 2, 1) := by decide +kernel
theorem dX4_enter_49 : decode cX4_enter 49 = .ok (.invokevirtual 31, 3) := by decide +kernel
theorem dX4_enter_52 : decode cX4_enter 52 = .ok (.if_icmp .ge 24, 3) := by decide +kernel
theorem dX4_enter_55 : decode cX4_enter 55 = .ok (.aload_n 0, 1) := by decide +kernel
theorem dX4_enter_56 : decode cX4_enter 56 = .ok (.getfield 9, 3) := by decide +kernel
theorem dX4_enter_59 : decode cX4_enter 59 = .ok (.aload_n 0, 1) := by decide +kernel
theorem dX4_enter_60 : decode cX4_enter 60 = .ok (.getfield 15, 3) := by decide +kernel
theorem dX4_enter_63 : decode cX4_enter 63 = .ok (.iload_n 2, 1) := by decide +kernel
theorem dX4_enter_64 : decode cX4_enter 64 = .ok (.iload_n 3, 1) := by decide +kernel
theorem dX4_enter_65 : decode cX4_enter 65 = .ok (.invokevirtual 34, 3) := by decide +kernel
theorem dX4_enter_68 : decode cX4_enter 68 = .ok (.iconst 1, 1) := by decide +kernel
theorem dX4_enter_69 : decode cX4_enter 69 = .ok (.bastore, 1) := by decide +kernel
theorem dX4_enter_70 : decode cX4_enter 70 = .ok (.iinc 3 1, 3) := by decide +kernel
theorem dX4_enter_73 : decode cX4_enter 73 = .ok (.goto (-31), 3) := by decide +kernel
theorem dX4_enter_76 : decode cX4_enter 76 = .ok (.iinc 2 1, 3) := by decide +kernel
theorem dX4_enter_79 : decode cX4_enter 79 = .ok (.goto (-55), 3) := by decide +kernel
theorem dX4_enter_82 : decode cX4_enter 82 = .ok (.return_, 1) := by decide +kernel
theorem dX4_run_0 : decode cX4_run 0 = .ok (.iload_n 2, 1) := by decide +kernel
theorem dX4_run_1 : decode cX4_run 1 = .ok (.iconst 1, 1) := by decide +kernel
theorem dX4_run_2 : decode cX4_run 2 = .ok (.isub, 1) := by decide +kernel
theorem dX4_run_3 : decode cX4_run 3 = .ok (.istore_n 3, 1) := by decide +kernel
theorem dX4_run_4 : decode cX4_run 4 = .ok (.iload_n 3, 1) := by decide +kernel
theorem dX4_run_5 : decode cX4_run 5 = .ok (.ifCond .lt 24, 3) := by decide +kernel
theorem dX4_run_8 : decode cX4_run 8 = .ok (.aload_n 0, 1) := by decide +kernel
theorem dX4_run_9 : decode cX4_run 9 = .ok (.aload_n 1, 1) := by decide +kernel
theorem dX4_run_10 : decode cX4_run 10 = .ok (.invokevirtual 38, 3) := by decide +kernel
theorem dX4_run_13 : decode cX4_run 13 = .ok (.ifCond .ne 10, 3) := by decide +kernel
theorem dX4_run_16 : decode cX4_run 16 = .ok (.aload_n 0, 1) := by decide +kernel
theorem dX4_run_17 : decode cX4_run 17 = .ok (.aload_n 1, 1) := by decide +kernel
theorem dX4_run_18 : decode cX4_run 18 = .ok (.iload_n 3, 1) := by decide +kernel
theorem dX4_run_19 : decode cX4_run 19 = .ok (.invokevirtual 42, 3) := by decide +kernel
theorem dX4_run_22 : decode cX4_run 22 = .ok (.return_, 1) := by decide +kernel
theorem dX4_run_23 : decode cX4_run 23 = .ok (.iinc 3 (-1), 3) := by decide +kernel
theorem dX4_run_26 : decode cX4_run 26 = .ok (.goto (-22), 3) := by decide +kernel
theorem dX4_run_29 : decode cX4_run 29 = .ok (.return_, 1) := by decide +kernel
theorem dX4_stepOnce_0 : decode cX4_stepOnce 0 = .ok (.iconst 0, 1) := by decide +kernel
theorem dX4_stepOnce_1 : decode cX4_stepOnce 1 = .ok (.istore_n 2, 1) := by decide +kernel
theorem dX4_stepOnce_2 : decode cX4_stepOnce 2 = .ok (.iconst 0, 1) := by decide +kernel
theorem dX4_stepOnce_3 : decode cX4_stepOnce 3 = .ok (.istore_n 3, 1) := by decide +kernel
theorem dX4_stepOnce_4 : decode cX4_stepOnce 4 = .ok (.iload_n 3, 1) := by decide +kernel
theorem dX4_stepOnce_5 : decode cX4_stepOnce 5 = .ok (.aload_n 1, 1) := by decide +kernel
theorem dX4_stepOnce_6 : decode cX4_stepOnce 6 = .ok (.invokevirtual 19, 3) := by decide +kernel
theorem dX4_stepOnce_9 : decode cX4_stepOnce 9 = .ok (.if_icmp .ge 54, 3) := by decide +kernel
theorem dX4_stepOnce_12 : decode cX4_stepOnce 12 = .ok (.aload_n 0, 1) := by decide +kernel
theorem dX4_stepOnce_13 : decode cX4_stepOnce 13 = .ok (.getfield 15, 3) := by decide +kernel
theorem dX4_stepOnce_16 : decode cX4_stepOnce 16 = .ok (.aload_n 1, 1) := by decide +kernel
theorem dX4_stepOnce_17 : decode cX4_stepOnce 17 = .ok (.iload_n 3, 1) := by decide +kernel
theorem dX4_stepOnce_18 : decode cX4_stepOnce 18 = .ok (.invokevirtual 46, 3) := by decide +kernel
theorem dX4_stepOnce_21 : decode cX4_stepOnce 21 = .ok (.ifCond .eq 6, 3) := by decide +kernel
theorem dX4_stepOnce_24 : decode cX4_stepOnce 24 = .ok (.goto 33, 3) := by decide +kernel
theorem dX4_stepOnce_27 : decode cX4_stepOnce 27 = .ok (.aload_n 0, 1) := by decide +kernel
theorem dX4_stepOnce_28 : decode cX4_stepOnce 28 = .ok (.aload_n 1, 1) := by decide +kernel
theorem dX4_stepOnce_29 : decode cX4_stepOnce 29 = .ok (.iload_n 3, 1) := by decide +kernel
theorem dX4_stepOnce_30 : decode cX4_stepOnce 30 = .ok (.invokevirtual 50, 3) := by decide +kernel
theorem dX4_stepOnce_33 : decode cX4_stepOnce 33 = .ok (.ifCond .eq 16, 3) := by decide +kernel
theorem dX4_stepOnce_36 : decode cX4_stepOnce 36 = .ok (.aload_n 1, 1) := by decide +kernel
theorem dX4_stepOnce_37 : decode cX4_stepOnce 37 = .ok (.getfield 53, 3) := by decide +kernel
theorem dX4_stepOnce_40 : decode cX4_stepOnce 40 = .ok (.iload_n 3, 1) := by decide +kernel
theorem dX4_stepOnce_41 : decode cX4_stepOnce 41 = .ok (.dup2, 1) := by decide +kernel
theorem dX4_stepOnce_42 : decode cX4_stepOnce 42 = .ok (.iaload, 1) := by decide +kernel
theorem dX4_stepOnce_43 : decode cX4_stepOnce 43 = .ok (.iconst 1, 1) := by decide +kernel
theorem dX4_stepOnce_44 : decode cX4_stepOnce 44 = .ok (.iadd, 1) := by decide +kernel
theorem dX4_stepOnce_45 : decode cX4_stepOnce 45 = .ok (.iastore, 1) := by decide +kernel
theorem dX4_stepOnce_46 : decode cX4_stepOnce 46 = .ok (.goto 11, 3) := by decide +kernel
theorem dX4_stepOnce_49 : decode cX4_stepOnce 49 = .ok (.aload_n 0, 1) := by decide +kernel
theorem dX4_stepOnce_50 : decode cX4_stepOnce 50 = .ok (.aload_n 1, 1) := by decide +kernel
theorem dX4_stepOnce_51 : decode cX4_stepOnce 51 = .ok (.iload_n 3, 1) := by decide +kernel
theorem dX4_stepOnce_52 : decode cX4_stepOnce 52 = .ok (.invokevirtual 57, 3) := by decide +kernel
theorem dX4_stepOnce_55 : decode cX4_stepOnce 55 = .ok (.iconst 1, 1) := by decide +kernel
theorem dX4_stepOnce_56 : decode cX4_stepOnce 56 = .ok (.istore_n 2, 1) := by decide +kernel
theorem dX4_stepOnce_57 : decode cX4_stepOnce 57 = .ok (.iinc 3 1, 3) := by decide +kernel
theorem dX4_stepOnce_60 : decode cX4_stepOnce 60 = .ok (.goto (-56), 3) := by decide +kernel
theorem dX4_stepOnce_63 : decode cX4_stepOnce 63 = .ok (.aload_n 1, 1) := by decide +kernel
theorem dX4_stepOnce_64 : decode cX4_stepOnce 64 = .ok (.dup, 1) := by decide +kernel
theorem dX4_stepOnce_65 : decode cX4_stepOnce 65 = .ok (.getfield 60, 3) := by decide +kernel
theorem dX4_stepOnce_68 : decode cX4_stepOnce 68 = .ok (.iconst 1, 1) := by decide +kernel
theorem dX4_stepOnce_69 : decode cX4_stepOnce 69 = .ok (.iadd, 1) := by decide +kernel
theorem dX4_stepOnce_70 : decode cX4_stepOnce 70 = .ok (.putfield 60, 3) := by decide +kernel
theorem dX4_stepOnce_73 : decode cX4_stepOnce 73 = .ok (.iload_n 2, 1) := by decide +kernel
theorem dX4_stepOnce_74 : decode cX4_stepOnce 74 = .ok (.ireturn, 1) := by decide +kernel
theorem dX4_isStopped_0 : decode cX4_isStopped 0 = .ok (.aload_n 1, 1) := by decide +kernel
theorem dX4_isStopped_1 : decode cX4_isStopped 1 = .ok (.getfield 64, 3) := by decide +kernel
theorem dX4_isStopped_4 : decode cX4_isStopped 4 = .ok (.iload_n 2, 1) := by decide +kernel
theorem dX4_isStopped_5 : decode cX4_isStopped 5 = .ok (.iaload, 1) := by decide +kernel
theorem dX4_isStopped_6 : decode cX4_isStopped 6 = .ok (.istore_n 3, 1) := by decide +kernel
theorem dX4_isStopped_7 : decode cX4_isStopped 7 = .ok (.iload_n 3, 1) := by decide +kernel
theorem dX4_isStopped_8 : decode cX4_isStopped 8 = .ok (.aload_n 0, 1) := by decide +kernel
theorem dX4_isStopped_9 : decode cX4_isStopped 9 = .ok (.getfield 15, 3) := by decide +kernel
theorem dX4_isStopped_12 : decode cX4_isStopped 12 = .ok (.iload_n 2, 1) := by decide +kernel
theorem dX4_isStopped_13 : decode cX4_isStopped 13 = .ok (.invokevirtual 67, 3) := by decide +kernel
theorem dX4_isStopped_16 : decode cX4_isStopped 16 = .ok (.if_icmp .lt 5, 3) := by decide +kernel
theorem dX4_isStopped_19 : decode cX4_isStopped 19 = .ok (.iconst 0, 1) := by decide +kernel
theorem dX4_isStopped_20 : decode cX4_isStopped 20 = .ok (.ireturn, 1) := by decide +kernel
theorem dX4_isStopped_21 : decode cX4_isStopped 21 = .ok (.aload_n 0, 1) := by decide +kernel
theorem dX4_isStopped_22 : decode cX4_isStopped 22 = .ok (.getfield 15, 3) := by decide +kernel
theorem dX4_isStopped_25 : decode cX4_isStopped 25 = .ok (.iload_n 2, 1) := by decide +kernel
theorem dX4_isStopped_26 : decode cX4_isStopped 26 = .ok (.iload_n 3, 1) := by decide +kernel
theorem dX4_isStopped_27 : decode cX4_isStopped 27 = .ok (.invokevirtual 34, 3) := by decide +kernel
theorem dX4_isStopped_30 : decode cX4_isStopped 30 = .ok (.istore 4, 2) := by decide +kernel
theorem dX4_isStopped_32 : decode cX4_isStopped 32 = .ok (.aload_n 1, 1) := by decide +kernel
theorem dX4_isStopped_33 : decode cX4_isStopped 33 = .ok (.iload 4, 2) := by decide +kernel
theorem dX4_isStopped_35 : decode cX4_isStopped 35 = .ok (.invokevirtual 71, 3) := by decide +kernel
theorem dX4_isStopped_38 : decode cX4_isStopped 38 = .ok (.ifCond .ne 13, 3) := by decide +kernel
theorem dX4_isStopped_41 : decode cX4_isStopped 41 = .ok (.aload_n 0, 1) := by decide +kernel
theorem dX4_isStopped_42 : decode cX4_isStopped 42 = .ok (.getfield 9, 3) := by decide +kernel
theorem dX4_isStopped_45 : decode cX4_isStopped 45 = .ok (.iload 4, 2) := by decide +kernel
theorem dX4_isStopped_47 : decode cX4_isStopped 47 = .ok (.baload, 1) := by decide +kernel
theorem dX4_isStopped_48 : decode cX4_isStopped 48 = .ok (.ifCond .eq 7, 3) := by decide +kernel
theorem dX4_isStopped_51 : decode cX4_isStopped 51 = .ok (.iconst 1, 1) := by decide +kernel
theorem dX4_isStopped_52 : decode cX4_isStopped 52 = .ok (.goto 4, 3) := by decide +kernel
theorem dX4_isStopped_55 : decode cX4_isStopped 55 = .ok (.iconst 0, 1) := by decide +kernel
theorem dX4_isStopped_56 : decode cX4_isStopped 56 = .ok (.ireturn, 1) := by decide +kernel
theorem dX4_moveOn_0 : decode cX4_moveOn 0 = .ok (.aload_n 1, 1) := by decide +kernel
theorem dX4_moveOn_1 : decode cX4_moveOn 1 = .ok (.getfield 64, 3) := by decide +kernel
theorem dX4_moveOn_4 : decode cX4_moveOn 4 = .ok (.iload_n 2, 1) := by decide +kernel
theorem dX4_moveOn_5 : decode cX4_moveOn 5 = .ok (.iaload, 1) := by decide +kernel
theorem dX4_moveOn_6 : decode cX4_moveOn 6 = .ok (.istore_n 3, 1) := by decide +kernel
theorem dX4_moveOn_7 : decode cX4_moveOn 7 = .ok (.iload_n 3, 1) := by decide +kernel
theorem dX4_moveOn_8 : decode cX4_moveOn 8 = .ok (.aload_n 1, 1) := by decide +kernel
theorem dX4_moveOn_9 : decode cX4_moveOn 9 = .ok (.iload_n 2, 1) := by decide +kernel
theorem dX4_moveOn_10 : decode cX4_moveOn 10 = .ok (.invokevirtual 75, 3) := by decide +kernel
theorem dX4_moveOn_13 : decode cX4_moveOn 13 = .ok (.isub, 1) := by decide +kernel
theorem dX4_moveOn_14 : decode cX4_moveOn 14 = .ok (.istore 4, 2) := by decide +kernel
theorem dX4_moveOn_16 : decode cX4_moveOn 16 = .ok (.iload_n 3, 1) := by decide +kernel
theorem dX4_moveOn_17 : decode cX4_moveOn 17 = .ok (.aload_n 0, 1) := by decide +kernel
theorem dX4_moveOn_18 : decode cX4_moveOn 18 = .ok (.getfield 15, 3) := by decide +kernel
theorem dX4_moveOn_21 : decode cX4_moveOn 21 = .ok (.iload_n 2, 1) := by decide +kernel
theorem dX4_moveOn_22 : decode cX4_moveOn 22 = .ok (.invokevirtual 67, 3) := by decide +kernel
theorem dX4_moveOn_25 : decode cX4_moveOn 25 = .ok (.if_icmp .ge 18, 3) := by decide +kernel
theorem dX4_moveOn_28 : decode cX4_moveOn 28 = .ok (.aload_n 0, 1) := by decide +kernel
theorem dX4_moveOn_29 : decode cX4_moveOn 29 = .ok (.getfield 9, 3) := by decide +kernel
theorem dX4_moveOn_32 : decode cX4_moveOn 32 = .ok (.aload_n 0, 1) := by decide +kernel
theorem dX4_moveOn_33 : decode cX4_moveOn 33 = .ok (.getfield 15, 3) := by decide +kernel
theorem dX4_moveOn_36 : decode cX4_moveOn 36 = .ok (.iload_n 2, 1) := by decide +kernel
theorem dX4_moveOn_37 : decode cX4_moveOn 37 = .ok (.iload_n 3, 1) := by decide +kernel
theorem dX4_moveOn_38 : decode cX4_moveOn 38 = .ok (.invokevirtual 34, 3) := by decide +kernel
theorem dX4_moveOn_41 : decode cX4_moveOn 41 = .ok (.iconst 1, 1) := by decide +kernel
theorem dX4_moveOn_42 : decode cX4_moveOn 42 = .ok (.bastore, 1) := by decide +kernel
theorem dX4_moveOn_43 : decode cX4_moveOn 43 = .ok (.iload 4, 2) := by decide +kernel
theorem dX4_moveOn_45 : decode cX4_moveOn 45 = .ok (.ifCond .lt 32, 3) := by decide +kernel
theorem dX4_moveOn_48 : decode cX4_moveOn 48 = .ok (.iload 4, 2) := by decide +kernel
theorem dX4_moveOn_50 : decode cX4_moveOn 50 = .ok (.aload_n 0, 1) := by decide +kernel
theorem dX4_moveOn_51 : decode cX4_moveOn 51 = .ok (.getfield 15, 3) := by decide +kernel
theorem dX4_moveOn_54 : decode cX4_moveOn 54 = .ok (.iload_n 2, 1) := by decide +kernel
theorem dX4_moveOn_55 : decode cX4_moveOn 55 = .ok (.invokevirtual 67, 3) := by decide +kernel
theorem dX4_moveOn_58 : decode cX4_moveOn 58 = .ok (.if_icmp .ge 19, 3) := by decide +kernel
theorem dX4_moveOn_61 : decode cX4_moveOn 61 = .ok (.aload_n 0, 1) := by decide +kernel
theorem dX4_moveOn_62 : decode cX4_moveOn 62 = .ok (.getfield 9, 3) := by decide +kernel
theorem dX4_moveOn_65 : decode cX4_moveOn 65 = .ok (.aload_n 0, 1) := by decide +kernel
theorem dX4_moveOn_66 : decode cX4_moveOn 66 = .ok (.getfield 15, 3) := by decide +kernel
theorem dX4_moveOn_69 : decode cX4_moveOn 69 = .ok (.iload_n 2, 1) := by decide +kernel
theorem dX4_moveOn_70 : decode cX4_moveOn 70 = .ok (.iload 4, 2) := by decide +kernel
theorem dX4_moveOn_72 : decode cX4_moveOn 72 = .ok (.invokevirtual 34, 3) := by decide +kernel
theorem dX4_moveOn_75 : decode cX4_moveOn 75 = .ok (.iconst 0, 1) := by decide +kernel
theorem dX4_moveOn_76 : decode cX4_moveOn 76 = .ok (.bastore, 1) := by decide +kernel
theorem dX4_moveOn_77 : decode cX4_moveOn 77 = .ok (.aload_n 1, 1) := by decide +kernel
theorem dX4_moveOn_78 : decode cX4_moveOn 78 = .ok (.getfield 64, 3) := by decide +kernel
theorem dX4_moveOn_81 : decode cX4_moveOn 81 = .ok (.iload_n 2, 1) := by decide +kernel
theorem dX4_moveOn_82 : decode cX4_moveOn 82 = .ok (.iload_n 3, 1) := by decide +kernel
theorem dX4_moveOn_83 : decode cX4_moveOn 83 = .ok (.iconst 1, 1) := by decide +kernel
theorem dX4_moveOn_84 : decode cX4_moveOn 84 = .ok (.iadd, 1) := by decide +kernel
theorem dX4_moveOn_85 : decode cX4_moveOn 85 = .ok (.iastore, 1) := by decide +kernel
theorem dX4_moveOn_86 : decode cX4_moveOn 86 = .ok (.return_, 1) := by decide +kernel
theorem dX4_waitFor_0 : decode cX4_waitFor 0 = .ok (.aload_n 1, 1) := by decide +kernel
theorem dX4_waitFor_1 : decode cX4_waitFor 1 = .ok (.dup, 1) := by decide +kernel
theorem dX4_waitFor_2 : decode cX4_waitFor 2 = .ok (.getfield 60, 3) := by decide +kernel
theorem dX4_waitFor_5 : decode cX4_waitFor 5 = .ok (.iload_n 2, 1) := by decide +kernel
theorem dX4_waitFor_6 : decode cX4_waitFor 6 = .ok (.iadd, 1) := by decide +kernel
theorem dX4_waitFor_7 : decode cX4_waitFor 7 = .ok (.putfield 60, 3) := by decide +kernel
theorem dX4_waitFor_10 : decode cX4_waitFor 10 = .ok (.iconst 0, 1) := by decide +kernel
theorem dX4_waitFor_11 : decode cX4_waitFor 11 = .ok (.istore_n 3, 1) := by decide +kernel
theorem dX4_waitFor_12 : decode cX4_waitFor 12 = .ok (.iload_n 3, 1) := by decide +kernel
theorem dX4_waitFor_13 : decode cX4_waitFor 13 = .ok (.aload_n 1, 1) := by decide +kernel
theorem dX4_waitFor_14 : decode cX4_waitFor 14 = .ok (.invokevirtual 19, 3) := by decide +kernel
theorem dX4_waitFor_17 : decode cX4_waitFor 17 = .ok (.if_icmp .ge 31, 3) := by decide +kernel
theorem dX4_waitFor_20 : decode cX4_waitFor 20 = .ok (.aload_n 0, 1) := by decide +kernel
theorem dX4_waitFor_21 : decode cX4_waitFor 21 = .ok (.getfield 15, 3) := by decide +kernel
theorem dX4_waitFor_24 : decode cX4_waitFor 24 = .ok (.aload_n 1, 1) := by decide +kernel
theorem dX4_waitFor_25 : decode cX4_waitFor 25 = .ok (.iload_n 3, 1) := by decide +kernel
theorem dX4_waitFor_26 : decode cX4_waitFor 26 = .ok (.invokevirtual 46, 3) := by decide +kernel
theorem dX4_waitFor_29 : decode cX4_waitFor 29 = .ok (.ifCond .ne 13, 3) := by decide +kernel
theorem dX4_waitFor_32 : decode cX4_waitFor 32 = .ok (.aload_n 1, 1) := by decide +kernel
theorem dX4_waitFor_33 : decode cX4_waitFor 33 = .ok (.getfield 53, 3) := by decide +kernel
theorem dX4_waitFor_36 : decode cX4_waitFor 36 = .ok (.iload_n 3, 1) := by decide +kernel
theorem dX4_waitFor_37 : decode cX4_waitFor 37 = .ok (.dup2, 1) := by decide +kernel
theorem dX4_waitFor_38 : decode cX4_waitFor 38 = .ok (.iaload, 1) := by decide +kernel
theorem dX4_waitFor_39 : decode cX4_waitFor 39 = .ok (.iload_n 2, 1) := by decide +kernel
theorem dX4_waitFor_40 : decode cX4_waitFor 40 = .ok (.iadd, 1) := by decide +kernel
theorem dX4_waitFor_41 : decode cX4_waitFor 41 = .ok (.iastore, 1) := by decide +kernel
theorem dX4_waitFor_42 : decode cX4_waitFor 42 = .ok (.iinc 3 1, 3) := by decide +kernel
theorem dX4_waitFor_45 : decode cX4_waitFor 45 = .ok (.goto (-33), 3) := by decide +kernel
theorem dX4_waitFor_48 : decode cX4_waitFor 48 = .ok (.return_, 1) := by decide +kernel
theorem dX5_init_0 : decode cX5_init 0 = .ok (.aload_n 0, 1) := by decide +kernel
theorem dX5_init_1 : decode cX5_init 1 = .ok (.invokespecial 3, 3) := by decide +kernel
theorem dX5_init_4 : decode cX5_init 4 = .ok (.aload_n 0, 1) := by decide +kernel
theorem dX5_init_5 : decode cX5_init 5 = .ok (.bipush 10, 2) := by decide +kernel
theorem dX5_init_7 : decode cX5_init 7 = .ok (.newarray .int, 2) := by decide +kernel
theorem dX5_init_9 : decode cX5_init 9 = .ok (.putfield 9, 3) := by decide +kernel
theorem dX5_init_12 : decode cX5_init 12 = .ok (.aload_n 0, 1) := by decide +kernel
theorem dX5_init_13 : decode cX5_init 13 = .ok (.bipush 10, 2) := by decide +kernel
theorem dX5_init_15 : decode cX5_init 15 = .ok (.bipush 36, 2) := by decide +kernel
theorem dX5_init_17 : decode cX5_init 17 = .ok (.multianewarray 15 2, 4) := by decide +kernel
theorem dX5_init_21 : decode cX5_init 21 = .ok (.putfield 17, 3) := by decide +kernel
theorem dX5_init_24 : decode cX5_init 24 = .ok (.aload_n 0, 1) := by decide +kernel
theorem dX5_init_25 : decode cX5_init 25 = .ok (.bipush 10, 2) := by decide +kernel
theorem dX5_init_27 : decode cX5_init 27 = .ok (.bipush 36, 2) := by decide +kernel
theorem dX5_init_29 : decode cX5_init 29 = .ok (.multianewarray 15 2, 4) := by decide +kernel
theorem dX5_init_33 : decode cX5_init 33 = .ok (.putfield 20, 3) := by decide +kernel
theorem dX5_init_36 : decode cX5_init 36 = .ok (.return_, 1) := by decide +kernel
end
section
theorem dX5_lay_0 : decode cX5_lay 0 = .ok (.aload_n 2, 1) := by decide +kernel
theorem dX5_lay_1 : decode cX5_lay 1 = .ok (.iload_n 3, 1) := by decide +kernel
theorem dX5_lay_2 : decode cX5_lay 2 = .ok (.invokevirtual 23, 3) := by decide +kernel
theorem dX5_lay_5 : decode cX5_lay 5 = .ok (.lstore 4, 2) := by decide +kernel
theorem dX5_lay_7 : decode cX5_lay 7 = .ok (.aload_n 2, 1) := by decide +kernel
theorem dX5_lay_8 : decode cX5_lay 8 = .ok (.iload_n 3, 1) := by decide +kernel
theorem dX5_lay_9 : decode cX5_lay 9 = .ok (.invokevirtual 29, 3) := by decide +kernel
theorem dX5_lay_12 : decode cX5_lay 12 = .ok (.ifCond .eq 7, 3) := by decide +kernel
theorem dX5_lay_15 : decode cX5_lay 15 = .ok (.iconst 1, 1) := by decide +kernel
theorem dX5_lay_16 : decode cX5_lay 16 = .ok (.goto 4, 3) := by decide +kernel
theorem dX5_lay_19 : decode cX5_lay 19 = .ok (.iconst (-1), 1) := by decide +kernel
theorem dX5_lay_20 : decode cX5_lay 20 = .ok (.istore 6, 2) := by decide +kernel
theorem dX5_lay_22 : decode cX5_lay 22 = .ok (.aload_n 0, 1) := by decide +kernel
theorem dX5_lay_23 : decode cX5_lay 23 = .ok (.getfield 9, 3) := by decide +kernel
theorem dX5_lay_26 : decode cX5_lay 26 = .ok (.iload_n 3, 1) := by decide +kernel
theorem dX5_lay_27 : decode cX5_lay 27 = .ok (.iconst 0, 1) := by decide +kernel
theorem dX5_lay_28 : decode cX5_lay 28 = .ok (.iastore, 1) := by decide +kernel
theorem dX5_lay_29 : decode cX5_lay 29 = .ok (.aload_n 0, 1) := by decide +kernel
theorem dX5_lay_30 : decode cX5_lay 30 = .ok (.getfield 17, 3) := by decide +kernel
theorem dX5_lay_33 : decode cX5_lay 33 = .ok (.iload_n 3, 1) := by decide +kernel
theorem dX5_lay_34 : decode cX5_lay 34 = .ok (.aaload, 1) := by decide +kernel
theorem dX5_lay_35 : decode cX5_lay 35 = .ok (.iconst 0, 1) := by decide +kernel
theorem dX5_lay_36 : decode cX5_lay 36 = .ok (.aload_n 2, 1) := by decide +kernel
theorem dX5_lay_37 : decode cX5_lay 37 = .ok (.iload_n 3, 1) := by decide +kernel
theorem dX5_lay_38 : decode cX5_lay 38 = .ok (.invokevirtual 33, 3) := by decide +kernel
theorem dX5_lay_41 : decode cX5_lay 41 = .ok (.iastore, 1) := by decide +kernel
theorem dX5_lay_42 : decode cX5_lay 42 = .ok (.aload_n 2, 1) := by decide +kernel
theorem dX5_lay_43 : decode cX5_lay 43 = .ok (.iload_n 3, 1) := by decide +kernel
theorem dX5_lay_44 : decode cX5_lay 44 = .ok (.invokevirtual 33, 3) := by decide +kernel
theorem dX5_lay_47 : decode cX5_lay 47 = .ok (.iload 6, 2) := by decide +kernel
theorem dX5_lay_49 : decode cX5_lay 49 = .ok (.iadd, 1) := by decide +kernel
theorem dX5_lay_50 : decode cX5_lay 50 = .ok (.istore 7, 2) := by decide +kernel
theorem dX5_lay_52 : decode cX5_lay 52 = .ok (.aload_n 1, 1) := by decide +kernel
theorem dX5_lay_53 : decode cX5_lay 53 = .ok (.iload 7, 2) := by decide +kernel
theorem dX5_lay_55 : decode cX5_lay 55 = .ok (.invokevirtual 37, 3) := by decide +kernel
theorem dX5_lay_58 : decode cX5_lay 58 = .ok (.ifCond .eq 33, 3) := by decide +kernel
theorem dX5_lay_61 : decode cX5_lay 61 = .ok (.lload 4, 2) := by decide +kernel
theorem dX5_lay_63 : decode cX5_lay 63 = .ok (.iload 7, 2) := by decide +kernel
theorem dX5_lay_65 : decode cX5_lay 65 = .ok (.lshr, 1) := by decide +kernel
theorem dX5_lay_66 : decode cX5_lay 66 = .ok (.lconst 1, 1) := by decide +kernel
theorem dX5_lay_67 : decode cX5_lay 67 = .ok (.land, 1) := by decide +kernel
theorem dX5_lay_68 : decode cX5_lay 68 = .ok (.lconst 0, 1) := by decide +kernel
theorem dX5_lay_69 : decode cX5_lay 69 = .ok (.lcmp, 1) := by decide +kernel
theorem dX5_lay_70 : decode cX5_lay 70 = .ok (.ifCond .eq 11, 3) := by decide +kernel
theorem dX5_lay_73 : decode cX5_lay 73 = .ok (.aload_n 0, 1) := by decide +kernel
theorem dX5_lay_74 : decode cX5_lay 74 = .ok (.aload_n 1, 1) := by decide +kernel
theorem dX5_lay_75 : decode cX5_lay 75 = .ok (.iload_n 3, 1) := by decide +kernel
theorem dX5_lay_76 : decode cX5_lay 76 = .ok (.iload 7, 2) := by decide +kernel
theorem dX5_lay_78 : decode cX5_lay 78 = .ok (.invokevirtual 42, 3) := by decide +kernel
theorem dX5_lay_81 : decode cX5_lay 81 = .ok (.iload 7, 2) := by decide +kernel
theorem dX5_lay_83 : decode cX5_lay 83 = .ok (.iload 6, 2) := by decide +kernel
theorem dX5_lay_85 : decode cX5_lay 85 = .ok (.iadd, 1) := by decide +kernel
theorem dX5_lay_86 : decode cX5_lay 86 = .ok (.istore 7, 2) := by decide +kernel
theorem dX5_lay_88 : decode cX5_lay 88 = .ok (.goto (-36), 3) := by decide +kernel
theorem dX5_lay_91 : decode cX5_lay 91 = .ok (.return_, 1) := by decide +kernel
theorem dX5_layTo_0 : decode cX5_layTo 0 = .ok (.aload_n 0, 1) := by decide +kernel
theorem dX5_layTo_1 : decode cX5_layTo 1 = .ok (.getfield 9, 3) := by decide +kernel
theorem dX5_layTo_4 : decode cX5_layTo 4 = .ok (.iload_n 2, 1) := by decide +kernel
theorem dX5_layTo_5 : decode cX5_layTo 5 = .ok (.iaload, 1) := by decide +kernel
theorem dX5_layTo_6 : decode cX5_layTo 6 = .ok (.istore 4, 2) := by decide +kernel
theorem dX5_layTo_8 : decode cX5_layTo 8 = .ok (.iload 4, 2) := by decide +kernel
theorem dX5_layTo_10 : decode cX5_layTo 10 = .ok (.iconst 1, 1) := by decide +kernel
theorem dX5_layTo_11 : decode cX5_layTo 11 = .ok (.iadd, 1) := by decide +kernel
theorem dX5_layTo_12 : decode cX5_layTo 12 = .ok (.bipush 36, 2) := by decide +kernel
theorem dX5_layTo_14 : decode cX5_layTo 14 = .ok (.if_icmp .ge 75, 3) := by decide +kernel
theorem dX5_layTo_17 : decode cX5_layTo 17 = .ok (.aload_n 0, 1) := by decide +kernel
theorem dX5_layTo_18 : decode cX5_layTo 18 = .ok (.getfield 17, 3) := by decide +kernel
theorem dX5_layTo_21 : decode cX5_layTo 21 = .ok (.iload_n 2, 1) := by decide +kernel
theorem dX5_layTo_22 : decode cX5_layTo 22 = .ok (.aaload, 1) := by decide +kernel
theorem dX5_layTo_23 : decode cX5_layTo 23 = .ok (.iload 4, 2) := by decide +kernel
theorem dX5_layTo_25 : decode cX5_layTo 25 = .ok (.iaload, 1) := by decide +kernel
theorem dX5_layTo_26 : decode cX5_layTo 26 = .ok (.iload_n 3, 1) := by decide +kernel
theorem dX5_layTo_27 : decode cX5_layTo 27 = .ok (.if_icmp .eq 62, 3) := by decide +kernel
theorem dX5_layTo_30 : decode cX5_layTo 30 = .ok (.aload_n 1, 1) := by decide +kernel
theorem dX5_layTo_31 : decode cX5_layTo 31 = .ok (.aload_n 0, 1) := by decide +kernel
theorem dX5_layTo_32 : decode cX5_layTo 32 = .ok (.getfield 17, 3) := by decide +kernel
theorem dX5_layTo_35 : decode cX5_layTo 35 = .ok (.iload_n 2, 1) := by decide +kernel
theorem dX5_layTo_36 : decode cX5_layTo 36 = .ok (.aaload, 1) := by decide +kernel
theorem dX5_layTo_37 : decode cX5_layTo 37 = .ok (.iload 4, 2) := by decide +kernel
theorem dX5_layTo_39 : decode cX5_layTo 39 = .ok (.iaload, 1) := by decide +kernel
theorem dX5_layTo_40 : decode cX5_layTo 40 = .ok (.iload_n 3, 1) := by decide +kernel
theorem dX5_layTo_41 : decode cX5_layTo 41 = .ok (.invokevirtual 46, 3) := by decide +kernel
theorem dX5_layTo_44 : decode cX5_layTo 44 = .ok (.istore 5, 2) := by decide +kernel
theorem dX5_layTo_46 : decode cX5_layTo 46 = .ok (.iload 5, 2) := by decide +kernel
theorem dX5_layTo_48 : decode cX5_layTo 48 = .ok (.iconst (-1), 1) := by decide +kernel
theorem dX5_layTo_49 : decode cX5_layTo 49 = .ok (.if_icmp .ne 6, 3) := by decide +kernel
theorem dX5_layTo_52 : decode cX5_layTo 52 = .ok (.goto 37, 3) := by decide +kernel
theorem dX5_layTo_55 : decode cX5_layTo 55 = .ok (.aload_n 0, 1) := by decide +kernel
theorem dX5_layTo_56 : decode cX5_layTo 56 = .ok (.getfield 20, 3) := by decide +kernel
theorem dX5_layTo_59 : decode cX5_layTo 59 = .ok (.iload_n 2, 1) := by decide +kernel
theorem dX5_layTo_60 : decode cX5_layTo 60 = .ok (.aaload, 1) := by decide +kernel
theorem dX5_layTo_61 : decode cX5_layTo 61 = .ok (.iload 4, 2) := by decide +kernel
theorem dX5_layTo_63 : decode cX5_layTo 63 = .ok (.iload 5, 2) := by decide +kernel
theorem dX5_layTo_65 : decode cX5_layTo 65 = .ok (.iastore, 1) := by decide +kernel
theorem dX5_layTo_66 : decode cX5_layTo 66 = .ok (.aload_n 0, 1) := by decide +kernel
theorem dX5_layTo_67 : decode cX5_layTo 67 = .ok (.getfield 17, 3) := by decide +kernel
theorem dX5_layTo_70 : decode cX5_layTo 70 = .ok (.iload_n 2, 1) := by decide +kernel
theorem dX5_layTo_71 : decode cX5_layTo 71 = .ok (.aaload, 1) := by decide +kernel
theorem dX5_layTo_72 : decode cX5_layTo 72 = .ok (.iload 4, 2) := by decide +kernel
theorem dX5_layTo_74 : decode cX5_layTo 74 = .ok (.iconst 1, 1) := by decide +kernel
theorem dX5_layTo_75 : decode cX5_layTo 75 = .ok (.iadd, 1) := by decide +kernel
theorem dX5_layTo_76 : decode cX5_layTo 76 = .ok (.aload_n 1, 1) := by decide +kernel
theorem dX5_layTo_77 : decode cX5_layTo 77 = .ok (.iload 5, 2) := by decide +kernel
theorem dX5_layTo_79 : decode cX5_layTo 79 = .ok (.invokevirtual 50, 3) := by decide +kernel
theorem dX5_layTo_82 : decode cX5_layTo 82 = .ok (.iastore, 1) := by decide +kernel
theorem dX5_layTo_83 : decode cX5_layTo 83 = .ok (.iinc 4 1, 3) := by decide +kernel
theorem dX5_layTo_86 : decode cX5_layTo 86 = .ok (.goto (-78), 3) := by decide +kernel
theorem dX5_layTo_89 : decode cX5_layTo 89 = .ok (.aload_n 0, 1) := by decide +kernel
theorem dX5_layTo_90 : decode cX5_layTo 90 = .ok (.getfield 9, 3) := by decide +kernel
theorem dX5_layTo_93 : decode cX5_layTo 93 = .ok (.iload_n 2, 1) := by decide +kernel
theorem dX5_layTo_94 : decode cX5_layTo 94 = .ok (.iload 4, 2) := by decide +kernel
theorem dX5_layTo_96 : decode cX5_layTo 96 = .ok (.iastore, 1) := by decide +kernel
theorem dX5_layTo_97 : decode cX5_layTo 97 = .ok (.return_, 1) := by decide +kernel
theorem dX5_channelsOf_0 : decode cX5_channelsOf 0 = .ok (.aload_n 0, 1) := by decide +kernel
theorem dX5_channelsOf_1 : decode cX5_channelsOf 1 = .ok (.getfield 9, 3) := by decide +kernel
theorem dX5_channelsOf_4 : decode cX5_channelsOf 4 = .ok (.iload_n 1, 1) := by decide +kernel
theorem dX5_channelsOf_5 : decode cX5_channelsOf 5 = .ok (.iaload, 1) := by decide +kernel
theorem dX5_channelsOf_6 : decode cX5_channelsOf 6 = .ok (.ireturn, 1) := by decide +kernel
theorem dX5_placeOf_0 : decode cX5_placeOf 0 = .ok (.aload_n 0, 1) := by decide +kernel
theorem dX5_placeOf_1 : decode cX5_placeOf 1 = .ok (.getfield 17, 3) := by decide +kernel
theorem dX5_placeOf_4 : decode cX5_placeOf 4 = .ok (.iload_n 1, 1) := by decide +kernel
theorem dX5_placeOf_5 : decode cX5_placeOf 5 = .ok (.aaload, 1) := by decide +kernel
theorem dX5_placeOf_6 : decode cX5_placeOf 6 = .ok (.iload_n 2, 1) := by decide +kernel
theorem dX5_placeOf_7 : decode cX5_placeOf 7 = .ok (.iaload, 1) := by decide +kernel
theorem dX5_placeOf_8 : decode cX5_placeOf 8 = .ok (.ireturn, 1) := by decide +kernel
theorem dX5_channelOf_0 : decode cX5_channelOf 0 = .ok (.aload_n 0, 1) := by decide +kernel
theorem dX5_channelOf_1 : decode cX5_channelOf 1 = .ok (.getfield 20, 3) := by decide +kernel
theorem dX5_channelOf_4 : decode cX5_channelOf 4 = .ok (.iload_n 1, 1) := by decide +kernel
theorem dX5_channelOf_5 : decode cX5_channelOf 5 = .ok (.aaload, 1) := by decide +kernel
theorem dX5_channelOf_6 : decode cX5_channelOf 6 = .ok (.iload_n 2, 1) := by decide +kernel
theorem dX5_channelOf_7 : decode cX5_channelOf 7 = .ok (.iaload, 1) := by decide +kernel
theorem dX5_channelOf_8 : decode cX5_channelOf 8 = .ok (.ireturn, 1) := by decide +kernel
theorem dX5_goalOf_0 : decode cX5_goalOf 0 = .ok (.aload_n 1, 1) := by decide +kernel
theorem dX5_goalOf_1 : decode cX5_goalOf 1 = .ok (.iload_n 2, 1) := by decide +kernel
theorem dX5_goalOf_2 : decode cX5_goalOf 2 = .ok (.invokevirtual 23, 3) := by decide +kernel
theorem dX5_goalOf_5 : decode cX5_goalOf 5 = .ok (.lstore 4, 2) := by decide +kernel
theorem dX5_goalOf_7 : decode cX5_goalOf 7 = .ok (.iconst 0, 1) := by decide +kernel
theorem dX5_goalOf_8 : decode cX5_goalOf 8 = .ok (.istore 6, 2) := by decide +kernel
theorem dX5_goalOf_10 : decode cX5_goalOf 10 = .ok (.iconst 1, 1) := by decide +kernel
theorem dX5_goalOf_11 : decode cX5_goalOf 11 = .ok (.istore 7, 2) := by decide +kernel
theorem dX5_goalOf_13 : decode cX5_goalOf 13 = .ok (.iload 7, 2) := by decide +kernel
theorem dX5_goalOf_15 : decode cX5_goalOf 15 = .ok (.aload_n 0, 1) := by decide +kernel
theorem dX5_goalOf_16 : decode cX5_goalOf 16 = .ok (.getfield 9, 3) := by decide +kernel
theorem dX5_goalOf_19 : decode cX5_goalOf 19 = .ok (.iload_n 2, 1) := by decide +kernel
theorem dX5_goalOf_20 : decode cX5_goalOf 20 = .ok (.iaload, 1) := by decide +kernel
theorem dX5_goalOf_21 : decode cX5_goalOf 21 = .ok (.if_icmp .gt 44, 3) := by decide +kernel
theorem dX5_goalOf_24 : decode cX5_goalOf 24 = .ok (.aload_n 0, 1) := by decide +kernel
theorem dX5_goalOf_25 : decode cX5_goalOf 25 = .ok (.getfield 17, 3) := by decide +kernel
theorem dX5_goalOf_28 : decode cX5_goalOf 28 = .ok (.iload_n 2, 1) := by decide +kernel
theorem dX5_goalOf_29 : decode cX5_goalOf 29 = .ok (.aaload, 1) := by decide +kernel
theorem dX5_goalOf_30 : decode cX5_goalOf 30 = .ok (.iload 7, 2) := by decide +kernel
theorem dX5_goalOf_32 : decode cX5_goalOf 32 = .ok (.iaload, 1) := by decide +kernel
theorem dX5_goalOf_33 : decode cX5_goalOf 33 = .ok (.istore 8, 2) := by decide +kernel
theorem dX5_goalOf_35 : decode cX5_goalOf 35 = .ok (.lload 4, 2) := by decide +kernel
theorem dX5_goalOf_37 : decode cX5_goalOf 37 = .ok (.iload 8, 2) := by decide +kernel
theorem dX5_goalOf_39 : decode cX5_goalOf 39 = .ok (.lshr, 1) := by decide +kernel
theorem dX5_goalOf_40 : decode cX5_goalOf 40 = .ok (.lconst 1, 1) := by decide +kernel
theorem dX5_goalOf_41 : decode cX5_goalOf 41 = .ok (.land, 1) := by decide +kernel
theorem dX5_goalOf_42 : decode cX5_goalOf 42 = .ok (.lconst 0, 1) := by decide +kernel
theorem dX5_goalOf_43 : decode cX5_goalOf 43 = .ok (.lcmp, 1) := by decide +kernel
theorem dX5_goalOf_44 : decode cX5_goalOf 44 = .ok (.ifCond .eq 15, 3) := by decide +kernel
theorem dX5_goalOf_47 : decode cX5_goalOf 47 = .ok (.iload 6, 2) := by decide +kernel
theorem dX5_goalOf_49 : decode cX5_goalOf 49 = .ok (.iload_n 3, 1) := by decide +kernel
theorem dX5_goalOf_50 : decode cX5_goalOf 50 = .ok (.if_icmp .ne 6, 3) := by decide +kernel
theorem dX5_goalOf_53 : decode cX5_goalOf 53 = .ok (.iload 8, 2) := by decide +kernel
theorem dX5_goalOf_55 : decode cX5_goalOf 55 = .ok (.ireturn, 1) := by decide +kernel
theorem dX5_goalOf_56 : decode cX5_goalOf 56 = .ok (.iinc 6 1, 3) := by decide +kernel
theorem dX5_goalOf_59 : decode cX5_goalOf 59 = .ok (.iinc 7 1, 3) := by decide +kernel
theorem dX5_goalOf_62 : decode cX5_goalOf 62 = .ok (.goto (-49), 3) := by decide +kernel
theorem dX5_goalOf_65 : decode cX5_goalOf 65 = .ok (.iconst (-1), 1) := by decide +kernel
theorem dX5_goalOf_66 : decode cX5_goalOf 66 = .ok (.ireturn, 1) := by decide +kernel
theorem dX5_headOf_0 : decode cX5_headOf 0 = .ok (.aload_n 1, 1) := by decide +kernel
theorem dX5_headOf_1 : decode cX5_headOf 1 = .ok (.getfield 53, 3) := by decide +kernel
theorem dX5_headOf_4 : decode cX5_headOf 4 = .ok (.iload_n 2, 1) := by decide +kernel
theorem dX5_headOf_5 : decode cX5_headOf 5 = .ok (.iaload, 1) := by decide +kernel
theorem dX5_headOf_6 : decode cX5_headOf 6 = .ok (.aload_n 0, 1) := by decide +kernel
theorem dX5_headOf_7 : decode cX5_headOf 7 = .ok (.getfield 9, 3) := by decide +kernel
theorem dX5_headOf_10 : decode cX5_headOf 10 = .ok (.iload_n 2, 1) := by decide +kernel
theorem dX5_headOf_11 : decode cX5_headOf 11 = .ok (.iaload, 1) := by decide +kernel
theorem dX5_headOf_12 : decode cX5_headOf 12 = .ok (.invokestatic 56, 3) := by decide +kernel
theorem dX5_headOf_15 : decode cX5_headOf 15 = .ok (.ireturn, 1) := by decide +kernel
theorem dX5_tailOf_0 : decode cX5_tailOf 0 = .ok (.iconst 0, 1) := by decide +kernel
theorem dX5_tailOf_1 : decode cX5_tailOf 1 = .ok (.aload_n 1, 1) := by decide +kernel
theorem dX5_tailOf_2 : decode cX5_tailOf 2 = .ok (.getfield 53, 3) := by decide +kernel
theorem dX5_tailOf_5 : decode cX5_tailOf 5 = .ok (.iload_n 2, 1) := by decide +kernel
theorem dX5_tailOf_6 : decode cX5_tailOf 6 = .ok (.iaload, 1) := by decide +kernel
theorem dX5_tailOf_7 : decode cX5_tailOf 7 = .ok (.aload_n 1, 1) := by decide +kernel
theorem dX5_tailOf_8 : decode cX5_tailOf 8 = .ok (.iload_n 2, 1) := by decide +kernel
theorem dX5_tailOf_9 : decode cX5_tailOf 9 = .ok (.invokevirtual 61, 3) := by decide +kernel
theorem dX5_tailOf_12 : decode cX5_tailOf 12 = .ok (.isub, 1) := by decide +kernel
theorem dX5_tailOf_13 : decode cX5_tailOf 13 = .ok (.invokestatic 64, 3) := by decide +kernel
theorem dX5_tailOf_16 : decode cX5_tailOf 16 = .ok (.ireturn, 1) := by decide +kernel
theorem dX5_arrived_0 : decode cX5_arrived 0 = .ok (.aload_n 1, 1) := by decide +kernel
theorem dX5_arrived_1 : decode cX5_arrived 1 = .ok (.iload_n 2, 1) := by decide +kernel
theorem dX5_arrived_2 : decode cX5_arrived 2 = .ok (.invokevirtual 23, 3) := by decide +kernel
theorem dX5_arrived_5 : decode cX5_arrived 5 = .ok (.lstore_n 3, 1) := by decide +kernel
theorem dX5_arrived_6 : decode cX5_arrived 6 = .ok (.iconst 0, 1) := by decide +kernel
theorem dX5_arrived_7 : decode cX5_arrived 7 = .ok (.istore 5, 2) := by decide +kernel
theorem dX5_arrived_9 : decode cX5_arrived 9 = .ok (.iconst 1, 1) := by decide +kernel
theorem dX5_arrived_10 : decode cX5_arrived 10 = .ok (.istore 6, 2) := by decide +kernel
theorem dX5_arrived_12 : decode cX5_arrived 12 = .ok (.iload 6, 2) := by decide +kernel
theorem dX5_arrived_14 : decode cX5_arrived 14 = .ok (.aload_n 0, 1) := by decide +kernel
theorem dX5_arrived_15 : decode cX5_arrived 15 = .ok (.aload_n 1, 1) := by decide +kernel
theorem dX5_arrived_16 : decode cX5_arrived 16 = .ok (.iload_n 2, 1) := by decide +kernel
theorem dX5_arrived_17 : decode cX5_arrived 17 = .ok (.invokevirtual 67, 3) := by decide +kernel
theorem dX5_arrived_20 : decode cX5_arrived 20 = .ok (.if_icmp .gt 30, 3) := by decide +kernel
theorem dX5_arrived_23 : decode cX5_arrived 23 = .ok (.lload_n 3, 1) := by decide +kernel
theorem dX5_arrived_24 : decode cX5_arrived 24 = .ok (.aload_n 0, 1) := by decide +kernel
theorem dX5_arrived_25 : decode cX5_arrived 25 = .ok (.getfield 17, 3) := by decide +kernel
theorem dX5_arrived_28 : decode cX5_arrived 28 = .ok (.iload_n 2, 1) := by decide +kernel
theorem dX5_arrived_29 : decode cX5_arrived 29 = .ok (.aaload, 1) := by decide +kernel
theorem dX5_arrived_30 : decode cX5_arrived 30 = .ok (.iload 6, 2) := by decide +kernel
theorem dX5_arrived_32 : decode cX5_arrived 32 = .ok (.iaload, 1) := by decide +kernel
theorem dX5_arrived_33 : decode cX5_arrived 33 = .ok (.lshr, 1) := by decide +kernel
theorem dX5_arrived_34 : decode cX5_arrived 34 = .ok (.lconst 1, 1) := by decide +kernel
theorem dX5_arrived_35 : decode cX5_arrived 35 = .ok (.land, 1) := by decide +kernel
theorem dX5_arrived_36 : decode cX5_arrived 36 = .ok (.lconst 0, 1) := by decide +kernel
theorem dX5_arrived_37 : decode cX5_arrived 37 = .ok (.lcmp, 1) := by decide +kernel
theorem dX5_arrived_38 : decode cX5_arrived 38 = .ok (.ifCond .eq 6, 3) := by decide +kernel
theorem dX5_arrived_41 : decode cX5_arrived 41 = .ok (.iinc 5 1, 3) := by decide +kernel
theorem dX5_arrived_44 : decode cX5_arrived 44 = .ok (.iinc 6 1, 3) := by decide +kernel
theorem dX5_arrived_47 : decode cX5_arrived 47 = .ok (.goto (-35), 3) := by decide +kernel
theorem dX5_arrived_50 : decode cX5_arrived 50 = .ok (.iload 5, 2) := by decide +kernel
theorem dX5_arrived_52 : decode cX5_arrived 52 = .ok (.ireturn, 1) := by decide +kernel
theorem dX5_isDone_0 : decode cX5_isDone 0 = .ok (.aload_n 0, 1) := by decide +kernel
theorem dX5_isDone_1 : decode cX5_isDone 1 = .ok (.getfield 9, 3) := by decide +kernel
theorem dX5_isDone_4 : decode cX5_isDone 4 = .ok (.iload_n 2, 1) := by decide +kernel
theorem dX5_isDone_5 : decode cX5_isDone 5 = .ok (.iaload, 1) := by decide +kernel
theorem dX5_isDone_6 : decode cX5_isDone 6 = .ok (.ifCond .eq 24, 3) := by decide +kernel
theorem dX5_isDone_9 : decode cX5_isDone 9 = .ok (.aload_n 1, 1) := by decide +kernel
theorem dX5_isDone_10 : decode cX5_isDone 10 = .ok (.getfield 53, 3) := by decide +kernel
theorem dX5_isDone_13 : decode cX5_isDone 13 = .ok (.iload_n 2, 1) := by decide +kernel
theorem dX5_isDone_14 : decode cX5_isDone 14 = .ok (.iaload, 1) := by decide +kernel
theorem dX5_isDone_15 : decode cX5_isDone 15 = .ok (.aload_n 0, 1) := by decide +kernel
theorem dX5_isDone_16 : decode cX5_isDone 16 = .ok (.getfield 9, 3) := by decide +kernel
theorem dX5_isDone_19 : decode cX5_isDone 19 = .ok (.iload_n 2, 1) := by decide +kernel
theorem dX5_isDone_20 : decode cX5_isDone 20 = .ok (.iaload, 1) := by decide +kernel
theorem dX5_isDone_21 : decode cX5_isDone 21 = .ok (.aload_n 1, 1) := by decide +kernel
theorem dX5_isDone_22 : decode cX5_isDone 22 = .ok (.iload_n 2, 1) := by decide +kernel
theorem dX5_isDone_23 : decode cX5_isDone 23 = .ok (.invokevirtual 61, 3) := by decide +kernel
theorem dX5_isDone_26 : decode cX5_isDone 26 = .ok (.iadd, 1) := by decide +kernel
theorem dX5_isDone_27 : decode cX5_isDone 27 = .ok (.if_icmp .lt 7, 3) := by decide +kernel
theorem dX5_isDone_30 : decode cX5_isDone 30 = .ok (.iconst 1, 1) := by decide +kernel
theorem dX5_isDone_31 : decode cX5_isDone 31 = .ok (.goto 4, 3) := by decide +kernel
theorem dX5_isDone_34 : decode cX5_isDone 34 = .ok (.iconst 0, 1) := by decide +kernel
theorem dX5_isDone_35 : decode cX5_isDone 35 = .ok (.ireturn, 1) := by decide +kernel
theorem dX5_channelsDown_0 : decode cX5_channelsDown 0 = .ok (.iconst 0, 1) := by decide +kernel
theorem dX5_channelsDown_1 : decode cX5_channelsDown 1 = .ok (.istore_n 3, 1) := by decide +kernel
theorem dX5_channelsDown_2 : decode cX5_channelsDown 2 = .ok (.iconst 0, 1) := by decide +kernel
theorem dX5_channelsDown_3 : decode cX5_channelsDown 3 = .ok (.istore 4, 2) := by decide +kernel
theorem dX5_channelsDown_5 : decode cX5_channelsDown 5 = .ok (.iload 4, 2) := by decide +kernel
theorem dX5_channelsDown_7 : decode cX5_channelsDown 7 = .ok (.aload_n 0, 1) := by decide +kernel
theorem dX5_channelsDown_8 : decode cX5_channelsDown 8 = .ok (.getfield 9, 3) := by decide +kernel
theorem dX5_channelsDown_11 : decode cX5_channelsDown 11 = .ok (.iload_n 2, 1) := by decide +kernel
theorem dX5_channelsDown_12 : decode cX5_channelsDown 12 = .ok (.iaload, 1) := by decide +kernel
theorem dX5_channelsDown_13 : decode cX5_channelsDown 13 = .ok (.if_icmp .ge 28, 3) := by decide +kernel
theorem dX5_channelsDown_16 : decode cX5_channelsDown 16 = .ok (.aload_n 1, 1) := by decide +kernel
theorem dX5_channelsDown_17 : decode cX5_channelsDown 17 = .ok (.aload_n 0, 1) := by decide +kernel
theorem dX5_channelsDown_18 : decode cX5_channelsDown 18 = .ok (.getfield 20, 3) := by decide +kernel
theorem dX5_channelsDown_21 : decode cX5_channelsDown 21 = .ok (.iload_n 2, 1) := by decide +kernel
theorem dX5_channelsDown_22 : decode cX5_channelsDown 22 = .ok (.aaload, 1) := by decide +kernel
theorem dX5_channelsDown_23 : decode cX5_channelsDown 23 = .ok (.iload 4, 2) := by decide +kernel
theorem dX5_channelsDown_25 : decode cX5_channelsDown 25 = .ok (.iaload, 1) := by decide +kernel
theorem dX5_channelsDown_26 : decode cX5_channelsDown 26 = .ok (.invokevirtual 71, 3) := by decide +kernel
theorem dX5_channelsDown_29 : decode cX5_channelsDown 29 = .ok (.ifCond .eq 6, 3) := by decide +kernel
theorem dX5_channelsDown_32 : decode cX5_channelsDown 32 = .ok (.iinc 3 1, 3) := by decide +kernel
theorem dX5_channelsDown_35 : decode cX5_channelsDown 35 = .ok (.iinc 4 1, 3) := by decide +kernel
theorem dX5_channelsDown_38 : decode cX5_channelsDown 38 = .ok (.goto (-33), 3) := by decide +kernel
theorem dX5_channelsDown_41 : decode cX5_channelsDown 41 = .ok (.iload_n 3, 1) := by decide +kernel
theorem dX5_channelsDown_42 : decode cX5_channelsDown 42 = .ok (.ireturn, 1) := by decide +kernel
theorem dX5_undone_0 : decode cX5_undone 0 = .ok (.iload_n 2, 1) := by decide +kernel
theorem dX5_undone_1 : decode cX5_undone 1 = .ok (.iconst (-1), 1) := by decide +kernel
theorem dX5_undone_2 : decode cX5_undone 2 = .ok (.if_icmp .ne 7, 3) := by decide +kernel
theorem dX5_undone_5 : decode cX5_undone 5 = .ok (.iconst 0, 1) := by decide +kernel
theorem dX5_undone_6 : decode cX5_undone 6 = .ok (.goto 6, 3) := by decide +kernel
theorem dX5_undone_9 : decode cX5_undone 9 = .ok (.iload_n 2, 1) := by decide +kernel
theorem dX5_undone_10 : decode cX5_undone 10 = .ok (.iconst 2, 1) := by decide +kernel
theorem dX5_undone_11 : decode cX5_undone 11 = .ok (.imul, 1) := by decide +kernel
theorem dX5_undone_12 : decode cX5_undone 12 = .ok (.istore_n 3, 1) := by decide +kernel
theorem dX5_undone_13 : decode cX5_undone 13 = .ok (.iload_n 2, 1) := by decide +kernel
theorem dX5_undone_14 : decode cX5_undone 14 = .ok (.iconst (-1), 1) := by decide +kernel
theorem dX5_undone_15 : decode cX5_undone 15 = .ok (.if_icmp .ne 10, 3) := by decide +kernel
theorem dX5_undone_18 : decode cX5_undone 18 = .ok (.aload_n 1, 1) := by decide +kernel
theorem dX5_undone_19 : decode cX5_undone 19 = .ok (.invokevirtual 74, 3) := by decide +kernel
theorem dX5_undone_22 : decode cX5_undone 22 = .ok (.goto 6, 3) := by decide +kernel
theorem dX5_undone_25 : decode cX5_undone 25 = .ok (.iload_n 3, 1) := by decide +kernel
theorem dX5_undone_26 : decode cX5_undone 26 = .ok (.iconst 2, 1) := by decide +kernel
theorem dX5_undone_27 : decode cX5_undone 27 = .ok (.iadd, 1) := by decide +kernel
theorem dX5_undone_28 : decode cX5_undone 28 = .ok (.istore 4, 2) := by decide +kernel
theorem dX5_undone_30 : decode cX5_undone 30 = .ok (.iconst 0, 1) := by decide +kernel
theorem dX5_undone_31 : decode cX5_undone 31 = .ok (.istore 5, 2) := by decide +kernel
theorem dX5_undone_33 : decode cX5_undone 33 = .ok (.iload_n 3, 1) := by decide +kernel
theorem dX5_undone_34 : decode cX5_undone 34 = .ok (.istore 6, 2) := by decide +kernel
theorem dX5_undone_36 : decode cX5_undone 36 = .ok (.iload 6, 2) := by decide +kernel
theorem dX5_undone_38 : decode cX5_undone 38 = .ok (.iload 4, 2) := by decide +kernel
theorem dX5_undone_40 : decode cX5_undone 40 = .ok (.if_icmp .ge 22, 3) := by decide +kernel
theorem dX5_undone_43 : decode cX5_undone 43 = .ok (.aload_n 0, 1) := by decide +kernel
theorem dX5_undone_44 : decode cX5_undone 44 = .ok (.aload_n 1, 1) := by decide +kernel
theorem dX5_undone_45 : decode cX5_undone 45 = .ok (.iload 6, 2) := by decide +kernel
theorem dX5_undone_47 : decode cX5_undone 47 = .ok (.invokevirtual 78, 3) := by decide +kernel
theorem dX5_undone_50 : decode cX5_undone 50 = .ok (.ifCond .ne 6, 3) := by decide +kernel
theorem dX5_undone_53 : decode cX5_undone 53 = .ok (.iinc 5 1, 3) := by decide +kernel
theorem dX5_undone_56 : decode cX5_undone 56 = .ok (.iinc 6 1, 3) := by decide +kernel
theorem dX5_undone_59 : decode cX5_undone 59 = .ok (.goto (-23), 3) := by decide +kernel
theorem dX5_undone_62 : decode cX5_undone 62 = .ok (.iload 5, 2) := by decide +kernel
theorem dX5_undone_64 : decode cX5_undone 64 = .ok (.ireturn, 1) := by decide +kernel
theorem dX5_channelsHeld_0 : decode cX5_channelsHeld 0 = .ok (.iconst 0, 1) := by decide +kernel
theorem dX5_channelsHeld_1 : decode cX5_channelsHeld 1 = .ok (.istore_n 2, 1) := by decide +kernel
theorem dX5_channelsHeld_2 : decode cX5_channelsHeld 2 = .ok (.iconst 0, 1) := by decide +kernel
theorem dX5_channelsHeld_3 : decode cX5_channelsHeld 3 = .ok (.istore_n 3, 1) := by decide +kernel
theorem dX5_channelsHeld_4 : decode cX5_channelsHeld 4 = .ok (.iload_n 3, 1) := by decide +kernel
theorem dX5_channelsHeld_5 : decode cX5_channelsHeld 5 = .ok (.aload_n 1, 1) := by decide +kernel
theorem dX5_channelsHeld_6 : decode cX5_channelsHeld 6 = .ok (.invokevirtual 74, 3) := by decide +kernel
theorem dX5_channelsHeld_9 : decode cX5_channelsHeld 9 = .ok (.if_icmp .ge 25, 3) := by decide +kernel
theorem dX5_channelsHeld_12 : decode cX5_channelsHeld 12 = .ok (.iload_n 2, 1) := by decide +kernel
theorem dX5_channelsHeld_13 : decode cX5_channelsHeld 13 = .ok (.aload_n 0, 1) := by decide +kernel
theorem dX5_channelsHeld_14 : decode cX5_channelsHeld 14 = .ok (.aload_n 1, 1) := by decide +kernel
theorem dX5_channelsHeld_15 : decode cX5_channelsHeld 15 = .ok (.iload_n 3, 1) := by decide +kernel
theorem dX5_channelsHeld_16 : decode cX5_channelsHeld 16 = .ok (.invokevirtual 67, 3) := by decide +kernel
theorem dX5_channelsHeld_19 : decode cX5_channelsHeld 19 = .ok (.aload_n 0, 1) := by decide +kernel
theorem dX5_channelsHeld_20 : decode cX5_channelsHeld 20 = .ok (.aload_n 1, 1) := by decide +kernel
theorem dX5_channelsHeld_21 : decode cX5_channelsHeld 21 = .ok (.iload_n 3, 1) := by decide +kernel
theorem dX5_channelsHeld_22 : decode cX5_channelsHeld 22 = .ok (.invokevirtual 82, 3) := by decide +kernel
theorem dX5_channelsHeld_25 : decode cX5_channelsHeld 25 = .ok (.isub, 1) := by decide +kernel
theorem dX5_channelsHeld_26 : decode cX5_channelsHeld 26 = .ok (.iadd, 1) := by decide +kernel
theorem dX5_channelsHeld_27 : decode cX5_channelsHeld 27 = .ok (.istore_n 2, 1) := by decide +kernel
theorem dX5_channelsHeld_28 : decode cX5_channelsHeld 28 = .ok (.iinc 3 1, 3) := by decide +kernel
theorem dX5_channelsHeld_31 : decode cX5_channelsHeld 31 = .ok (.goto (-27), 3) := by decide +kernel
theorem dX5_channelsHeld_34 : decode cX5_channelsHeld 34 = .ok (.iload_n 2, 1) := by decide +kernel
theorem dX5_channelsHeld_35 : decode cX5_channelsHeld 35 = .ok (.ireturn, 1) := by decide +kernel
theorem dX5_holderOf_0 : decode cX5_holderOf 0 = .ok (.iconst 0, 1) := by decide +kernel
theorem dX5_holderOf_1 : decode cX5_holderOf 1 = .ok (.istore_n 3, 1) := by decide +kernel
theorem dX5_holderOf_2 : decode cX5_holderOf 2 = .ok (.iload_n 3, 1) := by decide +kernel
theorem dX5_holderOf_3 : decode cX5_holderOf 3 = .ok (.aload_n 1, 1) := by decide +kernel
theorem dX5_holderOf_4 : decode cX5_holderOf 4 = .ok (.invokevirtual 74, 3) := by decide +kernel
theorem dX5_holderOf_7 : decode cX5_holderOf 7 = .ok (.if_icmp .ge 49, 3) := by decide +kernel
theorem dX5_holderOf_10 : decode cX5_holderOf 10 = .ok (.aload_n 0, 1) := by decide +kernel
theorem dX5_holderOf_11 : decode cX5_holderOf 11 = .ok (.aload_n 1, 1) := by decide +kernel
theorem dX5_holderOf_12 : decode cX5_holderOf 12 = .ok (.iload_n 3, 1) := by decide +kernel
theorem dX5_holderOf_13 : decode cX5_holderOf 13 = .ok (.invokevirtual 82, 3) := by decide +kernel
theorem dX5_holderOf_16 : decode cX5_holderOf 16 = .ok (.istore 4, 2) := by decide +kernel
theorem dX5_holderOf_18 : decode cX5_holderOf 18 = .ok (.iload 4, 2) := by decide +kernel
theorem dX5_holderOf_20 : decode cX5_holderOf 20 = .ok (.aload_n 0, 1) := by decide +kernel
theorem dX5_holderOf_21 : decode cX5_holderOf 21 = .ok (.aload_n 1, 1) := by decide +kernel
theorem dX5_holderOf_22 : decode cX5_holderOf 22 = .ok (.iload_n 3, 1) := by decide +kernel
theorem dX5_holderOf_23 : decode cX5_holderOf 23 = .ok (.invokevirtual 67, 3) := by decide +kernel
theorem dX5_holderOf_26 : decode cX5_holderOf 26 = .ok (.if_icmp .ge 24, 3) := by decide +kernel
theorem dX5_holderOf_29 : decode cX5_holderOf 29 = .ok (.aload_n 0, 1) := by decide +kernel
theorem dX5_holderOf_30 : decode cX5_holderOf 30 = .ok (.getfield 20, 3) := by decide +kernel
theorem dX5_holderOf_33 : decode cX5_holderOf 33 = .ok (.iload_n 3, 1) := by decide +kernel
theorem dX5_holderOf_34 : decode cX5_holderOf 34 = .ok (.aaload, 1) := by decide +kernel
theorem dX5_holderOf_35 : decode cX5_holderOf 35 = .ok (.iload 4, 2) := by decide +kernel
theorem dX5_holderOf_37 : decode cX5_holderOf 37 = .ok (.iaload, 1) := by decide +kernel
theorem dX5_holderOf_38 : decode cX5_holderOf 38 = .ok (.iload_n 2, 1) := by decide +kernel
theorem dX5_holderOf_39 : decode cX5_holderOf 39 = .ok (.if_icmp .ne 5, 3) := by decide +kernel
theorem dX5_holderOf_42 : decode cX5_holderOf 42 = .ok (.iload_n 3, 1) := by decide +kernel
theorem dX5_holderOf_43 : decode cX5_holderOf 43 = .ok (.ireturn, 1) := by decide +kernel
theorem dX5_holderOf_44 : decode cX5_holderOf 44 = .ok (.iinc 4 1, 3) := by decide +kernel
theorem dX5_holderOf_47 : decode cX5_holderOf 47 = .ok (.goto (-29), 3) := by decide +kernel
theorem dX5_holderOf_50 : decode cX5_holderOf 50 = .ok (.iinc 3 1, 3) := by decide +kernel
theorem dX5_holderOf_53 : decode cX5_holderOf 53 = .ok (.goto (-51), 3) := by decide +kernel
theorem dX5_holderOf_56 : decode cX5_holderOf 56 = .ok (.iconst (-1), 1) := by decide +kernel
theorem dX5_holderOf_57 : decode cX5_holderOf 57 = .ok (.ireturn, 1) := by decide +kernel
theorem dX6_init_0 : decode cX6_init 0 = .ok (.aload_n 0, 1) := by decide +kernel
theorem dX6_init_1 : decode cX6_init 1 = .ok (.invokespecial 3, 3) := by decide +kernel
theorem dX6_init_4 : decode cX6_init 4 = .ok (.aload_n 0, 1) := by decide +kernel
theorem dX6_init_5 : decode cX6_init 5 = .ok (.new 9, 3) := by decide +kernel
theorem dX6_init_8 : decode cX6_init 8 = .ok (.dup, 1) := by decide +kernel
theorem dX6_init_9 : decode cX6_init 9 = .ok (.invokespecial 11, 3) := by decide +kernel
theorem dX6_init_12 : decode cX6_init 12 = .ok (.putfield 12, 3) := by decide +kernel
theorem dX6_init_15 : decode cX6_init 15 = .ok (.aload_n 0, 1) := by decide +kernel
theorem dX6_init_16 : decode cX6_init 16 = .ok (.new 9, 3) := by decide +kernel
theorem dX6_init_19 : decode cX6_init 19 = .ok (.dup, 1) := by decide +kernel
theorem dX6_init_20 : decode cX6_init 20 = .ok (.invokespecial 11, 3) := by decide +kernel
theorem dX6_init_23 : decode cX6_init 23 = .ok (.putfield 16, 3) := by decide +kernel
theorem dX6_init_26 : decode cX6_init 26 = .ok (.aload_n 0, 1) := by decide +kernel
theorem dX6_init_27 : decode cX6_init 27 = .ok (.new 9, 3) := by decide +kernel
theorem dX6_init_30 : decode cX6_init 30 = .ok (.dup, 1) := by decide +kernel
theorem dX6_init_31 : decode cX6_init 31 = .ok (.invokespecial 11, 3) := by decide +kernel
theorem dX6_init_34 : decode cX6_init 34 = .ok (.putfield 19, 3) := by decide +kernel
theorem dX6_init_37 : decode cX6_init 37 = .ok (.aload_n 0, 1) := by decide +kernel
theorem dX6_init_38 : decode cX6_init 38 = .ok (.new 22, 3) := by decide +kernel
theorem dX6_init_41 : decode cX6_init 41 = .ok (.dup, 1) := by decide +kernel
theorem dX6_init_42 : decode cX6_init 42 = .ok (.invokespecial 24, 3) := by decide +kernel
theorem dX6_init_45 : decode cX6_init 45 = .ok (.putfield 25, 3) := by decide +kernel
theorem dX6_init_48 : decode cX6_init 48 = .ok (.aload_n 0, 1) := by decide +kernel
theorem dX6_init_49 : decode cX6_init 49 = .ok (.new 29, 3) := by decide +kernel
theorem dX6_init_52 : decode cX6_init 52 = .ok (.dup, 1) := by decide +kernel
theorem dX6_init_53 : decode cX6_init 53 = .ok (.invokespecial 31, 3) := by decide +kernel
theorem dX6_init_56 : decode cX6_init 56 = .ok (.putfield 32, 3) := by decide +kernel
theorem dX6_init_59 : decode cX6_init 59 = .ok (.aload_n 0, 1) := by decide +kernel
theorem dX6_init_60 : decode cX6_init 60 = .ok (.new 36, 3) := by decide +kernel
theorem dX6_init_63 : decode cX6_init 63 = .ok (.dup, 1) := by decide +kernel
theorem dX6_init_64 : decode cX6_init 64 = .ok (.invokespecial 38, 3) := by decide +kernel
theorem dX6_init_67 : decode cX6_init 67 = .ok (.putfield 39, 3) := by decide +kernel
theorem dX6_init_70 : decode cX6_init 70 = .ok (.aload_n 0, 1) := by decide +kernel
theorem dX6_init_71 : decode cX6_init 71 = .ok (.new 43, 3) := by decide +kernel
theorem dX6_init_74 : decode cX6_init 74 = .ok (.dup, 1) := by decide +kernel
theorem dX6_init_75 : decode cX6_init 75 = .ok (.aload_n 0, 1) := by decide +kernel
theorem dX6_init_76 : decode cX6_init 76 = .ok (.getfield 39, 3) := by decide +kernel
theorem dX6_init_79 : decode cX6_init 79 = .ok (.invokespecial 45, 3) := by decide +kernel
theorem dX6_init_82 : decode cX6_init 82 = .ok (.putfield 48, 3) := by decide +kernel
theorem dX6_init_85 : decode cX6_init 85 = .ok (.aload_n 0, 1) := by decide +kernel
theorem dX6_init_86 : decode cX6_init 86 = .ok (.new 52, 3) := by decide +kernel
theorem dX6_init_89 : decode cX6_init 89 = .ok (.dup, 1) := by decide +kernel
theorem dX6_init_90 : decode cX6_init 90 = .ok (.invokespecial 54, 3) := by decide +kernel
theorem dX6_init_93 : decode cX6_init 93 = .ok (.putfield 55, 3) := by decide +kernel
theorem dX6_init_96 : decode cX6_init 96 = .ok (.aload_n 0, 1) := by decide +kernel
theorem dX6_init_97 : decode cX6_init 97 = .ok (.getfield 12, 3) := by decide +kernel
theorem dX6_init_100 : decode cX6_init 100 = .ok (.iconst 4, 1) := by decide +kernel
theorem dX6_init_101 : decode cX6_init 101 = .ok (.iconst 4, 1) := by decide +kernel
theorem dX6_init_102 : decode cX6_init 102 = .ok (.invokevirtual 59, 3) := by decide +kernel
theorem dX6_init_105 : decode cX6_init 105 = .ok (.aload_n 0, 1) := by decide +kernel
theorem dX6_init_106 : decode cX6_init 106 = .ok (.getfield 32, 3) := by decide +kernel
theorem dX6_init_109 : decode cX6_init 109 = .ok (.iconst 4, 1) := by decide +kernel
theorem dX6_init_110 : decode cX6_init 110 = .ok (.iconst 4, 1) := by decide +kernel
theorem dX6_init_111 : decode cX6_init 111 = .ok (.invokevirtual 63, 3) := by decide +kernel
theorem dX6_init_114 : decode cX6_init 114 = .ok (.return_, 1) := by decide +kernel
theorem dX6_mesh_0 : decode cX6_mesh 0 = .ok (.aload_n 0, 1) := by decide +kernel
theorem dX6_mesh_1 : decode cX6_mesh 1 = .ok (.getfield 16, 3) := by decide +kernel
theorem dX6_mesh_4 : decode cX6_mesh 4 = .ok (.aload_n 0, 1) := by decide +kernel
theorem dX6_mesh_5 : decode cX6_mesh 5 = .ok (.getfield 12, 3) := by decide +kernel
theorem dX6_mesh_8 : decode cX6_mesh 8 = .ok (.invokevirtual 66, 3) := by decide +kernel
theorem dX6_mesh_11 : decode cX6_mesh 11 = .ok (.aload_n 0, 1) := by decide +kernel
theorem dX6_mesh_12 : decode cX6_mesh 12 = .ok (.aload_n 0, 1) := by decide +kernel
theorem dX6_mesh_13 : decode cX6_mesh 13 = .ok (.iload_n 1, 1) := by decide +kernel
theorem dX6_mesh_14 : decode cX6_mesh 14 = .ok (.iload_n 2, 1) := by decide +kernel
theorem dX6_mesh_15 : decode cX6_mesh 15 = .ok (.invokevirtual 70, 3) := by decide +kernel
theorem dX6_mesh_18 : decode cX6_mesh 18 = .ok (.invokevirtual 74, 3) := by decide +kernel
theorem dX6_mesh_21 : decode cX6_mesh 21 = .ok (.ireturn, 1) := by decide +kernel
theorem dX6_message_0 : decode cX6_message 0 = .ok (.aload_n 0, 1) := by decide +kernel
theorem dX6_message_1 : decode cX6_message 1 = .ok (.getfield 16, 3) := by decide +kernel
theorem dX6_message_4 : decode cX6_message 4 = .ok (.aload_n 0, 1) := by decide +kernel
theorem dX6_message_5 : decode cX6_message 5 = .ok (.getfield 12, 3) := by decide +kernel
theorem dX6_message_8 : decode cX6_message 8 = .ok (.invokevirtual 66, 3) := by decide +kernel
theorem dX6_message_11 : decode cX6_message 11 = .ok (.aload_n 0, 1) := by decide +kernel
theorem dX6_message_12 : decode cX6_message 12 = .ok (.aload_n 0, 1) := by decide +kernel
theorem dX6_message_13 : decode cX6_message 13 = .ok (.iload_n 1, 1) := by decide +kernel
theorem dX6_message_14 : decode cX6_message 14 = .ok (.iload_n 2, 1) := by decide +kernel
theorem dX6_message_15 : decode cX6_message 15 = .ok (.iload_n 3, 1) := by decide +kernel
theorem dX6_message_16 : decode cX6_message 16 = .ok (.invokevirtual 78, 3) := by decide +kernel
theorem dX6_message_19 : decode cX6_message 19 = .ok (.invokevirtual 74, 3) := by decide +kernel
theorem dX6_message_22 : decode cX6_message 22 = .ok (.ireturn, 1) := by decide +kernel
theorem dX6_goal_0 : decode cX6_goal 0 = .ok (.aload_n 0, 1) := by decide +kernel
theorem dX6_goal_1 : decode cX6_goal 1 = .ok (.getfield 16, 3) := by decide +kernel
theorem dX6_goal_4 : decode cX6_goal 4 = .ok (.aload_n 0, 1) := by decide +kernel
theorem dX6_goal_5 : decode cX6_goal 5 = .ok (.getfield 12, 3) := by decide +kernel
theorem dX6_goal_8 : decode cX6_goal 8 = .ok (.invokevirtual 66, 3) := by decide +kernel
theorem dX6_goal_11 : decode cX6_goal 11 = .ok (.aload_n 0, 1) := by decide +kernel
theorem dX6_goal_12 : decode cX6_goal 12 = .ok (.aload_n 0, 1) := by decide +kernel
theorem dX6_goal_13 : decode cX6_goal 13 = .ok (.iload_n 1, 1) := by decide +kernel
theorem dX6_goal_14 : decode cX6_goal 14 = .ok (.iload_n 2, 1) := by decide +kernel
theorem dX6_goal_15 : decode cX6_goal 15 = .ok (.iload_n 3, 1) := by decide +kernel
theorem dX6_goal_16 : decode cX6_goal 16 = .ok (.invokevirtual 82, 3) := by decide +kernel
theorem dX6_goal_19 : decode cX6_goal 19 = .ok (.invokevirtual 74, 3) := by decide +kernel
theorem dX6_goal_22 : decode cX6_goal 22 = .ok (.ireturn, 1) := by decide +kernel
theorem dX6_turns_0 : decode cX6_turns 0 = .ok (.aload_n 0, 1) := by decide +kernel
theorem dX6_turns_1 : decode cX6_turns 1 = .ok (.getfield 16, 3) := by decide +kernel
theorem dX6_turns_4 : decode cX6_turns 4 = .ok (.aload_n 0, 1) := by decide +kernel
theorem dX6_turns_5 : decode cX6_turns 5 = .ok (.getfield 12, 3) := by decide +kernel
theorem dX6_turns_8 : decode cX6_turns 8 = .ok (.invokevirtual 66, 3) := by decide +kernel
theorem dX6_turns_11 : decode cX6_turns 11 = .ok (.aload_n 0, 1) := by decide +kernel
theorem dX6_turns_12 : decode cX6_turns 12 = .ok (.aload_n 0, 1) := by decide +kernel
theorem dX6_turns_13 : decode cX6_turns 13 = .ok (.iload_n 1, 1) := by decide +kernel
theorem dX6_turns_14 : decode cX6_turns 14 = .ok (.iload_n 2, 1) := by decide +kernel
theorem dX6_turns_15 : decode cX6_turns 15 = .ok (.iload_n 3, 1) := by decide +kernel
theorem dX6_turns_16 : decode cX6_turns 16 = .ok (.invokevirtual 85, 3) := by decide +kernel
theorem dX6_turns_19 : decode cX6_turns 19 = .ok (.invokevirtual 74, 3) := by decide +kernel
theorem dX6_turns_22 : decode cX6_turns 22 = .ok (.ireturn, 1) := by decide +kernel
theorem dX6_steps_0 : decode cX6_steps 0 = .ok (.aload_n 0, 1) := by decide +kernel
theorem dX6_steps_1 : decode cX6_steps 1 = .ok (.getfield 16, 3) := by decide +kernel
theorem dX6_steps_4 : decode cX6_steps 4 = .ok (.aload_n 0, 1) := by decide +kernel
theorem dX6_steps_5 : decode cX6_steps 5 = .ok (.getfield 12, 3) := by decide +kernel
theorem dX6_steps_8 : decode cX6_steps 8 = .ok (.invokevirtual 66, 3) := by decide +kernel
theorem dX6_steps_11 : decode cX6_steps 11 = .ok (.aload_n 0, 1) := by decide +kernel
theorem dX6_steps_12 : decode cX6_steps 12 = .ok (.aload_n 0, 1) := by decide +kernel
theorem dX6_steps_13 : decode cX6_steps 13 = .ok (.iload_n 1, 1) := by decide +kernel
theorem dX6_steps_14 : decode cX6_steps 14 = .ok (.invokevirtual 88, 3) := by decide +kernel
theorem dX6_steps_17 : decode cX6_steps 17 = .ok (.invokevirtual 74, 3) := by decide +kernel
theorem dX6_steps_20 : decode cX6_steps 20 = .ok (.ireturn, 1) := by decide +kernel
theorem dX6_again_0 : decode cX6_again 0 = .ok (.aload_n 0, 1) := by decide +kernel
theorem dX6_again_1 : decode cX6_again 1 = .ok (.getfield 16, 3) := by decide +kernel
theorem dX6_again_4 : decode cX6_again 4 = .ok (.aload_n 0, 1) := by decide +kernel
theorem dX6_again_5 : decode cX6_again 5 = .ok (.getfield 12, 3) := by decide +kernel
theorem dX6_again_8 : decode cX6_again 8 = .ok (.invokevirtual 66, 3) := by decide +kernel
theorem dX6_again_11 : decode cX6_again 11 = .ok (.aload_n 0, 1) := by decide +kernel
theorem dX6_again_12 : decode cX6_again 12 = .ok (.aload_n 0, 1) := by decide +kernel
theorem dX6_again_13 : decode cX6_again 13 = .ok (.invokevirtual 91, 3) := by decide +kernel
theorem dX6_again_16 : decode cX6_again 16 = .ok (.invokevirtual 74, 3) := by decide +kernel
theorem dX6_again_19 : decode cX6_again 19 = .ok (.ireturn, 1) := by decide +kernel
theorem dX6_label_0 : decode cX6_label 0 = .ok (.aload_n 0, 1) := by decide +kernel
theorem dX6_label_1 : decode cX6_label 1 = .ok (.getfield 32, 3) := by decide +kernel
theorem dX6_label_4 : decode cX6_label 4 = .ok (.iload_n 1, 1) := by decide +kernel
theorem dX6_label_5 : decode cX6_label 5 = .ok (.iload_n 2, 1) := by decide +kernel
theorem dX6_label_6 : decode cX6_label 6 = .ok (.invokevirtual 95, 3) := by decide +kernel
theorem dX6_label_9 : decode cX6_label 9 = .ok (.ifCond .eq 15, 3) := by decide +kernel
theorem dX6_label_12 : decode cX6_label 12 = .ok (.aload_n 0, 1) := by decide +kernel
theorem dX6_label_13 : decode cX6_label 13 = .ok (.getfield 32, 3) := by decide +kernel
theorem dX6_label_16 : decode cX6_label 16 = .ok (.iload_n 1, 1) := by decide +kernel
theorem dX6_label_17 : decode cX6_label 17 = .ok (.iload_n 2, 1) := by decide +kernel
theorem dX6_label_18 : decode cX6_label 18 = .ok (.invokevirtual 99, 3) := by decide +kernel
theorem dX6_label_21 : decode cX6_label 21 = .ok (.goto 9, 3) := by decide +kernel
theorem dX6_label_24 : decode cX6_label 24 = .ok (.aload_n 0, 1) := by decide +kernel
theorem dX6_label_25 : decode cX6_label 25 = .ok (.bipush (-2), 2) := by decide +kernel
theorem dX6_label_27 : decode cX6_label 27 = .ok (.invokevirtual 102, 3) := by decide +kernel
theorem dX6_label_30 : decode cX6_label 30 = .ok (.ireturn, 1) := by decide +kernel
theorem dX6_place_0 : decode cX6_place 0 = .ok (.aload_n 0, 1) := by decide +kernel
theorem dX6_place_1 : decode cX6_place 1 = .ok (.getfield 32, 3) := by decide +kernel
theorem dX6_place_4 : decode cX6_place 4 = .ok (.iload_n 1, 1) := by decide +kernel
theorem dX6_place_5 : decode cX6_place 5 = .ok (.invokevirtual 105, 3) := by decide +kernel
theorem dX6_place_8 : decode cX6_place 8 = .ok (.ifCond .eq 14, 3) := by decide +kernel
theorem dX6_place_11 : decode cX6_place 11 = .ok (.aload_n 0, 1) := by decide +kernel
theorem dX6_place_12 : decode cX6_place 12 = .ok (.getfield 32, 3) := by decide +kernel
theorem dX6_place_15 : decode cX6_place 15 = .ok (.iload_n 1, 1) := by decide +kernel
theorem dX6_place_16 : decode cX6_place 16 = .ok (.invokevirtual 109, 3) := by decide +kernel
theorem dX6_place_19 : decode cX6_place 19 = .ok (.goto 9, 3) := by decide +kernel
theorem dX6_place_22 : decode cX6_place 22 = .ok (.aload_n 0, 1) := by decide +kernel
theorem dX6_place_23 : decode cX6_place 23 = .ok (.bipush (-2), 2) := by decide +kernel
theorem dX6_place_25 : decode cX6_place 25 = .ok (.invokevirtual 102, 3) := by decide +kernel
theorem dX6_place_28 : decode cX6_place 28 = .ok (.ireturn, 1) := by decide +kernel
theorem dX6_next_0 : decode cX6_next 0 = .ok (.aload_n 0, 1) := by decide +kernel
theorem dX6_next_1 : decode cX6_next 1 = .ok (.getfield 32, 3) := by decide +kernel
theorem dX6_next_4 : decode cX6_next 4 = .ok (.iload_n 1, 1) := by decide +kernel
theorem dX6_next_5 : decode cX6_next 5 = .ok (.iload_n 2, 1) := by decide +kernel
theorem dX6_next_6 : decode cX6_next 6 = .ok (.invokevirtual 95, 3) := by decide +kernel
theorem dX6_next_9 : decode cX6_next 9 = .ok (.ifCond .eq 27, 3) := by decide +kernel
theorem dX6_next_12 : decode cX6_next 12 = .ok (.aload_n 0, 1) := by decide +kernel
theorem dX6_next_13 : decode cX6_next 13 = .ok (.getfield 32, 3) := by decide +kernel
theorem dX6_next_16 : decode cX6_next 16 = .ok (.iload_n 3, 1) := by decide +kernel
theorem dX6_next_17 : decode cX6_next 17 = .ok (.iload 4, 2) := by decide +kernel
theorem dX6_next_19 : decode cX6_next 19 = .ok (.invokevirtual 95, 3) := by decide +kernel
theorem dX6_next_22 : decode cX6_next 22 = .ok (.ifCond .eq 14, 3) := by decide +kernel
theorem dX6_next_25 : decode cX6_next 25 = .ok (.iload_n 1, 1) := by decide +kernel
theorem dX6_next_26 : decode cX6_next 26 = .ok (.iload_n 3, 1) := by decide +kernel
theorem dX6_next_27 : decode cX6_next 27 = .ok (.if_icmp .ne 16, 3) := by decide +kernel
theorem dX6_next_30 : decode cX6_next 30 = .ok (.iload_n 2, 1) := by decide +kernel
theorem dX6_next_31 : decode cX6_next 31 = .ok (.iload 4, 2) := by decide +kernel
theorem dX6_next_33 : decode cX6_next 33 = .ok (.if_icmp .ne 10, 3) := by decide +kernel
theorem dX6_next_36 : decode cX6_next 36 = .ok (.aload_n 0, 1) := by decide +kernel
theorem dX6_next_37 : decode cX6_next 37 = .ok (.bipush (-2), 2) := by decide +kernel
theorem dX6_next_39 : decode cX6_next 39 = .ok (.invokevirtual 102, 3) := by decide +kernel
theorem dX6_next_42 : decode cX6_next 42 = .ok (.ireturn, 1) := by decide +kernel
theorem dX6_next_43 : decode cX6_next 43 = .ok (.aload_n 0, 1) := by decide +kernel
theorem dX6_next_44 : decode cX6_next 44 = .ok (.getfield 32, 3) := by decide +kernel
theorem dX6_next_47 : decode cX6_next 47 = .ok (.aload_n 0, 1) := by decide +kernel
theorem dX6_next_48 : decode cX6_next 48 = .ok (.getfield 32, 3) := by decide +kernel
theorem dX6_next_51 : decode cX6_next 51 = .ok (.aload_n 0, 1) := by decide +kernel
theorem dX6_next_52 : decode cX6_next 52 = .ok (.getfield 32, 3) := by decide +kernel
theorem dX6_next_55 : decode cX6_next 55 = .ok (.aload_n 0, 1) := by decide +kernel
theorem dX6_next_56 : decode cX6_next 56 = .ok (.getfield 32, 3) := by decide +kernel
theorem dX6_next_59 : decode cX6_next 59 = .ok (.iload_n 1, 1) := by decide +kernel
theorem dX6_next_60 : decode cX6_next 60 = .ok (.iload_n 2, 1) := by decide +kernel
theorem dX6_next_61 : decode cX6_next 61 = .ok (.invokevirtual 99, 3) := by decide +kernel
theorem dX6_next_64 : decode cX6_next 64 = .ok (.aload_n 0, 1) := by decide +kernel
theorem dX6_next_65 : decode cX6_next 65 = .ok (.getfield 32, 3) := by decide +kernel
theorem dX6_next_68 : decode cX6_next 68 = .ok (.iload_n 3, 1) := by decide +kernel
theorem dX6_next_69 : decode cX6_next 69 = .ok (.iload 4, 2) := by decide +kernel
theorem dX6_next_71 : decode cX6_next 71 = .ok (.invokevirtual 99, 3) := by decide +kernel
theorem dX6_next_74 : decode cX6_next 74 = .ok (.invokevirtual 112, 3) := by decide +kernel
theorem dX6_next_77 : decode cX6_next 77 = .ok (.invokevirtual 115, 3) := by decide +kernel
theorem dX6_next_80 : decode cX6_next 80 = .ok (.invokevirtual 109, 3) := by decide +kernel
theorem dX6_next_83 : decode cX6_next 83 = .ok (.ireturn, 1) := by decide +kernel
theorem dX6_far_0 : decode cX6_far 0 = .ok (.aload_n 0, 1) := by decide +kernel
theorem dX6_far_1 : decode cX6_far 1 = .ok (.getfield 32, 3) := by decide +kernel
theorem dX6_far_4 : decode cX6_far 4 = .ok (.iload_n 1, 1) := by decide +kernel
theorem dX6_far_5 : decode cX6_far 5 = .ok (.iload_n 2, 1) := by decide +kernel
theorem dX6_far_6 : decode cX6_far 6 = .ok (.invokevirtual 95, 3) := by decide +kernel
theorem dX6_far_9 : decode cX6_far 9 = .ok (.ifCond .eq 16, 3) := by decide +kernel
theorem dX6_far_12 : decode cX6_far 12 = .ok (.aload_n 0, 1) := by decide +kernel
theorem dX6_far_13 : decode cX6_far 13 = .ok (.getfield 32, 3) := by decide +kernel
theorem dX6_far_16 : decode cX6_far 16 = .ok (.iload_n 3, 1) := by decide +kernel
theorem dX6_far_17 : decode cX6_far 17 = .ok (.iload 4, 2) := by decide +kernel
theorem dX6_far_19 : decode cX6_far 19 = .ok (.invokevirtual 95, 3) := by decide +kernel
theorem dX6_far_22 : decode cX6_far 22 = .ok (.ifCond .ne 10, 3) := by decide +kernel
theorem dX6_far_25 : decode cX6_far 25 = .ok (.aload_n 0, 1) := by decide +kernel
theorem dX6_far_26 : decode cX6_far 26 = .ok (.bipush (-2), 2) := by decide +kernel
theorem dX6_far_28 : decode cX6_far 28 = .ok (.invokevirtual 102, 3) := by decide +kernel
theorem dX6_far_31 : decode cX6_far 31 = .ok (.ireturn, 1) := by decide +kernel
theorem dX6_far_32 : decode cX6_far 32 = .ok (.aload_n 0, 1) := by decide +kernel
theorem dX6_far_33 : decode cX6_far 33 = .ok (.getfield 32, 3) := by decide +kernel
theorem dX6_far_36 : decode cX6_far 36 = .ok (.aload_n 0, 1) := by decide +kernel
theorem dX6_far_37 : decode cX6_far 37 = .ok (.getfield 32, 3) := by decide +kernel
theorem dX6_far_40 : decode cX6_far 40 = .ok (.iload_n 1, 1) := by decide +kernel
theorem dX6_far_41 : decode cX6_far 41 = .ok (.iload_n 2, 1) := by decide +kernel
theorem dX6_far_42 : decode cX6_far 42 = .ok (.invokevirtual 99, 3) := by decide +kernel
theorem dX6_far_45 : decode cX6_far 45 = .ok (.aload_n 0, 1) := by decide +kernel
theorem dX6_far_46 : decode cX6_far 46 = .ok (.getfield 32, 3) := by decide +kernel
theorem dX6_far_49 : decode cX6_far 49 = .ok (.iload_n 3, 1) := by decide +kernel
theorem dX6_far_50 : decode cX6_far 50 = .ok (.iload 4, 2) := by decide +kernel
theorem dX6_far_52 : decode cX6_far 52 = .ok (.invokevirtual 99, 3) := by decide +kernel
theorem dX6_far_55 : decode cX6_far 55 = .ok (.invokevirtual 118, 3) := by decide +kernel
theorem dX6_far_58 : decode cX6_far 58 = .ok (.ireturn, 1) := by decide +kernel
theorem dX6_holds_0 : decode cX6_holds 0 = .ok (.aload_n 0, 1) := by decide +kernel
theorem dX6_holds_1 : decode cX6_holds 1 = .ok (.getfield 32, 3) := by decide +kernel
theorem dX6_holds_4 : decode cX6_holds 4 = .ok (.iload_n 1, 1) := by decide +kernel
theorem dX6_holds_5 : decode cX6_holds 5 = .ok (.iload_n 2, 1) := by decide +kernel
theorem dX6_holds_6 : decode cX6_holds 6 = .ok (.iload_n 3, 1) := by decide +kernel
theorem dX6_holds_7 : decode cX6_holds 7 = .ok (.invokevirtual 121, 3) := by decide +kernel
theorem dX6_holds_10 : decode cX6_holds 10 = .ok (.istore 4, 2) := by decide +kernel
theorem dX6_holds_12 : decode cX6_holds 12 = .ok (.iload 4, 2) := by decide +kernel
theorem dX6_holds_14 : decode cX6_holds 14 = .ok (.iconst (-1), 1) := by decide +kernel
theorem dX6_holds_15 : decode cX6_holds 15 = .ok (.if_icmp .ne 12, 3) := by decide +kernel
theorem dX6_holds_18 : decode cX6_holds 18 = .ok (.aload_n 0, 1) := by decide +kernel
theorem dX6_holds_19 : decode cX6_holds 19 = .ok (.bipush (-2), 2) := by decide +kernel
theorem dX6_holds_21 : decode cX6_holds 21 = .ok (.invokevirtual 102, 3) := by decide +kernel
theorem dX6_holds_24 : decode cX6_holds 24 = .ok (.goto 16, 3) := by decide +kernel
theorem dX6_holds_27 : decode cX6_holds 27 = .ok (.aload_n 0, 1) := by decide +kernel
theorem dX6_holds_28 : decode cX6_holds 28 = .ok (.getfield 39, 3) := by decide +kernel
theorem dX6_holds_31 : decode cX6_holds 31 = .ok (.aload_n 0, 1) := by decide +kernel
theorem dX6_holds_32 : decode cX6_holds 32 = .ok (.getfield 12, 3) := by decide +kernel
theorem dX6_holds_35 : decode cX6_holds 35 = .ok (.iload 4, 2) := by decide +kernel
theorem dX6_holds_37 : decode cX6_holds 37 = .ok (.invokevirtual 124, 3) := by decide +kernel
theorem dX6_holds_40 : decode cX6_holds 40 = .ok (.ireturn, 1) := by decide +kernel
theorem dX6_worm_0 : decode cX6_worm 0 = .ok (.aload_n 0, 1) := by decide +kernel
theorem dX6_worm_1 : decode cX6_worm 1 = .ok (.iload_n 1, 1) := by decide +kernel
theorem dX6_worm_2 : decode cX6_worm 2 = .ok (.iload_n 2, 1) := by decide +kernel
theorem dX6_worm_3 : decode cX6_worm 3 = .ok (.invokevirtual 128, 3) := by decide +kernel
theorem dX6_worm_6 : decode cX6_worm 6 = .ok (.ifCond .eq 13, 3) := by decide +kernel
theorem dX6_worm_9 : decode cX6_worm 9 = .ok (.iload_n 3, 1) := by decide +kernel
theorem dX6_worm_10 : decode cX6_worm 10 = .ok (.ifCond .lt 9, 3) := by decide +kernel
theorem dX6_worm_13 : decode cX6_worm 13 = .ok (.iload_n 3, 1) := by decide +kernel
theorem dX6_worm_14 : decode cX6_worm 14 = .ok (.bipush 9, 2) := by decide +kernel
theorem dX6_worm_16 : decode cX6_worm 16 = .ok (.if_icmp .lt 10, 3) := by decide +kernel
theorem dX6_worm_19 : decode cX6_worm 19 = .ok (.aload_n 0, 1) := by decide +kernel
theorem dX6_worm_20 : decode cX6_worm 20 = .ok (.bipush (-2), 2) := by decide +kernel
theorem dX6_worm_22 : decode cX6_worm 22 = .ok (.invokevirtual 102, 3) := by decide +kernel
theorem dX6_worm_25 : decode cX6_worm 25 = .ok (.ireturn, 1) := by decide +kernel
theorem dX6_worm_26 : decode cX6_worm 26 = .ok (.aload_n 0, 1) := by decide +kernel
theorem dX6_worm_27 : decode cX6_worm 27 = .ok (.iload_n 1, 1) := by decide +kernel
theorem dX6_worm_28 : decode cX6_worm 28 = .ok (.iconst 2, 1) := by decide +kernel
theorem dX6_worm_29 : decode cX6_worm 29 = .ok (.imul, 1) := by decide +kernel
theorem dX6_worm_30 : decode cX6_worm 30 = .ok (.iload_n 2, 1) := by decide +kernel
theorem dX6_worm_31 : decode cX6_worm 31 = .ok (.iadd, 1) := by decide +kernel
theorem dX6_worm_32 : decode cX6_worm 32 = .ok (.iload_n 3, 1) := by decide +kernel
theorem dX6_worm_33 : decode cX6_worm 33 = .ok (.invokevirtual 131, 3) := by decide +kernel
theorem dX6_worm_36 : decode cX6_worm 36 = .ok (.ireturn, 1) := by decide +kernel
theorem dX6_way_0 : decode cX6_way 0 = .ok (.aload_n 0, 1) := by decide +kernel
theorem dX6_way_1 : decode cX6_way 1 = .ok (.iload_n 1, 1) := by decide +kernel
theorem dX6_way_2 : decode cX6_way 2 = .ok (.iload_n 2, 1) := by decide +kernel
theorem dX6_way_3 : decode cX6_way 3 = .ok (.invokevirtual 128, 3) := by decide +kernel
theorem dX6_way_6 : decode cX6_way 6 = .ok (.ifCond .eq 7, 3) := by decide +kernel
theorem dX6_way_9 : decode cX6_way 9 = .ok (.iload_n 3, 1) := by decide +kernel
theorem dX6_way_10 : decode cX6_way 10 = .ok (.ifCond .ge 10, 3) := by decide +kernel
theorem dX6_way_13 : decode cX6_way 13 = .ok (.aload_n 0, 1) := by decide +kernel
theorem dX6_way_14 : decode cX6_way 14 = .ok (.bipush (-2), 2) := by decide +kernel
theorem dX6_way_16 : decode cX6_way 16 = .ok (.invokevirtual 102, 3) := by decide +kernel
theorem dX6_way_19 : decode cX6_way 19 = .ok (.ireturn, 1) := by decide +kernel
theorem dX6_way_20 : decode cX6_way 20 = .ok (.iload_n 1, 1) := by decide +kernel
theorem dX6_way_21 : decode cX6_way 21 = .ok (.iconst 2, 1) := by decide +kernel
theorem dX6_way_22 : decode cX6_way 22 = .ok (.imul, 1) := by decide +kernel
theorem dX6_way_23 : decode cX6_way 23 = .ok (.iload_n 2, 1) := by decide +kernel
theorem dX6_way_24 : decode cX6_way 24 = .ok (.iadd, 1) := by decide +kernel
theorem dX6_way_25 : decode cX6_way 25 = .ok (.istore 4, 2) := by decide +kernel
theorem dX6_way_27 : decode cX6_way 27 = .ok (.iload_n 3, 1) := by decide +kernel
theorem dX6_way_28 : decode cX6_way 28 = .ok (.aload_n 0, 1) := by decide +kernel
theorem dX6_way_29 : decode cX6_way 29 = .ok (.getfield 39, 3) := by decide +kernel
theorem dX6_way_32 : decode cX6_way 32 = .ok (.iload 4, 2) := by decide +kernel
theorem dX6_way_34 : decode cX6_way 34 = .ok (.invokevirtual 134, 3) := by decide +kernel
theorem dX6_way_37 : decode cX6_way 37 = .ok (.if_icmp .le 7, 3) := by decide +kernel
theorem dX6_way_40 : decode cX6_way 40 = .ok (.iconst (-1), 1) := by decide +kernel
theorem dX6_way_41 : decode cX6_way 41 = .ok (.goto 20, 3) := by decide +kernel
theorem dX6_way_44 : decode cX6_way 44 = .ok (.aload_n 0, 1) := by decide +kernel
theorem dX6_way_45 : decode cX6_way 45 = .ok (.getfield 32, 3) := by decide +kernel
theorem dX6_way_48 : decode cX6_way 48 = .ok (.aload_n 0, 1) := by decide +kernel
theorem dX6_way_49 : decode cX6_way 49 = .ok (.getfield 39, 3) := by decide +kernel
theorem dX6_way_52 : decode cX6_way 52 = .ok (.iload 4, 2) := by decide +kernel
theorem dX6_way_54 : decode cX6_way 54 = .ok (.iload_n 3, 1) := by decide +kernel
theorem dX6_way_55 : decode cX6_way 55 = .ok (.invokevirtual 137, 3) := by decide +kernel
theorem dX6_way_58 : decode cX6_way 58 = .ok (.invokevirtual 109, 3) := by decide +kernel
theorem dX6_way_61 : decode cX6_way 61 = .ok (.ireturn, 1) := by decide +kernel
theorem dX6_goalAt_0 : decode cX6_goalAt 0 = .ok (.aload_n 0, 1) := by decide +kernel
theorem dX6_goalAt_1 : decode cX6_goalAt 1 = .ok (.iload_n 1, 1) := by decide +kernel
theorem dX6_goalAt_2 : decode cX6_goalAt 2 = .ok (.iload_n 2, 1) := by decide +kernel
theorem dX6_goalAt_3 : decode cX6_goalAt 3 = .ok (.invokevirtual 128, 3) := by decide +kernel
theorem dX6_goalAt_6 : decode cX6_goalAt 6 = .ok (.ifCond .eq 7, 3) := by decide +kernel
theorem dX6_goalAt_9 : decode cX6_goalAt 9 = .ok (.iload_n 3, 1) := by decide +kernel
theorem dX6_goalAt_10 : decode cX6_goalAt 10 = .ok (.ifCond .ge 10, 3) := by decide +kernel
theorem dX6_goalAt_13 : decode cX6_goalAt 13 = .ok (.aload_n 0, 1) := by decide +kernel
theorem dX6_goalAt_14 : decode cX6_goalAt 14 = .ok (.bipush (-2), 2) := by decide +kernel
theorem dX6_goalAt_16 : decode cX6_goalAt 16 = .ok (.invokevirtual 102, 3) := by decide +kernel
theorem dX6_goalAt_19 : decode cX6_goalAt 19 = .ok (.ireturn, 1) := by decide +kernel
theorem dX6_goalAt_20 : decode cX6_goalAt 20 = .ok (.aload_n 0, 1) := by decide +kernel
theorem dX6_goalAt_21 : decode cX6_goalAt 21 = .ok (.getfield 39, 3) := by decide +kernel
theorem dX6_goalAt_24 : decode cX6_goalAt 24 = .ok (.aload_n 0, 1) := by decide +kernel
theorem dX6_goalAt_25 : decode cX6_goalAt 25 = .ok (.getfield 12, 3) := by decide +kernel
theorem dX6_goalAt_28 : decode cX6_goalAt 28 = .ok (.iload_n 1, 1) := by decide +kernel
theorem dX6_goalAt_29 : decode cX6_goalAt 29 = .ok (.iconst 2, 1) := by decide +kernel
theorem dX6_goalAt_30 : decode cX6_goalAt 30 = .ok (.imul, 1) := by decide +kernel
theorem dX6_goalAt_31 : decode cX6_goalAt 31 = .ok (.iload_n 2, 1) := by decide +kernel
theorem dX6_goalAt_32 : decode cX6_goalAt 32 = .ok (.iadd, 1) := by decide +kernel
theorem dX6_goalAt_33 : decode cX6_goalAt 33 = .ok (.iload_n 3, 1) := by decide +kernel
theorem dX6_goalAt_34 : decode cX6_goalAt 34 = .ok (.invokevirtual 140, 3) := by decide +kernel
theorem dX6_goalAt_37 : decode cX6_goalAt 37 = .ok (.istore 4, 2) := by decide +kernel
theorem dX6_goalAt_39 : decode cX6_goalAt 39 = .ok (.iload 4, 2) := by decide +kernel
theorem dX6_goalAt_41 : decode cX6_goalAt 41 = .ok (.iconst (-1), 1) := by decide +kernel
theorem dX6_goalAt_42 : decode cX6_goalAt 42 = .ok (.if_icmp .ne 7, 3) := by decide +kernel
theorem dX6_goalAt_45 : decode cX6_goalAt 45 = .ok (.iconst (-1), 1) := by decide +kernel
theorem dX6_goalAt_46 : decode cX6_goalAt 46 = .ok (.goto 12, 3) := by decide +kernel
theorem dX6_goalAt_49 : decode cX6_goalAt 49 = .ok (.aload_n 0, 1) := by decide +kernel
theorem dX6_goalAt_50 : decode cX6_goalAt 50 = .ok (.getfield 32, 3) := by decide +kernel
theorem dX6_goalAt_53 : decode cX6_goalAt 53 = .ok (.iload 4, 2) := by decide +kernel
theorem dX6_goalAt_55 : decode cX6_goalAt 55 = .ok (.invokevirtual 109, 3) := by decide +kernel
theorem dX6_goalAt_58 : decode cX6_goalAt 58 = .ok (.ireturn, 1) := by decide +kernel
theorem dX6_of_0 : decode cX6_of 0 = .ok (.aload_n 0, 1) := by decide +kernel
theorem dX6_of_1 : decode cX6_of 1 = .ok (.iload_n 1, 1) := by decide +kernel
theorem dX6_of_2 : decode cX6_of 2 = .ok (.invokevirtual 144, 3) := by decide +kernel
theorem dX6_of_5 : decode cX6_of 5 = .ok (.ifCond .eq 13, 3) := by decide +kernel
theorem dX6_of_8 : decode cX6_of 8 = .ok (.iload_n 2, 1) := by decide +kernel
theorem dX6_of_9 : decode cX6_of 9 = .ok (.ifCond .lt 9, 3) := by decide +kernel
theorem dX6_of_12 : decode cX6_of 12 = .ok (.iload_n 2, 1) := by decide +kernel
theorem dX6_of_13 : decode cX6_of 13 = .ok (.bipush 6, 2) := by decide +kernel
theorem dX6_of_15 : decode cX6_of 15 = .ok (.if_icmp .lt 10, 3) := by decide +kernel
theorem dX6_of_18 : decode cX6_of 18 = .ok (.aload_n 0, 1) := by decide +kernel
theorem dX6_of_19 : decode cX6_of 19 = .ok (.bipush (-2), 2) := by decide +kernel
theorem dX6_of_21 : decode cX6_of 21 = .ok (.invokevirtual 102, 3) := by decide +kernel
theorem dX6_of_24 : decode cX6_of 24 = .ok (.ireturn, 1) := by decide +kernel
theorem dX6_of_25 : decode cX6_of 25 = .ok (.aload_n 0, 1) := by decide +kernel
theorem dX6_of_26 : decode cX6_of 26 = .ok (.iload_n 1, 1) := by decide +kernel
theorem dX6_of_27 : decode cX6_of 27 = .ok (.iload_n 2, 1) := by decide +kernel
theorem dX6_of_28 : decode cX6_of 28 = .ok (.invokevirtual 147, 3) := by decide +kernel
theorem dX6_of_31 : decode cX6_of 31 = .ok (.ireturn, 1) := by decide +kernel
theorem dX6_when_0 : decode cX6_when 0 = .ok (.iload_n 1, 1) := by decide +kernel
theorem dX6_when_1 : decode cX6_when 1 = .ok (.iconst (-1), 1) := by decide +kernel
theorem dX6_when_2 : decode cX6_when 2 = .ok (.if_icmp .eq 11, 3) := by decide +kernel
theorem dX6_when_5 : decode cX6_when 5 = .ok (.aload_n 0, 1) := by decide +kernel
theorem dX6_when_6 : decode cX6_when 6 = .ok (.iload_n 1, 1) := by decide +kernel
theorem dX6_when_7 : decode cX6_when 7 = .ok (.invokevirtual 144, 3) := by decide +kernel
theorem dX6_when_10 : decode cX6_when 10 = .ok (.ifCond .eq 11, 3) := by decide +kernel
theorem dX6_when_13 : decode cX6_when 13 = .ok (.aload_n 0, 1) := by decide +kernel
theorem dX6_when_14 : decode cX6_when 14 = .ok (.iload_n 1, 1) := by decide +kernel
theorem dX6_when_15 : decode cX6_when 15 = .ok (.invokevirtual 150, 3) := by decide +kernel
theorem dX6_when_18 : decode cX6_when 18 = .ok (.goto 9, 3) := by decide +kernel
theorem dX6_when_21 : decode cX6_when 21 = .ok (.aload_n 0, 1) := by decide +kernel
theorem dX6_when_22 : decode cX6_when 22 = .ok (.bipush (-2), 2) := by decide +kernel
theorem dX6_when_24 : decode cX6_when 24 = .ok (.invokevirtual 102, 3) := by decide +kernel
theorem dX6_when_27 : decode cX6_when 27 = .ok (.ireturn, 1) := by decide +kernel
theorem dX6_count_0 : decode cX6_count 0 = .ok (.iload_n 1, 1) := by decide +kernel
theorem dX6_count_1 : decode cX6_count 1 = .ok (.ifCond .lt 9, 3) := by decide +kernel
theorem dX6_count_4 : decode cX6_count 4 = .ok (.iload_n 1, 1) := by decide +kernel
theorem dX6_count_5 : decode cX6_count 5 = .ok (.bipush 8, 2) := by decide +kernel
theorem dX6_count_7 : decode cX6_count 7 = .ok (.if_icmp .lt 12, 3) := by decide +kernel
theorem dX6_count_10 : decode cX6_count 10 = .ok (.aload_n 0, 1) := by decide +kernel
theorem dX6_count_11 : decode cX6_count 11 = .ok (.bipush (-2), 2) := by decide +kernel
theorem dX6_count_13 : decode cX6_count 13 = .ok (.invokevirtual 102, 3) := by decide +kernel
theorem dX6_count_16 : decode cX6_count 16 = .ok (.goto 8, 3) := by decide +kernel
theorem dX6_count_19 : decode cX6_count 19 = .ok (.aload_n 0, 1) := by decide +kernel
theorem dX6_count_20 : decode cX6_count 20 = .ok (.iload_n 1, 1) := by decide +kernel
theorem dX6_count_21 : decode cX6_count 21 = .ok (.invokevirtual 153, 3) := by decide +kernel
theorem dX6_count_24 : decode cX6_count 24 = .ok (.ireturn, 1) := by decide +kernel
theorem dX6_type_0 : decode cX6_type 0 = .ok (.iload_n 1, 1) := by decide +kernel
theorem dX6_type_1 : decode cX6_type 1 = .ok (.ifCond .lt 9, 3) := by decide +kernel
theorem dX6_type_4 : decode cX6_type 4 = .ok (.iload_n 1, 1) := by decide +kernel
theorem dX6_type_5 : decode cX6_type 5 = .ok (.bipush 127, 2) := by decide +kernel
theorem dX6_type_7 : decode cX6_type 7 = .ok (.if_icmp .le 10, 3) := by decide +kernel
theorem dX6_type_10 : decode cX6_type 10 = .ok (.aload_n 0, 1) := by decide +kernel
theorem dX6_type_11 : decode cX6_type 11 = .ok (.bipush (-2), 2) := by decide +kernel
theorem dX6_type_13 : decode cX6_type 13 = .ok (.invokevirtual 102, 3) := by decide +kernel
theorem dX6_type_16 : decode cX6_type 16 = .ok (.ireturn, 1) := by decide +kernel
theorem dX6_type_17 : decode cX6_type 17 = .ok (.aload_n 0, 1) := by decide +kernel
theorem dX6_type_18 : decode cX6_type 18 = .ok (.getfield 55, 3) := by decide +kernel
theorem dX6_type_21 : decode cX6_type 21 = .ok (.iload_n 1, 1) := by decide +kernel
theorem dX6_type_22 : decode cX6_type 22 = .ok (.invokevirtual 156, 3) := by decide +kernel
theorem dX6_type_25 : decode cX6_type 25 = .ok (.ifCond .eq 13, 3) := by decide +kernel
theorem dX6_type_28 : decode cX6_type 28 = .ok (.aload_n 0, 1) := by decide +kernel
theorem dX6_type_29 : decode cX6_type 29 = .ok (.getfield 55, 3) := by decide +kernel
theorem dX6_type_32 : decode cX6_type 32 = .ok (.invokevirtual 159, 3) := by decide +kernel
theorem dX6_type_35 : decode cX6_type 35 = .ok (.goto 9, 3) := by decide +kernel
theorem dX6_type_38 : decode cX6_type 38 = .ok (.aload_n 0, 1) := by decide +kernel
theorem dX6_type_39 : decode cX6_type 39 = .ok (.bipush (-4), 2) := by decide +kernel
theorem dX6_type_41 : decode cX6_type 41 = .ok (.invokevirtual 102, 3) := by decide +kernel
theorem dX6_type_44 : decode cX6_type 44 = .ok (.ireturn, 1) := by decide +kernel
theorem dX6_clear_0 : decode cX6_clear 0 = .ok (.aload_n 0, 1) := by decide +kernel
theorem dX6_clear_1 : decode cX6_clear 1 = .ok (.getfield 55, 3) := by decide +kernel
theorem dX6_clear_4 : decode cX6_clear 4 = .ok (.invokevirtual 162, 3) := by decide +kernel
theorem dX6_clear_7 : decode cX6_clear 7 = .ok (.ireturn, 1) := by decide +kernel
theorem dX6_does_0 : decode cX6_does 0 = .ok (.aload_n 0, 1) := by decide +kernel
theorem dX6_does_1 : decode cX6_does 1 = .ok (.getfield 55, 3) := by decide +kernel
theorem dX6_does_4 : decode cX6_does 4 = .ok (.invokevirtual 165, 3) := by decide +kernel
theorem dX6_does_7 : decode cX6_does 7 = .ok (.istore_n 1, 1) := by decide +kernel
theorem dX6_does_8 : decode cX6_does 8 = .ok (.iload_n 1, 1) := by decide +kernel
theorem dX6_does_9 : decode cX6_does 9 = .ok (.iconst (-1), 1) := by decide +kernel
theorem dX6_does_10 : decode cX6_does 10 = .ok (.if_icmp .eq 8, 3) := by decide +kernel
theorem dX6_does_13 : decode cX6_does 13 = .ok (.bipush (-10), 2) := by decide +kernel
theorem dX6_does_15 : decode cX6_does 15 = .ok (.iload_n 1, 1) := by decide +kernel
theorem dX6_does_16 : decode cX6_does 16 = .ok (.isub, 1) := by decide +kernel
theorem dX6_does_17 : decode cX6_does 17 = .ok (.ireturn, 1) := by decide +kernel
theorem dX6_does_18 : decode cX6_does 18 = .ok (.aload_n 0, 1) := by decide +kernel
theorem dX6_does_19 : decode cX6_does 19 = .ok (.getfield 16, 3) := by decide +kernel
theorem dX6_does_22 : decode cX6_does 22 = .ok (.aload_n 0, 1) := by decide +kernel
theorem dX6_does_23 : decode cX6_does 23 = .ok (.getfield 12, 3) := by decide +kernel
theorem dX6_does_26 : decode cX6_does 26 = .ok (.invokevirtual 66, 3) := by decide +kernel
theorem dX6_does_29 : decode cX6_does 29 = .ok (.iconst 0, 1) := by decide +kernel
theorem dX6_does_30 : decode cX6_does 30 = .ok (.istore_n 2, 1) := by decide +kernel
theorem dX6_does_31 : decode cX6_does 31 = .ok (.iload_n 2, 1) := by decide +kernel
theorem dX6_does_32 : decode cX6_does 32 = .ok (.aload_n 0, 1) := by decide +kernel
theorem dX6_does_33 : decode cX6_does 33 = .ok (.getfield 55, 3) := by decide +kernel
theorem dX6_does_36 : decode cX6_does 36 = .ok (.invokevirtual 168, 3) := by decide +kernel
theorem dX6_does_39 : decode cX6_does 39 = .ok (.if_icmp .ge 74, 3) := by decide +kernel
theorem dX6_does_42 : decode cX6_does 42 = .ok (.aload_n 0, 1) := by decide +kernel
theorem dX6_does_43 : decode cX6_does 43 = .ok (.aload_n 0, 1) := by decide +kernel
theorem dX6_does_44 : decode cX6_does 44 = .ok (.getfield 55, 3) := by decide +kernel
theorem dX6_does_47 : decode cX6_does 47 = .ok (.iload_n 2, 1) := by decide +kernel
theorem dX6_does_48 : decode cX6_does 48 = .ok (.invokevirtual 171, 3) := by decide +kernel
theorem dX6_does_51 : decode cX6_does 51 = .ok (.aload_n 0, 1) := by decide +kernel
theorem dX6_does_52 : decode cX6_does 52 = .ok (.getfield 55, 3) := by decide +kernel
theorem dX6_does_55 : decode cX6_does 55 = .ok (.iload_n 2, 1) := by decide +kernel
theorem dX6_does_56 : decode cX6_does 56 = .ok (.iconst 0, 1) := by decide +kernel
theorem dX6_does_57 : decode cX6_does 57 = .ok (.invokevirtual 174, 3) := by decide +kernel
theorem dX6_does_60 : decode cX6_does 60 = .ok (.aload_n 0, 1) := by decide +kernel
theorem dX6_does_61 : decode cX6_does 61 = .ok (.getfield 55, 3) := by decide +kernel
theorem dX6_does_64 : decode cX6_does 64 = .ok (.iload_n 2, 1) := by decide +kernel
theorem dX6_does_65 : decode cX6_does 65 = .ok (.iconst 1, 1) := by decide +kernel
theorem dX6_does_66 : decode cX6_does 66 = .ok (.invokevirtual 174, 3) := by decide +kernel
theorem dX6_does_69 : decode cX6_does 69 = .ok (.aload_n 0, 1) := by decide +kernel
theorem dX6_does_70 : decode cX6_does 70 = .ok (.getfield 55, 3) := by decide +kernel
theorem dX6_does_73 : decode cX6_does 73 = .ok (.iload_n 2, 1) := by decide +kernel
theorem dX6_does_74 : decode cX6_does 74 = .ok (.iconst 2, 1) := by decide +kernel
theorem dX6_does_75 : decode cX6_does 75 = .ok (.invokevirtual 174, 3) := by decide +kernel
theorem dX6_does_78 : decode cX6_does 78 = .ok (.invokevirtual 177, 3) := by decide +kernel
theorem dX6_does_81 : decode cX6_does 81 = .ok (.istore_n 3, 1) := by decide +kernel
theorem dX6_does_82 : decode cX6_does 82 = .ok (.iload_n 3, 1) := by decide +kernel
theorem dX6_does_83 : decode cX6_does 83 = .ok (.ifCond .ge 24, 3) := by decide +kernel
theorem dX6_does_86 : decode cX6_does 86 = .ok (.aload_n 0, 1) := by decide +kernel
theorem dX6_does_87 : decode cX6_does 87 = .ok (.getfield 12, 3) := by decide +kernel
theorem dX6_does_90 : decode cX6_does 90 = .ok (.aload_n 0, 1) := by decide +kernel
theorem dX6_does_91 : decode cX6_does 91 = .ok (.getfield 16, 3) := by decide +kernel
theorem dX6_does_94 : decode cX6_does 94 = .ok (.invokevirtual 66, 3) := by decide +kernel
theorem dX6_does_97 : decode cX6_does 97 = .ok (.aload_n 0, 1) := by decide +kernel
theorem dX6_does_98 : decode cX6_does 98 = .ok (.invokevirtual 181, 3) := by decide +kernel
theorem dX6_does_101 : decode cX6_does 101 = .ok (.sipush (-1000), 3) := by decide +kernel
theorem dX6_does_104 : decode cX6_does 104 = .ok (.iload_n 2, 1) := by decide +kernel
theorem dX6_does_105 : decode cX6_does 105 = .ok (.isub, 1) := by decide +kernel
theorem dX6_does_106 : decode cX6_does 106 = .ok (.ireturn, 1) := by decide +kernel
theorem dX6_does_107 : decode cX6_does 107 = .ok (.iinc 2 1, 3) := by decide +kernel
theorem dX6_does_110 : decode cX6_does 110 = .ok (.goto (-79), 3) := by decide +kernel
theorem dX6_does_113 : decode cX6_does 113 = .ok (.aload_n 0, 1) := by decide +kernel
theorem dX6_does_114 : decode cX6_does 114 = .ok (.getfield 25, 3) := by decide +kernel
theorem dX6_does_117 : decode cX6_does 117 = .ok (.aload_n 0, 1) := by decide +kernel
theorem dX6_does_118 : decode cX6_does 118 = .ok (.getfield 16, 3) := by decide +kernel
theorem dX6_does_121 : decode cX6_does 121 = .ok (.invokevirtual 184, 3) := by decide +kernel
theorem dX6_does_124 : decode cX6_does 124 = .ok (.aload_n 0, 1) := by decide +kernel
theorem dX6_does_125 : decode cX6_does 125 = .ok (.getfield 55, 3) := by decide +kernel
theorem dX6_does_128 : decode cX6_does 128 = .ok (.invokevirtual 168, 3) := by decide +kernel
theorem dX6_does_131 : decode cX6_does 131 = .ok (.ireturn, 1) := by decide +kernel
theorem dX6_back_0 : decode cX6_back 0 = .ok (.aload_n 0, 1) := by decide +kernel
theorem dX6_back_1 : decode cX6_back 1 = .ok (.getfield 25, 3) := by decide +kernel
theorem dX6_back_4 : decode cX6_back 4 = .ok (.aload_n 0, 1) := by decide +kernel
theorem dX6_back_5 : decode cX6_back 5 = .ok (.getfield 12, 3) := by decide +kernel
theorem dX6_back_8 : decode cX6_back 8 = .ok (.invokevirtual 187, 3) := by decide +kernel
theorem dX6_back_11 : decode cX6_back 11 = .ok (.ifCond .ne 10, 3) := by decide +kernel
theorem dX6_back_14 : decode cX6_back 14 = .ok (.aload_n 0, 1) := by decide +kernel
theorem dX6_back_15 : decode cX6_back 15 = .ok (.bipush (-3), 2) := by decide +kernel
theorem dX6_back_17 : decode cX6_back 17 = .ok (.invokevirtual 102, 3) := by decide +kernel
theorem dX6_back_20 : decode cX6_back 20 = .ok (.ireturn, 1) := by decide +kernel
theorem dX6_back_21 : decode cX6_back 21 = .ok (.aload_n 0, 1) := by decide +kernel
theorem dX6_back_22 : decode cX6_back 22 = .ok (.invokevirtual 181, 3) := by decide +kernel
theorem dX6_back_25 : decode cX6_back 25 = .ok (.aload_n 0, 1) := by decide +kernel
theorem dX6_back_26 : decode cX6_back 26 = .ok (.getfield 25, 3) := by decide +kernel
theorem dX6_back_29 : decode cX6_back 29 = .ok (.invokevirtual 191, 3) := by decide +kernel
theorem dX6_back_32 : decode cX6_back 32 = .ok (.ireturn, 1) := by decide +kernel
theorem dX6_told_0 : decode cX6_told 0 = .ok (.iload_n 1, 1) := by decide +kernel
theorem dX6_told_1 : decode cX6_told 1 = .ok (.ifCond .lt 8, 3) := by decide +kernel
theorem dX6_told_4 : decode cX6_told 4 = .ok (.iload_n 1, 1) := by decide +kernel
theorem dX6_told_5 : decode cX6_told 5 = .ok (.iconst 5, 1) := by decide +kernel
theorem dX6_told_6 : decode cX6_told 6 = .ok (.if_icmp .lt 12, 3) := by decide +kernel
theorem dX6_told_9 : decode cX6_told 9 = .ok (.aload_n 0, 1) := by decide +kernel
theorem dX6_told_10 : decode cX6_told 10 = .ok (.bipush (-2), 2) := by decide +kernel
theorem dX6_told_12 : decode cX6_told 12 = .ok (.invokevirtual 102, 3) := by decide +kernel
theorem dX6_told_15 : decode cX6_told 15 = .ok (.goto 8, 3) := by decide +kernel
theorem dX6_told_18 : decode cX6_told 18 = .ok (.aload_n 0, 1) := by decide +kernel
theorem dX6_told_19 : decode cX6_told 19 = .ok (.iload_n 1, 1) := by decide +kernel
theorem dX6_told_20 : decode cX6_told 20 = .ok (.invokevirtual 192, 3) := by decide +kernel
theorem dX6_told_23 : decode cX6_told 23 = .ok (.ireturn, 1) := by decide +kernel
theorem dX6_digest_0 : decode cX6_digest 0 = .ok (.ldc2_w 195, 3) := by decide +kernel
theorem dX6_digest_3 : decode cX6_digest 3 = .ok (.lstore_n 1, 1) := by decide +kernel
theorem dX6_digest_4 : decode cX6_digest 4 = .ok (.iconst 0, 1) := by decide +kernel
theorem dX6_digest_5 : decode cX6_digest 5 = .ok (.istore_n 3, 1) := by decide +kernel
theorem dX6_digest_6 : decode cX6_digest 6 = .ok (.iload_n 3, 1) := by decide +kernel
theorem dX6_digest_7 : decode cX6_digest 7 = .ok (.iconst 5, 1) := by decide +kernel
theorem dX6_digest_8 : decode cX6_digest 8 = .ok (.if_icmp .ge 22, 3) := by decide +kernel
theorem dX6_digest_11 : decode cX6_digest 11 = .ok (.ldc2_w 197, 3) := by decide +kernel
theorem dX6_digest_14 : decode cX6_digest 14 = .ok (.lload_n 1, 1) := by decide +kernel
theorem dX6_digest_15 : decode cX6_digest 15 = .ok (.lmul, 1) := by decide +kernel
theorem dX6_digest_16 : decode cX6_digest 16 = .ok (.aload_n 0, 1) := by decide +kernel
theorem dX6_digest_17 : decode cX6_digest 17 = .ok (.iload_n 3, 1) := by decide +kernel
theorem dX6_digest_18 : decode cX6_digest 18 = .ok (.invokevirtual 192, 3) := by decide +kernel
theorem dX6_digest_21 : decode cX6_digest 21 = .ok (.i2l, 1) := by decide +kernel
theorem dX6_digest_22 : decode cX6_digest 22 = .ok (.ladd, 1) := by decide +kernel
theorem dX6_digest_23 : decode cX6_digest 23 = .ok (.lstore_n 1, 1) := by decide +kernel
theorem dX6_digest_24 : decode cX6_digest 24 = .ok (.iinc 3 1, 3) := by decide +kernel
theorem dX6_digest_27 : decode cX6_digest 27 = .ok (.goto (-21), 3) := by decide +kernel
theorem dX6_digest_30 : decode cX6_digest 30 = .ok (.iconst 0, 1) := by decide +kernel
theorem dX6_digest_31 : decode cX6_digest 31 = .ok (.istore_n 3, 1) := by decide +kernel
theorem dX6_digest_32 : decode cX6_digest 32 = .ok (.iload_n 3, 1) := by decide +kernel
theorem dX6_digest_33 : decode cX6_digest 33 = .ok (.bipush 8, 2) := by decide +kernel
theorem dX6_digest_35 : decode cX6_digest 35 = .ok (.if_icmp .ge 22, 3) := by decide +kernel
theorem dX6_digest_38 : decode cX6_digest 38 = .ok (.ldc2_w 197, 3) := by decide +kernel
theorem dX6_digest_41 : decode cX6_digest 41 = .ok (.lload_n 1, 1) := by decide +kernel
theorem dX6_digest_42 : decode cX6_digest 42 = .ok (.lmul, 1) := by decide +kernel
theorem dX6_digest_43 : decode cX6_digest 43 = .ok (.aload_n 0, 1) := by decide +kernel
theorem dX6_digest_44 : decode cX6_digest 44 = .ok (.iload_n 3, 1) := by decide +kernel
theorem dX6_digest_45 : decode cX6_digest 45 = .ok (.invokevirtual 153, 3) := by decide +kernel
theorem dX6_digest_48 : decode cX6_digest 48 = .ok (.i2l, 1) := by decide +kernel
theorem dX6_digest_49 : decode cX6_digest 49 = .ok (.ladd, 1) := by decide +kernel
theorem dX6_digest_50 : decode cX6_digest 50 = .ok (.lstore_n 1, 1) := by decide +kernel
theorem dX6_digest_51 : decode cX6_digest 51 = .ok (.iinc 3 1, 3) := by decide +kernel
theorem dX6_digest_54 : decode cX6_digest 54 = .ok (.goto (-22), 3) := by decide +kernel
theorem dX6_digest_57 : decode cX6_digest 57 = .ok (.iconst 0, 1) := by decide +kernel
theorem dX6_digest_58 : decode cX6_digest 58 = .ok (.istore_n 3, 1) := by decide +kernel
theorem dX6_digest_59 : decode cX6_digest 59 = .ok (.iload_n 3, 1) := by decide +kernel
theorem dX6_digest_60 : decode cX6_digest 60 = .ok (.aload_n 0, 1) := by decide +kernel
theorem dX6_digest_61 : decode cX6_digest 61 = .ok (.getfield 32, 3) := by decide +kernel
theorem dX6_digest_64 : decode cX6_digest 64 = .ok (.invokevirtual 199, 3) := by decide +kernel
theorem dX6_digest_67 : decode cX6_digest 67 = .ok (.iconst 4, 1) := by decide +kernel
theorem dX6_digest_68 : decode cX6_digest 68 = .ok (.imul, 1) := by decide +kernel
theorem dX6_digest_69 : decode cX6_digest 69 = .ok (.if_icmp .ge 33, 3) := by decide +kernel
theorem dX6_digest_72 : decode cX6_digest 72 = .ok (.ldc2_w 197, 3) := by decide +kernel
theorem dX6_digest_75 : decode cX6_digest 75 = .ok (.lload_n 1, 1) := by decide +kernel
theorem dX6_digest_76 : decode cX6_digest 76 = .ok (.lmul, 1) := by decide +kernel
theorem dX6_digest_77 : decode cX6_digest 77 = .ok (.aload_n 0, 1) := by decide +kernel
theorem dX6_digest_78 : decode cX6_digest 78 = .ok (.getfield 12, 3) := by decide +kernel
theorem dX6_digest_81 : decode cX6_digest 81 = .ok (.iload_n 3, 1) := by decide +kernel
theorem dX6_digest_82 : decode cX6_digest 82 = .ok (.invokevirtual 202, 3) := by decide +kernel
theorem dX6_digest_85 : decode cX6_digest 85 = .ok (.ifCond .eq 7, 3) := by decide +kernel
theorem dX6_digest_88 : decode cX6_digest 88 = .ok (.iconst 1, 1) := by decide +kernel
theorem dX6_digest_89 : decode cX6_digest 89 = .ok (.goto 4, 3) := by decide +kernel
theorem dX6_digest_92 : decode cX6_digest 92 = .ok (.iconst 0, 1) := by decide +kernel
theorem dX6_digest_93 : decode cX6_digest 93 = .ok (.i2l, 1) := by decide +kernel
theorem dX6_digest_94 : decode cX6_digest 94 = .ok (.ladd, 1) := by decide +kernel
theorem dX6_digest_95 : decode cX6_digest 95 = .ok (.lstore_n 1, 1) := by decide +kernel
theorem dX6_digest_96 : decode cX6_digest 96 = .ok (.iinc 3 1, 3) := by decide +kernel
theorem dX6_digest_99 : decode cX6_digest 99 = .ok (.goto (-40), 3) := by decide +kernel
theorem dX6_digest_102 : decode cX6_digest 102 = .ok (.iconst 0, 1) := by decide +kernel
theorem dX6_digest_103 : decode cX6_digest 103 = .ok (.istore_n 3, 1) := by decide +kernel
theorem dX6_digest_104 : decode cX6_digest 104 = .ok (.iload_n 3, 1) := by decide +kernel
theorem dX6_digest_105 : decode cX6_digest 105 = .ok (.aload_n 0, 1) := by decide +kernel
theorem dX6_digest_106 : decode cX6_digest 106 = .ok (.getfield 12, 3) := by decide +kernel
theorem dX6_digest_109 : decode cX6_digest 109 = .ok (.getfield 205, 3) := by decide +kernel
theorem dX6_digest_112 : decode cX6_digest 112 = .ok (.if_icmp .ge 16, 3) := by decide +kernel
theorem dX6_digest_115 : decode cX6_digest 115 = .ok (.aload_n 0, 1) := by decide +kernel
theorem dX6_digest_116 : decode cX6_digest 116 = .ok (.lload_n 1, 1) := by decide +kernel
theorem dX6_digest_117 : decode cX6_digest 117 = .ok (.iload_n 3, 1) := by decide +kernel
theorem dX6_digest_118 : decode cX6_digest 118 = .ok (.invokevirtual 209, 3) := by decide +kernel
theorem dX6_digest_121 : decode cX6_digest 121 = .ok (.lstore_n 1, 1) := by decide +kernel
theorem dX6_digest_122 : decode cX6_digest 122 = .ok (.iinc 3 1, 3) := by decide +kernel
theorem dX6_digest_125 : decode cX6_digest 125 = .ok (.goto (-21), 3) := by decide +kernel
theorem dX6_digest_128 : decode cX6_digest 128 = .ok (.ldc2_w 197, 3) := by decide +kernel
theorem dX6_digest_131 : decode cX6_digest 131 = .ok (.lload_n 1, 1) := by decide +kernel
theorem dX6_digest_132 : decode cX6_digest 132 = .ok (.lmul, 1) := by decide +kernel
theorem dX6_digest_133 : decode cX6_digest 133 = .ok (.aload_n 0, 1) := by decide +kernel
theorem dX6_digest_134 : decode cX6_digest 134 = .ok (.iconst (-1), 1) := by decide +kernel
theorem dX6_digest_135 : decode cX6_digest 135 = .ok (.invokevirtual 150, 3) := by decide +kernel
theorem dX6_digest_138 : decode cX6_digest 138 = .ok (.i2l, 1) := by decide +kernel
theorem dX6_digest_139 : decode cX6_digest 139 = .ok (.ladd, 1) := by decide +kernel
theorem dX6_digest_140 : decode cX6_digest 140 = .ok (.lreturn, 1) := by decide +kernel
theorem dX6_digestMessage_0 : decode cX6_digestMessage 0 = .ok (.lload_n 1, 1) := by decide +kernel
theorem dX6_digestMessage_1 : decode cX6_digestMessage 1 = .ok (.lstore 4, 2) := by decide +kernel
theorem dX6_digestMessage_3 : decode cX6_digestMessage 3 = .ok (.iconst 0, 1) := by decide +kernel
theorem dX6_digestMessage_4 : decode cX6_digestMessage 4 = .ok (.istore 6, 2) := by decide +kernel
theorem dX6_digestMessage_6 : decode cX6_digestMessage 6 = .ok (.iload 6, 2) := by decide +kernel
theorem dX6_digestMessage_8 : decode cX6_digestMessage 8 = .ok (.bipush 6, 2) := by decide +kernel
theorem dX6_digestMessage_10 : decode cX6_digestMessage 10 = .ok (.if_icmp .ge 26, 3) := by decide +kernel
theorem dX6_digestMessage_13 : decode cX6_digestMessage 13 = .ok (.ldc2_w 197, 3) := by decide +kernel
theorem dX6_digestMessage_16 : decode cX6_digestMessage 16 = .ok (.lload 4, 2) := by decide +kernel
theorem dX6_digestMessage_18 : decode cX6_digestMessage 18 = .ok (.lmul, 1) := by decide +kernel
theorem dX6_digestMessage_19 : decode cX6_digestMessage 19 = .ok (.aload_n 0, 1) := by decide +kernel
theorem dX6_digestMessage_20 : decode cX6_digestMessage 20 = .ok (.iload_n 3, 1) := by decide +kernel
theorem dX6_digestMessage_21 : decode cX6_digestMessage 21 = .ok (.iload 6, 2) := by decide +kernel
theorem dX6_digestMessage_23 : decode cX6_digestMessage 23 = .ok (.invokevirtual 147, 3) := by decide +kernel
theorem dX6_digestMessage_26 : decode cX6_digestMessage 26 = .ok (.i2l, 1) := by decide +kernel
theorem dX6_digestMessage_27 : decode cX6_digestMessage 27 = .ok (.ladd, 1) := by decide +kernel
theorem dX6_digestMessage_28 : decode cX6_digestMessage 28 = .ok (.lstore 4, 2) := by decide +kernel
theorem dX6_digestMessage_30 : decode cX6_digestMessage 30 = .ok (.iinc 6 1, 3) := by decide +kernel
theorem dX6_digestMessage_33 : decode cX6_digestMessage 33 = .ok (.goto (-27), 3) := by decide +kernel
theorem dX6_digestMessage_36 : decode cX6_digestMessage 36 = .ok (.iload_n 3, 1) := by decide +kernel
theorem dX6_digestMessage_37 : decode cX6_digestMessage 37 = .ok (.iconst 2, 1) := by decide +kernel
theorem dX6_digestMessage_38 : decode cX6_digestMessage 38 = .ok (.imul, 1) := by decide +kernel
theorem dX6_digestMessage_39 : decode cX6_digestMessage 39 = .ok (.istore 6, 2) := by decide +kernel
theorem dX6_digestMessage_41 : decode cX6_digestMessage 41 = .ok (.iload 6, 2) := by decide +kernel
theorem dX6_digestMessage_43 : decode cX6_digestMessage 43 = .ok (.iload_n 3, 1) := by decide +kernel
theorem dX6_digestMessage_44 : decode cX6_digestMessage 44 = .ok (.iconst 2, 1) := by decide +kernel
theorem dX6_digestMessage_45 : decode cX6_digestMessage 45 = .ok (.imul, 1) := by decide +kernel
theorem dX6_digestMessage_46 : decode cX6_digestMessage 46 = .ok (.iconst 2, 1) := by decide +kernel
theorem dX6_digestMessage_47 : decode cX6_digestMessage 47 = .ok (.iadd, 1) := by decide +kernel
theorem dX6_digestMessage_48 : decode cX6_digestMessage 48 = .ok (.if_icmp .ge 94, 3) := by decide +kernel
theorem dX6_digestMessage_51 : decode cX6_digestMessage 51 = .ok (.iconst 0, 1) := by decide +kernel
theorem dX6_digestMessage_52 : decode cX6_digestMessage 52 = .ok (.istore 7, 2) := by decide +kernel
theorem dX6_digestMessage_54 : decode cX6_digestMessage 54 = .ok (.iload 7, 2) := by decide +kernel
theorem dX6_digestMessage_56 : decode cX6_digestMessage 56 = .ok (.bipush 9, 2) := by decide +kernel
theorem dX6_digestMessage_58 : decode cX6_digestMessage 58 = .ok (.if_icmp .ge 27, 3) := by decide +kernel
theorem dX6_digestMessage_61 : decode cX6_digestMessage 61 = .ok (.ldc2_w 197, 3) := by decide +kernel
theorem dX6_digestMessage_64 : decode cX6_digestMessage 64 = .ok (.lload 4, 2) := by decide +kernel
theorem dX6_digestMessage_66 : decode cX6_digestMessage 66 = .ok (.lmul, 1) := by decide +kernel
theorem dX6_digestMessage_67 : decode cX6_digestMessage 67 = .ok (.aload_n 0, 1) := by decide +kernel
theorem dX6_digestMessage_68 : decode cX6_digestMessage 68 = .ok (.iload 6, 2) := by decide +kernel
theorem dX6_digestMessage_70 : decode cX6_digestMessage 70 = .ok (.iload 7, 2) := by decide +kernel
theorem dX6_digestMessage_72 : decode cX6_digestMessage 72 = .ok (.invokevirtual 131, 3) := by decide +kernel
theorem dX6_digestMessage_75 : decode cX6_digestMessage 75 = .ok (.i2l, 1) := by decide +kernel
theorem dX6_digestMessage_76 : decode cX6_digestMessage 76 = .ok (.ladd, 1) := by decide +kernel
theorem dX6_digestMessage_77 : decode cX6_digestMessage 77 = .ok (.lstore 4, 2) := by decide +kernel
theorem dX6_digestMessage_79 : decode cX6_digestMessage 79 = .ok (.iinc 7 1, 3) := by decide +kernel
theorem dX6_digestMessage_82 : decode cX6_digestMessage 82 = .ok (.goto (-28), 3) := by decide +kernel
theorem dX6_digestMessage_85 : decode cX6_digestMessage 85 = .ok (.iconst 0, 1) := by decide +kernel
theorem dX6_digestMessage_86 : decode cX6_digestMessage 86 = .ok (.istore 7, 2) := by decide +kernel
theorem dX6_digestMessage_88 : decode cX6_digestMessage 88 = .ok (.iload 7, 2) := by decide +kernel
theorem dX6_digestMessage_90 : decode cX6_digestMessage 90 = .ok (.aload_n 0, 1) := by decide +kernel
theorem dX6_digestMessage_91 : decode cX6_digestMessage 91 = .ok (.getfield 39, 3) := by decide +kernel
theorem dX6_digestMessage_94 : decode cX6_digestMessage 94 = .ok (.iload 6, 2) := by decide +kernel
theorem dX6_digestMessage_96 : decode cX6_digestMessage 96 = .ok (.invokevirtual 134, 3) := by decide +kernel
theorem dX6_digestMessage_99 : decode cX6_digestMessage 99 = .ok (.if_icmp .gt 37, 3) := by decide +kernel
theorem dX6_digestMessage_102 : decode cX6_digestMessage 102 = .ok (.ldc2_w 197, 3) := by decide +kernel
theorem dX6_digestMessage_105 : decode cX6_digestMessage 105 = .ok (.lload 4, 2) := by decide +kernel
theorem dX6_digestMessage_107 : decode cX6_digestMessage 107 = .ok (.lmul, 1) := by decide +kernel
theorem dX6_digestMessage_108 : decode cX6_digestMessage 108 = .ok (.aload_n 0, 1) := by decide +kernel
theorem dX6_digestMessage_109 : decode cX6_digestMessage 109 = .ok (.getfield 32, 3) := by decide +kernel
theorem dX6_digestMessage_112 : decode cX6_digestMessage 112 = .ok (.aload_n 0, 1) := by decide +kernel
theorem dX6_digestMessage_113 : decode cX6_digestMessage 113 = .ok (.getfield 39, 3) := by decide +kernel
theorem dX6_digestMessage_116 : decode cX6_digestMessage 116 = .ok (.iload 6, 2) := by decide +kernel
theorem dX6_digestMessage_118 : decode cX6_digestMessage 118 = .ok (.iload 7, 2) := by decide +kernel
theorem dX6_digestMessage_120 : decode cX6_digestMessage 120 = .ok (.invokevirtual 137, 3) := by decide +kernel
theorem dX6_digestMessage_123 : decode cX6_digestMessage 123 = .ok (.invokevirtual 109, 3) := by decide +kernel
theorem dX6_digestMessage_126 : decode cX6_digestMessage 126 = .ok (.i2l, 1) := by decide +kernel
theorem dX6_digestMessage_127 : decode cX6_digestMessage 127 = .ok (.ladd, 1) := by decide +kernel
theorem dX6_digestMessage_128 : decode cX6_digestMessage 128 = .ok (.lstore 4, 2) := by decide +kernel
theorem dX6_digestMessage_130 : decode cX6_digestMessage 130 = .ok (.iinc 7 1, 3) := by decide +kernel
theorem dX6_digestMessage_133 : decode cX6_digestMessage 133 = .ok (.goto (-45), 3) := by decide +kernel
theorem dX6_digestMessage_136 : decode cX6_digestMessage 136 = .ok (.iinc 6 1, 3) := by decide +kernel
theorem dX6_digestMessage_139 : decode cX6_digestMessage 139 = .ok (.goto (-98), 3) := by decide +kernel
theorem dX6_digestMessage_142 : decode cX6_digestMessage 142 = .ok (.lload 4, 2) := by decide +kernel
theorem dX6_digestMessage_144 : decode cX6_digestMessage 144 = .ok (.lreturn, 1) := by decide +kernel
theorem dX6_refuse_0 : decode cX6_refuse 0 = .ok (.iload_n 1, 1) := by decide +kernel
theorem dX6_refuse_1 : decode cX6_refuse 1 = .ok (.lookupswitch 53 #[(-3, 40), (-2, 27)], 27) := by decide +kernel
theorem dX6_refuse_28 : decode cX6_refuse 28 = .ok (.aload_n 0, 1) := by decide +kernel
theorem dX6_refuse_29 : decode cX6_refuse 29 = .ok (.dup, 1) := by decide +kernel
theorem dX6_refuse_30 : decode cX6_refuse 30 = .ok (.getfield 213, 3) := by decide +kernel
theorem dX6_refuse_33 : decode cX6_refuse 33 = .ok (.iconst 1, 1) := by decide +kernel
theorem dX6_refuse_34 : decode cX6_refuse 34 = .ok (.iadd, 1) := by decide +kernel
theorem dX6_refuse_35 : decode cX6_refuse 35 = .ok (.putfield 213, 3) := by decide +kernel
theorem dX6_refuse_38 : decode cX6_refuse 38 = .ok (.goto 26, 3) := by decide +kernel
theorem dX6_refuse_41 : decode cX6_refuse 41 = .ok (.aload_n 0, 1) := by decide +kernel
theorem dX6_refuse_42 : decode cX6_refuse 42 = .ok (.dup, 1) := by decide +kernel
theorem dX6_refuse_43 : decode cX6_refuse 43 = .ok (.getfield 216, 3) := by decide +kernel
theorem dX6_refuse_46 : decode cX6_refuse 46 = .ok (.iconst 1, 1) := by decide +kernel
theorem dX6_refuse_47 : decode cX6_refuse 47 = .ok (.iadd, 1) := by decide +kernel
theorem dX6_refuse_48 : decode cX6_refuse 48 = .ok (.putfield 216, 3) := by decide +kernel
theorem dX6_refuse_51 : decode cX6_refuse 51 = .ok (.goto 13, 3) := by decide +kernel
theorem dX6_refuse_54 : decode cX6_refuse 54 = .ok (.aload_n 0, 1) := by decide +kernel
theorem dX6_refuse_55 : decode cX6_refuse 55 = .ok (.dup, 1) := by decide +kernel
theorem dX6_refuse_56 : decode cX6_refuse 56 = .ok (.getfield 219, 3) := by decide +kernel
theorem dX6_refuse_59 : decode cX6_refuse 59 = .ok (.iconst 1, 1) := by decide +kernel
theorem dX6_refuse_60 : decode cX6_refuse 60 = .ok (.iadd, 1) := by decide +kernel
theorem dX6_refuse_61 : decode cX6_refuse 61 = .ok (.putfield 219, 3) := by decide +kernel
theorem dX6_refuse_64 : decode cX6_refuse 64 = .ok (.iload_n 1, 1) := by decide +kernel
theorem dX6_refuse_65 : decode cX6_refuse 65 = .ok (.ireturn, 1) := by decide +kernel
theorem dX6_settle_0 : decode cX6_settle 0 = .ok (.iload_n 1, 1) := by decide +kernel
theorem dX6_settle_1 : decode cX6_settle 1 = .ok (.ifCond .ge 9, 3) := by decide +kernel
theorem dX6_settle_4 : decode cX6_settle 4 = .ok (.aload_n 0, 1) := by decide +kernel
theorem dX6_settle_5 : decode cX6_settle 5 = .ok (.iload_n 1, 1) := by decide +kernel
theorem dX6_settle_6 : decode cX6_settle 6 = .ok (.invokevirtual 102, 3) := by decide +kernel
theorem dX6_settle_9 : decode cX6_settle 9 = .ok (.ireturn, 1) := by decide +kernel
theorem dX6_settle_10 : decode cX6_settle 10 = .ok (.aload_n 0, 1) := by decide +kernel
theorem dX6_settle_11 : decode cX6_settle 11 = .ok (.getfield 25, 3) := by decide +kernel
theorem dX6_settle_14 : decode cX6_settle 14 = .ok (.aload_n 0, 1) := by decide +kernel
theorem dX6_settle_15 : decode cX6_settle 15 = .ok (.getfield 16, 3) := by decide +kernel
theorem dX6_settle_18 : decode cX6_settle 18 = .ok (.invokevirtual 184, 3) := by decide +kernel
theorem dX6_settle_21 : decode cX6_settle 21 = .ok (.iload_n 1, 1) := by decide +kernel
theorem dX6_settle_22 : decode cX6_settle 22 = .ok (.ireturn, 1) := by decide +kernel
theorem dX6_perform_0 : decode cX6_perform 0 = .ok (.iload_n 1, 1) := by decide +kernel
theorem dX6_perform_1 : decode cX6_perform 1 = .ok (.lookupswitch 104 #[(97, 99), (103, 75), (107, 93), (109, 66), (116, 84), (119, 59)], 59) := by decide +kernel
theorem dX6_perform_60 : decode cX6_perform 60 = .ok (.aload_n 0, 1) := by decide +kernel
theorem dX6_perform_61 : decode cX6_perform 61 = .ok (.iload_n 2, 1) := by decide +kernel
theorem dX6_perform_62 : decode cX6_perform 62 = .ok (.iload_n 3, 1) := by decide +kernel
theorem dX6_perform_63 : decode cX6_perform 63 = .ok (.invokevirtual 70, 3) := by decide +kernel
theorem dX6_perform_66 : decode cX6_perform 66 = .ok (.ireturn, 1) := by decide +kernel
theorem dX6_perform_67 : decode cX6_perform 67 = .ok (.aload_n 0, 1) := by decide +kernel
theorem dX6_perform_68 : decode cX6_perform 68 = .ok (.iload_n 2, 1) := by decide +kernel
theorem dX6_perform_69 : decode cX6_perform 69 = .ok (.iload_n 3, 1) := by decide +kernel
theorem dX6_perform_70 : decode cX6_perform 70 = .ok (.iload 4, 2) := by decide +kernel
theorem dX6_perform_72 : decode cX6_perform 72 = .ok (.invokevirtual 78, 3) := by decide +kernel
theorem dX6_perform_75 : decode cX6_perform 75 = .ok (.ireturn, 1) := by decide +kernel
theorem dX6_perform_76 : decode cX6_perform 76 = .ok (.aload_n 0, 1) := by decide +kernel
theorem dX6_perform_77 : decode cX6_perform 77 = .ok (.iload_n 2, 1) := by decide +kernel
theorem dX6_perform_78 : decode cX6_perform 78 = .ok (.iload_n 3, 1) := by decide +kernel
theorem dX6_perform_79 : decode cX6_perform 79 = .ok (.iload 4, 2) := by decide +kernel
theorem dX6_perform_81 : decode cX6_perform 81 = .ok (.invokevirtual 82, 3) := by decide +kernel
theorem dX6_perform_84 : decode cX6_perform 84 = .ok (.ireturn, 1) := by decide +kernel
theorem dX6_perform_85 : decode cX6_perform 85 = .ok (.aload_n 0, 1) := by decide +kernel
theorem dX6_perform_86 : decode cX6_perform 86 = .ok (.iload_n 2, 1) := by decide +kernel
theorem dX6_perform_87 : decode cX6_perform 87 = .ok (.iload_n 3, 1) := by decide +kernel
theorem dX6_perform_88 : decode cX6_perform 88 = .ok (.iload 4, 2) := by decide +kernel
theorem dX6_perform_90 : decode cX6_perform 90 = .ok (.invokevirtual 85, 3) := by decide +kernel
theorem dX6_perform_93 : decode cX6_perform 93 = .ok (.ireturn, 1) := by decide +kernel
theorem dX6_perform_94 : decode cX6_perform 94 = .ok (.aload_n 0, 1) := by decide +kernel
theorem dX6_perform_95 : decode cX6_perform 95 = .ok (.iload_n 2, 1) := by decide +kernel
theorem dX6_perform_96 : decode cX6_perform 96 = .ok (.invokevirtual 88, 3) := by decide +kernel
theorem dX6_perform_99 : decode cX6_perform 99 = .ok (.ireturn, 1) := by decide +kernel
theorem dX6_perform_100 : decode cX6_perform 100 = .ok (.aload_n 0, 1) := by decide +kernel
theorem dX6_perform_101 : decode cX6_perform 101 = .ok (.invokevirtual 91, 3) := by decide +kernel
theorem dX6_perform_104 : decode cX6_perform 104 = .ok (.ireturn, 1) := by decide +kernel
theorem dX6_perform_105 : decode cX6_perform 105 = .ok (.bipush (-2), 2) := by decide +kernel
theorem dX6_perform_107 : decode cX6_perform 107 = .ok (.ireturn, 1) := by decide +kernel
theorem dX6_makeMesh_0 : decode cX6_makeMesh 0 = .ok (.iload_n 1, 1) := by decide +kernel
theorem dX6_makeMesh_1 : decode cX6_makeMesh 1 = .ok (.iconst 2, 1) := by decide +kernel
theorem dX6_makeMesh_2 : decode cX6_makeMesh 2 = .ok (.if_icmp .lt 20, 3) := by decide +kernel
theorem dX6_makeMesh_5 : decode cX6_makeMesh 5 = .ok (.iload_n 1, 1) := by decide +kernel
theorem dX6_makeMesh_6 : decode cX6_makeMesh 6 = .ok (.bipush 6, 2) := by decide +kernel
theorem dX6_makeMesh_8 : decode cX6_makeMesh 8 = .ok (.if_icmp .gt 14, 3) := by decide +kernel
theorem dX6_makeMesh_11 : decode cX6_makeMesh 11 = .ok (.iload_n 2, 1) := by decide +kernel
theorem dX6_makeMesh_12 : decode cX6_makeMesh 12 = .ok (.iconst 2, 1) := by decide +kernel
theorem dX6_makeMesh_13 : decode cX6_makeMesh 13 = .ok (.if_icmp .lt 9, 3) := by decide +kernel
theorem dX6_makeMesh_16 : decode cX6_makeMesh 16 = .ok (.iload_n 2, 1) := by decide +kernel
theorem dX6_makeMesh_17 : decode cX6_makeMesh 17 = .ok (.bipush 6, 2) := by decide +kernel
theorem dX6_makeMesh_19 : decode cX6_makeMesh 19 = .ok (.if_icmp .le 6, 3) := by decide +kernel
theorem dX6_makeMesh_22 : decode cX6_makeMesh 22 = .ok (.bipush (-2), 2) := by decide +kernel
theorem dX6_makeMesh_24 : decode cX6_makeMesh 24 = .ok (.ireturn, 1) := by decide +kernel
theorem dX6_makeMesh_25 : decode cX6_makeMesh 25 = .ok (.aload_n 0, 1) := by decide +kernel
theorem dX6_makeMesh_26 : decode cX6_makeMesh 26 = .ok (.getfield 32, 3) := by decide +kernel
theorem dX6_makeMesh_29 : decode cX6_makeMesh 29 = .ok (.invokevirtual 199, 3) := by decide +kernel
theorem dX6_makeMesh_32 : decode cX6_makeMesh 32 = .ok (.istore_n 3, 1) := by decide +kernel
theorem dX6_makeMesh_33 : decode cX6_makeMesh 33 = .ok (.aload_n 0, 1) := by decide +kernel
theorem dX6_makeMesh_34 : decode cX6_makeMesh 34 = .ok (.getfield 12, 3) := by decide +kernel
theorem dX6_makeMesh_37 : decode cX6_makeMesh 37 = .ok (.iload_n 1, 1) := by decide +kernel
theorem dX6_makeMesh_38 : decode cX6_makeMesh 38 = .ok (.iload_n 2, 1) := by decide +kernel
theorem dX6_makeMesh_39 : decode cX6_makeMesh 39 = .ok (.invokevirtual 59, 3) := by decide +kernel
theorem dX6_makeMesh_42 : decode cX6_makeMesh 42 = .ok (.aload_n 0, 1) := by decide +kernel
theorem dX6_makeMesh_43 : decode cX6_makeMesh 43 = .ok (.getfield 32, 3) := by decide +kernel
theorem dX6_makeMesh_46 : decode cX6_makeMesh 46 = .ok (.iload_n 1, 1) := by decide +kernel
theorem dX6_makeMesh_47 : decode cX6_makeMesh 47 = .ok (.iload_n 2, 1) := by decide +kernel
theorem dX6_makeMesh_48 : decode cX6_makeMesh 48 = .ok (.invokevirtual 63, 3) := by decide +kernel
theorem dX6_makeMesh_51 : decode cX6_makeMesh 51 = .ok (.iload_n 3, 1) := by decide +kernel
theorem dX6_makeMesh_52 : decode cX6_makeMesh 52 = .ok (.ireturn, 1) := by decide +kernel
theorem dX6_addMessage_0 : decode cX6_addMessage 0 = .ok (.aload_n 0, 1) := by decide +kernel
theorem dX6_addMessage_1 : decode cX6_addMessage 1 = .ok (.getfield 32, 3) := by decide +kernel
theorem dX6_addMessage_4 : decode cX6_addMessage 4 = .ok (.iload_n 1, 1) := by decide +kernel
theorem dX6_addMessage_5 : decode cX6_addMessage 5 = .ok (.iload_n 2, 1) := by decide +kernel
theorem dX6_addMessage_6 : decode cX6_addMessage 6 = .ok (.invokevirtual 95, 3) := by decide +kernel
theorem dX6_addMessage_9 : decode cX6_addMessage 9 = .ok (.ifCond .eq 14, 3) := by decide +kernel
theorem dX6_addMessage_12 : decode cX6_addMessage 12 = .ok (.iload_n 3, 1) := by decide +kernel
theorem dX6_addMessage_13 : decode cX6_addMessage 13 = .ok (.iconst 1, 1) := by decide +kernel
theorem dX6_addMessage_14 : decode cX6_addMessage 14 = .ok (.if_icmp .lt 9, 3) := by decide +kernel
theorem dX6_addMessage_17 : decode cX6_addMessage 17 = .ok (.iload_n 3, 1) := by decide +kernel
theorem dX6_addMessage_18 : decode cX6_addMessage 18 = .ok (.bipush 9, 2) := by decide +kernel
theorem dX6_addMessage_20 : decode cX6_addMessage 20 = .ok (.if_icmp .le 6, 3) := by decide +kernel
theorem dX6_addMessage_23 : decode cX6_addMessage 23 = .ok (.bipush (-2), 2) := by decide +kernel
theorem dX6_addMessage_25 : decode cX6_addMessage 25 = .ok (.ireturn, 1) := by decide +kernel
theorem dX6_addMessage_26 : decode cX6_addMessage 26 = .ok (.aload_n 0, 1) := by decide +kernel
theorem dX6_addMessage_27 : decode cX6_addMessage 27 = .ok (.getfield 12, 3) := by decide +kernel
theorem dX6_addMessage_30 : decode cX6_addMessage 30 = .ok (.aload_n 0, 1) := by decide +kernel
theorem dX6_addMessage_31 : decode cX6_addMessage 31 = .ok (.getfield 32, 3) := by decide +kernel
theorem dX6_addMessage_34 : decode cX6_addMessage 34 = .ok (.iload_n 1, 1) := by decide +kernel
theorem dX6_addMessage_35 : decode cX6_addMessage 35 = .ok (.iload_n 2, 1) := by decide +kernel
theorem dX6_addMessage_36 : decode cX6_addMessage 36 = .ok (.invokevirtual 99, 3) := by decide +kernel
theorem dX6_addMessage_39 : decode cX6_addMessage 39 = .ok (.iload_n 3, 1) := by decide +kernel
theorem dX6_addMessage_40 : decode cX6_addMessage 40 = .ok (.invokevirtual 222, 3) := by decide +kernel
theorem dX6_addMessage_43 : decode cX6_addMessage 43 = .ok (.istore 4, 2) := by decide +kernel
theorem dX6_addMessage_45 : decode cX6_addMessage 45 = .ok (.iload 4, 2) := by decide +kernel
theorem dX6_addMessage_47 : decode cX6_addMessage 47 = .ok (.ifCond .lt 9, 3) := by decide +kernel
theorem dX6_addMessage_50 : decode cX6_addMessage 50 = .ok (.aload_n 0, 1) := by decide +kernel
theorem dX6_addMessage_51 : decode cX6_addMessage 51 = .ok (.iload 4, 2) := by decide +kernel
theorem dX6_addMessage_53 : decode cX6_addMessage 53 = .ok (.invokevirtual 224, 3) := by decide +kernel
theorem dX6_addMessage_56 : decode cX6_addMessage 56 = .ok (.iload 4, 2) := by decide +kernel
theorem dX6_addMessage_58 : decode cX6_addMessage 58 = .ok (.ireturn, 1) := by decide +kernel
theorem dX6_turnGoal_0 : decode cX6_turnGoal 0 = .ok (.aload_n 0, 1) := by decide +kernel
theorem dX6_turnGoal_1 : decode cX6_turnGoal 1 = .ok (.iload_n 1, 1) := by decide +kernel
theorem dX6_turnGoal_2 : decode cX6_turnGoal 2 = .ok (.invokevirtual 144, 3) := by decide +kernel
theorem dX6_turnGoal_5 : decode cX6_turnGoal 5 = .ok (.ifCond .eq 15, 3) := by decide +kernel
theorem dX6_turnGoal_8 : decode cX6_turnGoal 8 = .ok (.aload_n 0, 1) := by decide +kernel
theorem dX6_turnGoal_9 : decode cX6_turnGoal 9 = .ok (.getfield 32, 3) := by decide +kernel
theorem dX6_turnGoal_12 : decode cX6_turnGoal 12 = .ok (.iload_n 2, 1) := by decide +kernel
theorem dX6_turnGoal_13 : decode cX6_turnGoal 13 = .ok (.iload_n 3, 1) := by decide +kernel
theorem dX6_turnGoal_14 : decode cX6_turnGoal 14 = .ok (.invokevirtual 95, 3) := by decide +kernel
theorem dX6_turnGoal_17 : decode cX6_turnGoal 17 = .ok (.ifCond .ne 6, 3) := by decide +kernel
theorem dX6_turnGoal_20 : decode cX6_turnGoal 20 = .ok (.bipush (-2), 2) := by decide +kernel
theorem dX6_turnGoal_22 : decode cX6_turnGoal 22 = .ok (.ireturn, 1) := by decide +kernel
theorem dX6_turnGoal_23 : decode cX6_turnGoal 23 = .ok (.aload_n 0, 1) := by decide +kernel
theorem dX6_turnGoal_24 : decode cX6_turnGoal 24 = .ok (.getfield 32, 3) := by decide +kernel
theorem dX6_turnGoal_27 : decode cX6_turnGoal 27 = .ok (.iload_n 2, 1) := by decide +kernel
theorem dX6_turnGoal_28 : decode cX6_turnGoal 28 = .ok (.iload_n 3, 1) := by decide +kernel
theorem dX6_turnGoal_29 : decode cX6_turnGoal 29 = .ok (.invokevirtual 99, 3) := by decide +kernel
theorem dX6_turnGoal_32 : decode cX6_turnGoal 32 = .ok (.istore 4, 2) := by decide +kernel
theorem dX6_turnGoal_34 : decode cX6_turnGoal 34 = .ok (.iload 4, 2) := by decide +kernel
theorem dX6_turnGoal_36 : decode cX6_turnGoal 36 = .ok (.aload_n 0, 1) := by decide +kernel
theorem dX6_turnGoal_37 : decode cX6_turnGoal 37 = .ok (.getfield 12, 3) := by decide +kernel
theorem dX6_turnGoal_40 : decode cX6_turnGoal 40 = .ok (.getfield 228, 3) := by decide +kernel
theorem dX6_turnGoal_43 : decode cX6_turnGoal 43 = .ok (.iload_n 1, 1) := by decide +kernel
theorem dX6_turnGoal_44 : decode cX6_turnGoal 44 = .ok (.iaload, 1) := by decide +kernel
theorem dX6_turnGoal_45 : decode cX6_turnGoal 45 = .ok (.if_icmp .ne 6, 3) := by decide +kernel
theorem dX6_turnGoal_48 : decode cX6_turnGoal 48 = .ok (.bipush (-2), 2) := by decide +kernel
theorem dX6_turnGoal_50 : decode cX6_turnGoal 50 = .ok (.ireturn, 1) := by decide +kernel
theorem dX6_turnGoal_51 : decode cX6_turnGoal 51 = .ok (.aload_n 0, 1) := by decide +kernel
theorem dX6_turnGoal_52 : decode cX6_turnGoal 52 = .ok (.getfield 12, 3) := by decide +kernel
theorem dX6_turnGoal_55 : decode cX6_turnGoal 55 = .ok (.getfield 232, 3) := by decide +kernel
theorem dX6_turnGoal_58 : decode cX6_turnGoal 58 = .ok (.iload_n 1, 1) := by decide +kernel
theorem dX6_turnGoal_59 : decode cX6_turnGoal 59 = .ok (.iconst 2, 1) := by decide +kernel
theorem dX6_turnGoal_60 : decode cX6_turnGoal 60 = .ok (.imul, 1) := by decide +kernel
theorem dX6_turnGoal_61 : decode cX6_turnGoal 61 = .ok (.iaload, 1) := by decide +kernel
theorem dX6_turnGoal_62 : decode cX6_turnGoal 62 = .ok (.ifCond .gt 19, 3) := by decide +kernel
theorem dX6_turnGoal_65 : decode cX6_turnGoal 65 = .ok (.aload_n 0, 1) := by decide +kernel
theorem dX6_turnGoal_66 : decode cX6_turnGoal 66 = .ok (.getfield 12, 3) := by decide +kernel
theorem dX6_turnGoal_69 : decode cX6_turnGoal 69 = .ok (.getfield 232, 3) := by decide +kernel
theorem dX6_turnGoal_72 : decode cX6_turnGoal 72 = .ok (.iload_n 1, 1) := by decide +kernel
theorem dX6_turnGoal_73 : decode cX6_turnGoal 73 = .ok (.iconst 2, 1) := by decide +kernel
theorem dX6_turnGoal_74 : decode cX6_turnGoal 74 = .ok (.imul, 1) := by decide +kernel
theorem dX6_turnGoal_75 : decode cX6_turnGoal 75 = .ok (.iconst 1, 1) := by decide +kernel
theorem dX6_turnGoal_76 : decode cX6_turnGoal 76 = .ok (.iadd, 1) := by decide +kernel
theorem dX6_turnGoal_77 : decode cX6_turnGoal 77 = .ok (.iaload, 1) := by decide +kernel
theorem dX6_turnGoal_78 : decode cX6_turnGoal 78 = .ok (.ifCond .le 6, 3) := by decide +kernel
theorem dX6_turnGoal_81 : decode cX6_turnGoal 81 = .ok (.bipush (-3), 2) := by decide +kernel
theorem dX6_turnGoal_83 : decode cX6_turnGoal 83 = .ok (.ireturn, 1) := by decide +kernel
theorem dX6_turnGoal_84 : decode cX6_turnGoal 84 = .ok (.aload_n 0, 1) := by decide +kernel
theorem dX6_turnGoal_85 : decode cX6_turnGoal 85 = .ok (.getfield 12, 3) := by decide +kernel
theorem dX6_turnGoal_88 : decode cX6_turnGoal 88 = .ok (.getfield 235, 3) := by decide +kernel
theorem dX6_turnGoal_91 : decode cX6_turnGoal 91 = .ok (.iload_n 1, 1) := by decide +kernel
theorem dX6_turnGoal_92 : decode cX6_turnGoal 92 = .ok (.dup2, 1) := by decide +kernel
theorem dX6_turnGoal_93 : decode cX6_turnGoal 93 = .ok (.laload, 1) := by decide +kernel
theorem dX6_turnGoal_94 : decode cX6_turnGoal 94 = .ok (.lconst 1, 1) := by decide +kernel
theorem dX6_turnGoal_95 : decode cX6_turnGoal 95 = .ok (.iload 4, 2) := by decide +kernel
theorem dX6_turnGoal_97 : decode cX6_turnGoal 97 = .ok (.lshl, 1) := by decide +kernel
theorem dX6_turnGoal_98 : decode cX6_turnGoal 98 = .ok (.lxor, 1) := by decide +kernel
theorem dX6_turnGoal_99 : decode cX6_turnGoal 99 = .ok (.lastore, 1) := by decide +kernel
theorem dX6_turnGoal_100 : decode cX6_turnGoal 100 = .ok (.aload_n 0, 1) := by decide +kernel
theorem dX6_turnGoal_101 : decode cX6_turnGoal 101 = .ok (.iload_n 1, 1) := by decide +kernel
theorem dX6_turnGoal_102 : decode cX6_turnGoal 102 = .ok (.invokevirtual 224, 3) := by decide +kernel
theorem dX6_turnGoal_105 : decode cX6_turnGoal 105 = .ok (.aload_n 0, 1) := by decide +kernel
theorem dX6_turnGoal_106 : decode cX6_turnGoal 106 = .ok (.getfield 12, 3) := by decide +kernel
theorem dX6_turnGoal_109 : decode cX6_turnGoal 109 = .ok (.getfield 235, 3) := by decide +kernel
theorem dX6_turnGoal_112 : decode cX6_turnGoal 112 = .ok (.iload_n 1, 1) := by decide +kernel
theorem dX6_turnGoal_113 : decode cX6_turnGoal 113 = .ok (.laload, 1) := by decide +kernel
theorem dX6_turnGoal_114 : decode cX6_turnGoal 114 = .ok (.invokestatic 239, 3) := by decide +kernel
theorem dX6_turnGoal_117 : decode cX6_turnGoal 117 = .ok (.ireturn, 1) := by decide +kernel
end
section
theorem dX6_turnChannel_0 : decode cX6_turnChannel 0 = .ok (.aload_n 0, 1) := by decide +kernel
theorem dX6_turnChannel_1 : decode cX6_turnChannel 1 = .ok (.getfield 32, 3) := by decide +kernel
theorem dX6_turnChannel_4 : decode cX6_turnChannel 4 = .ok (.iload_n 1, 1) := by decide +kernel
theorem dX6_turnChannel_5 : decode cX6_turnChannel 5 = .ok (.iload_n 2, 1) := by decide +kernel
theorem dX6_turnChannel_6 : decode cX6_turnChannel 6 = .ok (.iload_n 3, 1) := by decide +kernel
theorem dX6_turnChannel_7 : decode cX6_turnChannel 7 = .ok (.invokevirtual 121, 3) := by decide +kernel
theorem dX6_turnChannel_10 : decode cX6_turnChannel 10 = .ok (.istore 4, 2) := by decide +kernel
theorem dX6_turnChannel_12 : decode cX6_turnChannel 12 = .ok (.iload 4, 2) := by decide +kernel
theorem dX6_turnChannel_14 : decode cX6_turnChannel 14 = .ok (.iconst (-1), 1) := by decide +kernel
theorem dX6_turnChannel_15 : decode cX6_turnChannel 15 = .ok (.if_icmp .ne 6, 3) := by decide +kernel
theorem dX6_turnChannel_18 : decode cX6_turnChannel 18 = .ok (.bipush (-2), 2) := by decide +kernel
theorem dX6_turnChannel_20 : decode cX6_turnChannel 20 = .ok (.ireturn, 1) := by decide +kernel
theorem dX6_turnChannel_21 : decode cX6_turnChannel 21 = .ok (.aload_n 0, 1) := by decide +kernel
theorem dX6_turnChannel_22 : decode cX6_turnChannel 22 = .ok (.getfield 12, 3) := by decide +kernel
theorem dX6_turnChannel_25 : decode cX6_turnChannel 25 = .ok (.iload 4, 2) := by decide +kernel
theorem dX6_turnChannel_27 : decode cX6_turnChannel 27 = .ok (.invokevirtual 245, 3) := by decide +kernel
theorem dX6_turnChannel_30 : decode cX6_turnChannel 30 = .ok (.aload_n 0, 1) := by decide +kernel
theorem dX6_turnChannel_31 : decode cX6_turnChannel 31 = .ok (.getfield 12, 3) := by decide +kernel
theorem dX6_turnChannel_34 : decode cX6_turnChannel 34 = .ok (.iload 4, 2) := by decide +kernel
theorem dX6_turnChannel_36 : decode cX6_turnChannel 36 = .ok (.invokevirtual 202, 3) := by decide +kernel
theorem dX6_turnChannel_39 : decode cX6_turnChannel 39 = .ok (.ifCond .eq 7, 3) := by decide +kernel
theorem dX6_turnChannel_42 : decode cX6_turnChannel 42 = .ok (.iconst 0, 1) := by decide +kernel
theorem dX6_turnChannel_43 : decode cX6_turnChannel 43 = .ok (.goto 4, 3) := by decide +kernel
theorem dX6_turnChannel_46 : decode cX6_turnChannel 46 = .ok (.iconst 1, 1) := by decide +kernel
theorem dX6_turnChannel_47 : decode cX6_turnChannel 47 = .ok (.ireturn, 1) := by decide +kernel
theorem dX6_goSteps_0 : decode cX6_goSteps 0 = .ok (.iload_n 1, 1) := by decide +kernel
theorem dX6_goSteps_1 : decode cX6_goSteps 1 = .ok (.iconst 1, 1) := by decide +kernel
theorem dX6_goSteps_2 : decode cX6_goSteps 2 = .ok (.if_icmp .lt 10, 3) := by decide +kernel
theorem dX6_goSteps_5 : decode cX6_goSteps 5 = .ok (.iload_n 1, 1) := by decide +kernel
theorem dX6_goSteps_6 : decode cX6_goSteps 6 = .ok (.sipush 200, 3) := by decide +kernel
theorem dX6_goSteps_9 : decode cX6_goSteps 9 = .ok (.if_icmp .le 6, 3) := by decide +kernel
theorem dX6_goSteps_12 : decode cX6_goSteps 12 = .ok (.bipush (-2), 2) := by decide +kernel
theorem dX6_goSteps_14 : decode cX6_goSteps 14 = .ok (.ireturn, 1) := by decide +kernel
theorem dX6_goSteps_15 : decode cX6_goSteps 15 = .ok (.aload_n 0, 1) := by decide +kernel
theorem dX6_goSteps_16 : decode cX6_goSteps 16 = .ok (.getfield 48, 3) := by decide +kernel
theorem dX6_goSteps_19 : decode cX6_goSteps 19 = .ok (.aload_n 0, 1) := by decide +kernel
theorem dX6_goSteps_20 : decode cX6_goSteps 20 = .ok (.getfield 12, 3) := by decide +kernel
theorem dX6_goSteps_23 : decode cX6_goSteps 23 = .ok (.invokevirtual 248, 3) := by decide +kernel
theorem dX6_goSteps_26 : decode cX6_goSteps 26 = .ok (.aload_n 0, 1) := by decide +kernel
theorem dX6_goSteps_27 : decode cX6_goSteps 27 = .ok (.getfield 48, 3) := by decide +kernel
theorem dX6_goSteps_30 : decode cX6_goSteps 30 = .ok (.aload_n 0, 1) := by decide +kernel
theorem dX6_goSteps_31 : decode cX6_goSteps 31 = .ok (.getfield 12, 3) := by decide +kernel
theorem dX6_goSteps_34 : decode cX6_goSteps 34 = .ok (.iload_n 1, 1) := by decide +kernel
theorem dX6_goSteps_35 : decode cX6_goSteps 35 = .ok (.invokevirtual 251, 3) := by decide +kernel
theorem dX6_goSteps_38 : decode cX6_goSteps 38 = .ok (.aload_n 0, 1) := by decide +kernel
theorem dX6_goSteps_39 : decode cX6_goSteps 39 = .ok (.getfield 39, 3) := by decide +kernel
theorem dX6_goSteps_42 : decode cX6_goSteps 42 = .ok (.aload_n 0, 1) := by decide +kernel
theorem dX6_goSteps_43 : decode cX6_goSteps 43 = .ok (.getfield 12, 3) := by decide +kernel
theorem dX6_goSteps_46 : decode cX6_goSteps 46 = .ok (.iconst (-1), 1) := by decide +kernel
theorem dX6_goSteps_47 : decode cX6_goSteps 47 = .ok (.invokevirtual 255, 3) := by decide +kernel
theorem dX6_goSteps_50 : decode cX6_goSteps 50 = .ok (.ireturn, 1) := by decide +kernel
theorem dX6_startAgain_0 : decode cX6_startAgain 0 = .ok (.aload_n 0, 1) := by decide +kernel
theorem dX6_startAgain_1 : decode cX6_startAgain 1 = .ok (.getfield 12, 3) := by decide +kernel
theorem dX6_startAgain_4 : decode cX6_startAgain 4 = .ok (.getfield 258, 3) := by decide +kernel
theorem dX6_startAgain_7 : decode cX6_startAgain 7 = .ok (.istore_n 1, 1) := by decide +kernel
theorem dX6_startAgain_8 : decode cX6_startAgain 8 = .ok (.aload_n 0, 1) := by decide +kernel
theorem dX6_startAgain_9 : decode cX6_startAgain 9 = .ok (.getfield 12, 3) := by decide +kernel
theorem dX6_startAgain_12 : decode cX6_startAgain 12 = .ok (.invokevirtual 261, 3) := by decide +kernel
theorem dX6_startAgain_15 : decode cX6_startAgain 15 = .ok (.iload_n 1, 1) := by decide +kernel
theorem dX6_startAgain_16 : decode cX6_startAgain 16 = .ok (.ireturn, 1) := by decide +kernel
theorem dX6_hasMessage_0 : decode cX6_hasMessage 0 = .ok (.iload_n 1, 1) := by decide +kernel
theorem dX6_hasMessage_1 : decode cX6_hasMessage 1 = .ok (.ifCond .lt 18, 3) := by decide +kernel
theorem dX6_hasMessage_4 : decode cX6_hasMessage 4 = .ok (.iload_n 1, 1) := by decide +kernel
theorem dX6_hasMessage_5 : decode cX6_hasMessage 5 = .ok (.aload_n 0, 1) := by decide +kernel
theorem dX6_hasMessage_6 : decode cX6_hasMessage 6 = .ok (.getfield 12, 3) := by decide +kernel
theorem dX6_hasMessage_9 : decode cX6_hasMessage 9 = .ok (.getfield 205, 3) := by decide +kernel
theorem dX6_hasMessage_12 : decode cX6_hasMessage 12 = .ok (.if_icmp .ge 7, 3) := by decide +kernel
theorem dX6_hasMessage_15 : decode cX6_hasMessage 15 = .ok (.iconst 1, 1) := by decide +kernel
theorem dX6_hasMessage_16 : decode cX6_hasMessage 16 = .ok (.goto 4, 3) := by decide +kernel
theorem dX6_hasMessage_19 : decode cX6_hasMessage 19 = .ok (.iconst 0, 1) := by decide +kernel
theorem dX6_hasMessage_20 : decode cX6_hasMessage 20 = .ok (.ireturn, 1) := by decide +kernel
theorem dX6_hasWorm_0 : decode cX6_hasWorm 0 = .ok (.aload_n 0, 1) := by decide +kernel
theorem dX6_hasWorm_1 : decode cX6_hasWorm 1 = .ok (.iload_n 1, 1) := by decide +kernel
theorem dX6_hasWorm_2 : decode cX6_hasWorm 2 = .ok (.invokevirtual 144, 3) := by decide +kernel
theorem dX6_hasWorm_5 : decode cX6_hasWorm 5 = .ok (.ifCond .eq 16, 3) := by decide +kernel
theorem dX6_hasWorm_8 : decode cX6_hasWorm 8 = .ok (.iload_n 2, 1) := by decide +kernel
theorem dX6_hasWorm_9 : decode cX6_hasWorm 9 = .ok (.ifCond .lt 12, 3) := by decide +kernel
theorem dX6_hasWorm_12 : decode cX6_hasWorm 12 = .ok (.iload_n 2, 1) := by decide +kernel
theorem dX6_hasWorm_13 : decode cX6_hasWorm 13 = .ok (.iconst 2, 1) := by decide +kernel
theorem dX6_hasWorm_14 : decode cX6_hasWorm 14 = .ok (.if_icmp .ge 7, 3) := by decide +kernel
theorem dX6_hasWorm_17 : decode cX6_hasWorm 17 = .ok (.iconst 1, 1) := by decide +kernel
theorem dX6_hasWorm_18 : decode cX6_hasWorm 18 = .ok (.goto 4, 3) := by decide +kernel
theorem dX6_hasWorm_21 : decode cX6_hasWorm 21 = .ok (.iconst 0, 1) := by decide +kernel
theorem dX6_hasWorm_22 : decode cX6_hasWorm 22 = .ok (.ireturn, 1) := by decide +kernel
theorem dX6_wormFact_0 : decode cX6_wormFact 0 = .ok (.iload_n 2, 1) := by decide +kernel
theorem dX6_wormFact_1 : decode cX6_wormFact 1 = .ok (.tableswitch 176 0 7 #[47, 59, 68, 78, 106, 119, 129, 150], 47) := by decide +kernel
theorem dX6_wormFact_48 : decode cX6_wormFact 48 = .ok (.aload_n 0, 1) := by decide +kernel
theorem dX6_wormFact_49 : decode cX6_wormFact 49 = .ok (.getfield 12, 3) := by decide +kernel
theorem dX6_wormFact_52 : decode cX6_wormFact 52 = .ok (.iload_n 1, 1) := by decide +kernel
theorem dX6_wormFact_53 : decode cX6_wormFact 53 = .ok (.invokevirtual 264, 3) := by decide +kernel
theorem dX6_wormFact_56 : decode cX6_wormFact 56 = .ok (.invokestatic 239, 3) := by decide +kernel
theorem dX6_wormFact_59 : decode cX6_wormFact 59 = .ok (.ireturn, 1) := by decide +kernel
theorem dX6_wormFact_60 : decode cX6_wormFact 60 = .ok (.aload_n 0, 1) := by decide +kernel
theorem dX6_wormFact_61 : decode cX6_wormFact 61 = .ok (.getfield 39, 3) := by decide +kernel
theorem dX6_wormFact_64 : decode cX6_wormFact 64 = .ok (.iload_n 1, 1) := by decide +kernel
theorem dX6_wormFact_65 : decode cX6_wormFact 65 = .ok (.invokevirtual 134, 3) := by decide +kernel
theorem dX6_wormFact_68 : decode cX6_wormFact 68 = .ok (.ireturn, 1) := by decide +kernel
theorem dX6_wormFact_69 : decode cX6_wormFact 69 = .ok (.aload_n 0, 1) := by decide +kernel
theorem dX6_wormFact_70 : decode cX6_wormFact 70 = .ok (.getfield 12, 3) := by decide +kernel
theorem dX6_wormFact_73 : decode cX6_wormFact 73 = .ok (.getfield 232, 3) := by decide +kernel
theorem dX6_wormFact_76 : decode cX6_wormFact 76 = .ok (.iload_n 1, 1) := by decide +kernel
theorem dX6_wormFact_77 : decode cX6_wormFact 77 = .ok (.iaload, 1) := by decide +kernel
theorem dX6_wormFact_78 : decode cX6_wormFact 78 = .ok (.ireturn, 1) := by decide +kernel
theorem dX6_wormFact_79 : decode cX6_wormFact 79 = .ok (.aload_n 0, 1) := by decide +kernel
theorem dX6_wormFact_80 : decode cX6_wormFact 80 = .ok (.getfield 32, 3) := by decide +kernel
theorem dX6_wormFact_83 : decode cX6_wormFact 83 = .ok (.aload_n 0, 1) := by decide +kernel
theorem dX6_wormFact_84 : decode cX6_wormFact 84 = .ok (.getfield 39, 3) := by decide +kernel
theorem dX6_wormFact_87 : decode cX6_wormFact 87 = .ok (.iload_n 1, 1) := by decide +kernel
theorem dX6_wormFact_88 : decode cX6_wormFact 88 = .ok (.aload_n 0, 1) := by decide +kernel
theorem dX6_wormFact_89 : decode cX6_wormFact 89 = .ok (.getfield 39, 3) := by decide +kernel
theorem dX6_wormFact_92 : decode cX6_wormFact 92 = .ok (.aload_n 0, 1) := by decide +kernel
theorem dX6_wormFact_93 : decode cX6_wormFact 93 = .ok (.getfield 12, 3) := by decide +kernel
theorem dX6_wormFact_96 : decode cX6_wormFact 96 = .ok (.iload_n 1, 1) := by decide +kernel
theorem dX6_wormFact_97 : decode cX6_wormFact 97 = .ok (.invokevirtual 268, 3) := by decide +kernel
theorem dX6_wormFact_100 : decode cX6_wormFact 100 = .ok (.invokevirtual 137, 3) := by decide +kernel
theorem dX6_wormFact_103 : decode cX6_wormFact 103 = .ok (.invokevirtual 109, 3) := by decide +kernel
theorem dX6_wormFact_106 : decode cX6_wormFact 106 = .ok (.ireturn, 1) := by decide +kernel
theorem dX6_wormFact_107 : decode cX6_wormFact 107 = .ok (.aload_n 0, 1) := by decide +kernel
theorem dX6_wormFact_108 : decode cX6_wormFact 108 = .ok (.getfield 39, 3) := by decide +kernel
theorem dX6_wormFact_111 : decode cX6_wormFact 111 = .ok (.aload_n 0, 1) := by decide +kernel
theorem dX6_wormFact_112 : decode cX6_wormFact 112 = .ok (.getfield 12, 3) := by decide +kernel
theorem dX6_wormFact_115 : decode cX6_wormFact 115 = .ok (.iload_n 1, 1) := by decide +kernel
theorem dX6_wormFact_116 : decode cX6_wormFact 116 = .ok (.invokevirtual 271, 3) := by decide +kernel
theorem dX6_wormFact_119 : decode cX6_wormFact 119 = .ok (.ireturn, 1) := by decide +kernel
theorem dX6_wormFact_120 : decode cX6_wormFact 120 = .ok (.aload_n 0, 1) := by decide +kernel
theorem dX6_wormFact_121 : decode cX6_wormFact 121 = .ok (.getfield 12, 3) := by decide +kernel
theorem dX6_wormFact_124 : decode cX6_wormFact 124 = .ok (.getfield 274, 3) := by decide +kernel
theorem dX6_wormFact_127 : decode cX6_wormFact 127 = .ok (.iload_n 1, 1) := by decide +kernel
theorem dX6_wormFact_128 : decode cX6_wormFact 128 = .ok (.iaload, 1) := by decide +kernel
theorem dX6_wormFact_129 : decode cX6_wormFact 129 = .ok (.ireturn, 1) := by decide +kernel
theorem dX6_wormFact_130 : decode cX6_wormFact 130 = .ok (.aload_n 0, 1) := by decide +kernel
theorem dX6_wormFact_131 : decode cX6_wormFact 131 = .ok (.getfield 39, 3) := by decide +kernel
theorem dX6_wormFact_134 : decode cX6_wormFact 134 = .ok (.aload_n 0, 1) := by decide +kernel
theorem dX6_wormFact_135 : decode cX6_wormFact 135 = .ok (.getfield 12, 3) := by decide +kernel
theorem dX6_wormFact_138 : decode cX6_wormFact 138 = .ok (.iload_n 1, 1) := by decide +kernel
theorem dX6_wormFact_139 : decode cX6_wormFact 139 = .ok (.invokevirtual 277, 3) := by decide +kernel
theorem dX6_wormFact_142 : decode cX6_wormFact 142 = .ok (.ifCond .eq 7, 3) := by decide +kernel
theorem dX6_wormFact_145 : decode cX6_wormFact 145 = .ok (.iconst 1, 1) := by decide +kernel
theorem dX6_wormFact_146 : decode cX6_wormFact 146 = .ok (.goto 4, 3) := by decide +kernel
theorem dX6_wormFact_149 : decode cX6_wormFact 149 = .ok (.iconst 0, 1) := by decide +kernel
theorem dX6_wormFact_150 : decode cX6_wormFact 150 = .ok (.ireturn, 1) := by decide +kernel
theorem dX6_wormFact_151 : decode cX6_wormFact 151 = .ok (.aload_n 0, 1) := by decide +kernel
theorem dX6_wormFact_152 : decode cX6_wormFact 152 = .ok (.getfield 39, 3) := by decide +kernel
theorem dX6_wormFact_155 : decode cX6_wormFact 155 = .ok (.aload_n 0, 1) := by decide +kernel
theorem dX6_wormFact_156 : decode cX6_wormFact 156 = .ok (.getfield 12, 3) := by decide +kernel
theorem dX6_wormFact_159 : decode cX6_wormFact 159 = .ok (.iload_n 1, 1) := by decide +kernel
theorem dX6_wormFact_160 : decode cX6_wormFact 160 = .ok (.invokevirtual 268, 3) := by decide +kernel
theorem dX6_wormFact_163 : decode cX6_wormFact 163 = .ok (.aload_n 0, 1) := by decide +kernel
theorem dX6_wormFact_164 : decode cX6_wormFact 164 = .ok (.getfield 39, 3) := by decide +kernel
theorem dX6_wormFact_167 : decode cX6_wormFact 167 = .ok (.aload_n 0, 1) := by decide +kernel
theorem dX6_wormFact_168 : decode cX6_wormFact 168 = .ok (.getfield 12, 3) := by decide +kernel
theorem dX6_wormFact_171 : decode cX6_wormFact 171 = .ok (.iload_n 1, 1) := by decide +kernel
theorem dX6_wormFact_172 : decode cX6_wormFact 172 = .ok (.invokevirtual 281, 3) := by decide +kernel
theorem dX6_wormFact_175 : decode cX6_wormFact 175 = .ok (.isub, 1) := by decide +kernel
theorem dX6_wormFact_176 : decode cX6_wormFact 176 = .ok (.ireturn, 1) := by decide +kernel
theorem dX6_wormFact_177 : decode cX6_wormFact 177 = .ok (.aload_n 0, 1) := by decide +kernel
theorem dX6_wormFact_178 : decode cX6_wormFact 178 = .ok (.getfield 39, 3) := by decide +kernel
theorem dX6_wormFact_181 : decode cX6_wormFact 181 = .ok (.aload_n 0, 1) := by decide +kernel
theorem dX6_wormFact_182 : decode cX6_wormFact 182 = .ok (.getfield 12, 3) := by decide +kernel
theorem dX6_wormFact_185 : decode cX6_wormFact 185 = .ok (.iload_n 1, 1) := by decide +kernel
theorem dX6_wormFact_186 : decode cX6_wormFact 186 = .ok (.invokevirtual 284, 3) := by decide +kernel
theorem dX6_wormFact_189 : decode cX6_wormFact 189 = .ok (.ireturn, 1) := by decide +kernel
theorem dX6_messageFact_0 : decode cX6_messageFact 0 = .ok (.iload_n 2, 1) := by decide +kernel
theorem dX6_messageFact_1 : decode cX6_messageFact 1 = .ok (.tableswitch 116 0 4 #[35, 52, 69, 79, 92], 35) := by decide +kernel
theorem dX6_messageFact_36 : decode cX6_messageFact 36 = .ok (.aload_n 0, 1) := by decide +kernel
theorem dX6_messageFact_37 : decode cX6_messageFact 37 = .ok (.getfield 32, 3) := by decide +kernel
theorem dX6_messageFact_40 : decode cX6_messageFact 40 = .ok (.aload_n 0, 1) := by decide +kernel
theorem dX6_messageFact_41 : decode cX6_messageFact 41 = .ok (.getfield 12, 3) := by decide +kernel
theorem dX6_messageFact_44 : decode cX6_messageFact 44 = .ok (.getfield 228, 3) := by decide +kernel
theorem dX6_messageFact_47 : decode cX6_messageFact 47 = .ok (.iload_n 1, 1) := by decide +kernel
theorem dX6_messageFact_48 : decode cX6_messageFact 48 = .ok (.iaload, 1) := by decide +kernel
theorem dX6_messageFact_49 : decode cX6_messageFact 49 = .ok (.invokevirtual 287, 3) := by decide +kernel
theorem dX6_messageFact_52 : decode cX6_messageFact 52 = .ok (.ireturn, 1) := by decide +kernel
theorem dX6_messageFact_53 : decode cX6_messageFact 53 = .ok (.aload_n 0, 1) := by decide +kernel
theorem dX6_messageFact_54 : decode cX6_messageFact 54 = .ok (.getfield 32, 3) := by decide +kernel
theorem dX6_messageFact_57 : decode cX6_messageFact 57 = .ok (.aload_n 0, 1) := by decide +kernel
theorem dX6_messageFact_58 : decode cX6_messageFact 58 = .ok (.getfield 12, 3) := by decide +kernel
theorem dX6_messageFact_61 : decode cX6_messageFact 61 = .ok (.getfield 228, 3) := by decide +kernel
theorem dX6_messageFact_64 : decode cX6_messageFact 64 = .ok (.iload_n 1, 1) := by decide +kernel
theorem dX6_messageFact_65 : decode cX6_messageFact 65 = .ok (.iaload, 1) := by decide +kernel
theorem dX6_messageFact_66 : decode cX6_messageFact 66 = .ok (.invokevirtual 290, 3) := by decide +kernel
theorem dX6_messageFact_69 : decode cX6_messageFact 69 = .ok (.ireturn, 1) := by decide +kernel
theorem dX6_messageFact_70 : decode cX6_messageFact 70 = .ok (.aload_n 0, 1) := by decide +kernel
theorem dX6_messageFact_71 : decode cX6_messageFact 71 = .ok (.getfield 12, 3) := by decide +kernel
theorem dX6_messageFact_74 : decode cX6_messageFact 74 = .ok (.getfield 293, 3) := by decide +kernel
theorem dX6_messageFact_77 : decode cX6_messageFact 77 = .ok (.iload_n 1, 1) := by decide +kernel
theorem dX6_messageFact_78 : decode cX6_messageFact 78 = .ok (.iaload, 1) := by decide +kernel
theorem dX6_messageFact_79 : decode cX6_messageFact 79 = .ok (.ireturn, 1) := by decide +kernel
theorem dX6_messageFact_80 : decode cX6_messageFact 80 = .ok (.aload_n 0, 1) := by decide +kernel
theorem dX6_messageFact_81 : decode cX6_messageFact 81 = .ok (.getfield 12, 3) := by decide +kernel
theorem dX6_messageFact_84 : decode cX6_messageFact 84 = .ok (.getfield 235, 3) := by decide +kernel
theorem dX6_messageFact_87 : decode cX6_messageFact 87 = .ok (.iload_n 1, 1) := by decide +kernel
theorem dX6_messageFact_88 : decode cX6_messageFact 88 = .ok (.laload, 1) := by decide +kernel
theorem dX6_messageFact_89 : decode cX6_messageFact 89 = .ok (.invokestatic 239, 3) := by decide +kernel
theorem dX6_messageFact_92 : decode cX6_messageFact 92 = .ok (.ireturn, 1) := by decide +kernel
theorem dX6_messageFact_93 : decode cX6_messageFact 93 = .ok (.aload_n 0, 1) := by decide +kernel
theorem dX6_messageFact_94 : decode cX6_messageFact 94 = .ok (.getfield 39, 3) := by decide +kernel
theorem dX6_messageFact_97 : decode cX6_messageFact 97 = .ok (.iload_n 1, 1) := by decide +kernel
theorem dX6_messageFact_98 : decode cX6_messageFact 98 = .ok (.iconst 2, 1) := by decide +kernel
theorem dX6_messageFact_99 : decode cX6_messageFact 99 = .ok (.imul, 1) := by decide +kernel
theorem dX6_messageFact_100 : decode cX6_messageFact 100 = .ok (.invokevirtual 134, 3) := by decide +kernel
theorem dX6_messageFact_103 : decode cX6_messageFact 103 = .ok (.aload_n 0, 1) := by decide +kernel
theorem dX6_messageFact_104 : decode cX6_messageFact 104 = .ok (.getfield 39, 3) := by decide +kernel
theorem dX6_messageFact_107 : decode cX6_messageFact 107 = .ok (.iload_n 1, 1) := by decide +kernel
theorem dX6_messageFact_108 : decode cX6_messageFact 108 = .ok (.iconst 2, 1) := by decide +kernel
theorem dX6_messageFact_109 : decode cX6_messageFact 109 = .ok (.imul, 1) := by decide +kernel
theorem dX6_messageFact_110 : decode cX6_messageFact 110 = .ok (.iconst 1, 1) := by decide +kernel
theorem dX6_messageFact_111 : decode cX6_messageFact 111 = .ok (.iadd, 1) := by decide +kernel
theorem dX6_messageFact_112 : decode cX6_messageFact 112 = .ok (.invokevirtual 134, 3) := by decide +kernel
theorem dX6_messageFact_115 : decode cX6_messageFact 115 = .ok (.iadd, 1) := by decide +kernel
theorem dX6_messageFact_116 : decode cX6_messageFact 116 = .ok (.ireturn, 1) := by decide +kernel
theorem dX6_messageFact_117 : decode cX6_messageFact 117 = .ok (.aload_n 0, 1) := by decide +kernel
theorem dX6_messageFact_118 : decode cX6_messageFact 118 = .ok (.iload_n 1, 1) := by decide +kernel
theorem dX6_messageFact_119 : decode cX6_messageFact 119 = .ok (.invokevirtual 296, 3) := by decide +kernel
theorem dX6_messageFact_122 : decode cX6_messageFact 122 = .ok (.ireturn, 1) := by decide +kernel
theorem dX6_straightWays_0 : decode cX6_straightWays 0 = .ok (.iconst 0, 1) := by decide +kernel
theorem dX6_straightWays_1 : decode cX6_straightWays 1 = .ok (.istore_n 2, 1) := by decide +kernel
theorem dX6_straightWays_2 : decode cX6_straightWays 2 = .ok (.iconst 0, 1) := by decide +kernel
theorem dX6_straightWays_3 : decode cX6_straightWays 3 = .ok (.istore_n 3, 1) := by decide +kernel
theorem dX6_straightWays_4 : decode cX6_straightWays 4 = .ok (.iload_n 3, 1) := by decide +kernel
theorem dX6_straightWays_5 : decode cX6_straightWays 5 = .ok (.aload_n 0, 1) := by decide +kernel
theorem dX6_straightWays_6 : decode cX6_straightWays 6 = .ok (.getfield 32, 3) := by decide +kernel
theorem dX6_straightWays_9 : decode cX6_straightWays 9 = .ok (.invokevirtual 199, 3) := by decide +kernel
theorem dX6_straightWays_12 : decode cX6_straightWays 12 = .ok (.if_icmp .ge 47, 3) := by decide +kernel
theorem dX6_straightWays_15 : decode cX6_straightWays 15 = .ok (.aload_n 0, 1) := by decide +kernel
theorem dX6_straightWays_16 : decode cX6_straightWays 16 = .ok (.getfield 12, 3) := by decide +kernel
theorem dX6_straightWays_19 : decode cX6_straightWays 19 = .ok (.getfield 235, 3) := by decide +kernel
theorem dX6_straightWays_22 : decode cX6_straightWays 22 = .ok (.iload_n 1, 1) := by decide +kernel
theorem dX6_straightWays_23 : decode cX6_straightWays 23 = .ok (.laload, 1) := by decide +kernel
theorem dX6_straightWays_24 : decode cX6_straightWays 24 = .ok (.iload_n 3, 1) := by decide +kernel
theorem dX6_straightWays_25 : decode cX6_straightWays 25 = .ok (.lshr, 1) := by decide +kernel
theorem dX6_straightWays_26 : decode cX6_straightWays 26 = .ok (.lconst 1, 1) := by decide +kernel
theorem dX6_straightWays_27 : decode cX6_straightWays 27 = .ok (.land, 1) := by decide +kernel
theorem dX6_straightWays_28 : decode cX6_straightWays 28 = .ok (.lconst 0, 1) := by decide +kernel
theorem dX6_straightWays_29 : decode cX6_straightWays 29 = .ok (.lcmp, 1) := by decide +kernel
theorem dX6_straightWays_30 : decode cX6_straightWays 30 = .ok (.ifCond .eq 23, 3) := by decide +kernel
theorem dX6_straightWays_33 : decode cX6_straightWays 33 = .ok (.iload_n 2, 1) := by decide +kernel
theorem dX6_straightWays_34 : decode cX6_straightWays 34 = .ok (.aload_n 0, 1) := by decide +kernel
theorem dX6_straightWays_35 : decode cX6_straightWays 35 = .ok (.getfield 32, 3) := by decide +kernel
theorem dX6_straightWays_38 : decode cX6_straightWays 38 = .ok (.aload_n 0, 1) := by decide +kernel
theorem dX6_straightWays_39 : decode cX6_straightWays 39 = .ok (.getfield 12, 3) := by decide +kernel
theorem dX6_straightWays_42 : decode cX6_straightWays 42 = .ok (.getfield 228, 3) := by decide +kernel
theorem dX6_straightWays_45 : decode cX6_straightWays 45 = .ok (.iload_n 1, 1) := by decide +kernel
theorem dX6_straightWays_46 : decode cX6_straightWays 46 = .ok (.iaload, 1) := by decide +kernel
theorem dX6_straightWays_47 : decode cX6_straightWays 47 = .ok (.iload_n 3, 1) := by decide +kernel
theorem dX6_straightWays_48 : decode cX6_straightWays 48 = .ok (.invokevirtual 118, 3) := by decide +kernel
theorem dX6_straightWays_51 : decode cX6_straightWays 51 = .ok (.iadd, 1) := by decide +kernel
theorem dX6_straightWays_52 : decode cX6_straightWays 52 = .ok (.istore_n 2, 1) := by decide +kernel
theorem dX6_straightWays_53 : decode cX6_straightWays 53 = .ok (.iinc 3 1, 3) := by decide +kernel
theorem dX6_straightWays_56 : decode cX6_straightWays 56 = .ok (.goto (-52), 3) := by decide +kernel
theorem dX6_straightWays_59 : decode cX6_straightWays 59 = .ok (.iload_n 2, 1) := by decide +kernel
theorem dX6_straightWays_60 : decode cX6_straightWays 60 = .ok (.ireturn, 1) := by decide +kernel
theorem dX6_countFact_0 : decode cX6_countFact 0 = .ok (.iload_n 1, 1) := by decide +kernel
theorem dX6_countFact_1 : decode cX6_countFact 1 = .ok (.tableswitch 103 0 6 #[43, 51, 59, 67, 75, 83, 95], 43) := by decide +kernel
theorem dX6_countFact_44 : decode cX6_countFact 44 = .ok (.aload_n 0, 1) := by decide +kernel
theorem dX6_countFact_45 : decode cX6_countFact 45 = .ok (.getfield 12, 3) := by decide +kernel
theorem dX6_countFact_48 : decode cX6_countFact 48 = .ok (.getfield 299, 3) := by decide +kernel
theorem dX6_countFact_51 : decode cX6_countFact 51 = .ok (.ireturn, 1) := by decide +kernel
theorem dX6_countFact_52 : decode cX6_countFact 52 = .ok (.aload_n 0, 1) := by decide +kernel
theorem dX6_countFact_53 : decode cX6_countFact 53 = .ok (.getfield 12, 3) := by decide +kernel
theorem dX6_countFact_56 : decode cX6_countFact 56 = .ok (.getfield 302, 3) := by decide +kernel
theorem dX6_countFact_59 : decode cX6_countFact 59 = .ok (.ireturn, 1) := by decide +kernel
theorem dX6_countFact_60 : decode cX6_countFact 60 = .ok (.aload_n 0, 1) := by decide +kernel
theorem dX6_countFact_61 : decode cX6_countFact 61 = .ok (.getfield 12, 3) := by decide +kernel
theorem dX6_countFact_64 : decode cX6_countFact 64 = .ok (.getfield 205, 3) := by decide +kernel
theorem dX6_countFact_67 : decode cX6_countFact 67 = .ok (.ireturn, 1) := by decide +kernel
theorem dX6_countFact_68 : decode cX6_countFact 68 = .ok (.aload_n 0, 1) := by decide +kernel
theorem dX6_countFact_69 : decode cX6_countFact 69 = .ok (.getfield 12, 3) := by decide +kernel
theorem dX6_countFact_72 : decode cX6_countFact 72 = .ok (.getfield 258, 3) := by decide +kernel
theorem dX6_countFact_75 : decode cX6_countFact 75 = .ok (.ireturn, 1) := by decide +kernel
theorem dX6_countFact_76 : decode cX6_countFact 76 = .ok (.aload_n 0, 1) := by decide +kernel
theorem dX6_countFact_77 : decode cX6_countFact 77 = .ok (.getfield 12, 3) := by decide +kernel
theorem dX6_countFact_80 : decode cX6_countFact 80 = .ok (.invokevirtual 305, 3) := by decide +kernel
theorem dX6_countFact_83 : decode cX6_countFact 83 = .ok (.ireturn, 1) := by decide +kernel
theorem dX6_countFact_84 : decode cX6_countFact 84 = .ok (.aload_n 0, 1) := by decide +kernel
theorem dX6_countFact_85 : decode cX6_countFact 85 = .ok (.getfield 39, 3) := by decide +kernel
theorem dX6_countFact_88 : decode cX6_countFact 88 = .ok (.aload_n 0, 1) := by decide +kernel
theorem dX6_countFact_89 : decode cX6_countFact 89 = .ok (.getfield 12, 3) := by decide +kernel
theorem dX6_countFact_92 : decode cX6_countFact 92 = .ok (.invokevirtual 307, 3) := by decide +kernel
theorem dX6_countFact_95 : decode cX6_countFact 95 = .ok (.ireturn, 1) := by decide +kernel
theorem dX6_countFact_96 : decode cX6_countFact 96 = .ok (.aload_n 0, 1) := by decide +kernel
theorem dX6_countFact_97 : decode cX6_countFact 97 = .ok (.getfield 12, 3) := by decide +kernel
theorem dX6_countFact_100 : decode cX6_countFact 100 = .ok (.invokevirtual 311, 3) := by decide +kernel
theorem dX6_countFact_103 : decode cX6_countFact 103 = .ok (.ireturn, 1) := by decide +kernel
theorem dX6_countFact_104 : decode cX6_countFact 104 = .ok (.aload_n 0, 1) := by decide +kernel
theorem dX6_countFact_105 : decode cX6_countFact 105 = .ok (.invokevirtual 314, 3) := by decide +kernel
theorem dX6_countFact_108 : decode cX6_countFact 108 = .ok (.ireturn, 1) := by decide +kernel
theorem dX6_messagesDone_0 : decode cX6_messagesDone 0 = .ok (.iconst 0, 1) := by decide +kernel
theorem dX6_messagesDone_1 : decode cX6_messagesDone 1 = .ok (.istore_n 1, 1) := by decide +kernel
theorem dX6_messagesDone_2 : decode cX6_messagesDone 2 = .ok (.iconst 0, 1) := by decide +kernel
theorem dX6_messagesDone_3 : decode cX6_messagesDone 3 = .ok (.istore_n 2, 1) := by decide +kernel
theorem dX6_messagesDone_4 : decode cX6_messagesDone 4 = .ok (.iload_n 2, 1) := by decide +kernel
theorem dX6_messagesDone_5 : decode cX6_messagesDone 5 = .ok (.aload_n 0, 1) := by decide +kernel
theorem dX6_messagesDone_6 : decode cX6_messagesDone 6 = .ok (.getfield 12, 3) := by decide +kernel
theorem dX6_messagesDone_9 : decode cX6_messagesDone 9 = .ok (.getfield 205, 3) := by decide +kernel
theorem dX6_messagesDone_12 : decode cX6_messagesDone 12 = .ok (.if_icmp .ge 27, 3) := by decide +kernel
theorem dX6_messagesDone_15 : decode cX6_messagesDone 15 = .ok (.aload_n 0, 1) := by decide +kernel
theorem dX6_messagesDone_16 : decode cX6_messagesDone 16 = .ok (.getfield 39, 3) := by decide +kernel
theorem dX6_messagesDone_19 : decode cX6_messagesDone 19 = .ok (.aload_n 0, 1) := by decide +kernel
theorem dX6_messagesDone_20 : decode cX6_messagesDone 20 = .ok (.getfield 12, 3) := by decide +kernel
theorem dX6_messagesDone_23 : decode cX6_messagesDone 23 = .ok (.iload_n 2, 1) := by decide +kernel
theorem dX6_messagesDone_24 : decode cX6_messagesDone 24 = .ok (.invokevirtual 255, 3) := by decide +kernel
theorem dX6_messagesDone_27 : decode cX6_messagesDone 27 = .ok (.ifCond .ne 6, 3) := by decide +kernel
theorem dX6_messagesDone_30 : decode cX6_messagesDone 30 = .ok (.iinc 1 1, 3) := by decide +kernel
theorem dX6_messagesDone_33 : decode cX6_messagesDone 33 = .ok (.iinc 2 1, 3) := by decide +kernel
theorem dX6_messagesDone_36 : decode cX6_messagesDone 36 = .ok (.goto (-32), 3) := by decide +kernel
theorem dX6_messagesDone_39 : decode cX6_messagesDone 39 = .ok (.iload_n 1, 1) := by decide +kernel
theorem dX6_messagesDone_40 : decode cX6_messagesDone 40 = .ok (.ireturn, 1) := by decide +kernel
theorem dX6_toldFact_0 : decode cX6_toldFact 0 = .ok (.iload_n 1, 1) := by decide +kernel
theorem dX6_toldFact_1 : decode cX6_toldFact 1 = .ok (.tableswitch 54 0 3 #[31, 36, 41, 46], 31) := by decide +kernel
theorem dX6_toldFact_32 : decode cX6_toldFact 32 = .ok (.aload_n 0, 1) := by decide +kernel
theorem dX6_toldFact_33 : decode cX6_toldFact 33 = .ok (.getfield 213, 3) := by decide +kernel
theorem dX6_toldFact_36 : decode cX6_toldFact 36 = .ok (.ireturn, 1) := by decide +kernel
theorem dX6_toldFact_37 : decode cX6_toldFact 37 = .ok (.aload_n 0, 1) := by decide +kernel
theorem dX6_toldFact_38 : decode cX6_toldFact 38 = .ok (.getfield 216, 3) := by decide +kernel
theorem dX6_toldFact_41 : decode cX6_toldFact 41 = .ok (.ireturn, 1) := by decide +kernel
theorem dX6_toldFact_42 : decode cX6_toldFact 42 = .ok (.aload_n 0, 1) := by decide +kernel
theorem dX6_toldFact_43 : decode cX6_toldFact 43 = .ok (.getfield 219, 3) := by decide +kernel
theorem dX6_toldFact_46 : decode cX6_toldFact 46 = .ok (.ireturn, 1) := by decide +kernel
theorem dX6_toldFact_47 : decode cX6_toldFact 47 = .ok (.aload_n 0, 1) := by decide +kernel
theorem dX6_toldFact_48 : decode cX6_toldFact 48 = .ok (.getfield 55, 3) := by decide +kernel
theorem dX6_toldFact_51 : decode cX6_toldFact 51 = .ok (.invokevirtual 159, 3) := by decide +kernel
theorem dX6_toldFact_54 : decode cX6_toldFact 54 = .ok (.ireturn, 1) := by decide +kernel
theorem dX6_toldFact_55 : decode cX6_toldFact 55 = .ok (.aload_n 0, 1) := by decide +kernel
theorem dX6_toldFact_56 : decode cX6_toldFact 56 = .ok (.getfield 25, 3) := by decide +kernel
theorem dX6_toldFact_59 : decode cX6_toldFact 59 = .ok (.invokevirtual 191, 3) := by decide +kernel
theorem dX6_toldFact_62 : decode cX6_toldFact 62 = .ok (.ireturn, 1) := by decide +kernel
theorem dX6_stepsUntilDone_0 : decode cX6_stepsUntilDone 0 = .ok (.aload_n 0, 1) := by decide +kernel
theorem dX6_stepsUntilDone_1 : decode cX6_stepsUntilDone 1 = .ok (.getfield 19, 3) := by decide +kernel
theorem dX6_stepsUntilDone_4 : decode cX6_stepsUntilDone 4 = .ok (.aload_n 0, 1) := by decide +kernel
theorem dX6_stepsUntilDone_5 : decode cX6_stepsUntilDone 5 = .ok (.getfield 12, 3) := by decide +kernel
theorem dX6_stepsUntilDone_8 : decode cX6_stepsUntilDone 8 = .ok (.invokevirtual 66, 3) := by decide +kernel
theorem dX6_stepsUntilDone_11 : decode cX6_stepsUntilDone 11 = .ok (.aload_n 0, 1) := by decide +kernel
theorem dX6_stepsUntilDone_12 : decode cX6_stepsUntilDone 12 = .ok (.getfield 48, 3) := by decide +kernel
theorem dX6_stepsUntilDone_15 : decode cX6_stepsUntilDone 15 = .ok (.aload_n 0, 1) := by decide +kernel
theorem dX6_stepsUntilDone_16 : decode cX6_stepsUntilDone 16 = .ok (.getfield 19, 3) := by decide +kernel
theorem dX6_stepsUntilDone_19 : decode cX6_stepsUntilDone 19 = .ok (.invokevirtual 248, 3) := by decide +kernel
theorem dX6_stepsUntilDone_22 : decode cX6_stepsUntilDone 22 = .ok (.iconst 0, 1) := by decide +kernel
theorem dX6_stepsUntilDone_23 : decode cX6_stepsUntilDone 23 = .ok (.istore_n 2, 1) := by decide +kernel
theorem dX6_stepsUntilDone_24 : decode cX6_stepsUntilDone 24 = .ok (.iload_n 2, 1) := by decide +kernel
theorem dX6_stepsUntilDone_25 : decode cX6_stepsUntilDone 25 = .ok (.sipush 400, 3) := by decide +kernel
theorem dX6_stepsUntilDone_28 : decode cX6_stepsUntilDone 28 = .ok (.if_icmp .gt 42, 3) := by decide +kernel
theorem dX6_stepsUntilDone_31 : decode cX6_stepsUntilDone 31 = .ok (.aload_n 0, 1) := by decide +kernel
theorem dX6_stepsUntilDone_32 : decode cX6_stepsUntilDone 32 = .ok (.getfield 39, 3) := by decide +kernel
theorem dX6_stepsUntilDone_35 : decode cX6_stepsUntilDone 35 = .ok (.aload_n 0, 1) := by decide +kernel
theorem dX6_stepsUntilDone_36 : decode cX6_stepsUntilDone 36 = .ok (.getfield 19, 3) := by decide +kernel
theorem dX6_stepsUntilDone_39 : decode cX6_stepsUntilDone 39 = .ok (.iload_n 1, 1) := by decide +kernel
theorem dX6_stepsUntilDone_40 : decode cX6_stepsUntilDone 40 = .ok (.invokevirtual 255, 3) := by decide +kernel
theorem dX6_stepsUntilDone_43 : decode cX6_stepsUntilDone 43 = .ok (.ifCond .ne 5, 3) := by decide +kernel
theorem dX6_stepsUntilDone_46 : decode cX6_stepsUntilDone 46 = .ok (.iload_n 2, 1) := by decide +kernel
theorem dX6_stepsUntilDone_47 : decode cX6_stepsUntilDone 47 = .ok (.ireturn, 1) := by decide +kernel
theorem dX6_stepsUntilDone_48 : decode cX6_stepsUntilDone 48 = .ok (.aload_n 0, 1) := by decide +kernel
theorem dX6_stepsUntilDone_49 : decode cX6_stepsUntilDone 49 = .ok (.getfield 48, 3) := by decide +kernel
theorem dX6_stepsUntilDone_52 : decode cX6_stepsUntilDone 52 = .ok (.aload_n 0, 1) := by decide +kernel
theorem dX6_stepsUntilDone_53 : decode cX6_stepsUntilDone 53 = .ok (.getfield 19, 3) := by decide +kernel
theorem dX6_stepsUntilDone_56 : decode cX6_stepsUntilDone 56 = .ok (.invokevirtual 317, 3) := by decide +kernel
theorem dX6_stepsUntilDone_59 : decode cX6_stepsUntilDone 59 = .ok (.ifCond .ne 5, 3) := by decide +kernel
theorem dX6_stepsUntilDone_62 : decode cX6_stepsUntilDone 62 = .ok (.iconst (-1), 1) := by decide +kernel
theorem dX6_stepsUntilDone_63 : decode cX6_stepsUntilDone 63 = .ok (.ireturn, 1) := by decide +kernel
theorem dX6_stepsUntilDone_64 : decode cX6_stepsUntilDone 64 = .ok (.iinc 2 1, 3) := by decide +kernel
theorem dX6_stepsUntilDone_67 : decode cX6_stepsUntilDone 67 = .ok (.goto (-43), 3) := by decide +kernel
theorem dX6_stepsUntilDone_70 : decode cX6_stepsUntilDone 70 = .ok (.iconst (-1), 1) := by decide +kernel
theorem dX6_stepsUntilDone_71 : decode cX6_stepsUntilDone 71 = .ok (.ireturn, 1) := by decide +kernel
theorem dX6_layAll_0 : decode cX6_layAll 0 = .ok (.aload_n 0, 1) := by decide +kernel
theorem dX6_layAll_1 : decode cX6_layAll 1 = .ok (.getfield 32, 3) := by decide +kernel
theorem dX6_layAll_4 : decode cX6_layAll 4 = .ok (.aload_n 0, 1) := by decide +kernel
theorem dX6_layAll_5 : decode cX6_layAll 5 = .ok (.getfield 12, 3) := by decide +kernel
theorem dX6_layAll_8 : decode cX6_layAll 8 = .ok (.getfield 299, 3) := by decide +kernel
theorem dX6_layAll_11 : decode cX6_layAll 11 = .ok (.aload_n 0, 1) := by decide +kernel
theorem dX6_layAll_12 : decode cX6_layAll 12 = .ok (.getfield 12, 3) := by decide +kernel
theorem dX6_layAll_15 : decode cX6_layAll 15 = .ok (.getfield 302, 3) := by decide +kernel
theorem dX6_layAll_18 : decode cX6_layAll 18 = .ok (.invokevirtual 63, 3) := by decide +kernel
theorem dX6_layAll_21 : decode cX6_layAll 21 = .ok (.iconst 0, 1) := by decide +kernel
theorem dX6_layAll_22 : decode cX6_layAll 22 = .ok (.istore_n 1, 1) := by decide +kernel
theorem dX6_layAll_23 : decode cX6_layAll 23 = .ok (.iload_n 1, 1) := by decide +kernel
theorem dX6_layAll_24 : decode cX6_layAll 24 = .ok (.aload_n 0, 1) := by decide +kernel
theorem dX6_layAll_25 : decode cX6_layAll 25 = .ok (.getfield 12, 3) := by decide +kernel
theorem dX6_layAll_28 : decode cX6_layAll 28 = .ok (.getfield 205, 3) := by decide +kernel
theorem dX6_layAll_31 : decode cX6_layAll 31 = .ok (.if_icmp .ge 14, 3) := by decide +kernel
theorem dX6_layAll_34 : decode cX6_layAll 34 = .ok (.aload_n 0, 1) := by decide +kernel
theorem dX6_layAll_35 : decode cX6_layAll 35 = .ok (.iload_n 1, 1) := by decide +kernel
theorem dX6_layAll_36 : decode cX6_layAll 36 = .ok (.invokevirtual 224, 3) := by decide +kernel
theorem dX6_layAll_39 : decode cX6_layAll 39 = .ok (.iinc 1 1, 3) := by decide +kernel
theorem dX6_layAll_42 : decode cX6_layAll 42 = .ok (.goto (-19), 3) := by decide +kernel
theorem dX6_layAll_45 : decode cX6_layAll 45 = .ok (.return_, 1) := by decide +kernel
theorem dX6_layMessage_0 : decode cX6_layMessage 0 = .ok (.aload_n 0, 1) := by decide +kernel
theorem dX6_layMessage_1 : decode cX6_layMessage 1 = .ok (.getfield 39, 3) := by decide +kernel
theorem dX6_layMessage_4 : decode cX6_layMessage 4 = .ok (.aload_n 0, 1) := by decide +kernel
theorem dX6_layMessage_5 : decode cX6_layMessage 5 = .ok (.getfield 32, 3) := by decide +kernel
theorem dX6_layMessage_8 : decode cX6_layMessage 8 = .ok (.aload_n 0, 1) := by decide +kernel
theorem dX6_layMessage_9 : decode cX6_layMessage 9 = .ok (.getfield 12, 3) := by decide +kernel
theorem dX6_layMessage_12 : decode cX6_layMessage 12 = .ok (.iload_n 1, 1) := by decide +kernel
theorem dX6_layMessage_13 : decode cX6_layMessage 13 = .ok (.iconst 2, 1) := by decide +kernel
theorem dX6_layMessage_14 : decode cX6_layMessage 14 = .ok (.imul, 1) := by decide +kernel
theorem dX6_layMessage_15 : decode cX6_layMessage 15 = .ok (.invokevirtual 320, 3) := by decide +kernel
theorem dX6_layMessage_18 : decode cX6_layMessage 18 = .ok (.aload_n 0, 1) := by decide +kernel
theorem dX6_layMessage_19 : decode cX6_layMessage 19 = .ok (.getfield 39, 3) := by decide +kernel
theorem dX6_layMessage_22 : decode cX6_layMessage 22 = .ok (.aload_n 0, 1) := by decide +kernel
theorem dX6_layMessage_23 : decode cX6_layMessage 23 = .ok (.getfield 32, 3) := by decide +kernel
theorem dX6_layMessage_26 : decode cX6_layMessage 26 = .ok (.aload_n 0, 1) := by decide +kernel
theorem dX6_layMessage_27 : decode cX6_layMessage 27 = .ok (.getfield 12, 3) := by decide +kernel
theorem dX6_layMessage_30 : decode cX6_layMessage 30 = .ok (.iload_n 1, 1) := by decide +kernel
theorem dX6_layMessage_31 : decode cX6_layMessage 31 = .ok (.iconst 2, 1) := by decide +kernel
theorem dX6_layMessage_32 : decode cX6_layMessage 32 = .ok (.imul, 1) := by decide +kernel
theorem dX6_layMessage_33 : decode cX6_layMessage 33 = .ok (.iconst 1, 1) := by decide +kernel
theorem dX6_layMessage_34 : decode cX6_layMessage 34 = .ok (.iadd, 1) := by decide +kernel
theorem dX6_layMessage_35 : decode cX6_layMessage 35 = .ok (.invokevirtual 320, 3) := by decide +kernel
theorem dX6_layMessage_38 : decode cX6_layMessage 38 = .ok (.return_, 1) := by decide +kernel
theorem dX7_init_0 : decode cX7_init 0 = .ok (.aload_n 0, 1) := by decide +kernel
theorem dX7_init_1 : decode cX7_init 1 = .ok (.invokespecial 1, 3) := by decide +kernel
theorem dX7_init_4 : decode cX7_init 4 = .ok (.aload_n 0, 1) := by decide +kernel
theorem dX7_init_5 : decode cX7_init 5 = .ok (.bipush 80, 2) := by decide +kernel
theorem dX7_init_7 : decode cX7_init 7 = .ok (.newarray .int, 2) := by decide +kernel
theorem dX7_init_9 : decode cX7_init 9 = .ok (.putfield 7, 3) := by decide +kernel
theorem dX7_init_12 : decode cX7_init 12 = .ok (.aload_n 0, 1) := by decide +kernel
theorem dX7_init_13 : decode cX7_init 13 = .ok (.bipush 80, 2) := by decide +kernel
theorem dX7_init_15 : decode cX7_init 15 = .ok (.newarray .int, 2) := by decide +kernel
theorem dX7_init_17 : decode cX7_init 17 = .ok (.putfield 13, 3) := by decide +kernel
theorem dX7_init_20 : decode cX7_init 20 = .ok (.aload_n 0, 1) := by decide +kernel
theorem dX7_init_21 : decode cX7_init 21 = .ok (.sipush 400, 3) := by decide +kernel
theorem dX7_init_24 : decode cX7_init 24 = .ok (.newarray .int, 2) := by decide +kernel
theorem dX7_init_26 : decode cX7_init 26 = .ok (.putfield 16, 3) := by decide +kernel
theorem dX7_init_29 : decode cX7_init 29 = .ok (.aload_n 0, 1) := by decide +kernel
theorem dX7_init_30 : decode cX7_init 30 = .ok (.iconst 3, 1) := by decide +kernel
theorem dX7_init_31 : decode cX7_init 31 = .ok (.newarray .int, 2) := by decide +kernel
theorem dX7_init_33 : decode cX7_init 33 = .ok (.putfield 19, 3) := by decide +kernel
theorem dX7_init_36 : decode cX7_init 36 = .ok (.aload_n 0, 1) := by decide +kernel
theorem dX7_init_37 : decode cX7_init 37 = .ok (.bipush 120, 2) := by decide +kernel
theorem dX7_init_39 : decode cX7_init 39 = .ok (.newarray .int, 2) := by decide +kernel
theorem dX7_init_41 : decode cX7_init 41 = .ok (.putfield 22, 3) := by decide +kernel
theorem dX7_init_44 : decode cX7_init 44 = .ok (.aload_n 0, 1) := by decide +kernel
theorem dX7_init_45 : decode cX7_init 45 = .ok (.sipush 370, 3) := by decide +kernel
theorem dX7_init_48 : decode cX7_init 48 = .ok (.newarray .int, 2) := by decide +kernel
theorem dX7_init_50 : decode cX7_init 50 = .ok (.putfield 25, 3) := by decide +kernel
theorem dX7_init_53 : decode cX7_init 53 = .ok (.aload_n 0, 1) := by decide +kernel
theorem dX7_init_54 : decode cX7_init 54 = .ok (.bipush 10, 2) := by decide +kernel
theorem dX7_init_56 : decode cX7_init 56 = .ok (.newarray .int, 2) := by decide +kernel
theorem dX7_init_58 : decode cX7_init 58 = .ok (.putfield 28, 3) := by decide +kernel
theorem dX7_init_61 : decode cX7_init 61 = .ok (.aload_n 0, 1) := by decide +kernel
theorem dX7_init_62 : decode cX7_init 62 = .ok (.bipush 10, 2) := by decide +kernel
theorem dX7_init_64 : decode cX7_init 64 = .ok (.newarray .int, 2) := by decide +kernel
theorem dX7_init_66 : decode cX7_init 66 = .ok (.putfield 31, 3) := by decide +kernel
theorem dX7_init_69 : decode cX7_init 69 = .ok (.aload_n 0, 1) := by decide +kernel
theorem dX7_init_70 : decode cX7_init 70 = .ok (.sipush 360, 3) := by decide +kernel
theorem dX7_init_73 : decode cX7_init 73 = .ok (.newarray .int, 2) := by decide +kernel
theorem dX7_init_75 : decode cX7_init 75 = .ok (.putfield 34, 3) := by decide +kernel
theorem dX7_init_78 : decode cX7_init 78 = .ok (.aload_n 0, 1) := by decide +kernel
theorem dX7_init_79 : decode cX7_init 79 = .ok (.bipush 60, 2) := by decide +kernel
theorem dX7_init_81 : decode cX7_init 81 = .ok (.newarray .int, 2) := by decide +kernel
theorem dX7_init_83 : decode cX7_init 83 = .ok (.putfield 37, 3) := by decide +kernel
theorem dX7_init_86 : decode cX7_init 86 = .ok (.aload_n 0, 1) := by decide +kernel
theorem dX7_init_87 : decode cX7_init 87 = .ok (.sipush 180, 3) := by decide +kernel
theorem dX7_init_90 : decode cX7_init 90 = .ok (.newarray .int, 2) := by decide +kernel
theorem dX7_init_92 : decode cX7_init 92 = .ok (.putfield 40, 3) := by decide +kernel
theorem dX7_init_95 : decode cX7_init 95 = .ok (.aload_n 0, 1) := by decide +kernel
theorem dX7_init_96 : decode cX7_init 96 = .ok (.getfield 7, 3) := by decide +kernel
theorem dX7_init_99 : decode cX7_init 99 = .ok (.iconst 0, 1) := by decide +kernel
theorem dX7_init_100 : decode cX7_init 100 = .ok (.iconst 4, 1) := by decide +kernel
theorem dX7_init_101 : decode cX7_init 101 = .ok (.iastore, 1) := by decide +kernel
theorem dX7_init_102 : decode cX7_init 102 = .ok (.aload_n 0, 1) := by decide +kernel
theorem dX7_init_103 : decode cX7_init 103 = .ok (.getfield 7, 3) := by decide +kernel
theorem dX7_init_106 : decode cX7_init 106 = .ok (.iconst 1, 1) := by decide +kernel
theorem dX7_init_107 : decode cX7_init 107 = .ok (.iconst 4, 1) := by decide +kernel
theorem dX7_init_108 : decode cX7_init 108 = .ok (.iastore, 1) := by decide +kernel
theorem dX7_init_109 : decode cX7_init 109 = .ok (.return_, 1) := by decide +kernel
theorem dX7_in_0 : decode cX7_in 0 = .ok (.iload_n 0, 1) := by decide +kernel
theorem dX7_in_1 : decode cX7_in 1 = .ok (.iload_n 1, 1) := by decide +kernel
theorem dX7_in_2 : decode cX7_in 2 = .ok (.if_icmp .lt 12, 3) := by decide +kernel
theorem dX7_in_5 : decode cX7_in 5 = .ok (.iload_n 0, 1) := by decide +kernel
theorem dX7_in_6 : decode cX7_in 6 = .ok (.iload_n 2, 1) := by decide +kernel
theorem dX7_in_7 : decode cX7_in 7 = .ok (.if_icmp .gt 7, 3) := by decide +kernel
theorem dX7_in_10 : decode cX7_in 10 = .ok (.iconst 1, 1) := by decide +kernel
theorem dX7_in_11 : decode cX7_in 11 = .ok (.goto 4, 3) := by decide +kernel
theorem dX7_in_14 : decode cX7_in 14 = .ok (.iconst 0, 1) := by decide +kernel
theorem dX7_in_15 : decode cX7_in 15 = .ok (.ireturn, 1) := by decide +kernel
theorem dX7_refuses_0 : decode cX7_refuses 0 = .ok (.aload_n 0, 1) := by decide +kernel
theorem dX7_refuses_1 : decode cX7_refuses 1 = .ok (.getfield 19, 3) := by decide +kernel
theorem dX7_refuses_4 : decode cX7_refuses 4 = .ok (.bipush (-2), 2) := by decide +kernel
theorem dX7_refuses_6 : decode cX7_refuses 6 = .ok (.iload_n 1, 1) := by decide +kernel
theorem dX7_refuses_7 : decode cX7_refuses 7 = .ok (.isub, 1) := by decide +kernel
theorem dX7_refuses_8 : decode cX7_refuses 8 = .ok (.dup2, 1) := by decide +kernel
theorem dX7_refuses_9 : decode cX7_refuses 9 = .ok (.iaload, 1) := by decide +kernel
theorem dX7_refuses_10 : decode cX7_refuses 10 = .ok (.iconst 1, 1) := by decide +kernel
theorem dX7_refuses_11 : decode cX7_refuses 11 = .ok (.iadd, 1) := by decide +kernel
theorem dX7_refuses_12 : decode cX7_refuses 12 = .ok (.iastore, 1) := by decide +kernel
theorem dX7_refuses_13 : decode cX7_refuses 13 = .ok (.iload_n 1, 1) := by decide +kernel
theorem dX7_refuses_14 : decode cX7_refuses 14 = .ok (.ireturn, 1) := by decide +kernel
theorem dX7_laysAside_0 : decode cX7_laysAside 0 = .ok (.iconst 0, 1) := by decide +kernel
theorem dX7_laysAside_1 : decode cX7_laysAside 1 = .ok (.istore_n 1, 1) := by decide +kernel
theorem dX7_laysAside_2 : decode cX7_laysAside 2 = .ok (.iload_n 1, 1) := by decide +kernel
theorem dX7_laysAside_3 : decode cX7_laysAside 3 = .ok (.bipush 80, 2) := by decide +kernel
theorem dX7_laysAside_5 : decode cX7_laysAside 5 = .ok (.if_icmp .ge 21, 3) := by decide +kernel
theorem dX7_laysAside_8 : decode cX7_laysAside 8 = .ok (.aload_n 0, 1) := by decide +kernel
theorem dX7_laysAside_9 : decode cX7_laysAside 9 = .ok (.getfield 13, 3) := by decide +kernel
theorem dX7_laysAside_12 : decode cX7_laysAside 12 = .ok (.iload_n 1, 1) := by decide +kernel
theorem dX7_laysAside_13 : decode cX7_laysAside 13 = .ok (.aload_n 0, 1) := by decide +kernel
theorem dX7_laysAside_14 : decode cX7_laysAside 14 = .ok (.getfield 7, 3) := by decide +kernel
theorem dX7_laysAside_17 : decode cX7_laysAside 17 = .ok (.iload_n 1, 1) := by decide +kernel
theorem dX7_laysAside_18 : decode cX7_laysAside 18 = .ok (.iaload, 1) := by decide +kernel
theorem dX7_laysAside_19 : decode cX7_laysAside 19 = .ok (.iastore, 1) := by decide +kernel
theorem dX7_laysAside_20 : decode cX7_laysAside 20 = .ok (.iinc 1 1, 3) := by decide +kernel
theorem dX7_laysAside_23 : decode cX7_laysAside 23 = .ok (.goto (-21), 3) := by decide +kernel
theorem dX7_laysAside_26 : decode cX7_laysAside 26 = .ok (.return_, 1) := by decide +kernel
theorem dX7_takesBack_0 : decode cX7_takesBack 0 = .ok (.iconst 0, 1) := by decide +kernel
theorem dX7_takesBack_1 : decode cX7_takesBack 1 = .ok (.istore_n 1, 1) := by decide +kernel
theorem dX7_takesBack_2 : decode cX7_takesBack 2 = .ok (.iload_n 1, 1) := by decide +kernel
theorem dX7_takesBack_3 : decode cX7_takesBack 3 = .ok (.bipush 80, 2) := by decide +kernel
theorem dX7_takesBack_5 : decode cX7_takesBack 5 = .ok (.if_icmp .ge 21, 3) := by decide +kernel
theorem dX7_takesBack_8 : decode cX7_takesBack 8 = .ok (.aload_n 0, 1) := by decide +kernel
theorem dX7_takesBack_9 : decode cX7_takesBack 9 = .ok (.getfield 7, 3) := by decide +kernel
theorem dX7_takesBack_12 : decode cX7_takesBack 12 = .ok (.iload_n 1, 1) := by decide +kernel
theorem dX7_takesBack_13 : decode cX7_takesBack 13 = .ok (.aload_n 0, 1) := by decide +kernel
theorem dX7_takesBack_14 : decode cX7_takesBack 14 = .ok (.getfield 13, 3) := by decide +kernel
theorem dX7_takesBack_17 : decode cX7_takesBack 17 = .ok (.iload_n 1, 1) := by decide +kernel
theorem dX7_takesBack_18 : decode cX7_takesBack 18 = .ok (.iaload, 1) := by decide +kernel
theorem dX7_takesBack_19 : decode cX7_takesBack 19 = .ok (.iastore, 1) := by decide +kernel
theorem dX7_takesBack_20 : decode cX7_takesBack 20 = .ok (.iinc 1 1, 3) := by decide +kernel
theorem dX7_takesBack_23 : decode cX7_takesBack 23 = .ok (.goto (-21), 3) := by decide +kernel
theorem dX7_takesBack_26 : decode cX7_takesBack 26 = .ok (.return_, 1) := by decide +kernel
theorem dX7_remembers_0 : decode cX7_remembers 0 = .ok (.aload_n 0, 1) := by decide +kernel
theorem dX7_remembers_1 : decode cX7_remembers 1 = .ok (.getfield 43, 3) := by decide +kernel
theorem dX7_remembers_4 : decode cX7_remembers 4 = .ok (.iconst 5, 1) := by decide +kernel
theorem dX7_remembers_5 : decode cX7_remembers 5 = .ok (.if_icmp .ne 43, 3) := by decide +kernel
theorem dX7_remembers_8 : decode cX7_remembers 8 = .ok (.iconst 0, 1) := by decide +kernel
theorem dX7_remembers_9 : decode cX7_remembers 9 = .ok (.istore_n 1, 1) := by decide +kernel
theorem dX7_remembers_10 : decode cX7_remembers 10 = .ok (.iload_n 1, 1) := by decide +kernel
theorem dX7_remembers_11 : decode cX7_remembers 11 = .ok (.sipush 320, 3) := by decide +kernel
theorem dX7_remembers_14 : decode cX7_remembers 14 = .ok (.if_icmp .ge 24, 3) := by decide +kernel
theorem dX7_remembers_17 : decode cX7_remembers 17 = .ok (.aload_n 0, 1) := by decide +kernel
theorem dX7_remembers_18 : decode cX7_remembers 18 = .ok (.getfield 16, 3) := by decide +kernel
theorem dX7_remembers_21 : decode cX7_remembers 21 = .ok (.iload_n 1, 1) := by decide +kernel
theorem dX7_remembers_22 : decode cX7_remembers 22 = .ok (.aload_n 0, 1) := by decide +kernel
theorem dX7_remembers_23 : decode cX7_remembers 23 = .ok (.getfield 16, 3) := by decide +kernel
theorem dX7_remembers_26 : decode cX7_remembers 26 = .ok (.iload_n 1, 1) := by decide +kernel
theorem dX7_remembers_27 : decode cX7_remembers 27 = .ok (.bipush 80, 2) := by decide +kernel
theorem dX7_remembers_29 : decode cX7_remembers 29 = .ok (.iadd, 1) := by decide +kernel
theorem dX7_remembers_30 : decode cX7_remembers 30 = .ok (.iaload, 1) := by decide +kernel
theorem dX7_remembers_31 : decode cX7_remembers 31 = .ok (.iastore, 1) := by decide +kernel
theorem dX7_remembers_32 : decode cX7_remembers 32 = .ok (.iinc 1 1, 3) := by decide +kernel
theorem dX7_remembers_35 : decode cX7_remembers 35 = .ok (.goto (-25), 3) := by decide +kernel
theorem dX7_remembers_38 : decode cX7_remembers 38 = .ok (.aload_n 0, 1) := by decide +kernel
theorem dX7_remembers_39 : decode cX7_remembers 39 = .ok (.dup, 1) := by decide +kernel
theorem dX7_remembers_40 : decode cX7_remembers 40 = .ok (.getfield 43, 3) := by decide +kernel
theorem dX7_remembers_43 : decode cX7_remembers 43 = .ok (.iconst 1, 1) := by decide +kernel
theorem dX7_remembers_44 : decode cX7_remembers 44 = .ok (.isub, 1) := by decide +kernel
theorem dX7_remembers_45 : decode cX7_remembers 45 = .ok (.putfield 43, 3) := by decide +kernel
theorem dX7_remembers_48 : decode cX7_remembers 48 = .ok (.iconst 0, 1) := by decide +kernel
theorem dX7_remembers_49 : decode cX7_remembers 49 = .ok (.istore_n 1, 1) := by decide +kernel
theorem dX7_remembers_50 : decode cX7_remembers 50 = .ok (.iload_n 1, 1) := by decide +kernel
theorem dX7_remembers_51 : decode cX7_remembers 51 = .ok (.bipush 80, 2) := by decide +kernel
theorem dX7_remembers_53 : decode cX7_remembers 53 = .ok (.if_icmp .ge 29, 3) := by decide +kernel
theorem dX7_remembers_56 : decode cX7_remembers 56 = .ok (.aload_n 0, 1) := by decide +kernel
theorem dX7_remembers_57 : decode cX7_remembers 57 = .ok (.getfield 16, 3) := by decide +kernel
theorem dX7_remembers_60 : decode cX7_remembers 60 = .ok (.bipush 80, 2) := by decide +kernel
theorem dX7_remembers_62 : decode cX7_remembers 62 = .ok (.aload_n 0, 1) := by decide +kernel
theorem dX7_remembers_63 : decode cX7_remembers 63 = .ok (.getfield 43, 3) := by decide +kernel
theorem dX7_remembers_66 : decode cX7_remembers 66 = .ok (.imul, 1) := by decide +kernel
theorem dX7_remembers_67 : decode cX7_remembers 67 = .ok (.iload_n 1, 1) := by decide +kernel
theorem dX7_remembers_68 : decode cX7_remembers 68 = .ok (.iadd, 1) := by decide +kernel
theorem dX7_remembers_69 : decode cX7_remembers 69 = .ok (.aload_n 0, 1) := by decide +kernel
theorem dX7_remembers_70 : decode cX7_remembers 70 = .ok (.getfield 13, 3) := by decide +kernel
theorem dX7_remembers_73 : decode cX7_remembers 73 = .ok (.iload_n 1, 1) := by decide +kernel
theorem dX7_remembers_74 : decode cX7_remembers 74 = .ok (.iaload, 1) := by decide +kernel
theorem dX7_remembers_75 : decode cX7_remembers 75 = .ok (.iastore, 1) := by decide +kernel
theorem dX7_remembers_76 : decode cX7_remembers 76 = .ok (.iinc 1 1, 3) := by decide +kernel
theorem dX7_remembers_79 : decode cX7_remembers 79 = .ok (.goto (-29), 3) := by decide +kernel
theorem dX7_remembers_82 : decode cX7_remembers 82 = .ok (.aload_n 0, 1) := by decide +kernel
theorem dX7_remembers_83 : decode cX7_remembers 83 = .ok (.dup, 1) := by decide +kernel
theorem dX7_remembers_84 : decode cX7_remembers 84 = .ok (.getfield 43, 3) := by decide +kernel
theorem dX7_remembers_87 : decode cX7_remembers 87 = .ok (.iconst 1, 1) := by decide +kernel
theorem dX7_remembers_88 : decode cX7_remembers 88 = .ok (.iadd, 1) := by decide +kernel
theorem dX7_remembers_89 : decode cX7_remembers 89 = .ok (.putfield 43, 3) := by decide +kernel
theorem dX7_remembers_92 : decode cX7_remembers 92 = .ok (.return_, 1) := by decide +kernel
theorem dX7_back_0 : decode cX7_back 0 = .ok (.aload_n 0, 1) := by decide +kernel
theorem dX7_back_1 : decode cX7_back 1 = .ok (.getfield 43, 3) := by decide +kernel
theorem dX7_back_4 : decode cX7_back 4 = .ok (.ifCond .ne 10, 3) := by decide +kernel
theorem dX7_back_7 : decode cX7_back 7 = .ok (.aload_n 0, 1) := by decide +kernel
theorem dX7_back_8 : decode cX7_back 8 = .ok (.bipush (-3), 2) := by decide +kernel
theorem dX7_back_10 : decode cX7_back 10 = .ok (.invokevirtual 47, 3) := by decide +kernel
theorem dX7_back_13 : decode cX7_back 13 = .ok (.ireturn, 1) := by decide +kernel
theorem dX7_back_14 : decode cX7_back 14 = .ok (.aload_n 0, 1) := by decide +kernel
theorem dX7_back_15 : decode cX7_back 15 = .ok (.dup, 1) := by decide +kernel
theorem dX7_back_16 : decode cX7_back 16 = .ok (.getfield 43, 3) := by decide +kernel
theorem dX7_back_19 : decode cX7_back 19 = .ok (.iconst 1, 1) := by decide +kernel
theorem dX7_back_20 : decode cX7_back 20 = .ok (.isub, 1) := by decide +kernel
theorem dX7_back_21 : decode cX7_back 21 = .ok (.putfield 43, 3) := by decide +kernel
theorem dX7_back_24 : decode cX7_back 24 = .ok (.iconst 0, 1) := by decide +kernel
theorem dX7_back_25 : decode cX7_back 25 = .ok (.istore_n 1, 1) := by decide +kernel
theorem dX7_back_26 : decode cX7_back 26 = .ok (.iload_n 1, 1) := by decide +kernel
theorem dX7_back_27 : decode cX7_back 27 = .ok (.bipush 80, 2) := by decide +kernel
theorem dX7_back_29 : decode cX7_back 29 = .ok (.if_icmp .ge 29, 3) := by decide +kernel
theorem dX7_back_32 : decode cX7_back 32 = .ok (.aload_n 0, 1) := by decide +kernel
theorem dX7_back_33 : decode cX7_back 33 = .ok (.getfield 7, 3) := by decide +kernel
theorem dX7_back_36 : decode cX7_back 36 = .ok (.iload_n 1, 1) := by decide +kernel
theorem dX7_back_37 : decode cX7_back 37 = .ok (.aload_n 0, 1) := by decide +kernel
theorem dX7_back_38 : decode cX7_back 38 = .ok (.getfield 16, 3) := by decide +kernel
theorem dX7_back_41 : decode cX7_back 41 = .ok (.bipush 80, 2) := by decide +kernel
theorem dX7_back_43 : decode cX7_back 43 = .ok (.aload_n 0, 1) := by decide +kernel
theorem dX7_back_44 : decode cX7_back 44 = .ok (.getfield 43, 3) := by decide +kernel
theorem dX7_back_47 : decode cX7_back 47 = .ok (.imul, 1) := by decide +kernel
theorem dX7_back_48 : decode cX7_back 48 = .ok (.iload_n 1, 1) := by decide +kernel
theorem dX7_back_49 : decode cX7_back 49 = .ok (.iadd, 1) := by decide +kernel
theorem dX7_back_50 : decode cX7_back 50 = .ok (.iaload, 1) := by decide +kernel
theorem dX7_back_51 : decode cX7_back 51 = .ok (.iastore, 1) := by decide +kernel
theorem dX7_back_52 : decode cX7_back 52 = .ok (.iinc 1 1, 3) := by decide +kernel
theorem dX7_back_55 : decode cX7_back 55 = .ok (.goto (-29), 3) := by decide +kernel
theorem dX7_back_58 : decode cX7_back 58 = .ok (.aload_n 0, 1) := by decide +kernel
theorem dX7_back_59 : decode cX7_back 59 = .ok (.getfield 43, 3) := by decide +kernel
theorem dX7_back_62 : decode cX7_back 62 = .ok (.ireturn, 1) := by decide +kernel
theorem dX7_finished_0 : decode cX7_finished 0 = .ok (.iload_n 1, 1) := by decide +kernel
theorem dX7_finished_1 : decode cX7_finished 1 = .ok (.bipush (-2), 2) := by decide +kernel
theorem dX7_finished_3 : decode cX7_finished 3 = .ok (.if_icmp .gt 9, 3) := by decide +kernel
theorem dX7_finished_6 : decode cX7_finished 6 = .ok (.aload_n 0, 1) := by decide +kernel
theorem dX7_finished_7 : decode cX7_finished 7 = .ok (.iload_n 1, 1) := by decide +kernel
theorem dX7_finished_8 : decode cX7_finished 8 = .ok (.invokevirtual 47, 3) := by decide +kernel
theorem dX7_finished_11 : decode cX7_finished 11 = .ok (.ireturn, 1) := by decide +kernel
theorem dX7_finished_12 : decode cX7_finished 12 = .ok (.aload_n 0, 1) := by decide +kernel
theorem dX7_finished_13 : decode cX7_finished 13 = .ok (.invokevirtual 51, 3) := by decide +kernel
theorem dX7_finished_16 : decode cX7_finished 16 = .ok (.iload_n 1, 1) := by decide +kernel
theorem dX7_finished_17 : decode cX7_finished 17 = .ok (.ireturn, 1) := by decide +kernel
theorem dX7_isPlace_0 : decode cX7_isPlace 0 = .ok (.iload_n 1, 1) := by decide +kernel
theorem dX7_isPlace_1 : decode cX7_isPlace 1 = .ok (.iconst 0, 1) := by decide +kernel
theorem dX7_isPlace_2 : decode cX7_isPlace 2 = .ok (.aload_n 0, 1) := by decide +kernel
theorem dX7_isPlace_3 : decode cX7_isPlace 3 = .ok (.getfield 7, 3) := by decide +kernel
theorem dX7_isPlace_6 : decode cX7_isPlace 6 = .ok (.iconst 0, 1) := by decide +kernel
theorem dX7_isPlace_7 : decode cX7_isPlace 7 = .ok (.iaload, 1) := by decide +kernel
theorem dX7_isPlace_8 : decode cX7_isPlace 8 = .ok (.iconst 1, 1) := by decide +kernel
theorem dX7_isPlace_9 : decode cX7_isPlace 9 = .ok (.isub, 1) := by decide +kernel
theorem dX7_isPlace_10 : decode cX7_isPlace 10 = .ok (.invokestatic 54, 3) := by decide +kernel
theorem dX7_isPlace_13 : decode cX7_isPlace 13 = .ok (.ifCond .eq 23, 3) := by decide +kernel
theorem dX7_isPlace_16 : decode cX7_isPlace 16 = .ok (.iload_n 2, 1) := by decide +kernel
theorem dX7_isPlace_17 : decode cX7_isPlace 17 = .ok (.iconst 0, 1) := by decide +kernel
theorem dX7_isPlace_18 : decode cX7_isPlace 18 = .ok (.aload_n 0, 1) := by decide +kernel
theorem dX7_isPlace_19 : decode cX7_isPlace 19 = .ok (.getfield 7, 3) := by decide +kernel
theorem dX7_isPlace_22 : decode cX7_isPlace 22 = .ok (.iconst 1, 1) := by decide +kernel
theorem dX7_isPlace_23 : decode cX7_isPlace 23 = .ok (.iaload, 1) := by decide +kernel
theorem dX7_isPlace_24 : decode cX7_isPlace 24 = .ok (.iconst 1, 1) := by decide +kernel
theorem dX7_isPlace_25 : decode cX7_isPlace 25 = .ok (.isub, 1) := by decide +kernel
theorem dX7_isPlace_26 : decode cX7_isPlace 26 = .ok (.invokestatic 54, 3) := by decide +kernel
theorem dX7_isPlace_29 : decode cX7_isPlace 29 = .ok (.ifCond .eq 7, 3) := by decide +kernel
theorem dX7_isPlace_32 : decode cX7_isPlace 32 = .ok (.iconst 1, 1) := by decide +kernel
theorem dX7_isPlace_33 : decode cX7_isPlace 33 = .ok (.goto 4, 3) := by decide +kernel
theorem dX7_isPlace_36 : decode cX7_isPlace 36 = .ok (.iconst 0, 1) := by decide +kernel
theorem dX7_isPlace_37 : decode cX7_isPlace 37 = .ok (.ireturn, 1) := by decide +kernel
theorem dX7_labelOf_0 : decode cX7_labelOf 0 = .ok (.iload_n 2, 1) := by decide +kernel
theorem dX7_labelOf_1 : decode cX7_labelOf 1 = .ok (.aload_n 0, 1) := by decide +kernel
theorem dX7_labelOf_2 : decode cX7_labelOf 2 = .ok (.getfield 7, 3) := by decide +kernel
theorem dX7_labelOf_5 : decode cX7_labelOf 5 = .ok (.iconst 0, 1) := by decide +kernel
theorem dX7_labelOf_6 : decode cX7_labelOf 6 = .ok (.iaload, 1) := by decide +kernel
theorem dX7_labelOf_7 : decode cX7_labelOf 7 = .ok (.imul, 1) := by decide +kernel
theorem dX7_labelOf_8 : decode cX7_labelOf 8 = .ok (.iload_n 2, 1) := by decide +kernel
theorem dX7_labelOf_9 : decode cX7_labelOf 9 = .ok (.iconst 2, 1) := by decide +kernel
theorem dX7_labelOf_10 : decode cX7_labelOf 10 = .ok (.irem, 1) := by decide +kernel
theorem dX7_labelOf_11 : decode cX7_labelOf 11 = .ok (.ifCond .ne 7, 3) := by decide +kernel
theorem dX7_labelOf_14 : decode cX7_labelOf 14 = .ok (.iload_n 1, 1) := by decide +kernel
theorem dX7_labelOf_15 : decode cX7_labelOf 15 = .ok (.goto 13, 3) := by decide +kernel
theorem dX7_labelOf_18 : decode cX7_labelOf 18 = .ok (.aload_n 0, 1) := by decide +kernel
theorem dX7_labelOf_19 : decode cX7_labelOf 19 = .ok (.getfield 7, 3) := by decide +kernel
theorem dX7_labelOf_22 : decode cX7_labelOf 22 = .ok (.iconst 0, 1) := by decide +kernel
theorem dX7_labelOf_23 : decode cX7_labelOf 23 = .ok (.iaload, 1) := by decide +kernel
theorem dX7_labelOf_24 : decode cX7_labelOf 24 = .ok (.iconst 1, 1) := by decide +kernel
theorem dX7_labelOf_25 : decode cX7_labelOf 25 = .ok (.isub, 1) := by decide +kernel
theorem dX7_labelOf_26 : decode cX7_labelOf 26 = .ok (.iload_n 1, 1) := by decide +kernel
theorem dX7_labelOf_27 : decode cX7_labelOf 27 = .ok (.isub, 1) := by decide +kernel
theorem dX7_labelOf_28 : decode cX7_labelOf 28 = .ok (.iadd, 1) := by decide +kernel
theorem dX7_labelOf_29 : decode cX7_labelOf 29 = .ok (.ireturn, 1) := by decide +kernel
theorem dX7_xOf_0 : decode cX7_xOf 0 = .ok (.iload_n 1, 1) := by decide +kernel
theorem dX7_xOf_1 : decode cX7_xOf 1 = .ok (.aload_n 0, 1) := by decide +kernel
theorem dX7_xOf_2 : decode cX7_xOf 2 = .ok (.getfield 7, 3) := by decide +kernel
theorem dX7_xOf_5 : decode cX7_xOf 5 = .ok (.iconst 0, 1) := by decide +kernel
theorem dX7_xOf_6 : decode cX7_xOf 6 = .ok (.iaload, 1) := by decide +kernel
theorem dX7_xOf_7 : decode cX7_xOf 7 = .ok (.irem, 1) := by decide +kernel
theorem dX7_xOf_8 : decode cX7_xOf 8 = .ok (.istore_n 2, 1) := by decide +kernel
theorem dX7_xOf_9 : decode cX7_xOf 9 = .ok (.iload_n 1, 1) := by decide +kernel
theorem dX7_xOf_10 : decode cX7_xOf 10 = .ok (.aload_n 0, 1) := by decide +kernel
theorem dX7_xOf_11 : decode cX7_xOf 11 = .ok (.getfield 7, 3) := by decide +kernel
theorem dX7_xOf_14 : decode cX7_xOf 14 = .ok (.iconst 0, 1) := by decide +kernel
theorem dX7_xOf_15 : decode cX7_xOf 15 = .ok (.iaload, 1) := by decide +kernel
theorem dX7_xOf_16 : decode cX7_xOf 16 = .ok (.idiv, 1) := by decide +kernel
theorem dX7_xOf_17 : decode cX7_xOf 17 = .ok (.iconst 2, 1) := by decide +kernel
theorem dX7_xOf_18 : decode cX7_xOf 18 = .ok (.irem, 1) := by decide +kernel
theorem dX7_xOf_19 : decode cX7_xOf 19 = .ok (.ifCond .ne 7, 3) := by decide +kernel
theorem dX7_xOf_22 : decode cX7_xOf 22 = .ok (.iload_n 2, 1) := by decide +kernel
theorem dX7_xOf_23 : decode cX7_xOf 23 = .ok (.goto 13, 3) := by decide +kernel
theorem dX7_xOf_26 : decode cX7_xOf 26 = .ok (.aload_n 0, 1) := by decide +kernel
theorem dX7_xOf_27 : decode cX7_xOf 27 = .ok (.getfield 7, 3) := by decide +kernel
theorem dX7_xOf_30 : decode cX7_xOf 30 = .ok (.iconst 0, 1) := by decide +kernel
theorem dX7_xOf_31 : decode cX7_xOf 31 = .ok (.iaload, 1) := by decide +kernel
theorem dX7_xOf_32 : decode cX7_xOf 32 = .ok (.iconst 1, 1) := by decide +kernel
theorem dX7_xOf_33 : decode cX7_xOf 33 = .ok (.isub, 1) := by decide +kernel
theorem dX7_xOf_34 : decode cX7_xOf 34 = .ok (.iload_n 2, 1) := by decide +kernel
theorem dX7_xOf_35 : decode cX7_xOf 35 = .ok (.isub, 1) := by decide +kernel
theorem dX7_xOf_36 : decode cX7_xOf 36 = .ok (.ireturn, 1) := by decide +kernel
theorem dX7_yOf_0 : decode cX7_yOf 0 = .ok (.iload_n 1, 1) := by decide +kernel
theorem dX7_yOf_1 : decode cX7_yOf 1 = .ok (.aload_n 0, 1) := by decide +kernel
theorem dX7_yOf_2 : decode cX7_yOf 2 = .ok (.getfield 7, 3) := by decide +kernel
theorem dX7_yOf_5 : decode cX7_yOf 5 = .ok (.iconst 0, 1) := by decide +kernel
theorem dX7_yOf_6 : decode cX7_yOf 6 = .ok (.iaload, 1) := by decide +kernel
theorem dX7_yOf_7 : decode cX7_yOf 7 = .ok (.idiv, 1) := by decide +kernel
theorem dX7_yOf_8 : decode cX7_yOf 8 = .ok (.ireturn, 1) := by decide +kernel
theorem dX7_toldOf_0 : decode cX7_toldOf 0 = .ok (.bipush 10, 2) := by decide +kernel
theorem dX7_toldOf_2 : decode cX7_toldOf 2 = .ok (.aload_n 0, 1) := by decide +kernel
theorem dX7_toldOf_3 : decode cX7_toldOf 3 = .ok (.iload_n 1, 1) := by decide +kernel
theorem dX7_toldOf_4 : decode cX7_toldOf 4 = .ok (.invokevirtual 58, 3) := by decide +kernel
theorem dX7_toldOf_7 : decode cX7_toldOf 7 = .ok (.imul, 1) := by decide +kernel
theorem dX7_toldOf_8 : decode cX7_toldOf 8 = .ok (.aload_n 0, 1) := by decide +kernel
theorem dX7_toldOf_9 : decode cX7_toldOf 9 = .ok (.iload_n 1, 1) := by decide +kernel
theorem dX7_toldOf_10 : decode cX7_toldOf 10 = .ok (.invokevirtual 61, 3) := by decide +kernel
theorem dX7_toldOf_13 : decode cX7_toldOf 13 = .ok (.iadd, 1) := by decide +kernel
theorem dX7_toldOf_14 : decode cX7_toldOf 14 = .ok (.ireturn, 1) := by decide +kernel
theorem dX7_beside_0 : decode cX7_beside 0 = .ok (.aload_n 0, 1) := by decide +kernel
theorem dX7_beside_1 : decode cX7_beside 1 = .ok (.iload_n 1, 1) := by decide +kernel
theorem dX7_beside_2 : decode cX7_beside 2 = .ok (.invokevirtual 58, 3) := by decide +kernel
theorem dX7_beside_5 : decode cX7_beside 5 = .ok (.iload_n 2, 1) := by decide +kernel
theorem dX7_beside_6 : decode cX7_beside 6 = .ok (.ifCond .ne 7, 3) := by decide +kernel
theorem dX7_beside_9 : decode cX7_beside 9 = .ok (.iconst 1, 1) := by decide +kernel
theorem dX7_beside_10 : decode cX7_beside 10 = .ok (.goto 13, 3) := by decide +kernel
theorem dX7_beside_13 : decode cX7_beside 13 = .ok (.iload_n 2, 1) := by decide +kernel
theorem dX7_beside_14 : decode cX7_beside 14 = .ok (.iconst 2, 1) := by decide +kernel
theorem dX7_beside_15 : decode cX7_beside 15 = .ok (.if_icmp .ne 7, 3) := by decide +kernel
theorem dX7_beside_18 : decode cX7_beside 18 = .ok (.iconst (-1), 1) := by decide +kernel
theorem dX7_beside_19 : decode cX7_beside 19 = .ok (.goto 4, 3) := by decide +kernel
theorem dX7_beside_22 : decode cX7_beside 22 = .ok (.iconst 0, 1) := by decide +kernel
theorem dX7_beside_23 : decode cX7_beside 23 = .ok (.iadd, 1) := by decide +kernel
theorem dX7_beside_24 : decode cX7_beside 24 = .ok (.istore_n 3, 1) := by decide +kernel
theorem dX7_beside_25 : decode cX7_beside 25 = .ok (.aload_n 0, 1) := by decide +kernel
theorem dX7_beside_26 : decode cX7_beside 26 = .ok (.iload_n 1, 1) := by decide +kernel
theorem dX7_beside_27 : decode cX7_beside 27 = .ok (.invokevirtual 61, 3) := by decide +kernel
theorem dX7_beside_30 : decode cX7_beside 30 = .ok (.iload_n 2, 1) := by decide +kernel
theorem dX7_beside_31 : decode cX7_beside 31 = .ok (.iconst 1, 1) := by decide +kernel
theorem dX7_beside_32 : decode cX7_beside 32 = .ok (.if_icmp .ne 7, 3) := by decide +kernel
theorem dX7_beside_35 : decode cX7_beside 35 = .ok (.iconst 1, 1) := by decide +kernel
theorem dX7_beside_36 : decode cX7_beside 36 = .ok (.goto 13, 3) := by decide +kernel
theorem dX7_beside_39 : decode cX7_beside 39 = .ok (.iload_n 2, 1) := by decide +kernel
theorem dX7_beside_40 : decode cX7_beside 40 = .ok (.iconst 3, 1) := by decide +kernel
theorem dX7_beside_41 : decode cX7_beside 41 = .ok (.if_icmp .ne 7, 3) := by decide +kernel
theorem dX7_beside_44 : decode cX7_beside 44 = .ok (.iconst (-1), 1) := by decide +kernel
theorem dX7_beside_45 : decode cX7_beside 45 = .ok (.goto 4, 3) := by decide +kernel
theorem dX7_beside_48 : decode cX7_beside 48 = .ok (.iconst 0, 1) := by decide +kernel
theorem dX7_beside_49 : decode cX7_beside 49 = .ok (.iadd, 1) := by decide +kernel
theorem dX7_beside_50 : decode cX7_beside 50 = .ok (.istore 4, 2) := by decide +kernel
theorem dX7_beside_52 : decode cX7_beside 52 = .ok (.aload_n 0, 1) := by decide +kernel
theorem dX7_beside_53 : decode cX7_beside 53 = .ok (.iload_n 3, 1) := by decide +kernel
theorem dX7_beside_54 : decode cX7_beside 54 = .ok (.iload 4, 2) := by decide +kernel
theorem dX7_beside_56 : decode cX7_beside 56 = .ok (.invokevirtual 64, 3) := by decide +kernel
theorem dX7_beside_59 : decode cX7_beside 59 = .ok (.ifCond .eq 13, 3) := by decide +kernel
theorem dX7_beside_62 : decode cX7_beside 62 = .ok (.aload_n 0, 1) := by decide +kernel
theorem dX7_beside_63 : decode cX7_beside 63 = .ok (.iload_n 3, 1) := by decide +kernel
theorem dX7_beside_64 : decode cX7_beside 64 = .ok (.iload 4, 2) := by decide +kernel
theorem dX7_beside_66 : decode cX7_beside 66 = .ok (.invokevirtual 68, 3) := by decide +kernel
theorem dX7_beside_69 : decode cX7_beside 69 = .ok (.goto 4, 3) := by decide +kernel
theorem dX7_beside_72 : decode cX7_beside 72 = .ok (.iconst (-1), 1) := by decide +kernel
theorem dX7_beside_73 : decode cX7_beside 73 = .ok (.ireturn, 1) := by decide +kernel
theorem dX7_nextOf_0 : decode cX7_nextOf 0 = .ok (.iconst (-1), 1) := by decide +kernel
theorem dX7_nextOf_1 : decode cX7_nextOf 1 = .ok (.istore_n 3, 1) := by decide +kernel
theorem dX7_nextOf_2 : decode cX7_nextOf 2 = .ok (.iconst 0, 1) := by decide +kernel
theorem dX7_nextOf_3 : decode cX7_nextOf 3 = .ok (.istore 4, 2) := by decide +kernel
theorem dX7_nextOf_5 : decode cX7_nextOf 5 = .ok (.iload 4, 2) := by decide +kernel
theorem dX7_nextOf_7 : decode cX7_nextOf 7 = .ok (.iconst 4, 1) := by decide +kernel
theorem dX7_nextOf_8 : decode cX7_nextOf 8 = .ok (.if_icmp .ge 100, 3) := by decide +kernel
theorem dX7_nextOf_11 : decode cX7_nextOf 11 = .ok (.aload_n 0, 1) := by decide +kernel
theorem dX7_nextOf_12 : decode cX7_nextOf 12 = .ok (.iload_n 1, 1) := by decide +kernel
theorem dX7_nextOf_13 : decode cX7_nextOf 13 = .ok (.iload 4, 2) := by decide +kernel
theorem dX7_nextOf_15 : decode cX7_nextOf 15 = .ok (.invokevirtual 72, 3) := by decide +kernel
theorem dX7_nextOf_18 : decode cX7_nextOf 18 = .ok (.istore 5, 2) := by decide +kernel
theorem dX7_nextOf_20 : decode cX7_nextOf 20 = .ok (.iload 5, 2) := by decide +kernel
theorem dX7_nextOf_22 : decode cX7_nextOf 22 = .ok (.iconst (-1), 1) := by decide +kernel
theorem dX7_nextOf_23 : decode cX7_nextOf 23 = .ok (.if_icmp .eq 27, 3) := by decide +kernel
theorem dX7_nextOf_26 : decode cX7_nextOf 26 = .ok (.iload_n 2, 1) := by decide +kernel
theorem dX7_nextOf_27 : decode cX7_nextOf 27 = .ok (.iload_n 1, 1) := by decide +kernel
theorem dX7_nextOf_28 : decode cX7_nextOf 28 = .ok (.if_icmp .le 12, 3) := by decide +kernel
theorem dX7_nextOf_31 : decode cX7_nextOf 31 = .ok (.iload 5, 2) := by decide +kernel
theorem dX7_nextOf_33 : decode cX7_nextOf 33 = .ok (.iload_n 2, 1) := by decide +kernel
theorem dX7_nextOf_34 : decode cX7_nextOf 34 = .ok (.if_icmp .gt 16, 3) := by decide +kernel
theorem dX7_nextOf_37 : decode cX7_nextOf 37 = .ok (.goto 9, 3) := by decide +kernel
theorem dX7_nextOf_40 : decode cX7_nextOf 40 = .ok (.iload 5, 2) := by decide +kernel
theorem dX7_nextOf_42 : decode cX7_nextOf 42 = .ok (.iload_n 2, 1) := by decide +kernel
theorem dX7_nextOf_43 : decode cX7_nextOf 43 = .ok (.if_icmp .lt 7, 3) := by decide +kernel
theorem dX7_nextOf_46 : decode cX7_nextOf 46 = .ok (.iconst 1, 1) := by decide +kernel
theorem dX7_nextOf_47 : decode cX7_nextOf 47 = .ok (.goto 4, 3) := by decide +kernel
theorem dX7_nextOf_50 : decode cX7_nextOf 50 = .ok (.iconst 0, 1) := by decide +kernel
theorem dX7_nextOf_51 : decode cX7_nextOf 51 = .ok (.istore 6, 2) := by decide +kernel
theorem dX7_nextOf_53 : decode cX7_nextOf 53 = .ok (.iload_n 3, 1) := by decide +kernel
theorem dX7_nextOf_54 : decode cX7_nextOf 54 = .ok (.iconst (-1), 1) := by decide +kernel
theorem dX7_nextOf_55 : decode cX7_nextOf 55 = .ok (.if_icmp .eq 23, 3) := by decide +kernel
theorem dX7_nextOf_58 : decode cX7_nextOf 58 = .ok (.iload_n 2, 1) := by decide +kernel
theorem dX7_nextOf_59 : decode cX7_nextOf 59 = .ok (.iload_n 1, 1) := by decide +kernel
theorem dX7_nextOf_60 : decode cX7_nextOf 60 = .ok (.if_icmp .le 12, 3) := by decide +kernel
theorem dX7_nextOf_63 : decode cX7_nextOf 63 = .ok (.iload 5, 2) := by decide +kernel
theorem dX7_nextOf_65 : decode cX7_nextOf 65 = .ok (.iload_n 3, 1) := by decide +kernel
theorem dX7_nextOf_66 : decode cX7_nextOf 66 = .ok (.if_icmp .le 16, 3) := by decide +kernel
theorem dX7_nextOf_69 : decode cX7_nextOf 69 = .ok (.goto 9, 3) := by decide +kernel
theorem dX7_nextOf_72 : decode cX7_nextOf 72 = .ok (.iload 5, 2) := by decide +kernel
theorem dX7_nextOf_74 : decode cX7_nextOf 74 = .ok (.iload_n 3, 1) := by decide +kernel
theorem dX7_nextOf_75 : decode cX7_nextOf 75 = .ok (.if_icmp .ge 7, 3) := by decide +kernel
theorem dX7_nextOf_78 : decode cX7_nextOf 78 = .ok (.iconst 1, 1) := by decide +kernel
theorem dX7_nextOf_79 : decode cX7_nextOf 79 = .ok (.goto 4, 3) := by decide +kernel
theorem dX7_nextOf_82 : decode cX7_nextOf 82 = .ok (.iconst 0, 1) := by decide +kernel
theorem dX7_nextOf_83 : decode cX7_nextOf 83 = .ok (.istore 7, 2) := by decide +kernel
theorem dX7_nextOf_85 : decode cX7_nextOf 85 = .ok (.iload 6, 2) := by decide +kernel
theorem dX7_nextOf_87 : decode cX7_nextOf 87 = .ok (.ifCond .eq 13, 3) := by decide +kernel
theorem dX7_nextOf_90 : decode cX7_nextOf 90 = .ok (.iload 7, 2) := by decide +kernel
theorem dX7_nextOf_92 : decode cX7_nextOf 92 = .ok (.ifCond .eq 8, 3) := by decide +kernel
theorem dX7_nextOf_95 : decode cX7_nextOf 95 = .ok (.iload 5, 2) := by decide +kernel
theorem dX7_nextOf_97 : decode cX7_nextOf 97 = .ok (.goto 4, 3) := by decide +kernel
theorem dX7_nextOf_100 : decode cX7_nextOf 100 = .ok (.iload_n 3, 1) := by decide +kernel
theorem dX7_nextOf_101 : decode cX7_nextOf 101 = .ok (.istore_n 3, 1) := by decide +kernel
theorem dX7_nextOf_102 : decode cX7_nextOf 102 = .ok (.iinc 4 1, 3) := by decide +kernel
theorem dX7_nextOf_105 : decode cX7_nextOf 105 = .ok (.goto (-100), 3) := by decide +kernel
theorem dX7_nextOf_108 : decode cX7_nextOf 108 = .ok (.iload_n 3, 1) := by decide +kernel
theorem dX7_nextOf_109 : decode cX7_nextOf 109 = .ok (.ireturn, 1) := by decide +kernel
theorem dX7_farOf_0 : decode cX7_farOf 0 = .ok (.iconst 0, 1) := by decide +kernel
theorem dX7_farOf_1 : decode cX7_farOf 1 = .ok (.istore_n 3, 1) := by decide +kernel
theorem dX7_farOf_2 : decode cX7_farOf 2 = .ok (.iload_n 1, 1) := by decide +kernel
theorem dX7_farOf_3 : decode cX7_farOf 3 = .ok (.istore 4, 2) := by decide +kernel
theorem dX7_farOf_5 : decode cX7_farOf 5 = .ok (.iload 4, 2) := by decide +kernel
theorem dX7_farOf_7 : decode cX7_farOf 7 = .ok (.iload_n 2, 1) := by decide +kernel
theorem dX7_farOf_8 : decode cX7_farOf 8 = .ok (.if_icmp .eq 18, 3) := by decide +kernel
theorem dX7_farOf_11 : decode cX7_farOf 11 = .ok (.aload_n 0, 1) := by decide +kernel
theorem dX7_farOf_12 : decode cX7_farOf 12 = .ok (.iload 4, 2) := by decide +kernel
theorem dX7_farOf_14 : decode cX7_farOf 14 = .ok (.iload_n 2, 1) := by decide +kernel
theorem dX7_farOf_15 : decode cX7_farOf 15 = .ok (.invokevirtual 75, 3) := by decide +kernel
theorem dX7_farOf_18 : decode cX7_farOf 18 = .ok (.istore 4, 2) := by decide +kernel
theorem dX7_farOf_20 : decode cX7_farOf 20 = .ok (.iinc 3 1, 3) := by decide +kernel
theorem dX7_farOf_23 : decode cX7_farOf 23 = .ok (.goto (-18), 3) := by decide +kernel
theorem dX7_farOf_26 : decode cX7_farOf 26 = .ok (.iload_n 3, 1) := by decide +kernel
theorem dX7_farOf_27 : decode cX7_farOf 27 = .ok (.ireturn, 1) := by decide +kernel
theorem dX7_spotOf_0 : decode cX7_spotOf 0 = .ok (.iconst 4, 1) := by decide +kernel
theorem dX7_spotOf_1 : decode cX7_spotOf 1 = .ok (.bipush 8, 2) := by decide +kernel
theorem dX7_spotOf_3 : decode cX7_spotOf 3 = .ok (.iload_n 1, 1) := by decide +kernel
theorem dX7_spotOf_4 : decode cX7_spotOf 4 = .ok (.imul, 1) := by decide +kernel
theorem dX7_spotOf_5 : decode cX7_spotOf 5 = .ok (.iadd, 1) := by decide +kernel
theorem dX7_spotOf_6 : decode cX7_spotOf 6 = .ok (.iload_n 2, 1) := by decide +kernel
theorem dX7_spotOf_7 : decode cX7_spotOf 7 = .ok (.iadd, 1) := by decide +kernel
theorem dX7_spotOf_8 : decode cX7_spotOf 8 = .ok (.ireturn, 1) := by decide +kernel
theorem dX7_of0_0 : decode cX7_of0 0 = .ok (.aload_n 0, 1) := by decide +kernel
theorem dX7_of0_1 : decode cX7_of0 1 = .ok (.getfield 7, 3) := by decide +kernel
theorem dX7_of0_4 : decode cX7_of0 4 = .ok (.iconst 4, 1) := by decide +kernel
theorem dX7_of0_5 : decode cX7_of0 5 = .ok (.bipush 8, 2) := by decide +kernel
theorem dX7_of0_7 : decode cX7_of0 7 = .ok (.iload_n 1, 1) := by decide +kernel
theorem dX7_of0_8 : decode cX7_of0 8 = .ok (.imul, 1) := by decide +kernel
theorem dX7_of0_9 : decode cX7_of0 9 = .ok (.iadd, 1) := by decide +kernel
theorem dX7_of0_10 : decode cX7_of0 10 = .ok (.iload_n 2, 1) := by decide +kernel
theorem dX7_of0_11 : decode cX7_of0 11 = .ok (.iadd, 1) := by decide +kernel
theorem dX7_of0_12 : decode cX7_of0 12 = .ok (.iaload, 1) := by decide +kernel
theorem dX7_of0_13 : decode cX7_of0 13 = .ok (.ireturn, 1) := by decide +kernel
theorem dX7_isMessage_0 : decode cX7_isMessage 0 = .ok (.iload_n 1, 1) := by decide +kernel
theorem dX7_isMessage_1 : decode cX7_isMessage 1 = .ok (.iconst 0, 1) := by decide +kernel
theorem dX7_isMessage_2 : decode cX7_isMessage 2 = .ok (.aload_n 0, 1) := by decide +kernel
theorem dX7_isMessage_3 : decode cX7_isMessage 3 = .ok (.getfield 7, 3) := by decide +kernel
theorem dX7_isMessage_6 : decode cX7_isMessage 6 = .ok (.iconst 3, 1) := by decide +kernel
theorem dX7_isMessage_7 : decode cX7_isMessage 7 = .ok (.iaload, 1) := by decide +kernel
theorem dX7_isMessage_8 : decode cX7_isMessage 8 = .ok (.iconst 1, 1) := by decide +kernel
theorem dX7_isMessage_9 : decode cX7_isMessage 9 = .ok (.isub, 1) := by decide +kernel
theorem dX7_isMessage_10 : decode cX7_isMessage 10 = .ok (.invokestatic 54, 3) := by decide +kernel
theorem dX7_isMessage_13 : decode cX7_isMessage 13 = .ok (.ireturn, 1) := by decide +kernel
theorem dX7_isGoal_0 : decode cX7_isGoal 0 = .ok (.aload_n 0, 1) := by decide +kernel
theorem dX7_isGoal_1 : decode cX7_isGoal 1 = .ok (.iload_n 1, 1) := by decide +kernel
theorem dX7_isGoal_2 : decode cX7_isGoal 2 = .ok (.iconst 2, 1) := by decide +kernel
theorem dX7_isGoal_3 : decode cX7_isGoal 3 = .ok (.iload_n 2, 1) := by decide +kernel
theorem dX7_isGoal_4 : decode cX7_isGoal 4 = .ok (.bipush 18, 2) := by decide +kernel
theorem dX7_isGoal_6 : decode cX7_isGoal 6 = .ok (.idiv, 1) := by decide +kernel
theorem dX7_isGoal_7 : decode cX7_isGoal 7 = .ok (.iadd, 1) := by decide +kernel
theorem dX7_isGoal_8 : decode cX7_isGoal 8 = .ok (.invokevirtual 78, 3) := by decide +kernel
theorem dX7_isGoal_11 : decode cX7_isGoal 11 = .ok (.iload_n 2, 1) := by decide +kernel
theorem dX7_isGoal_12 : decode cX7_isGoal 12 = .ok (.bipush 18, 2) := by decide +kernel
theorem dX7_isGoal_14 : decode cX7_isGoal 14 = .ok (.irem, 1) := by decide +kernel
theorem dX7_isGoal_15 : decode cX7_isGoal 15 = .ok (.ishr, 1) := by decide +kernel
theorem dX7_isGoal_16 : decode cX7_isGoal 16 = .ok (.iconst 1, 1) := by decide +kernel
theorem dX7_isGoal_17 : decode cX7_isGoal 17 = .ok (.iand, 1) := by decide +kernel
theorem dX7_isGoal_18 : decode cX7_isGoal 18 = .ok (.iconst 1, 1) := by decide +kernel
theorem dX7_isGoal_19 : decode cX7_isGoal 19 = .ok (.if_icmp .ne 7, 3) := by decide +kernel
theorem dX7_isGoal_22 : decode cX7_isGoal 22 = .ok (.iconst 1, 1) := by decide +kernel
theorem dX7_isGoal_23 : decode cX7_isGoal 23 = .ok (.goto 4, 3) := by decide +kernel
theorem dX7_isGoal_26 : decode cX7_isGoal 26 = .ok (.iconst 0, 1) := by decide +kernel
theorem dX7_isGoal_27 : decode cX7_isGoal 27 = .ok (.ireturn, 1) := by decide +kernel
theorem dX7_laysWay_0 : decode cX7_laysWay 0 = .ok (.iconst 2, 1) := by decide +kernel
theorem dX7_laysWay_1 : decode cX7_laysWay 1 = .ok (.iload_n 1, 1) := by decide +kernel
theorem dX7_laysWay_2 : decode cX7_laysWay 2 = .ok (.imul, 1) := by decide +kernel
theorem dX7_laysWay_3 : decode cX7_laysWay 3 = .ok (.iload_n 2, 1) := by decide +kernel
theorem dX7_laysWay_4 : decode cX7_laysWay 4 = .ok (.iadd, 1) := by decide +kernel
theorem dX7_laysWay_5 : decode cX7_laysWay 5 = .ok (.istore_n 3, 1) := by decide +kernel
theorem dX7_laysWay_6 : decode cX7_laysWay 6 = .ok (.aload_n 0, 1) := by decide +kernel
theorem dX7_laysWay_7 : decode cX7_laysWay 7 = .ok (.getfield 7, 3) := by decide +kernel
theorem dX7_laysWay_10 : decode cX7_laysWay 10 = .ok (.iconst 0, 1) := by decide +kernel
theorem dX7_laysWay_11 : decode cX7_laysWay 11 = .ok (.iaload, 1) := by decide +kernel
theorem dX7_laysWay_12 : decode cX7_laysWay 12 = .ok (.aload_n 0, 1) := by decide +kernel
theorem dX7_laysWay_13 : decode cX7_laysWay 13 = .ok (.getfield 7, 3) := by decide +kernel
theorem dX7_laysWay_16 : decode cX7_laysWay 16 = .ok (.iconst 1, 1) := by decide +kernel
theorem dX7_laysWay_17 : decode cX7_laysWay 17 = .ok (.iaload, 1) := by decide +kernel
theorem dX7_laysWay_18 : decode cX7_laysWay 18 = .ok (.imul, 1) := by decide +kernel
theorem dX7_laysWay_19 : decode cX7_laysWay 19 = .ok (.istore 4, 2) := by decide +kernel
theorem dX7_laysWay_21 : decode cX7_laysWay 21 = .ok (.aload_n 0, 1) := by decide +kernel
theorem dX7_laysWay_22 : decode cX7_laysWay 22 = .ok (.iload_n 1, 1) := by decide +kernel
theorem dX7_laysWay_23 : decode cX7_laysWay 23 = .ok (.iconst 0, 1) := by decide +kernel
theorem dX7_laysWay_24 : decode cX7_laysWay 24 = .ok (.invokevirtual 78, 3) := by decide +kernel
theorem dX7_laysWay_27 : decode cX7_laysWay 27 = .ok (.istore 5, 2) := by decide +kernel
theorem dX7_laysWay_29 : decode cX7_laysWay 29 = .ok (.iconst 0, 1) := by decide +kernel
theorem dX7_laysWay_30 : decode cX7_laysWay 30 = .ok (.istore 6, 2) := by decide +kernel
theorem dX7_laysWay_32 : decode cX7_laysWay 32 = .ok (.aload_n 0, 1) := by decide +kernel
theorem dX7_laysWay_33 : decode cX7_laysWay 33 = .ok (.getfield 25, 3) := by decide +kernel
theorem dX7_laysWay_36 : decode cX7_laysWay 36 = .ok (.bipush 37, 2) := by decide +kernel
theorem dX7_laysWay_38 : decode cX7_laysWay 38 = .ok (.iload_n 3, 1) := by decide +kernel
theorem dX7_laysWay_39 : decode cX7_laysWay 39 = .ok (.imul, 1) := by decide +kernel
theorem dX7_laysWay_40 : decode cX7_laysWay 40 = .ok (.iload 5, 2) := by decide +kernel
theorem dX7_laysWay_42 : decode cX7_laysWay 42 = .ok (.iastore, 1) := by decide +kernel
theorem dX7_laysWay_43 : decode cX7_laysWay 43 = .ok (.aload_n 0, 1) := by decide +kernel
theorem dX7_laysWay_44 : decode cX7_laysWay 44 = .ok (.getfield 31, 3) := by decide +kernel
theorem dX7_laysWay_47 : decode cX7_laysWay 47 = .ok (.iload_n 3, 1) := by decide +kernel
theorem dX7_laysWay_48 : decode cX7_laysWay 48 = .ok (.iconst 0, 1) := by decide +kernel
theorem dX7_laysWay_49 : decode cX7_laysWay 49 = .ok (.iastore, 1) := by decide +kernel
theorem dX7_laysWay_50 : decode cX7_laysWay 50 = .ok (.iload_n 2, 1) := by decide +kernel
theorem dX7_laysWay_51 : decode cX7_laysWay 51 = .ok (.ifCond .ne 7, 3) := by decide +kernel
theorem dX7_laysWay_54 : decode cX7_laysWay 54 = .ok (.iconst 1, 1) := by decide +kernel
theorem dX7_laysWay_55 : decode cX7_laysWay 55 = .ok (.goto 4, 3) := by decide +kernel
theorem dX7_laysWay_58 : decode cX7_laysWay 58 = .ok (.iconst (-1), 1) := by decide +kernel
theorem dX7_laysWay_59 : decode cX7_laysWay 59 = .ok (.istore 7, 2) := by decide +kernel
theorem dX7_laysWay_61 : decode cX7_laysWay 61 = .ok (.iload 5, 2) := by decide +kernel
theorem dX7_laysWay_63 : decode cX7_laysWay 63 = .ok (.iload 7, 2) := by decide +kernel
theorem dX7_laysWay_65 : decode cX7_laysWay 65 = .ok (.iadd, 1) := by decide +kernel
theorem dX7_laysWay_66 : decode cX7_laysWay 66 = .ok (.istore 8, 2) := by decide +kernel
theorem dX7_laysWay_68 : decode cX7_laysWay 68 = .ok (.iload 8, 2) := by decide +kernel
theorem dX7_laysWay_70 : decode cX7_laysWay 70 = .ok (.iconst 0, 1) := by decide +kernel
theorem dX7_laysWay_71 : decode cX7_laysWay 71 = .ok (.iload 4, 2) := by decide +kernel
theorem dX7_laysWay_73 : decode cX7_laysWay 73 = .ok (.iconst 1, 1) := by decide +kernel
theorem dX7_laysWay_74 : decode cX7_laysWay 74 = .ok (.isub, 1) := by decide +kernel
theorem dX7_laysWay_75 : decode cX7_laysWay 75 = .ok (.invokestatic 54, 3) := by decide +kernel
theorem dX7_laysWay_78 : decode cX7_laysWay 78 = .ok (.ifCond .eq 88, 3) := by decide +kernel
theorem dX7_laysWay_81 : decode cX7_laysWay 81 = .ok (.aload_n 0, 1) := by decide +kernel
theorem dX7_laysWay_82 : decode cX7_laysWay 82 = .ok (.iload_n 1, 1) := by decide +kernel
theorem dX7_laysWay_83 : decode cX7_laysWay 83 = .ok (.iload 8, 2) := by decide +kernel
theorem dX7_laysWay_85 : decode cX7_laysWay 85 = .ok (.invokevirtual 81, 3) := by decide +kernel
theorem dX7_laysWay_88 : decode cX7_laysWay 88 = .ok (.ifCond .eq 68, 3) := by decide +kernel
theorem dX7_laysWay_91 : decode cX7_laysWay 91 = .ok (.iload 5, 2) := by decide +kernel
theorem dX7_laysWay_93 : decode cX7_laysWay 93 = .ok (.iload 8, 2) := by decide +kernel
theorem dX7_laysWay_95 : decode cX7_laysWay 95 = .ok (.if_icmp .eq 33, 3) := by decide +kernel
theorem dX7_laysWay_98 : decode cX7_laysWay 98 = .ok (.aload_n 0, 1) := by decide +kernel
theorem dX7_laysWay_99 : decode cX7_laysWay 99 = .ok (.iload 5, 2) := by decide +kernel
theorem dX7_laysWay_101 : decode cX7_laysWay 101 = .ok (.iload 8, 2) := by decide +kernel
theorem dX7_laysWay_103 : decode cX7_laysWay 103 = .ok (.invokevirtual 75, 3) := by decide +kernel
theorem dX7_laysWay_106 : decode cX7_laysWay 106 = .ok (.istore 5, 2) := by decide +kernel
theorem dX7_laysWay_108 : decode cX7_laysWay 108 = .ok (.iinc 6 1, 3) := by decide +kernel
theorem dX7_laysWay_111 : decode cX7_laysWay 111 = .ok (.aload_n 0, 1) := by decide +kernel
theorem dX7_laysWay_112 : decode cX7_laysWay 112 = .ok (.getfield 25, 3) := by decide +kernel
theorem dX7_laysWay_115 : decode cX7_laysWay 115 = .ok (.bipush 37, 2) := by decide +kernel
theorem dX7_laysWay_117 : decode cX7_laysWay 117 = .ok (.iload_n 3, 1) := by decide +kernel
theorem dX7_laysWay_118 : decode cX7_laysWay 118 = .ok (.imul, 1) := by decide +kernel
theorem dX7_laysWay_119 : decode cX7_laysWay 119 = .ok (.iload 6, 2) := by decide +kernel
theorem dX7_laysWay_121 : decode cX7_laysWay 121 = .ok (.iadd, 1) := by decide +kernel
theorem dX7_laysWay_122 : decode cX7_laysWay 122 = .ok (.iload 5, 2) := by decide +kernel
theorem dX7_laysWay_124 : decode cX7_laysWay 124 = .ok (.iastore, 1) := by decide +kernel
theorem dX7_laysWay_125 : decode cX7_laysWay 125 = .ok (.goto (-34), 3) := by decide +kernel
theorem dX7_laysWay_128 : decode cX7_laysWay 128 = .ok (.aload_n 0, 1) := by decide +kernel
theorem dX7_laysWay_129 : decode cX7_laysWay 129 = .ok (.getfield 34, 3) := by decide +kernel
theorem dX7_laysWay_132 : decode cX7_laysWay 132 = .ok (.bipush 36, 2) := by decide +kernel
theorem dX7_laysWay_134 : decode cX7_laysWay 134 = .ok (.iload_n 3, 1) := by decide +kernel
theorem dX7_laysWay_135 : decode cX7_laysWay 135 = .ok (.imul, 1) := by decide +kernel
theorem dX7_laysWay_136 : decode cX7_laysWay 136 = .ok (.aload_n 0, 1) := by decide +kernel
theorem dX7_laysWay_137 : decode cX7_laysWay 137 = .ok (.getfield 31, 3) := by decide +kernel
theorem dX7_laysWay_140 : decode cX7_laysWay 140 = .ok (.iload_n 3, 1) := by decide +kernel
theorem dX7_laysWay_141 : decode cX7_laysWay 141 = .ok (.iaload, 1) := by decide +kernel
theorem dX7_laysWay_142 : decode cX7_laysWay 142 = .ok (.iadd, 1) := by decide +kernel
theorem dX7_laysWay_143 : decode cX7_laysWay 143 = .ok (.iload 6, 2) := by decide +kernel
theorem dX7_laysWay_145 : decode cX7_laysWay 145 = .ok (.iastore, 1) := by decide +kernel
theorem dX7_laysWay_146 : decode cX7_laysWay 146 = .ok (.aload_n 0, 1) := by decide +kernel
theorem dX7_laysWay_147 : decode cX7_laysWay 147 = .ok (.getfield 31, 3) := by decide +kernel
theorem dX7_laysWay_150 : decode cX7_laysWay 150 = .ok (.iload_n 3, 1) := by decide +kernel
theorem dX7_laysWay_151 : decode cX7_laysWay 151 = .ok (.dup2, 1) := by decide +kernel
theorem dX7_laysWay_152 : decode cX7_laysWay 152 = .ok (.iaload, 1) := by decide +kernel
theorem dX7_laysWay_153 : decode cX7_laysWay 153 = .ok (.iconst 1, 1) := by decide +kernel
theorem dX7_laysWay_154 : decode cX7_laysWay 154 = .ok (.iadd, 1) := by decide +kernel
theorem dX7_laysWay_155 : decode cX7_laysWay 155 = .ok (.iastore, 1) := by decide +kernel
theorem dX7_laysWay_156 : decode cX7_laysWay 156 = .ok (.iload 8, 2) := by decide +kernel
theorem dX7_laysWay_158 : decode cX7_laysWay 158 = .ok (.iload 7, 2) := by decide +kernel
theorem dX7_laysWay_160 : decode cX7_laysWay 160 = .ok (.iadd, 1) := by decide +kernel
theorem dX7_laysWay_161 : decode cX7_laysWay 161 = .ok (.istore 8, 2) := by decide +kernel
theorem dX7_laysWay_163 : decode cX7_laysWay 163 = .ok (.goto (-95), 3) := by decide +kernel
theorem dX7_laysWay_166 : decode cX7_laysWay 166 = .ok (.aload_n 0, 1) := by decide +kernel
theorem dX7_laysWay_167 : decode cX7_laysWay 167 = .ok (.getfield 28, 3) := by decide +kernel
theorem dX7_laysWay_170 : decode cX7_laysWay 170 = .ok (.iload_n 3, 1) := by decide +kernel
theorem dX7_laysWay_171 : decode cX7_laysWay 171 = .ok (.iload 6, 2) := by decide +kernel
theorem dX7_laysWay_173 : decode cX7_laysWay 173 = .ok (.iastore, 1) := by decide +kernel
theorem dX7_laysWay_174 : decode cX7_laysWay 174 = .ok (.return_, 1) := by decide +kernel
theorem dX7_laysWays_0 : decode cX7_laysWays 0 = .ok (.iconst 0, 1) := by decide +kernel
theorem dX7_laysWays_1 : decode cX7_laysWays 1 = .ok (.istore_n 1, 1) := by decide +kernel
theorem dX7_laysWays_2 : decode cX7_laysWays 2 = .ok (.iload_n 1, 1) := by decide +kernel
theorem dX7_laysWays_3 : decode cX7_laysWays 3 = .ok (.aload_n 0, 1) := by decide +kernel
theorem dX7_laysWays_4 : decode cX7_laysWays 4 = .ok (.getfield 7, 3) := by decide +kernel
theorem dX7_laysWays_7 : decode cX7_laysWays 7 = .ok (.iconst 3, 1) := by decide +kernel
theorem dX7_laysWays_8 : decode cX7_laysWays 8 = .ok (.iaload, 1) := by decide +kernel
theorem dX7_laysWays_9 : decode cX7_laysWays 9 = .ok (.if_icmp .ge 21, 3) := by decide +kernel
theorem dX7_laysWays_12 : decode cX7_laysWays 12 = .ok (.aload_n 0, 1) := by decide +kernel
theorem dX7_laysWays_13 : decode cX7_laysWays 13 = .ok (.iload_n 1, 1) := by decide +kernel
theorem dX7_laysWays_14 : decode cX7_laysWays 14 = .ok (.iconst 0, 1) := by decide +kernel
theorem dX7_laysWays_15 : decode cX7_laysWays 15 = .ok (.invokevirtual 84, 3) := by decide +kernel
theorem dX7_laysWays_18 : decode cX7_laysWays 18 = .ok (.aload_n 0, 1) := by decide +kernel
theorem dX7_laysWays_19 : decode cX7_laysWays 19 = .ok (.iload_n 1, 1) := by decide +kernel
theorem dX7_laysWays_20 : decode cX7_laysWays 20 = .ok (.iconst 1, 1) := by decide +kernel
theorem dX7_laysWays_21 : decode cX7_laysWays 21 = .ok (.invokevirtual 84, 3) := by decide +kernel
theorem dX7_laysWays_24 : decode cX7_laysWays 24 = .ok (.iinc 1 1, 3) := by decide +kernel
theorem dX7_laysWays_27 : decode cX7_laysWays 27 = .ok (.goto (-25), 3) := by decide +kernel
theorem dX7_laysWays_30 : decode cX7_laysWays 30 = .ok (.return_, 1) := by decide +kernel
theorem dX7_moves_0 : decode cX7_moves 0 = .ok (.aload_n 0, 1) := by decide +kernel
theorem dX7_moves_1 : decode cX7_moves 1 = .ok (.iload_n 1, 1) := by decide +kernel
theorem dX7_moves_2 : decode cX7_moves 2 = .ok (.iconst 2, 1) := by decide +kernel
theorem dX7_moves_3 : decode cX7_moves 3 = .ok (.idiv, 1) := by decide +kernel
theorem dX7_moves_4 : decode cX7_moves 4 = .ok (.iconst 4, 1) := by decide +kernel
theorem dX7_moves_5 : decode cX7_moves 5 = .ok (.iload_n 1, 1) := by decide +kernel
theorem dX7_moves_6 : decode cX7_moves 6 = .ok (.iconst 2, 1) := by decide +kernel
theorem dX7_moves_7 : decode cX7_moves 7 = .ok (.irem, 1) := by decide +kernel
theorem dX7_moves_8 : decode cX7_moves 8 = .ok (.iadd, 1) := by decide +kernel
theorem dX7_moves_9 : decode cX7_moves 9 = .ok (.invokevirtual 78, 3) := by decide +kernel
theorem dX7_moves_12 : decode cX7_moves 12 = .ok (.ireturn, 1) := by decide +kernel
theorem dX7_isDone_0 : decode cX7_isDone 0 = .ok (.aload_n 0, 1) := by decide +kernel
theorem dX7_isDone_1 : decode cX7_isDone 1 = .ok (.getfield 31, 3) := by decide +kernel
theorem dX7_isDone_4 : decode cX7_isDone 4 = .ok (.iload_n 1, 1) := by decide +kernel
theorem dX7_isDone_5 : decode cX7_isDone 5 = .ok (.iaload, 1) := by decide +kernel
theorem dX7_isDone_6 : decode cX7_isDone 6 = .ok (.ifCond .eq 26, 3) := by decide +kernel
theorem dX7_isDone_9 : decode cX7_isDone 9 = .ok (.aload_n 0, 1) := by decide +kernel
theorem dX7_isDone_10 : decode cX7_isDone 10 = .ok (.iload_n 1, 1) := by decide +kernel
theorem dX7_isDone_11 : decode cX7_isDone 11 = .ok (.invokevirtual 88, 3) := by decide +kernel
theorem dX7_isDone_14 : decode cX7_isDone 14 = .ok (.aload_n 0, 1) := by decide +kernel
theorem dX7_isDone_15 : decode cX7_isDone 15 = .ok (.getfield 28, 3) := by decide +kernel
theorem dX7_isDone_18 : decode cX7_isDone 18 = .ok (.iload_n 1, 1) := by decide +kernel
theorem dX7_isDone_19 : decode cX7_isDone 19 = .ok (.iaload, 1) := by decide +kernel
theorem dX7_isDone_20 : decode cX7_isDone 20 = .ok (.aload_n 0, 1) := by decide +kernel
theorem dX7_isDone_21 : decode cX7_isDone 21 = .ok (.iload_n 1, 1) := by decide +kernel
theorem dX7_isDone_22 : decode cX7_isDone 22 = .ok (.iconst 2, 1) := by decide +kernel
theorem dX7_isDone_23 : decode cX7_isDone 23 = .ok (.idiv, 1) := by decide +kernel
theorem dX7_isDone_24 : decode cX7_isDone 24 = .ok (.iconst 1, 1) := by decide +kernel
theorem dX7_isDone_25 : decode cX7_isDone 25 = .ok (.invokevirtual 78, 3) := by decide +kernel
theorem dX7_isDone_28 : decode cX7_isDone 28 = .ok (.iadd, 1) := by decide +kernel
theorem dX7_isDone_29 : decode cX7_isDone 29 = .ok (.if_icmp .ne 7, 3) := by decide +kernel
theorem dX7_isDone_32 : decode cX7_isDone 32 = .ok (.iconst 1, 1) := by decide +kernel
theorem dX7_isDone_33 : decode cX7_isDone 33 = .ok (.goto 4, 3) := by decide +kernel
theorem dX7_isDone_36 : decode cX7_isDone 36 = .ok (.iconst 0, 1) := by decide +kernel
theorem dX7_isDone_37 : decode cX7_isDone 37 = .ok (.ireturn, 1) := by decide +kernel
theorem dX7_heldFrom_0 : decode cX7_heldFrom 0 = .ok (.aload_n 0, 1) := by decide +kernel
theorem dX7_heldFrom_1 : decode cX7_heldFrom 1 = .ok (.iload_n 1, 1) := by decide +kernel
theorem dX7_heldFrom_2 : decode cX7_heldFrom 2 = .ok (.invokevirtual 88, 3) := by decide +kernel
theorem dX7_heldFrom_5 : decode cX7_heldFrom 5 = .ok (.aload_n 0, 1) := by decide +kernel
theorem dX7_heldFrom_6 : decode cX7_heldFrom 6 = .ok (.iload_n 1, 1) := by decide +kernel
theorem dX7_heldFrom_7 : decode cX7_heldFrom 7 = .ok (.iconst 2, 1) := by decide +kernel
theorem dX7_heldFrom_8 : decode cX7_heldFrom 8 = .ok (.idiv, 1) := by decide +kernel
theorem dX7_heldFrom_9 : decode cX7_heldFrom 9 = .ok (.iconst 1, 1) := by decide +kernel
theorem dX7_heldFrom_10 : decode cX7_heldFrom 10 = .ok (.invokevirtual 78, 3) := by decide +kernel
theorem dX7_heldFrom_13 : decode cX7_heldFrom 13 = .ok (.isub, 1) := by decide +kernel
theorem dX7_heldFrom_14 : decode cX7_heldFrom 14 = .ok (.istore_n 2, 1) := by decide +kernel
theorem dX7_heldFrom_15 : decode cX7_heldFrom 15 = .ok (.iload_n 2, 1) := by decide +kernel
theorem dX7_heldFrom_16 : decode cX7_heldFrom 16 = .ok (.ifCond .ge 7, 3) := by decide +kernel
theorem dX7_heldFrom_19 : decode cX7_heldFrom 19 = .ok (.iconst 0, 1) := by decide +kernel
theorem dX7_heldFrom_20 : decode cX7_heldFrom 20 = .ok (.goto 4, 3) := by decide +kernel
theorem dX7_heldFrom_23 : decode cX7_heldFrom 23 = .ok (.iload_n 2, 1) := by decide +kernel
theorem dX7_heldFrom_24 : decode cX7_heldFrom 24 = .ok (.ireturn, 1) := by decide +kernel
theorem dX7_heldTo_0 : decode cX7_heldTo 0 = .ok (.aload_n 0, 1) := by decide +kernel
theorem dX7_heldTo_1 : decode cX7_heldTo 1 = .ok (.iload_n 1, 1) := by decide +kernel
theorem dX7_heldTo_2 : decode cX7_heldTo 2 = .ok (.invokevirtual 88, 3) := by decide +kernel
theorem dX7_heldTo_5 : decode cX7_heldTo 5 = .ok (.aload_n 0, 1) := by decide +kernel
theorem dX7_heldTo_6 : decode cX7_heldTo 6 = .ok (.getfield 28, 3) := by decide +kernel
theorem dX7_heldTo_9 : decode cX7_heldTo 9 = .ok (.iload_n 1, 1) := by decide +kernel
theorem dX7_heldTo_10 : decode cX7_heldTo 10 = .ok (.iaload, 1) := by decide +kernel
theorem dX7_heldTo_11 : decode cX7_heldTo 11 = .ok (.if_icmp .ge 11, 3) := by decide +kernel
theorem dX7_heldTo_14 : decode cX7_heldTo 14 = .ok (.aload_n 0, 1) := by decide +kernel
theorem dX7_heldTo_15 : decode cX7_heldTo 15 = .ok (.iload_n 1, 1) := by decide +kernel
theorem dX7_heldTo_16 : decode cX7_heldTo 16 = .ok (.invokevirtual 88, 3) := by decide +kernel
theorem dX7_heldTo_19 : decode cX7_heldTo 19 = .ok (.goto 9, 3) := by decide +kernel
theorem dX7_heldTo_22 : decode cX7_heldTo 22 = .ok (.aload_n 0, 1) := by decide +kernel
theorem dX7_heldTo_23 : decode cX7_heldTo 23 = .ok (.getfield 28, 3) := by decide +kernel
theorem dX7_heldTo_26 : decode cX7_heldTo 26 = .ok (.iload_n 1, 1) := by decide +kernel
theorem dX7_heldTo_27 : decode cX7_heldTo 27 = .ok (.iaload, 1) := by decide +kernel
theorem dX7_heldTo_28 : decode cX7_heldTo 28 = .ok (.ireturn, 1) := by decide +kernel
theorem dX7_isHeldBy_0 : decode cX7_isHeldBy 0 = .ok (.iconst 0, 1) := by decide +kernel
theorem dX7_isHeldBy_1 : decode cX7_isHeldBy 1 = .ok (.istore 4, 2) := by decide +kernel
theorem dX7_isHeldBy_3 : decode cX7_isHeldBy 3 = .ok (.aload_n 0, 1) := by decide +kernel
theorem dX7_isHeldBy_4 : decode cX7_isHeldBy 4 = .ok (.iload_n 1, 1) := by decide +kernel
theorem dX7_isHeldBy_5 : decode cX7_isHeldBy 5 = .ok (.invokevirtual 91, 3) := by decide +kernel
theorem dX7_isHeldBy_8 : decode cX7_isHeldBy 8 = .ok (.istore 5, 2) := by decide +kernel
theorem dX7_isHeldBy_10 : decode cX7_isHeldBy 10 = .ok (.iload 5, 2) := by decide +kernel
theorem dX7_isHeldBy_12 : decode cX7_isHeldBy 12 = .ok (.aload_n 0, 1) := by decide +kernel
theorem dX7_isHeldBy_13 : decode cX7_isHeldBy 13 = .ok (.iload_n 1, 1) := by decide +kernel
theorem dX7_isHeldBy_14 : decode cX7_isHeldBy 14 = .ok (.invokevirtual 94, 3) := by decide +kernel
theorem dX7_isHeldBy_17 : decode cX7_isHeldBy 17 = .ok (.if_icmp .ge 55, 3) := by decide +kernel
theorem dX7_isHeldBy_20 : decode cX7_isHeldBy 20 = .ok (.iload 4, 2) := by decide +kernel
theorem dX7_isHeldBy_22 : decode cX7_isHeldBy 22 = .ok (.ifCond .ne 37, 3) := by decide +kernel
theorem dX7_isHeldBy_25 : decode cX7_isHeldBy 25 = .ok (.aload_n 0, 1) := by decide +kernel
theorem dX7_isHeldBy_26 : decode cX7_isHeldBy 26 = .ok (.getfield 25, 3) := by decide +kernel
theorem dX7_isHeldBy_29 : decode cX7_isHeldBy 29 = .ok (.bipush 37, 2) := by decide +kernel
theorem dX7_isHeldBy_31 : decode cX7_isHeldBy 31 = .ok (.iload_n 1, 1) := by decide +kernel
theorem dX7_isHeldBy_32 : decode cX7_isHeldBy 32 = .ok (.imul, 1) := by decide +kernel
theorem dX7_isHeldBy_33 : decode cX7_isHeldBy 33 = .ok (.iload 5, 2) := by decide +kernel
theorem dX7_isHeldBy_35 : decode cX7_isHeldBy 35 = .ok (.iadd, 1) := by decide +kernel
theorem dX7_isHeldBy_36 : decode cX7_isHeldBy 36 = .ok (.iaload, 1) := by decide +kernel
theorem dX7_isHeldBy_37 : decode cX7_isHeldBy 37 = .ok (.iload_n 2, 1) := by decide +kernel
theorem dX7_isHeldBy_38 : decode cX7_isHeldBy 38 = .ok (.if_icmp .ne 25, 3) := by decide +kernel
theorem dX7_isHeldBy_41 : decode cX7_isHeldBy 41 = .ok (.aload_n 0, 1) := by decide +kernel
theorem dX7_isHeldBy_42 : decode cX7_isHeldBy 42 = .ok (.getfield 25, 3) := by decide +kernel
theorem dX7_isHeldBy_45 : decode cX7_isHeldBy 45 = .ok (.bipush 37, 2) := by decide +kernel
theorem dX7_isHeldBy_47 : decode cX7_isHeldBy 47 = .ok (.iload_n 1, 1) := by decide +kernel
theorem dX7_isHeldBy_48 : decode cX7_isHeldBy 48 = .ok (.imul, 1) := by decide +kernel
theorem dX7_isHeldBy_49 : decode cX7_isHeldBy 49 = .ok (.iload 5, 2) := by decide +kernel
theorem dX7_isHeldBy_51 : decode cX7_isHeldBy 51 = .ok (.iadd, 1) := by decide +kernel
theorem dX7_isHeldBy_52 : decode cX7_isHeldBy 52 = .ok (.iconst 1, 1) := by decide +kernel
theorem dX7_isHeldBy_53 : decode cX7_isHeldBy 53 = .ok (.iadd, 1) := by decide +kernel
theorem dX7_isHeldBy_54 : decode cX7_isHeldBy 54 = .ok (.iaload, 1) := by decide +kernel
theorem dX7_isHeldBy_55 : decode cX7_isHeldBy 55 = .ok (.iload_n 3, 1) := by decide +kernel
theorem dX7_isHeldBy_56 : decode cX7_isHeldBy 56 = .ok (.if_icmp .ne 7, 3) := by decide +kernel
theorem dX7_isHeldBy_59 : decode cX7_isHeldBy 59 = .ok (.iconst 1, 1) := by decide +kernel
theorem dX7_isHeldBy_60 : decode cX7_isHeldBy 60 = .ok (.goto 4, 3) := by decide +kernel
theorem dX7_isHeldBy_63 : decode cX7_isHeldBy 63 = .ok (.iconst 0, 1) := by decide +kernel
theorem dX7_isHeldBy_64 : decode cX7_isHeldBy 64 = .ok (.istore 4, 2) := by decide +kernel
theorem dX7_isHeldBy_66 : decode cX7_isHeldBy 66 = .ok (.iinc 5 1, 3) := by decide +kernel
theorem dX7_isHeldBy_69 : decode cX7_isHeldBy 69 = .ok (.goto (-59), 3) := by decide +kernel
theorem dX7_isHeldBy_72 : decode cX7_isHeldBy 72 = .ok (.iload 4, 2) := by decide +kernel
theorem dX7_isHeldBy_74 : decode cX7_isHeldBy 74 = .ok (.ireturn, 1) := by decide +kernel
theorem dX7_holder_0 : decode cX7_holder 0 = .ok (.iconst (-1), 1) := by decide +kernel
theorem dX7_holder_1 : decode cX7_holder 1 = .ok (.istore_n 3, 1) := by decide +kernel
theorem dX7_holder_2 : decode cX7_holder 2 = .ok (.iconst 0, 1) := by decide +kernel
theorem dX7_holder_3 : decode cX7_holder 3 = .ok (.istore 4, 2) := by decide +kernel
theorem dX7_holder_5 : decode cX7_holder 5 = .ok (.iload 4, 2) := by decide +kernel
theorem dX7_holder_7 : decode cX7_holder 7 = .ok (.iconst 2, 1) := by decide +kernel
theorem dX7_holder_8 : decode cX7_holder 8 = .ok (.aload_n 0, 1) := by decide +kernel
theorem dX7_holder_9 : decode cX7_holder 9 = .ok (.getfield 7, 3) := by decide +kernel
theorem dX7_holder_12 : decode cX7_holder 12 = .ok (.iconst 3, 1) := by decide +kernel
theorem dX7_holder_13 : decode cX7_holder 13 = .ok (.iaload, 1) := by decide +kernel
theorem dX7_holder_14 : decode cX7_holder 14 = .ok (.imul, 1) := by decide +kernel
theorem dX7_holder_15 : decode cX7_holder 15 = .ok (.if_icmp .ge 32, 3) := by decide +kernel
theorem dX7_holder_18 : decode cX7_holder 18 = .ok (.iload_n 3, 1) := by decide +kernel
theorem dX7_holder_19 : decode cX7_holder 19 = .ok (.iconst (-1), 1) := by decide +kernel
theorem dX7_holder_20 : decode cX7_holder 20 = .ok (.if_icmp .ne 19, 3) := by decide +kernel
theorem dX7_holder_23 : decode cX7_holder 23 = .ok (.aload_n 0, 1) := by decide +kernel
theorem dX7_holder_24 : decode cX7_holder 24 = .ok (.iload 4, 2) := by decide +kernel
theorem dX7_holder_26 : decode cX7_holder 26 = .ok (.iload_n 1, 1) := by decide +kernel
theorem dX7_holder_27 : decode cX7_holder 27 = .ok (.iload_n 2, 1) := by decide +kernel
theorem dX7_holder_28 : decode cX7_holder 28 = .ok (.invokevirtual 97, 3) := by decide +kernel
theorem dX7_holder_31 : decode cX7_holder 31 = .ok (.ifCond .eq 8, 3) := by decide +kernel
theorem dX7_holder_34 : decode cX7_holder 34 = .ok (.iload 4, 2) := by decide +kernel
theorem dX7_holder_36 : decode cX7_holder 36 = .ok (.goto 4, 3) := by decide +kernel
theorem dX7_holder_39 : decode cX7_holder 39 = .ok (.iload_n 3, 1) := by decide +kernel
theorem dX7_holder_40 : decode cX7_holder 40 = .ok (.istore_n 3, 1) := by decide +kernel
theorem dX7_holder_41 : decode cX7_holder 41 = .ok (.iinc 4 1, 3) := by decide +kernel
theorem dX7_holder_44 : decode cX7_holder 44 = .ok (.goto (-39), 3) := by decide +kernel
theorem dX7_holder_47 : decode cX7_holder 47 = .ok (.iload_n 3, 1) := by decide +kernel
theorem dX7_holder_48 : decode cX7_holder 48 = .ok (.ireturn, 1) := by decide +kernel
theorem dX7_wayTo_0 : decode cX7_wayTo 0 = .ok (.iconst 0, 1) := by decide +kernel
theorem dX7_wayTo_1 : decode cX7_wayTo 1 = .ok (.istore_n 3, 1) := by decide +kernel
theorem dX7_wayTo_2 : decode cX7_wayTo 2 = .ok (.aload_n 0, 1) := by decide +kernel
theorem dX7_wayTo_3 : decode cX7_wayTo 3 = .ok (.iload_n 1, 1) := by decide +kernel
theorem dX7_wayTo_4 : decode cX7_wayTo 4 = .ok (.iload_n 3, 1) := by decide +kernel
theorem dX7_wayTo_5 : decode cX7_wayTo 5 = .ok (.invokevirtual 72, 3) := by decide +kernel
theorem dX7_wayTo_8 : decode cX7_wayTo 8 = .ok (.iload_n 2, 1) := by decide +kernel
theorem dX7_wayTo_9 : decode cX7_wayTo 9 = .ok (.if_icmp .eq 9, 3) := by decide +kernel
theorem dX7_wayTo_12 : decode cX7_wayTo 12 = .ok (.iinc 3 1, 3) := by decide +kernel
theorem dX7_wayTo_15 : decode cX7_wayTo 15 = .ok (.goto (-13), 3) := by decide +kernel
theorem dX7_wayTo_18 : decode cX7_wayTo 18 = .ok (.iload_n 3, 1) := by decide +kernel
theorem dX7_wayTo_19 : decode cX7_wayTo 19 = .ok (.ireturn, 1) := by decide +kernel
theorem dX7_isDown_0 : decode cX7_isDown 0 = .ok (.aload_n 0, 1) := by decide +kernel
theorem dX7_isDown_1 : decode cX7_isDown 1 = .ok (.getfield 7, 3) := by decide +kernel
theorem dX7_isDown_4 : decode cX7_isDown 4 = .ok (.bipush 44, 2) := by decide +kernel
theorem dX7_isDown_6 : decode cX7_isDown 6 = .ok (.iload_n 1, 1) := by decide +kernel
theorem dX7_isDown_7 : decode cX7_isDown 7 = .ok (.iadd, 1) := by decide +kernel
theorem dX7_isDown_8 : decode cX7_isDown 8 = .ok (.iaload, 1) := by decide +kernel
theorem dX7_isDown_9 : decode cX7_isDown 9 = .ok (.iload_n 2, 1) := by decide +kernel
theorem dX7_isDown_10 : decode cX7_isDown 10 = .ok (.ishr, 1) := by decide +kernel
theorem dX7_isDown_11 : decode cX7_isDown 11 = .ok (.iconst 1, 1) := by decide +kernel
theorem dX7_isDown_12 : decode cX7_isDown 12 = .ok (.iand, 1) := by decide +kernel
theorem dX7_isDown_13 : decode cX7_isDown 13 = .ok (.iconst 1, 1) := by decide +kernel
theorem dX7_isDown_14 : decode cX7_isDown 14 = .ok (.if_icmp .ne 7, 3) := by decide +kernel
theorem dX7_isDown_17 : decode cX7_isDown 17 = .ok (.iconst 1, 1) := by decide +kernel
theorem dX7_isDown_18 : decode cX7_isDown 18 = .ok (.goto 4, 3) := by decide +kernel
theorem dX7_isDown_21 : decode cX7_isDown 21 = .ok (.iconst 0, 1) := by decide +kernel
theorem dX7_isDown_22 : decode cX7_isDown 22 = .ok (.ireturn, 1) := by decide +kernel
theorem dX7_goes_0 : decode cX7_goes 0 = .ok (.aload_n 0, 1) := by decide +kernel
theorem dX7_goes_1 : decode cX7_goes 1 = .ok (.iload_n 1, 1) := by decide +kernel
theorem dX7_goes_2 : decode cX7_goes 2 = .ok (.invokevirtual 88, 3) := by decide +kernel
theorem dX7_goes_5 : decode cX7_goes 5 = .ok (.istore_n 2, 1) := by decide +kernel
theorem dX7_goes_6 : decode cX7_goes 6 = .ok (.iload_n 2, 1) := by decide +kernel
theorem dX7_goes_7 : decode cX7_goes 7 = .ok (.aload_n 0, 1) := by decide +kernel
theorem dX7_goes_8 : decode cX7_goes 8 = .ok (.getfield 28, 3) := by decide +kernel
theorem dX7_goes_11 : decode cX7_goes 11 = .ok (.iload_n 1, 1) := by decide +kernel
theorem dX7_goes_12 : decode cX7_goes 12 = .ok (.iaload, 1) := by decide +kernel
theorem dX7_goes_13 : decode cX7_goes 13 = .ok (.if_icmp .ge 79, 3) := by decide +kernel
theorem dX7_goes_16 : decode cX7_goes 16 = .ok (.aload_n 0, 1) := by decide +kernel
theorem dX7_goes_17 : decode cX7_goes 17 = .ok (.getfield 25, 3) := by decide +kernel
theorem dX7_goes_20 : decode cX7_goes 20 = .ok (.bipush 37, 2) := by decide +kernel
theorem dX7_goes_22 : decode cX7_goes 22 = .ok (.iload_n 1, 1) := by decide +kernel
theorem dX7_goes_23 : decode cX7_goes 23 = .ok (.imul, 1) := by decide +kernel
theorem dX7_goes_24 : decode cX7_goes 24 = .ok (.iload_n 2, 1) := by decide +kernel
theorem dX7_goes_25 : decode cX7_goes 25 = .ok (.iadd, 1) := by decide +kernel
theorem dX7_goes_26 : decode cX7_goes 26 = .ok (.iaload, 1) := by decide +kernel
theorem dX7_goes_27 : decode cX7_goes 27 = .ok (.istore_n 3, 1) := by decide +kernel
theorem dX7_goes_28 : decode cX7_goes 28 = .ok (.aload_n 0, 1) := by decide +kernel
theorem dX7_goes_29 : decode cX7_goes 29 = .ok (.getfield 25, 3) := by decide +kernel
theorem dX7_goes_32 : decode cX7_goes 32 = .ok (.bipush 37, 2) := by decide +kernel
theorem dX7_goes_34 : decode cX7_goes 34 = .ok (.iload_n 1, 1) := by decide +kernel
theorem dX7_goes_35 : decode cX7_goes 35 = .ok (.imul, 1) := by decide +kernel
theorem dX7_goes_36 : decode cX7_goes 36 = .ok (.iload_n 2, 1) := by decide +kernel
theorem dX7_goes_37 : decode cX7_goes 37 = .ok (.iadd, 1) := by decide +kernel
theorem dX7_goes_38 : decode cX7_goes 38 = .ok (.iconst 1, 1) := by decide +kernel
theorem dX7_goes_39 : decode cX7_goes 39 = .ok (.iadd, 1) := by decide +kernel
theorem dX7_goes_40 : decode cX7_goes 40 = .ok (.iaload, 1) := by decide +kernel
theorem dX7_goes_41 : decode cX7_goes 41 = .ok (.istore 4, 2) := by decide +kernel
theorem dX7_goes_43 : decode cX7_goes 43 = .ok (.aload_n 0, 1) := by decide +kernel
theorem dX7_goes_44 : decode cX7_goes 44 = .ok (.iload_n 3, 1) := by decide +kernel
theorem dX7_goes_45 : decode cX7_goes 45 = .ok (.aload_n 0, 1) := by decide +kernel
theorem dX7_goes_46 : decode cX7_goes 46 = .ok (.iload_n 3, 1) := by decide +kernel
theorem dX7_goes_47 : decode cX7_goes 47 = .ok (.iload 4, 2) := by decide +kernel
theorem dX7_goes_49 : decode cX7_goes 49 = .ok (.invokevirtual 100, 3) := by decide +kernel
theorem dX7_goes_52 : decode cX7_goes 52 = .ok (.invokevirtual 103, 3) := by decide +kernel
theorem dX7_goes_55 : decode cX7_goes 55 = .ok (.ifCond .ne 14, 3) := by decide +kernel
theorem dX7_goes_58 : decode cX7_goes 58 = .ok (.aload_n 0, 1) := by decide +kernel
theorem dX7_goes_59 : decode cX7_goes 59 = .ok (.iload_n 3, 1) := by decide +kernel
theorem dX7_goes_60 : decode cX7_goes 60 = .ok (.iload 4, 2) := by decide +kernel
theorem dX7_goes_62 : decode cX7_goes 62 = .ok (.invokevirtual 106, 3) := by decide +kernel
theorem dX7_goes_65 : decode cX7_goes 65 = .ok (.iconst (-1), 1) := by decide +kernel
theorem dX7_goes_66 : decode cX7_goes 66 = .ok (.if_icmp .eq 26, 3) := by decide +kernel
theorem dX7_goes_69 : decode cX7_goes 69 = .ok (.aload_n 0, 1) := by decide +kernel
theorem dX7_goes_70 : decode cX7_goes 70 = .ok (.getfield 7, 3) := by decide +kernel
theorem dX7_goes_73 : decode cX7_goes 73 = .ok (.aload_n 0, 1) := by decide +kernel
theorem dX7_goes_74 : decode cX7_goes 74 = .ok (.iload_n 1, 1) := by decide +kernel
theorem dX7_goes_75 : decode cX7_goes 75 = .ok (.iconst 2, 1) := by decide +kernel
theorem dX7_goes_76 : decode cX7_goes 76 = .ok (.idiv, 1) := by decide +kernel
theorem dX7_goes_77 : decode cX7_goes 77 = .ok (.bipush 6, 2) := by decide +kernel
theorem dX7_goes_79 : decode cX7_goes 79 = .ok (.iload_n 1, 1) := by decide +kernel
theorem dX7_goes_80 : decode cX7_goes 80 = .ok (.iconst 2, 1) := by decide +kernel
theorem dX7_goes_81 : decode cX7_goes 81 = .ok (.irem, 1) := by decide +kernel
theorem dX7_goes_82 : decode cX7_goes 82 = .ok (.iadd, 1) := by decide +kernel
theorem dX7_goes_83 : decode cX7_goes 83 = .ok (.invokevirtual 109, 3) := by decide +kernel
theorem dX7_goes_86 : decode cX7_goes 86 = .ok (.dup2, 1) := by decide +kernel
theorem dX7_goes_87 : decode cX7_goes 87 = .ok (.iaload, 1) := by decide +kernel
theorem dX7_goes_88 : decode cX7_goes 88 = .ok (.iconst 1, 1) := by decide +kernel
theorem dX7_goes_89 : decode cX7_goes 89 = .ok (.iadd, 1) := by decide +kernel
theorem dX7_goes_90 : decode cX7_goes 90 = .ok (.iastore, 1) := by decide +kernel
theorem dX7_goes_91 : decode cX7_goes 91 = .ok (.return_, 1) := by decide +kernel
theorem dX7_goes_92 : decode cX7_goes 92 = .ok (.aload_n 0, 1) := by decide +kernel
theorem dX7_goes_93 : decode cX7_goes 93 = .ok (.getfield 7, 3) := by decide +kernel
theorem dX7_goes_96 : decode cX7_goes 96 = .ok (.aload_n 0, 1) := by decide +kernel
theorem dX7_goes_97 : decode cX7_goes 97 = .ok (.iload_n 1, 1) := by decide +kernel
theorem dX7_goes_98 : decode cX7_goes 98 = .ok (.iconst 2, 1) := by decide +kernel
theorem dX7_goes_99 : decode cX7_goes 99 = .ok (.idiv, 1) := by decide +kernel
theorem dX7_goes_100 : decode cX7_goes 100 = .ok (.iconst 4, 1) := by decide +kernel
theorem dX7_goes_101 : decode cX7_goes 101 = .ok (.iload_n 1, 1) := by decide +kernel
theorem dX7_goes_102 : decode cX7_goes 102 = .ok (.iconst 2, 1) := by decide +kernel
theorem dX7_goes_103 : decode cX7_goes 103 = .ok (.irem, 1) := by decide +kernel
theorem dX7_goes_104 : decode cX7_goes 104 = .ok (.iadd, 1) := by decide +kernel
theorem dX7_goes_105 : decode cX7_goes 105 = .ok (.invokevirtual 109, 3) := by decide +kernel
theorem dX7_goes_108 : decode cX7_goes 108 = .ok (.dup2, 1) := by decide +kernel
theorem dX7_goes_109 : decode cX7_goes 109 = .ok (.iaload, 1) := by decide +kernel
theorem dX7_goes_110 : decode cX7_goes 110 = .ok (.iconst 1, 1) := by decide +kernel
theorem dX7_goes_111 : decode cX7_goes 111 = .ok (.iadd, 1) := by decide +kernel
theorem dX7_goes_112 : decode cX7_goes 112 = .ok (.iastore, 1) := by decide +kernel
theorem dX7_goes_113 : decode cX7_goes 113 = .ok (.return_, 1) := by decide +kernel
end
section
theorem dX7_step_0 : decode cX7_step 0 = .ok (.iconst 0, 1) := by decide +kernel
theorem dX7_step_1 : decode cX7_step 1 = .ok (.istore_n 1, 1) := by decide +kernel
theorem dX7_step_2 : decode cX7_step 2 = .ok (.iload_n 1, 1) := by decide +kernel
theorem dX7_step_3 : decode cX7_step 3 = .ok (.iconst 2, 1) := by decide +kernel
theorem dX7_step_4 : decode cX7_step 4 = .ok (.aload_n 0, 1) := by decide +kernel
theorem dX7_step_5 : decode cX7_step 5 = .ok (.getfield 7, 3) := by decide +kernel
theorem dX7_step_8 : decode cX7_step 8 = .ok (.iconst 3, 1) := by decide +kernel
theorem dX7_step_9 : decode cX7_step 9 = .ok (.iaload, 1) := by decide +kernel
theorem dX7_step_10 : decode cX7_step 10 = .ok (.imul, 1) := by decide +kernel
theorem dX7_step_11 : decode cX7_step 11 = .ok (.if_icmp .ge 22, 3) := by decide +kernel
theorem dX7_step_14 : decode cX7_step 14 = .ok (.aload_n 0, 1) := by decide +kernel
theorem dX7_step_15 : decode cX7_step 15 = .ok (.iload_n 1, 1) := by decide +kernel
theorem dX7_step_16 : decode cX7_step 16 = .ok (.invokevirtual 112, 3) := by decide +kernel
theorem dX7_step_19 : decode cX7_step 19 = .ok (.ifCond .ne 8, 3) := by decide +kernel
theorem dX7_step_22 : decode cX7_step 22 = .ok (.aload_n 0, 1) := by decide +kernel
theorem dX7_step_23 : decode cX7_step 23 = .ok (.iload_n 1, 1) := by decide +kernel
theorem dX7_step_24 : decode cX7_step 24 = .ok (.invokevirtual 116, 3) := by decide +kernel
theorem dX7_step_27 : decode cX7_step 27 = .ok (.iinc 1 1, 3) := by decide +kernel
theorem dX7_step_30 : decode cX7_step 30 = .ok (.goto (-28), 3) := by decide +kernel
theorem dX7_step_33 : decode cX7_step 33 = .ok (.aload_n 0, 1) := by decide +kernel
theorem dX7_step_34 : decode cX7_step 34 = .ok (.getfield 7, 3) := by decide +kernel
theorem dX7_step_37 : decode cX7_step 37 = .ok (.iconst 2, 1) := by decide +kernel
theorem dX7_step_38 : decode cX7_step 38 = .ok (.dup2, 1) := by decide +kernel
theorem dX7_step_39 : decode cX7_step 39 = .ok (.iaload, 1) := by decide +kernel
theorem dX7_step_40 : decode cX7_step 40 = .ok (.iconst 1, 1) := by decide +kernel
theorem dX7_step_41 : decode cX7_step 41 = .ok (.iadd, 1) := by decide +kernel
theorem dX7_step_42 : decode cX7_step 42 = .ok (.iastore, 1) := by decide +kernel
theorem dX7_step_43 : decode cX7_step 43 = .ok (.return_, 1) := by decide +kernel
theorem dX7_putMesh_0 : decode cX7_putMesh 0 = .ok (.iload_n 1, 1) := by decide +kernel
theorem dX7_putMesh_1 : decode cX7_putMesh 1 = .ok (.iconst 2, 1) := by decide +kernel
theorem dX7_putMesh_2 : decode cX7_putMesh 2 = .ok (.bipush 6, 2) := by decide +kernel
theorem dX7_putMesh_4 : decode cX7_putMesh 4 = .ok (.invokestatic 54, 3) := by decide +kernel
theorem dX7_putMesh_7 : decode cX7_putMesh 7 = .ok (.ifCond .eq 13, 3) := by decide +kernel
theorem dX7_putMesh_10 : decode cX7_putMesh 10 = .ok (.iload_n 2, 1) := by decide +kernel
theorem dX7_putMesh_11 : decode cX7_putMesh 11 = .ok (.iconst 2, 1) := by decide +kernel
theorem dX7_putMesh_12 : decode cX7_putMesh 12 = .ok (.bipush 6, 2) := by decide +kernel
theorem dX7_putMesh_14 : decode cX7_putMesh 14 = .ok (.invokestatic 54, 3) := by decide +kernel
theorem dX7_putMesh_17 : decode cX7_putMesh 17 = .ok (.ifCond .ne 6, 3) := by decide +kernel
theorem dX7_putMesh_20 : decode cX7_putMesh 20 = .ok (.bipush (-2), 2) := by decide +kernel
theorem dX7_putMesh_22 : decode cX7_putMesh 22 = .ok (.ireturn, 1) := by decide +kernel
theorem dX7_putMesh_23 : decode cX7_putMesh 23 = .ok (.aload_n 0, 1) := by decide +kernel
theorem dX7_putMesh_24 : decode cX7_putMesh 24 = .ok (.getfield 7, 3) := by decide +kernel
theorem dX7_putMesh_27 : decode cX7_putMesh 27 = .ok (.iconst 0, 1) := by decide +kernel
theorem dX7_putMesh_28 : decode cX7_putMesh 28 = .ok (.iaload, 1) := by decide +kernel
theorem dX7_putMesh_29 : decode cX7_putMesh 29 = .ok (.aload_n 0, 1) := by decide +kernel
theorem dX7_putMesh_30 : decode cX7_putMesh 30 = .ok (.getfield 7, 3) := by decide +kernel
theorem dX7_putMesh_33 : decode cX7_putMesh 33 = .ok (.iconst 1, 1) := by decide +kernel
theorem dX7_putMesh_34 : decode cX7_putMesh 34 = .ok (.iaload, 1) := by decide +kernel
theorem dX7_putMesh_35 : decode cX7_putMesh 35 = .ok (.imul, 1) := by decide +kernel
theorem dX7_putMesh_36 : decode cX7_putMesh 36 = .ok (.istore_n 3, 1) := by decide +kernel
theorem dX7_putMesh_37 : decode cX7_putMesh 37 = .ok (.iconst 0, 1) := by decide +kernel
theorem dX7_putMesh_38 : decode cX7_putMesh 38 = .ok (.istore 4, 2) := by decide +kernel
theorem dX7_putMesh_40 : decode cX7_putMesh 40 = .ok (.iload 4, 2) := by decide +kernel
theorem dX7_putMesh_42 : decode cX7_putMesh 42 = .ok (.bipush 80, 2) := by decide +kernel
theorem dX7_putMesh_44 : decode cX7_putMesh 44 = .ok (.if_icmp .ge 17, 3) := by decide +kernel
theorem dX7_putMesh_47 : decode cX7_putMesh 47 = .ok (.aload_n 0, 1) := by decide +kernel
theorem dX7_putMesh_48 : decode cX7_putMesh 48 = .ok (.getfield 7, 3) := by decide +kernel
theorem dX7_putMesh_51 : decode cX7_putMesh 51 = .ok (.iload 4, 2) := by decide +kernel
theorem dX7_putMesh_53 : decode cX7_putMesh 53 = .ok (.iconst 0, 1) := by decide +kernel
theorem dX7_putMesh_54 : decode cX7_putMesh 54 = .ok (.iastore, 1) := by decide +kernel
theorem dX7_putMesh_55 : decode cX7_putMesh 55 = .ok (.iinc 4 1, 3) := by decide +kernel
theorem dX7_putMesh_58 : decode cX7_putMesh 58 = .ok (.goto (-18), 3) := by decide +kernel
theorem dX7_putMesh_61 : decode cX7_putMesh 61 = .ok (.aload_n 0, 1) := by decide +kernel
theorem dX7_putMesh_62 : decode cX7_putMesh 62 = .ok (.getfield 7, 3) := by decide +kernel
theorem dX7_putMesh_65 : decode cX7_putMesh 65 = .ok (.iconst 0, 1) := by decide +kernel
theorem dX7_putMesh_66 : decode cX7_putMesh 66 = .ok (.iload_n 1, 1) := by decide +kernel
theorem dX7_putMesh_67 : decode cX7_putMesh 67 = .ok (.iastore, 1) := by decide +kernel
theorem dX7_putMesh_68 : decode cX7_putMesh 68 = .ok (.aload_n 0, 1) := by decide +kernel
theorem dX7_putMesh_69 : decode cX7_putMesh 69 = .ok (.getfield 7, 3) := by decide +kernel
theorem dX7_putMesh_72 : decode cX7_putMesh 72 = .ok (.iconst 1, 1) := by decide +kernel
theorem dX7_putMesh_73 : decode cX7_putMesh 73 = .ok (.iload_n 2, 1) := by decide +kernel
theorem dX7_putMesh_74 : decode cX7_putMesh 74 = .ok (.iastore, 1) := by decide +kernel
theorem dX7_putMesh_75 : decode cX7_putMesh 75 = .ok (.iload_n 3, 1) := by decide +kernel
theorem dX7_putMesh_76 : decode cX7_putMesh 76 = .ok (.ireturn, 1) := by decide +kernel
theorem dX7_putMessage_0 : decode cX7_putMessage 0 = .ok (.aload_n 0, 1) := by decide +kernel
theorem dX7_putMessage_1 : decode cX7_putMessage 1 = .ok (.iload_n 1, 1) := by decide +kernel
theorem dX7_putMessage_2 : decode cX7_putMessage 2 = .ok (.iload_n 2, 1) := by decide +kernel
theorem dX7_putMessage_3 : decode cX7_putMessage 3 = .ok (.invokevirtual 64, 3) := by decide +kernel
theorem dX7_putMessage_6 : decode cX7_putMessage 6 = .ok (.ifCond .eq 13, 3) := by decide +kernel
theorem dX7_putMessage_9 : decode cX7_putMessage 9 = .ok (.iload_n 3, 1) := by decide +kernel
theorem dX7_putMessage_10 : decode cX7_putMessage 10 = .ok (.iconst 1, 1) := by decide +kernel
theorem dX7_putMessage_11 : decode cX7_putMessage 11 = .ok (.bipush 9, 2) := by decide +kernel
theorem dX7_putMessage_13 : decode cX7_putMessage 13 = .ok (.invokestatic 54, 3) := by decide +kernel
theorem dX7_putMessage_16 : decode cX7_putMessage 16 = .ok (.ifCond .ne 6, 3) := by decide +kernel
theorem dX7_putMessage_19 : decode cX7_putMessage 19 = .ok (.bipush (-2), 2) := by decide +kernel
theorem dX7_putMessage_21 : decode cX7_putMessage 21 = .ok (.ireturn, 1) := by decide +kernel
theorem dX7_putMessage_22 : decode cX7_putMessage 22 = .ok (.aload_n 0, 1) := by decide +kernel
theorem dX7_putMessage_23 : decode cX7_putMessage 23 = .ok (.getfield 7, 3) := by decide +kernel
theorem dX7_putMessage_26 : decode cX7_putMessage 26 = .ok (.iconst 3, 1) := by decide +kernel
theorem dX7_putMessage_27 : decode cX7_putMessage 27 = .ok (.iaload, 1) := by decide +kernel
theorem dX7_putMessage_28 : decode cX7_putMessage 28 = .ok (.iconst 5, 1) := by decide +kernel
theorem dX7_putMessage_29 : decode cX7_putMessage 29 = .ok (.if_icmp .ne 6, 3) := by decide +kernel
theorem dX7_putMessage_32 : decode cX7_putMessage 32 = .ok (.bipush (-4), 2) := by decide +kernel
theorem dX7_putMessage_34 : decode cX7_putMessage 34 = .ok (.ireturn, 1) := by decide +kernel
theorem dX7_putMessage_35 : decode cX7_putMessage 35 = .ok (.aload_n 0, 1) := by decide +kernel
theorem dX7_putMessage_36 : decode cX7_putMessage 36 = .ok (.getfield 7, 3) := by decide +kernel
theorem dX7_putMessage_39 : decode cX7_putMessage 39 = .ok (.iconst 3, 1) := by decide +kernel
theorem dX7_putMessage_40 : decode cX7_putMessage 40 = .ok (.iaload, 1) := by decide +kernel
theorem dX7_putMessage_41 : decode cX7_putMessage 41 = .ok (.istore 4, 2) := by decide +kernel
theorem dX7_putMessage_43 : decode cX7_putMessage 43 = .ok (.iconst 0, 1) := by decide +kernel
theorem dX7_putMessage_44 : decode cX7_putMessage 44 = .ok (.istore 5, 2) := by decide +kernel
theorem dX7_putMessage_46 : decode cX7_putMessage 46 = .ok (.iload 5, 2) := by decide +kernel
theorem dX7_putMessage_48 : decode cX7_putMessage 48 = .ok (.bipush 8, 2) := by decide +kernel
theorem dX7_putMessage_50 : decode cX7_putMessage 50 = .ok (.if_icmp .ge 23, 3) := by decide +kernel
theorem dX7_putMessage_53 : decode cX7_putMessage 53 = .ok (.aload_n 0, 1) := by decide +kernel
theorem dX7_putMessage_54 : decode cX7_putMessage 54 = .ok (.getfield 7, 3) := by decide +kernel
theorem dX7_putMessage_57 : decode cX7_putMessage 57 = .ok (.aload_n 0, 1) := by decide +kernel
theorem dX7_putMessage_58 : decode cX7_putMessage 58 = .ok (.iload 4, 2) := by decide +kernel
theorem dX7_putMessage_60 : decode cX7_putMessage 60 = .ok (.iload 5, 2) := by decide +kernel
theorem dX7_putMessage_62 : decode cX7_putMessage 62 = .ok (.invokevirtual 109, 3) := by decide +kernel
theorem dX7_putMessage_65 : decode cX7_putMessage 65 = .ok (.iconst 0, 1) := by decide +kernel
theorem dX7_putMessage_66 : decode cX7_putMessage 66 = .ok (.iastore, 1) := by decide +kernel
theorem dX7_putMessage_67 : decode cX7_putMessage 67 = .ok (.iinc 5 1, 3) := by decide +kernel
theorem dX7_putMessage_70 : decode cX7_putMessage 70 = .ok (.goto (-24), 3) := by decide +kernel
theorem dX7_putMessage_73 : decode cX7_putMessage 73 = .ok (.aload_n 0, 1) := by decide +kernel
theorem dX7_putMessage_74 : decode cX7_putMessage 74 = .ok (.getfield 7, 3) := by decide +kernel
theorem dX7_putMessage_77 : decode cX7_putMessage 77 = .ok (.aload_n 0, 1) := by decide +kernel
theorem dX7_putMessage_78 : decode cX7_putMessage 78 = .ok (.iload 4, 2) := by decide +kernel
theorem dX7_putMessage_80 : decode cX7_putMessage 80 = .ok (.iconst 0, 1) := by decide +kernel
theorem dX7_putMessage_81 : decode cX7_putMessage 81 = .ok (.invokevirtual 109, 3) := by decide +kernel
theorem dX7_putMessage_84 : decode cX7_putMessage 84 = .ok (.aload_n 0, 1) := by decide +kernel
theorem dX7_putMessage_85 : decode cX7_putMessage 85 = .ok (.iload_n 1, 1) := by decide +kernel
theorem dX7_putMessage_86 : decode cX7_putMessage 86 = .ok (.iload_n 2, 1) := by decide +kernel
theorem dX7_putMessage_87 : decode cX7_putMessage 87 = .ok (.invokevirtual 68, 3) := by decide +kernel
theorem dX7_putMessage_90 : decode cX7_putMessage 90 = .ok (.iastore, 1) := by decide +kernel
theorem dX7_putMessage_91 : decode cX7_putMessage 91 = .ok (.aload_n 0, 1) := by decide +kernel
theorem dX7_putMessage_92 : decode cX7_putMessage 92 = .ok (.getfield 7, 3) := by decide +kernel
theorem dX7_putMessage_95 : decode cX7_putMessage 95 = .ok (.aload_n 0, 1) := by decide +kernel
theorem dX7_putMessage_96 : decode cX7_putMessage 96 = .ok (.iload 4, 2) := by decide +kernel
theorem dX7_putMessage_98 : decode cX7_putMessage 98 = .ok (.iconst 1, 1) := by decide +kernel
theorem dX7_putMessage_99 : decode cX7_putMessage 99 = .ok (.invokevirtual 109, 3) := by decide +kernel
theorem dX7_putMessage_102 : decode cX7_putMessage 102 = .ok (.iload_n 3, 1) := by decide +kernel
theorem dX7_putMessage_103 : decode cX7_putMessage 103 = .ok (.iastore, 1) := by decide +kernel
theorem dX7_putMessage_104 : decode cX7_putMessage 104 = .ok (.aload_n 0, 1) := by decide +kernel
theorem dX7_putMessage_105 : decode cX7_putMessage 105 = .ok (.getfield 7, 3) := by decide +kernel
theorem dX7_putMessage_108 : decode cX7_putMessage 108 = .ok (.iconst 3, 1) := by decide +kernel
theorem dX7_putMessage_109 : decode cX7_putMessage 109 = .ok (.dup2, 1) := by decide +kernel
theorem dX7_putMessage_110 : decode cX7_putMessage 110 = .ok (.iaload, 1) := by decide +kernel
theorem dX7_putMessage_111 : decode cX7_putMessage 111 = .ok (.iconst 1, 1) := by decide +kernel
theorem dX7_putMessage_112 : decode cX7_putMessage 112 = .ok (.iadd, 1) := by decide +kernel
theorem dX7_putMessage_113 : decode cX7_putMessage 113 = .ok (.iastore, 1) := by decide +kernel
theorem dX7_putMessage_114 : decode cX7_putMessage 114 = .ok (.iload 4, 2) := by decide +kernel
theorem dX7_putMessage_116 : decode cX7_putMessage 116 = .ok (.ireturn, 1) := by decide +kernel
theorem dX7_goalsOf_0 : decode cX7_goalsOf 0 = .ok (.iconst 0, 1) := by decide +kernel
theorem dX7_goalsOf_1 : decode cX7_goalsOf 1 = .ok (.istore_n 2, 1) := by decide +kernel
theorem dX7_goalsOf_2 : decode cX7_goalsOf 2 = .ok (.iconst 0, 1) := by decide +kernel
theorem dX7_goalsOf_3 : decode cX7_goalsOf 3 = .ok (.istore_n 3, 1) := by decide +kernel
theorem dX7_goalsOf_4 : decode cX7_goalsOf 4 = .ok (.iload_n 3, 1) := by decide +kernel
theorem dX7_goalsOf_5 : decode cX7_goalsOf 5 = .ok (.bipush 36, 2) := by decide +kernel
theorem dX7_goalsOf_7 : decode cX7_goalsOf 7 = .ok (.if_icmp .ge 26, 3) := by decide +kernel
theorem dX7_goalsOf_10 : decode cX7_goalsOf 10 = .ok (.iload_n 2, 1) := by decide +kernel
theorem dX7_goalsOf_11 : decode cX7_goalsOf 11 = .ok (.aload_n 0, 1) := by decide +kernel
theorem dX7_goalsOf_12 : decode cX7_goalsOf 12 = .ok (.iload_n 1, 1) := by decide +kernel
theorem dX7_goalsOf_13 : decode cX7_goalsOf 13 = .ok (.iload_n 3, 1) := by decide +kernel
theorem dX7_goalsOf_14 : decode cX7_goalsOf 14 = .ok (.invokevirtual 81, 3) := by decide +kernel
theorem dX7_goalsOf_17 : decode cX7_goalsOf 17 = .ok (.ifCond .eq 7, 3) := by decide +kernel
theorem dX7_goalsOf_20 : decode cX7_goalsOf 20 = .ok (.iconst 1, 1) := by decide +kernel
theorem dX7_goalsOf_21 : decode cX7_goalsOf 21 = .ok (.goto 4, 3) := by decide +kernel
theorem dX7_goalsOf_24 : decode cX7_goalsOf 24 = .ok (.iconst 0, 1) := by decide +kernel
theorem dX7_goalsOf_25 : decode cX7_goalsOf 25 = .ok (.iadd, 1) := by decide +kernel
theorem dX7_goalsOf_26 : decode cX7_goalsOf 26 = .ok (.istore_n 2, 1) := by decide +kernel
theorem dX7_goalsOf_27 : decode cX7_goalsOf 27 = .ok (.iinc 3 1, 3) := by decide +kernel
theorem dX7_goalsOf_30 : decode cX7_goalsOf 30 = .ok (.goto (-26), 3) := by decide +kernel
theorem dX7_goalsOf_33 : decode cX7_goalsOf 33 = .ok (.iload_n 2, 1) := by decide +kernel
theorem dX7_goalsOf_34 : decode cX7_goalsOf 34 = .ok (.ireturn, 1) := by decide +kernel
theorem dX7_putGoal_0 : decode cX7_putGoal 0 = .ok (.aload_n 0, 1) := by decide +kernel
theorem dX7_putGoal_1 : decode cX7_putGoal 1 = .ok (.iload_n 1, 1) := by decide +kernel
theorem dX7_putGoal_2 : decode cX7_putGoal 2 = .ok (.invokevirtual 120, 3) := by decide +kernel
theorem dX7_putGoal_5 : decode cX7_putGoal 5 = .ok (.ifCond .eq 27, 3) := by decide +kernel
theorem dX7_putGoal_8 : decode cX7_putGoal 8 = .ok (.aload_n 0, 1) := by decide +kernel
theorem dX7_putGoal_9 : decode cX7_putGoal 9 = .ok (.iload_n 2, 1) := by decide +kernel
theorem dX7_putGoal_10 : decode cX7_putGoal 10 = .ok (.iload_n 3, 1) := by decide +kernel
theorem dX7_putGoal_11 : decode cX7_putGoal 11 = .ok (.invokevirtual 64, 3) := by decide +kernel
theorem dX7_putGoal_14 : decode cX7_putGoal 14 = .ok (.ifCond .eq 18, 3) := by decide +kernel
theorem dX7_putGoal_17 : decode cX7_putGoal 17 = .ok (.aload_n 0, 1) := by decide +kernel
theorem dX7_putGoal_18 : decode cX7_putGoal 18 = .ok (.iload_n 2, 1) := by decide +kernel
theorem dX7_putGoal_19 : decode cX7_putGoal 19 = .ok (.iload_n 3, 1) := by decide +kernel
theorem dX7_putGoal_20 : decode cX7_putGoal 20 = .ok (.invokevirtual 68, 3) := by decide +kernel
theorem dX7_putGoal_23 : decode cX7_putGoal 23 = .ok (.aload_n 0, 1) := by decide +kernel
theorem dX7_putGoal_24 : decode cX7_putGoal 24 = .ok (.iload_n 1, 1) := by decide +kernel
theorem dX7_putGoal_25 : decode cX7_putGoal 25 = .ok (.iconst 0, 1) := by decide +kernel
theorem dX7_putGoal_26 : decode cX7_putGoal 26 = .ok (.invokevirtual 78, 3) := by decide +kernel
theorem dX7_putGoal_29 : decode cX7_putGoal 29 = .ok (.if_icmp .ne 6, 3) := by decide +kernel
theorem dX7_putGoal_32 : decode cX7_putGoal 32 = .ok (.bipush (-2), 2) := by decide +kernel
theorem dX7_putGoal_34 : decode cX7_putGoal 34 = .ok (.ireturn, 1) := by decide +kernel
theorem dX7_putGoal_35 : decode cX7_putGoal 35 = .ok (.aload_n 0, 1) := by decide +kernel
theorem dX7_putGoal_36 : decode cX7_putGoal 36 = .ok (.iload_n 1, 1) := by decide +kernel
theorem dX7_putGoal_37 : decode cX7_putGoal 37 = .ok (.iconst 4, 1) := by decide +kernel
theorem dX7_putGoal_38 : decode cX7_putGoal 38 = .ok (.invokevirtual 78, 3) := by decide +kernel
theorem dX7_putGoal_41 : decode cX7_putGoal 41 = .ok (.ifCond .gt 12, 3) := by decide +kernel
theorem dX7_putGoal_44 : decode cX7_putGoal 44 = .ok (.aload_n 0, 1) := by decide +kernel
theorem dX7_putGoal_45 : decode cX7_putGoal 45 = .ok (.iload_n 1, 1) := by decide +kernel
theorem dX7_putGoal_46 : decode cX7_putGoal 46 = .ok (.iconst 5, 1) := by decide +kernel
theorem dX7_putGoal_47 : decode cX7_putGoal 47 = .ok (.invokevirtual 78, 3) := by decide +kernel
theorem dX7_putGoal_50 : decode cX7_putGoal 50 = .ok (.ifCond .le 6, 3) := by decide +kernel
theorem dX7_putGoal_53 : decode cX7_putGoal 53 = .ok (.bipush (-3), 2) := by decide +kernel
theorem dX7_putGoal_55 : decode cX7_putGoal 55 = .ok (.ireturn, 1) := by decide +kernel
theorem dX7_putGoal_56 : decode cX7_putGoal 56 = .ok (.aload_n 0, 1) := by decide +kernel
theorem dX7_putGoal_57 : decode cX7_putGoal 57 = .ok (.iload_n 2, 1) := by decide +kernel
theorem dX7_putGoal_58 : decode cX7_putGoal 58 = .ok (.iload_n 3, 1) := by decide +kernel
theorem dX7_putGoal_59 : decode cX7_putGoal 59 = .ok (.invokevirtual 68, 3) := by decide +kernel
theorem dX7_putGoal_62 : decode cX7_putGoal 62 = .ok (.istore 4, 2) := by decide +kernel
theorem dX7_putGoal_64 : decode cX7_putGoal 64 = .ok (.aload_n 0, 1) := by decide +kernel
theorem dX7_putGoal_65 : decode cX7_putGoal 65 = .ok (.getfield 7, 3) := by decide +kernel
theorem dX7_putGoal_68 : decode cX7_putGoal 68 = .ok (.aload_n 0, 1) := by decide +kernel
theorem dX7_putGoal_69 : decode cX7_putGoal 69 = .ok (.iload_n 1, 1) := by decide +kernel
theorem dX7_putGoal_70 : decode cX7_putGoal 70 = .ok (.iconst 2, 1) := by decide +kernel
theorem dX7_putGoal_71 : decode cX7_putGoal 71 = .ok (.iload 4, 2) := by decide +kernel
theorem dX7_putGoal_73 : decode cX7_putGoal 73 = .ok (.bipush 18, 2) := by decide +kernel
theorem dX7_putGoal_75 : decode cX7_putGoal 75 = .ok (.idiv, 1) := by decide +kernel
theorem dX7_putGoal_76 : decode cX7_putGoal 76 = .ok (.iadd, 1) := by decide +kernel
theorem dX7_putGoal_77 : decode cX7_putGoal 77 = .ok (.invokevirtual 109, 3) := by decide +kernel
theorem dX7_putGoal_80 : decode cX7_putGoal 80 = .ok (.dup2, 1) := by decide +kernel
theorem dX7_putGoal_81 : decode cX7_putGoal 81 = .ok (.iaload, 1) := by decide +kernel
theorem dX7_putGoal_82 : decode cX7_putGoal 82 = .ok (.iconst 1, 1) := by decide +kernel
theorem dX7_putGoal_83 : decode cX7_putGoal 83 = .ok (.iload 4, 2) := by decide +kernel
theorem dX7_putGoal_85 : decode cX7_putGoal 85 = .ok (.bipush 18, 2) := by decide +kernel
theorem dX7_putGoal_87 : decode cX7_putGoal 87 = .ok (.irem, 1) := by decide +kernel
theorem dX7_putGoal_88 : decode cX7_putGoal 88 = .ok (.ishl, 1) := by decide +kernel
theorem dX7_putGoal_89 : decode cX7_putGoal 89 = .ok (.ixor, 1) := by decide +kernel
theorem dX7_putGoal_90 : decode cX7_putGoal 90 = .ok (.iastore, 1) := by decide +kernel
theorem dX7_putGoal_91 : decode cX7_putGoal 91 = .ok (.aload_n 0, 1) := by decide +kernel
theorem dX7_putGoal_92 : decode cX7_putGoal 92 = .ok (.iload_n 1, 1) := by decide +kernel
theorem dX7_putGoal_93 : decode cX7_putGoal 93 = .ok (.invokevirtual 123, 3) := by decide +kernel
theorem dX7_putGoal_96 : decode cX7_putGoal 96 = .ok (.ireturn, 1) := by decide +kernel
theorem dX7_isChannel_0 : decode cX7_isChannel 0 = .ok (.aload_n 0, 1) := by decide +kernel
theorem dX7_isChannel_1 : decode cX7_isChannel 1 = .ok (.iload_n 1, 1) := by decide +kernel
theorem dX7_isChannel_2 : decode cX7_isChannel 2 = .ok (.iload_n 2, 1) := by decide +kernel
theorem dX7_isChannel_3 : decode cX7_isChannel 3 = .ok (.invokevirtual 64, 3) := by decide +kernel
theorem dX7_isChannel_6 : decode cX7_isChannel 6 = .ok (.ifCond .eq 31, 3) := by decide +kernel
theorem dX7_isChannel_9 : decode cX7_isChannel 9 = .ok (.iload_n 3, 1) := by decide +kernel
theorem dX7_isChannel_10 : decode cX7_isChannel 10 = .ok (.iconst 0, 1) := by decide +kernel
theorem dX7_isChannel_11 : decode cX7_isChannel 11 = .ok (.iconst 3, 1) := by decide +kernel
theorem dX7_isChannel_12 : decode cX7_isChannel 12 = .ok (.invokestatic 54, 3) := by decide +kernel
theorem dX7_isChannel_15 : decode cX7_isChannel 15 = .ok (.ifCond .eq 22, 3) := by decide +kernel
theorem dX7_isChannel_18 : decode cX7_isChannel 18 = .ok (.aload_n 0, 1) := by decide +kernel
theorem dX7_isChannel_19 : decode cX7_isChannel 19 = .ok (.aload_n 0, 1) := by decide +kernel
theorem dX7_isChannel_20 : decode cX7_isChannel 20 = .ok (.iload_n 1, 1) := by decide +kernel
theorem dX7_isChannel_21 : decode cX7_isChannel 21 = .ok (.iload_n 2, 1) := by decide +kernel
theorem dX7_isChannel_22 : decode cX7_isChannel 22 = .ok (.invokevirtual 68, 3) := by decide +kernel
theorem dX7_isChannel_25 : decode cX7_isChannel 25 = .ok (.iload_n 3, 1) := by decide +kernel
theorem dX7_isChannel_26 : decode cX7_isChannel 26 = .ok (.invokevirtual 72, 3) := by decide +kernel
theorem dX7_isChannel_29 : decode cX7_isChannel 29 = .ok (.iconst (-1), 1) := by decide +kernel
theorem dX7_isChannel_30 : decode cX7_isChannel 30 = .ok (.if_icmp .eq 7, 3) := by decide +kernel
theorem dX7_isChannel_33 : decode cX7_isChannel 33 = .ok (.iconst 1, 1) := by decide +kernel
theorem dX7_isChannel_34 : decode cX7_isChannel 34 = .ok (.goto 4, 3) := by decide +kernel
theorem dX7_isChannel_37 : decode cX7_isChannel 37 = .ok (.iconst 0, 1) := by decide +kernel
theorem dX7_isChannel_38 : decode cX7_isChannel 38 = .ok (.ireturn, 1) := by decide +kernel
theorem dX7_putTurn_0 : decode cX7_putTurn 0 = .ok (.aload_n 0, 1) := by decide +kernel
theorem dX7_putTurn_1 : decode cX7_putTurn 1 = .ok (.iload_n 1, 1) := by decide +kernel
theorem dX7_putTurn_2 : decode cX7_putTurn 2 = .ok (.iload_n 2, 1) := by decide +kernel
theorem dX7_putTurn_3 : decode cX7_putTurn 3 = .ok (.iload_n 3, 1) := by decide +kernel
theorem dX7_putTurn_4 : decode cX7_putTurn 4 = .ok (.invokevirtual 126, 3) := by decide +kernel
theorem dX7_putTurn_7 : decode cX7_putTurn 7 = .ok (.ifCond .ne 6, 3) := by decide +kernel
theorem dX7_putTurn_10 : decode cX7_putTurn 10 = .ok (.bipush (-2), 2) := by decide +kernel
theorem dX7_putTurn_12 : decode cX7_putTurn 12 = .ok (.ireturn, 1) := by decide +kernel
theorem dX7_putTurn_13 : decode cX7_putTurn 13 = .ok (.aload_n 0, 1) := by decide +kernel
theorem dX7_putTurn_14 : decode cX7_putTurn 14 = .ok (.getfield 7, 3) := by decide +kernel
theorem dX7_putTurn_17 : decode cX7_putTurn 17 = .ok (.bipush 44, 2) := by decide +kernel
theorem dX7_putTurn_19 : decode cX7_putTurn 19 = .ok (.aload_n 0, 1) := by decide +kernel
theorem dX7_putTurn_20 : decode cX7_putTurn 20 = .ok (.iload_n 1, 1) := by decide +kernel
theorem dX7_putTurn_21 : decode cX7_putTurn 21 = .ok (.iload_n 2, 1) := by decide +kernel
theorem dX7_putTurn_22 : decode cX7_putTurn 22 = .ok (.invokevirtual 68, 3) := by decide +kernel
theorem dX7_putTurn_25 : decode cX7_putTurn 25 = .ok (.iadd, 1) := by decide +kernel
theorem dX7_putTurn_26 : decode cX7_putTurn 26 = .ok (.dup2, 1) := by decide +kernel
theorem dX7_putTurn_27 : decode cX7_putTurn 27 = .ok (.iaload, 1) := by decide +kernel
theorem dX7_putTurn_28 : decode cX7_putTurn 28 = .ok (.iconst 1, 1) := by decide +kernel
theorem dX7_putTurn_29 : decode cX7_putTurn 29 = .ok (.iload_n 3, 1) := by decide +kernel
theorem dX7_putTurn_30 : decode cX7_putTurn 30 = .ok (.ishl, 1) := by decide +kernel
theorem dX7_putTurn_31 : decode cX7_putTurn 31 = .ok (.ixor, 1) := by decide +kernel
theorem dX7_putTurn_32 : decode cX7_putTurn 32 = .ok (.iastore, 1) := by decide +kernel
theorem dX7_putTurn_33 : decode cX7_putTurn 33 = .ok (.aload_n 0, 1) := by decide +kernel
theorem dX7_putTurn_34 : decode cX7_putTurn 34 = .ok (.aload_n 0, 1) := by decide +kernel
theorem dX7_putTurn_35 : decode cX7_putTurn 35 = .ok (.iload_n 1, 1) := by decide +kernel
theorem dX7_putTurn_36 : decode cX7_putTurn 36 = .ok (.iload_n 2, 1) := by decide +kernel
theorem dX7_putTurn_37 : decode cX7_putTurn 37 = .ok (.invokevirtual 68, 3) := by decide +kernel
theorem dX7_putTurn_40 : decode cX7_putTurn 40 = .ok (.iload_n 3, 1) := by decide +kernel
theorem dX7_putTurn_41 : decode cX7_putTurn 41 = .ok (.invokevirtual 103, 3) := by decide +kernel
theorem dX7_putTurn_44 : decode cX7_putTurn 44 = .ok (.ifCond .eq 7, 3) := by decide +kernel
theorem dX7_putTurn_47 : decode cX7_putTurn 47 = .ok (.iconst 0, 1) := by decide +kernel
theorem dX7_putTurn_48 : decode cX7_putTurn 48 = .ok (.goto 4, 3) := by decide +kernel
theorem dX7_putTurn_51 : decode cX7_putTurn 51 = .ok (.iconst 1, 1) := by decide +kernel
theorem dX7_putTurn_52 : decode cX7_putTurn 52 = .ok (.ireturn, 1) := by decide +kernel
theorem dX7_notDone_0 : decode cX7_notDone 0 = .ok (.iconst 0, 1) := by decide +kernel
theorem dX7_notDone_1 : decode cX7_notDone 1 = .ok (.istore_n 1, 1) := by decide +kernel
theorem dX7_notDone_2 : decode cX7_notDone 2 = .ok (.iconst 0, 1) := by decide +kernel
theorem dX7_notDone_3 : decode cX7_notDone 3 = .ok (.istore_n 2, 1) := by decide +kernel
theorem dX7_notDone_4 : decode cX7_notDone 4 = .ok (.iload_n 2, 1) := by decide +kernel
theorem dX7_notDone_5 : decode cX7_notDone 5 = .ok (.iconst 2, 1) := by decide +kernel
theorem dX7_notDone_6 : decode cX7_notDone 6 = .ok (.aload_n 0, 1) := by decide +kernel
theorem dX7_notDone_7 : decode cX7_notDone 7 = .ok (.getfield 7, 3) := by decide +kernel
theorem dX7_notDone_10 : decode cX7_notDone 10 = .ok (.iconst 3, 1) := by decide +kernel
theorem dX7_notDone_11 : decode cX7_notDone 11 = .ok (.iaload, 1) := by decide +kernel
theorem dX7_notDone_12 : decode cX7_notDone 12 = .ok (.imul, 1) := by decide +kernel
theorem dX7_notDone_13 : decode cX7_notDone 13 = .ok (.if_icmp .ge 25, 3) := by decide +kernel
theorem dX7_notDone_16 : decode cX7_notDone 16 = .ok (.iload_n 1, 1) := by decide +kernel
theorem dX7_notDone_17 : decode cX7_notDone 17 = .ok (.aload_n 0, 1) := by decide +kernel
theorem dX7_notDone_18 : decode cX7_notDone 18 = .ok (.iload_n 2, 1) := by decide +kernel
theorem dX7_notDone_19 : decode cX7_notDone 19 = .ok (.invokevirtual 112, 3) := by decide +kernel
theorem dX7_notDone_22 : decode cX7_notDone 22 = .ok (.ifCond .eq 7, 3) := by decide +kernel
theorem dX7_notDone_25 : decode cX7_notDone 25 = .ok (.iconst 0, 1) := by decide +kernel
theorem dX7_notDone_26 : decode cX7_notDone 26 = .ok (.goto 4, 3) := by decide +kernel
theorem dX7_notDone_29 : decode cX7_notDone 29 = .ok (.iconst 1, 1) := by decide +kernel
theorem dX7_notDone_30 : decode cX7_notDone 30 = .ok (.iadd, 1) := by decide +kernel
theorem dX7_notDone_31 : decode cX7_notDone 31 = .ok (.istore_n 1, 1) := by decide +kernel
theorem dX7_notDone_32 : decode cX7_notDone 32 = .ok (.iinc 2 1, 3) := by decide +kernel
theorem dX7_notDone_35 : decode cX7_notDone 35 = .ok (.goto (-31), 3) := by decide +kernel
theorem dX7_notDone_38 : decode cX7_notDone 38 = .ok (.iload_n 1, 1) := by decide +kernel
theorem dX7_notDone_39 : decode cX7_notDone 39 = .ok (.ireturn, 1) := by decide +kernel
theorem dX7_putSteps_0 : decode cX7_putSteps 0 = .ok (.iload_n 1, 1) := by decide +kernel
theorem dX7_putSteps_1 : decode cX7_putSteps 1 = .ok (.iconst 1, 1) := by decide +kernel
theorem dX7_putSteps_2 : decode cX7_putSteps 2 = .ok (.sipush 200, 3) := by decide +kernel
theorem dX7_putSteps_5 : decode cX7_putSteps 5 = .ok (.invokestatic 54, 3) := by decide +kernel
theorem dX7_putSteps_8 : decode cX7_putSteps 8 = .ok (.ifCond .ne 6, 3) := by decide +kernel
theorem dX7_putSteps_11 : decode cX7_putSteps 11 = .ok (.bipush (-2), 2) := by decide +kernel
theorem dX7_putSteps_13 : decode cX7_putSteps 13 = .ok (.ireturn, 1) := by decide +kernel
theorem dX7_putSteps_14 : decode cX7_putSteps 14 = .ok (.aload_n 0, 1) := by decide +kernel
theorem dX7_putSteps_15 : decode cX7_putSteps 15 = .ok (.invokevirtual 129, 3) := by decide +kernel
theorem dX7_putSteps_18 : decode cX7_putSteps 18 = .ok (.iconst 0, 1) := by decide +kernel
theorem dX7_putSteps_19 : decode cX7_putSteps 19 = .ok (.istore_n 2, 1) := by decide +kernel
theorem dX7_putSteps_20 : decode cX7_putSteps 20 = .ok (.iload_n 2, 1) := by decide +kernel
theorem dX7_putSteps_21 : decode cX7_putSteps 21 = .ok (.iload_n 1, 1) := by decide +kernel
theorem dX7_putSteps_22 : decode cX7_putSteps 22 = .ok (.if_icmp .ge 13, 3) := by decide +kernel
theorem dX7_putSteps_25 : decode cX7_putSteps 25 = .ok (.aload_n 0, 1) := by decide +kernel
theorem dX7_putSteps_26 : decode cX7_putSteps 26 = .ok (.invokevirtual 132, 3) := by decide +kernel
theorem dX7_putSteps_29 : decode cX7_putSteps 29 = .ok (.iinc 2 1, 3) := by decide +kernel
theorem dX7_putSteps_32 : decode cX7_putSteps 32 = .ok (.goto (-12), 3) := by decide +kernel
theorem dX7_putSteps_35 : decode cX7_putSteps 35 = .ok (.aload_n 0, 1) := by decide +kernel
theorem dX7_putSteps_36 : decode cX7_putSteps 36 = .ok (.invokevirtual 135, 3) := by decide +kernel
theorem dX7_putSteps_39 : decode cX7_putSteps 39 = .ok (.ireturn, 1) := by decide +kernel
theorem dX7_putAgain_0 : decode cX7_putAgain 0 = .ok (.aload_n 0, 1) := by decide +kernel
theorem dX7_putAgain_1 : decode cX7_putAgain 1 = .ok (.getfield 7, 3) := by decide +kernel
theorem dX7_putAgain_4 : decode cX7_putAgain 4 = .ok (.iconst 2, 1) := by decide +kernel
theorem dX7_putAgain_5 : decode cX7_putAgain 5 = .ok (.iaload, 1) := by decide +kernel
theorem dX7_putAgain_6 : decode cX7_putAgain 6 = .ok (.istore_n 1, 1) := by decide +kernel
theorem dX7_putAgain_7 : decode cX7_putAgain 7 = .ok (.aload_n 0, 1) := by decide +kernel
theorem dX7_putAgain_8 : decode cX7_putAgain 8 = .ok (.getfield 7, 3) := by decide +kernel
theorem dX7_putAgain_11 : decode cX7_putAgain 11 = .ok (.iconst 2, 1) := by decide +kernel
theorem dX7_putAgain_12 : decode cX7_putAgain 12 = .ok (.iconst 0, 1) := by decide +kernel
theorem dX7_putAgain_13 : decode cX7_putAgain 13 = .ok (.iastore, 1) := by decide +kernel
theorem dX7_putAgain_14 : decode cX7_putAgain 14 = .ok (.iconst 0, 1) := by decide +kernel
theorem dX7_putAgain_15 : decode cX7_putAgain 15 = .ok (.istore_n 2, 1) := by decide +kernel
theorem dX7_putAgain_16 : decode cX7_putAgain 16 = .ok (.iload_n 2, 1) := by decide +kernel
theorem dX7_putAgain_17 : decode cX7_putAgain 17 = .ok (.aload_n 0, 1) := by decide +kernel
theorem dX7_putAgain_18 : decode cX7_putAgain 18 = .ok (.getfield 7, 3) := by decide +kernel
theorem dX7_putAgain_21 : decode cX7_putAgain 21 = .ok (.iconst 3, 1) := by decide +kernel
theorem dX7_putAgain_22 : decode cX7_putAgain 22 = .ok (.iaload, 1) := by decide +kernel
theorem dX7_putAgain_23 : decode cX7_putAgain 23 = .ok (.if_icmp .ge 35, 3) := by decide +kernel
theorem dX7_putAgain_26 : decode cX7_putAgain 26 = .ok (.iconst 4, 1) := by decide +kernel
theorem dX7_putAgain_27 : decode cX7_putAgain 27 = .ok (.istore_n 3, 1) := by decide +kernel
theorem dX7_putAgain_28 : decode cX7_putAgain 28 = .ok (.iload_n 3, 1) := by decide +kernel
theorem dX7_putAgain_29 : decode cX7_putAgain 29 = .ok (.bipush 8, 2) := by decide +kernel
theorem dX7_putAgain_31 : decode cX7_putAgain 31 = .ok (.if_icmp .ge 21, 3) := by decide +kernel
theorem dX7_putAgain_34 : decode cX7_putAgain 34 = .ok (.aload_n 0, 1) := by decide +kernel
theorem dX7_putAgain_35 : decode cX7_putAgain 35 = .ok (.getfield 7, 3) := by decide +kernel
theorem dX7_putAgain_38 : decode cX7_putAgain 38 = .ok (.aload_n 0, 1) := by decide +kernel
theorem dX7_putAgain_39 : decode cX7_putAgain 39 = .ok (.iload_n 2, 1) := by decide +kernel
theorem dX7_putAgain_40 : decode cX7_putAgain 40 = .ok (.iload_n 3, 1) := by decide +kernel
theorem dX7_putAgain_41 : decode cX7_putAgain 41 = .ok (.invokevirtual 109, 3) := by decide +kernel
theorem dX7_putAgain_44 : decode cX7_putAgain 44 = .ok (.iconst 0, 1) := by decide +kernel
theorem dX7_putAgain_45 : decode cX7_putAgain 45 = .ok (.iastore, 1) := by decide +kernel
theorem dX7_putAgain_46 : decode cX7_putAgain 46 = .ok (.iinc 3 1, 3) := by decide +kernel
theorem dX7_putAgain_49 : decode cX7_putAgain 49 = .ok (.goto (-21), 3) := by decide +kernel
theorem dX7_putAgain_52 : decode cX7_putAgain 52 = .ok (.iinc 2 1, 3) := by decide +kernel
theorem dX7_putAgain_55 : decode cX7_putAgain 55 = .ok (.goto (-39), 3) := by decide +kernel
theorem dX7_putAgain_58 : decode cX7_putAgain 58 = .ok (.iload_n 1, 1) := by decide +kernel
theorem dX7_putAgain_59 : decode cX7_putAgain 59 = .ok (.ireturn, 1) := by decide +kernel
theorem dX7_mesh_0 : decode cX7_mesh 0 = .ok (.aload_n 0, 1) := by decide +kernel
theorem dX7_mesh_1 : decode cX7_mesh 1 = .ok (.invokevirtual 139, 3) := by decide +kernel
theorem dX7_mesh_4 : decode cX7_mesh 4 = .ok (.aload_n 0, 1) := by decide +kernel
theorem dX7_mesh_5 : decode cX7_mesh 5 = .ok (.aload_n 0, 1) := by decide +kernel
theorem dX7_mesh_6 : decode cX7_mesh 6 = .ok (.iload_n 1, 1) := by decide +kernel
theorem dX7_mesh_7 : decode cX7_mesh 7 = .ok (.iload_n 2, 1) := by decide +kernel
theorem dX7_mesh_8 : decode cX7_mesh 8 = .ok (.invokevirtual 142, 3) := by decide +kernel
theorem dX7_mesh_11 : decode cX7_mesh 11 = .ok (.invokevirtual 145, 3) := by decide +kernel
theorem dX7_mesh_14 : decode cX7_mesh 14 = .ok (.ireturn, 1) := by decide +kernel
theorem dX7_message_0 : decode cX7_message 0 = .ok (.aload_n 0, 1) := by decide +kernel
theorem dX7_message_1 : decode cX7_message 1 = .ok (.invokevirtual 139, 3) := by decide +kernel
theorem dX7_message_4 : decode cX7_message 4 = .ok (.aload_n 0, 1) := by decide +kernel
theorem dX7_message_5 : decode cX7_message 5 = .ok (.aload_n 0, 1) := by decide +kernel
theorem dX7_message_6 : decode cX7_message 6 = .ok (.iload_n 1, 1) := by decide +kernel
theorem dX7_message_7 : decode cX7_message 7 = .ok (.iload_n 2, 1) := by decide +kernel
theorem dX7_message_8 : decode cX7_message 8 = .ok (.iload_n 3, 1) := by decide +kernel
theorem dX7_message_9 : decode cX7_message 9 = .ok (.invokevirtual 148, 3) := by decide +kernel
theorem dX7_message_12 : decode cX7_message 12 = .ok (.invokevirtual 145, 3) := by decide +kernel
theorem dX7_message_15 : decode cX7_message 15 = .ok (.ireturn, 1) := by decide +kernel
theorem dX7_goal_0 : decode cX7_goal 0 = .ok (.aload_n 0, 1) := by decide +kernel
theorem dX7_goal_1 : decode cX7_goal 1 = .ok (.invokevirtual 139, 3) := by decide +kernel
theorem dX7_goal_4 : decode cX7_goal 4 = .ok (.aload_n 0, 1) := by decide +kernel
theorem dX7_goal_5 : decode cX7_goal 5 = .ok (.aload_n 0, 1) := by decide +kernel
theorem dX7_goal_6 : decode cX7_goal 6 = .ok (.iload_n 1, 1) := by decide +kernel
theorem dX7_goal_7 : decode cX7_goal 7 = .ok (.iload_n 2, 1) := by decide +kernel
theorem dX7_goal_8 : decode cX7_goal 8 = .ok (.iload_n 3, 1) := by decide +kernel
theorem dX7_goal_9 : decode cX7_goal 9 = .ok (.invokevirtual 152, 3) := by decide +kernel
theorem dX7_goal_12 : decode cX7_goal 12 = .ok (.invokevirtual 145, 3) := by decide +kernel
theorem dX7_goal_15 : decode cX7_goal 15 = .ok (.ireturn, 1) := by decide +kernel
theorem dX7_turns_0 : decode cX7_turns 0 = .ok (.aload_n 0, 1) := by decide +kernel
theorem dX7_turns_1 : decode cX7_turns 1 = .ok (.invokevirtual 139, 3) := by decide +kernel
theorem dX7_turns_4 : decode cX7_turns 4 = .ok (.aload_n 0, 1) := by decide +kernel
theorem dX7_turns_5 : decode cX7_turns 5 = .ok (.aload_n 0, 1) := by decide +kernel
theorem dX7_turns_6 : decode cX7_turns 6 = .ok (.iload_n 1, 1) := by decide +kernel
theorem dX7_turns_7 : decode cX7_turns 7 = .ok (.iload_n 2, 1) := by decide +kernel
theorem dX7_turns_8 : decode cX7_turns 8 = .ok (.iload_n 3, 1) := by decide +kernel
theorem dX7_turns_9 : decode cX7_turns 9 = .ok (.invokevirtual 155, 3) := by decide +kernel
theorem dX7_turns_12 : decode cX7_turns 12 = .ok (.invokevirtual 145, 3) := by decide +kernel
theorem dX7_turns_15 : decode cX7_turns 15 = .ok (.ireturn, 1) := by decide +kernel
theorem dX7_steps_0 : decode cX7_steps 0 = .ok (.aload_n 0, 1) := by decide +kernel
theorem dX7_steps_1 : decode cX7_steps 1 = .ok (.invokevirtual 139, 3) := by decide +kernel
theorem dX7_steps_4 : decode cX7_steps 4 = .ok (.aload_n 0, 1) := by decide +kernel
theorem dX7_steps_5 : decode cX7_steps 5 = .ok (.aload_n 0, 1) := by decide +kernel
theorem dX7_steps_6 : decode cX7_steps 6 = .ok (.iload_n 1, 1) := by decide +kernel
theorem dX7_steps_7 : decode cX7_steps 7 = .ok (.invokevirtual 158, 3) := by decide +kernel
theorem dX7_steps_10 : decode cX7_steps 10 = .ok (.invokevirtual 145, 3) := by decide +kernel
theorem dX7_steps_13 : decode cX7_steps 13 = .ok (.ireturn, 1) := by decide +kernel
theorem dX7_again_0 : decode cX7_again 0 = .ok (.aload_n 0, 1) := by decide +kernel
theorem dX7_again_1 : decode cX7_again 1 = .ok (.invokevirtual 139, 3) := by decide +kernel
theorem dX7_again_4 : decode cX7_again 4 = .ok (.aload_n 0, 1) := by decide +kernel
theorem dX7_again_5 : decode cX7_again 5 = .ok (.aload_n 0, 1) := by decide +kernel
theorem dX7_again_6 : decode cX7_again 6 = .ok (.invokevirtual 161, 3) := by decide +kernel
theorem dX7_again_9 : decode cX7_again 9 = .ok (.invokevirtual 145, 3) := by decide +kernel
theorem dX7_again_12 : decode cX7_again 12 = .ok (.ireturn, 1) := by decide +kernel
theorem dX7_label_0 : decode cX7_label 0 = .ok (.aload_n 0, 1) := by decide +kernel
theorem dX7_label_1 : decode cX7_label 1 = .ok (.iload_n 1, 1) := by decide +kernel
theorem dX7_label_2 : decode cX7_label 2 = .ok (.iload_n 2, 1) := by decide +kernel
theorem dX7_label_3 : decode cX7_label 3 = .ok (.invokevirtual 64, 3) := by decide +kernel
theorem dX7_label_6 : decode cX7_label 6 = .ok (.ifCond .eq 12, 3) := by decide +kernel
theorem dX7_label_9 : decode cX7_label 9 = .ok (.aload_n 0, 1) := by decide +kernel
theorem dX7_label_10 : decode cX7_label 10 = .ok (.iload_n 1, 1) := by decide +kernel
theorem dX7_label_11 : decode cX7_label 11 = .ok (.iload_n 2, 1) := by decide +kernel
theorem dX7_label_12 : decode cX7_label 12 = .ok (.invokevirtual 68, 3) := by decide +kernel
theorem dX7_label_15 : decode cX7_label 15 = .ok (.goto 9, 3) := by decide +kernel
theorem dX7_label_18 : decode cX7_label 18 = .ok (.aload_n 0, 1) := by decide +kernel
theorem dX7_label_19 : decode cX7_label 19 = .ok (.bipush (-2), 2) := by decide +kernel
theorem dX7_label_21 : decode cX7_label 21 = .ok (.invokevirtual 47, 3) := by decide +kernel
theorem dX7_label_24 : decode cX7_label 24 = .ok (.ireturn, 1) := by decide +kernel
theorem dX7_isLabel_0 : decode cX7_isLabel 0 = .ok (.iload_n 1, 1) := by decide +kernel
theorem dX7_isLabel_1 : decode cX7_isLabel 1 = .ok (.iconst 0, 1) := by decide +kernel
theorem dX7_isLabel_2 : decode cX7_isLabel 2 = .ok (.aload_n 0, 1) := by decide +kernel
theorem dX7_isLabel_3 : decode cX7_isLabel 3 = .ok (.getfield 7, 3) := by decide +kernel
theorem dX7_isLabel_6 : decode cX7_isLabel 6 = .ok (.iconst 0, 1) := by decide +kernel
theorem dX7_isLabel_7 : decode cX7_isLabel 7 = .ok (.iaload, 1) := by decide +kernel
theorem dX7_isLabel_8 : decode cX7_isLabel 8 = .ok (.aload_n 0, 1) := by decide +kernel
theorem dX7_isLabel_9 : decode cX7_isLabel 9 = .ok (.getfield 7, 3) := by decide +kernel
theorem dX7_isLabel_12 : decode cX7_isLabel 12 = .ok (.iconst 1, 1) := by decide +kernel
theorem dX7_isLabel_13 : decode cX7_isLabel 13 = .ok (.iaload, 1) := by decide +kernel
theorem dX7_isLabel_14 : decode cX7_isLabel 14 = .ok (.imul, 1) := by decide +kernel
theorem dX7_isLabel_15 : decode cX7_isLabel 15 = .ok (.iconst 1, 1) := by decide +kernel
theorem dX7_isLabel_16 : decode cX7_isLabel 16 = .ok (.isub, 1) := by decide +kernel
theorem dX7_isLabel_17 : decode cX7_isLabel 17 = .ok (.invokestatic 54, 3) := by decide +kernel
theorem dX7_isLabel_20 : decode cX7_isLabel 20 = .ok (.ireturn, 1) := by decide +kernel
theorem dX7_place_0 : decode cX7_place 0 = .ok (.aload_n 0, 1) := by decide +kernel
theorem dX7_place_1 : decode cX7_place 1 = .ok (.iload_n 1, 1) := by decide +kernel
theorem dX7_place_2 : decode cX7_place 2 = .ok (.invokevirtual 164, 3) := by decide +kernel
theorem dX7_place_5 : decode cX7_place 5 = .ok (.ifCond .eq 11, 3) := by decide +kernel
theorem dX7_place_8 : decode cX7_place 8 = .ok (.aload_n 0, 1) := by decide +kernel
theorem dX7_place_9 : decode cX7_place 9 = .ok (.iload_n 1, 1) := by decide +kernel
theorem dX7_place_10 : decode cX7_place 10 = .ok (.invokevirtual 167, 3) := by decide +kernel
theorem dX7_place_13 : decode cX7_place 13 = .ok (.goto 9, 3) := by decide +kernel
theorem dX7_place_16 : decode cX7_place 16 = .ok (.aload_n 0, 1) := by decide +kernel
theorem dX7_place_17 : decode cX7_place 17 = .ok (.bipush (-2), 2) := by decide +kernel
theorem dX7_place_19 : decode cX7_place 19 = .ok (.invokevirtual 47, 3) := by decide +kernel
theorem dX7_place_22 : decode cX7_place 22 = .ok (.ireturn, 1) := by decide +kernel
theorem dX7_next_0 : decode cX7_next 0 = .ok (.aload_n 0, 1) := by decide +kernel
theorem dX7_next_1 : decode cX7_next 1 = .ok (.iload_n 1, 1) := by decide +kernel
theorem dX7_next_2 : decode cX7_next 2 = .ok (.iload_n 2, 1) := by decide +kernel
theorem dX7_next_3 : decode cX7_next 3 = .ok (.invokevirtual 64, 3) := by decide +kernel
theorem dX7_next_6 : decode cX7_next 6 = .ok (.ifCond .eq 24, 3) := by decide +kernel
theorem dX7_next_9 : decode cX7_next 9 = .ok (.aload_n 0, 1) := by decide +kernel
theorem dX7_next_10 : decode cX7_next 10 = .ok (.iload_n 3, 1) := by decide +kernel
theorem dX7_next_11 : decode cX7_next 11 = .ok (.iload 4, 2) := by decide +kernel
theorem dX7_next_13 : decode cX7_next 13 = .ok (.invokevirtual 64, 3) := by decide +kernel
theorem dX7_next_16 : decode cX7_next 16 = .ok (.ifCond .eq 14, 3) := by decide +kernel
theorem dX7_next_19 : decode cX7_next 19 = .ok (.iload_n 1, 1) := by decide +kernel
theorem dX7_next_20 : decode cX7_next 20 = .ok (.iload_n 3, 1) := by decide +kernel
theorem dX7_next_21 : decode cX7_next 21 = .ok (.if_icmp .ne 16, 3) := by decide +kernel
theorem dX7_next_24 : decode cX7_next 24 = .ok (.iload_n 2, 1) := by decide +kernel
theorem dX7_next_25 : decode cX7_next 25 = .ok (.iload 4, 2) := by decide +kernel
theorem dX7_next_27 : decode cX7_next 27 = .ok (.if_icmp .ne 10, 3) := by decide +kernel
theorem dX7_next_30 : decode cX7_next 30 = .ok (.aload_n 0, 1) := by decide +kernel
theorem dX7_next_31 : decode cX7_next 31 = .ok (.bipush (-2), 2) := by decide +kernel
theorem dX7_next_33 : decode cX7_next 33 = .ok (.invokevirtual 47, 3) := by decide +kernel
theorem dX7_next_36 : decode cX7_next 36 = .ok (.ireturn, 1) := by decide +kernel
theorem dX7_next_37 : decode cX7_next 37 = .ok (.aload_n 0, 1) := by decide +kernel
theorem dX7_next_38 : decode cX7_next 38 = .ok (.aload_n 0, 1) := by decide +kernel
theorem dX7_next_39 : decode cX7_next 39 = .ok (.aload_n 0, 1) := by decide +kernel
theorem dX7_next_40 : decode cX7_next 40 = .ok (.iload_n 1, 1) := by decide +kernel
theorem dX7_next_41 : decode cX7_next 41 = .ok (.iload_n 2, 1) := by decide +kernel
theorem dX7_next_42 : decode cX7_next 42 = .ok (.invokevirtual 68, 3) := by decide +kernel
theorem dX7_next_45 : decode cX7_next 45 = .ok (.aload_n 0, 1) := by decide +kernel
theorem dX7_next_46 : decode cX7_next 46 = .ok (.iload_n 3, 1) := by decide +kernel
theorem dX7_next_47 : decode cX7_next 47 = .ok (.iload 4, 2) := by decide +kernel
theorem dX7_next_49 : decode cX7_next 49 = .ok (.invokevirtual 68, 3) := by decide +kernel
theorem dX7_next_52 : decode cX7_next 52 = .ok (.invokevirtual 75, 3) := by decide +kernel
theorem dX7_next_55 : decode cX7_next 55 = .ok (.invokevirtual 167, 3) := by decide +kernel
theorem dX7_next_58 : decode cX7_next 58 = .ok (.ireturn, 1) := by decide +kernel
theorem dX7_far_0 : decode cX7_far 0 = .ok (.aload_n 0, 1) := by decide +kernel
theorem dX7_far_1 : decode cX7_far 1 = .ok (.iload_n 1, 1) := by decide +kernel
theorem dX7_far_2 : decode cX7_far 2 = .ok (.iload_n 2, 1) := by decide +kernel
theorem dX7_far_3 : decode cX7_far 3 = .ok (.invokevirtual 64, 3) := by decide +kernel
theorem dX7_far_6 : decode cX7_far 6 = .ok (.ifCond .eq 17, 3) := by decide +kernel
theorem dX7_far_9 : decode cX7_far 9 = .ok (.aload_n 0, 1) := by decide +kernel
theorem dX7_far_10 : decode cX7_far 10 = .ok (.iload_n 3, 1) := by decide +kernel
theorem dX7_far_11 : decode cX7_far 11 = .ok (.iload 4, 2) := by decide +kernel
theorem dX7_far_13 : decode cX7_far 13 = .ok (.invokevirtual 64, 3) := by decide +kernel
theorem dX7_far_16 : decode cX7_far 16 = .ok (.ifCond .eq 7, 3) := by decide +kernel
theorem dX7_far_19 : decode cX7_far 19 = .ok (.iconst 1, 1) := by decide +kernel
theorem dX7_far_20 : decode cX7_far 20 = .ok (.goto 4, 3) := by decide +kernel
theorem dX7_far_23 : decode cX7_far 23 = .ok (.iconst 0, 1) := by decide +kernel
theorem dX7_far_24 : decode cX7_far 24 = .ok (.istore 5, 2) := by decide +kernel
theorem dX7_far_26 : decode cX7_far 26 = .ok (.iload 5, 2) := by decide +kernel
theorem dX7_far_28 : decode cX7_far 28 = .ok (.ifCond .eq 23, 3) := by decide +kernel
theorem dX7_far_31 : decode cX7_far 31 = .ok (.aload_n 0, 1) := by decide +kernel
theorem dX7_far_32 : decode cX7_far 32 = .ok (.aload_n 0, 1) := by decide +kernel
theorem dX7_far_33 : decode cX7_far 33 = .ok (.iload_n 1, 1) := by decide +kernel
theorem dX7_far_34 : decode cX7_far 34 = .ok (.iload_n 2, 1) := by decide +kernel
theorem dX7_far_35 : decode cX7_far 35 = .ok (.invokevirtual 68, 3) := by decide +kernel
theorem dX7_far_38 : decode cX7_far 38 = .ok (.aload_n 0, 1) := by decide +kernel
theorem dX7_far_39 : decode cX7_far 39 = .ok (.iload_n 3, 1) := by decide +kernel
theorem dX7_far_40 : decode cX7_far 40 = .ok (.iload 4, 2) := by decide +kernel
theorem dX7_far_42 : decode cX7_far 42 = .ok (.invokevirtual 68, 3) := by decide +kernel
theorem dX7_far_45 : decode cX7_far 45 = .ok (.invokevirtual 170, 3) := by decide +kernel
theorem dX7_far_48 : decode cX7_far 48 = .ok (.goto 9, 3) := by decide +kernel
theorem dX7_far_51 : decode cX7_far 51 = .ok (.aload_n 0, 1) := by decide +kernel
theorem dX7_far_52 : decode cX7_far 52 = .ok (.bipush (-2), 2) := by decide +kernel
theorem dX7_far_54 : decode cX7_far 54 = .ok (.invokevirtual 47, 3) := by decide +kernel
theorem dX7_far_57 : decode cX7_far 57 = .ok (.ireturn, 1) := by decide +kernel
theorem dX7_holds_0 : decode cX7_holds 0 = .ok (.aload_n 0, 1) := by decide +kernel
theorem dX7_holds_1 : decode cX7_holds 1 = .ok (.iload_n 1, 1) := by decide +kernel
theorem dX7_holds_2 : decode cX7_holds 2 = .ok (.iload_n 2, 1) := by decide +kernel
theorem dX7_holds_3 : decode cX7_holds 3 = .ok (.iload_n 3, 1) := by decide +kernel
theorem dX7_holds_4 : decode cX7_holds 4 = .ok (.invokevirtual 126, 3) := by decide +kernel
theorem dX7_holds_7 : decode cX7_holds 7 = .ok (.ifCond .ne 10, 3) := by decide +kernel
theorem dX7_holds_10 : decode cX7_holds 10 = .ok (.aload_n 0, 1) := by decide +kernel
theorem dX7_holds_11 : decode cX7_holds 11 = .ok (.bipush (-2), 2) := by decide +kernel
theorem dX7_holds_13 : decode cX7_holds 13 = .ok (.invokevirtual 47, 3) := by decide +kernel
theorem dX7_holds_16 : decode cX7_holds 16 = .ok (.ireturn, 1) := by decide +kernel
theorem dX7_holds_17 : decode cX7_holds 17 = .ok (.aload_n 0, 1) := by decide +kernel
theorem dX7_holds_18 : decode cX7_holds 18 = .ok (.invokevirtual 129, 3) := by decide +kernel
theorem dX7_holds_21 : decode cX7_holds 21 = .ok (.aload_n 0, 1) := by decide +kernel
theorem dX7_holds_22 : decode cX7_holds 22 = .ok (.iload_n 1, 1) := by decide +kernel
theorem dX7_holds_23 : decode cX7_holds 23 = .ok (.iload_n 2, 1) := by decide +kernel
theorem dX7_holds_24 : decode cX7_holds 24 = .ok (.invokevirtual 68, 3) := by decide +kernel
theorem dX7_holds_27 : decode cX7_holds 27 = .ok (.istore 4, 2) := by decide +kernel
theorem dX7_holds_29 : decode cX7_holds 29 = .ok (.aload_n 0, 1) := by decide +kernel
theorem dX7_holds_30 : decode cX7_holds 30 = .ok (.iload 4, 2) := by decide +kernel
theorem dX7_holds_32 : decode cX7_holds 32 = .ok (.aload_n 0, 1) := by decide +kernel
theorem dX7_holds_33 : decode cX7_holds 33 = .ok (.iload 4, 2) := by decide +kernel
theorem dX7_holds_35 : decode cX7_holds 35 = .ok (.iload_n 3, 1) := by decide +kernel
theorem dX7_holds_36 : decode cX7_holds 36 = .ok (.invokevirtual 72, 3) := by decide +kernel
theorem dX7_holds_39 : decode cX7_holds 39 = .ok (.invokevirtual 106, 3) := by decide +kernel
theorem dX7_holds_42 : decode cX7_holds 42 = .ok (.ireturn, 1) := by decide +kernel
theorem dX7_arrived_0 : decode cX7_arrived 0 = .ok (.iconst 0, 1) := by decide +kernel
theorem dX7_arrived_1 : decode cX7_arrived 1 = .ok (.istore_n 2, 1) := by decide +kernel
theorem dX7_arrived_2 : decode cX7_arrived 2 = .ok (.iconst 0, 1) := by decide +kernel
theorem dX7_arrived_3 : decode cX7_arrived 3 = .ok (.istore_n 3, 1) := by decide +kernel
theorem dX7_arrived_4 : decode cX7_arrived 4 = .ok (.iload_n 3, 1) := by decide +kernel
theorem dX7_arrived_5 : decode cX7_arrived 5 = .ok (.aload_n 0, 1) := by decide +kernel
theorem dX7_arrived_6 : decode cX7_arrived 6 = .ok (.getfield 31, 3) := by decide +kernel
theorem dX7_arrived_9 : decode cX7_arrived 9 = .ok (.iload_n 1, 1) := by decide +kernel
theorem dX7_arrived_10 : decode cX7_arrived 10 = .ok (.iaload, 1) := by decide +kernel
theorem dX7_arrived_11 : decode cX7_arrived 11 = .ok (.if_icmp .ge 36, 3) := by decide +kernel
theorem dX7_arrived_14 : decode cX7_arrived 14 = .ok (.iload_n 2, 1) := by decide +kernel
theorem dX7_arrived_15 : decode cX7_arrived 15 = .ok (.aload_n 0, 1) := by decide +kernel
theorem dX7_arrived_16 : decode cX7_arrived 16 = .ok (.getfield 34, 3) := by decide +kernel
theorem dX7_arrived_19 : decode cX7_arrived 19 = .ok (.bipush 36, 2) := by decide +kernel
theorem dX7_arrived_21 : decode cX7_arrived 21 = .ok (.iload_n 1, 1) := by decide +kernel
theorem dX7_arrived_22 : decode cX7_arrived 22 = .ok (.imul, 1) := by decide +kernel
theorem dX7_arrived_23 : decode cX7_arrived 23 = .ok (.iload_n 3, 1) := by decide +kernel
theorem dX7_arrived_24 : decode cX7_arrived 24 = .ok (.iadd, 1) := by decide +kernel
theorem dX7_arrived_25 : decode cX7_arrived 25 = .ok (.iaload, 1) := by decide +kernel
theorem dX7_arrived_26 : decode cX7_arrived 26 = .ok (.aload_n 0, 1) := by decide +kernel
theorem dX7_arrived_27 : decode cX7_arrived 27 = .ok (.iload_n 1, 1) := by decide +kernel
theorem dX7_arrived_28 : decode cX7_arrived 28 = .ok (.invokevirtual 88, 3) := by decide +kernel
theorem dX7_arrived_31 : decode cX7_arrived 31 = .ok (.if_icmp .gt 7, 3) := by decide +kernel
theorem dX7_arrived_34 : decode cX7_arrived 34 = .ok (.iconst 1, 1) := by decide +kernel
theorem dX7_arrived_35 : decode cX7_arrived 35 = .ok (.goto 4, 3) := by decide +kernel
theorem dX7_arrived_38 : decode cX7_arrived 38 = .ok (.iconst 0, 1) := by decide +kernel
theorem dX7_arrived_39 : decode cX7_arrived 39 = .ok (.iadd, 1) := by decide +kernel
theorem dX7_arrived_40 : decode cX7_arrived 40 = .ok (.istore_n 2, 1) := by decide +kernel
theorem dX7_arrived_41 : decode cX7_arrived 41 = .ok (.iinc 3 1, 3) := by decide +kernel
theorem dX7_arrived_44 : decode cX7_arrived 44 = .ok (.goto (-40), 3) := by decide +kernel
theorem dX7_arrived_47 : decode cX7_arrived 47 = .ok (.iload_n 2, 1) := by decide +kernel
theorem dX7_arrived_48 : decode cX7_arrived 48 = .ok (.ireturn, 1) := by decide +kernel
theorem dX7_downOf_0 : decode cX7_downOf 0 = .ok (.iconst 0, 1) := by decide +kernel
theorem dX7_downOf_1 : decode cX7_downOf 1 = .ok (.istore_n 2, 1) := by decide +kernel
theorem dX7_downOf_2 : decode cX7_downOf 2 = .ok (.iconst 0, 1) := by decide +kernel
theorem dX7_downOf_3 : decode cX7_downOf 3 = .ok (.istore_n 3, 1) := by decide +kernel
theorem dX7_downOf_4 : decode cX7_downOf 4 = .ok (.iload_n 3, 1) := by decide +kernel
theorem dX7_downOf_5 : decode cX7_downOf 5 = .ok (.aload_n 0, 1) := by decide +kernel
theorem dX7_downOf_6 : decode cX7_downOf 6 = .ok (.getfield 28, 3) := by decide +kernel
theorem dX7_downOf_9 : decode cX7_downOf 9 = .ok (.iload_n 1, 1) := by decide +kernel
theorem dX7_downOf_10 : decode cX7_downOf 10 = .ok (.iaload, 1) := by decide +kernel
theorem dX7_downOf_11 : decode cX7_downOf 11 = .ok (.if_icmp .ge 58, 3) := by decide +kernel
theorem dX7_downOf_14 : decode cX7_downOf 14 = .ok (.aload_n 0, 1) := by decide +kernel
theorem dX7_downOf_15 : decode cX7_downOf 15 = .ok (.getfield 25, 3) := by decide +kernel
theorem dX7_downOf_18 : decode cX7_downOf 18 = .ok (.bipush 37, 2) := by decide +kernel
theorem dX7_downOf_20 : decode cX7_downOf 20 = .ok (.iload_n 1, 1) := by decide +kernel
theorem dX7_downOf_21 : decode cX7_downOf 21 = .ok (.imul, 1) := by decide +kernel
theorem dX7_downOf_22 : decode cX7_downOf 22 = .ok (.iload_n 3, 1) := by decide +kernel
theorem dX7_downOf_23 : decode cX7_downOf 23 = .ok (.iadd, 1) := by decide +kernel
theorem dX7_downOf_24 : decode cX7_downOf 24 = .ok (.iaload, 1) := by decide +kernel
theorem dX7_downOf_25 : decode cX7_downOf 25 = .ok (.istore 4, 2) := by decide +kernel
theorem dX7_downOf_27 : decode cX7_downOf 27 = .ok (.iload_n 2, 1) := by decide +kernel
theorem dX7_downOf_28 : decode cX7_downOf 28 = .ok (.aload_n 0, 1) := by decide +kernel
theorem dX7_downOf_29 : decode cX7_downOf 29 = .ok (.iload 4, 2) := by decide +kernel
theorem dX7_downOf_31 : decode cX7_downOf 31 = .ok (.aload_n 0, 1) := by decide +kernel
theorem dX7_downOf_32 : decode cX7_downOf 32 = .ok (.iload 4, 2) := by decide +kernel
theorem dX7_downOf_34 : decode cX7_downOf 34 = .ok (.aload_n 0, 1) := by decide +kernel
theorem dX7_downOf_35 : decode cX7_downOf 35 = .ok (.getfield 25, 3) := by decide +kernel
theorem dX7_downOf_38 : decode cX7_downOf 38 = .ok (.bipush 37, 2) := by decide +kernel
theorem dX7_downOf_40 : decode cX7_downOf 40 = .ok (.iload_n 1, 1) := by decide +kernel
theorem dX7_downOf_41 : decode cX7_downOf 41 = .ok (.imul, 1) := by decide +kernel
theorem dX7_downOf_42 : decode cX7_downOf 42 = .ok (.iload_n 3, 1) := by decide +kernel
theorem dX7_downOf_43 : decode cX7_downOf 43 = .ok (.iadd, 1) := by decide +kernel
theorem dX7_downOf_44 : decode cX7_downOf 44 = .ok (.iconst 1, 1) := by decide +kernel
theorem dX7_downOf_45 : decode cX7_downOf 45 = .ok (.iadd, 1) := by decide +kernel
theorem dX7_downOf_46 : decode cX7_downOf 46 = .ok (.iaload, 1) := by decide +kernel
theorem dX7_downOf_47 : decode cX7_downOf 47 = .ok (.invokevirtual 100, 3) := by decide +kernel
theorem dX7_downOf_50 : decode cX7_downOf 50 = .ok (.invokevirtual 103, 3) := by decide +kernel
theorem dX7_downOf_53 : decode cX7_downOf 53 = .ok (.ifCond .eq 7, 3) := by decide +kernel
theorem dX7_downOf_56 : decode cX7_downOf 56 = .ok (.iconst 1, 1) := by decide +kernel
theorem dX7_downOf_57 : decode cX7_downOf 57 = .ok (.goto 4, 3) := by decide +kernel
theorem dX7_downOf_60 : decode cX7_downOf 60 = .ok (.iconst 0, 1) := by decide +kernel
theorem dX7_downOf_61 : decode cX7_downOf 61 = .ok (.iadd, 1) := by decide +kernel
theorem dX7_downOf_62 : decode cX7_downOf 62 = .ok (.istore_n 2, 1) := by decide +kernel
theorem dX7_downOf_63 : decode cX7_downOf 63 = .ok (.iinc 3 1, 3) := by decide +kernel
theorem dX7_downOf_66 : decode cX7_downOf 66 = .ok (.goto (-62), 3) := by decide +kernel
theorem dX7_downOf_69 : decode cX7_downOf 69 = .ok (.iload_n 2, 1) := by decide +kernel
theorem dX7_downOf_70 : decode cX7_downOf 70 = .ok (.ireturn, 1) := by decide +kernel
theorem dX7_wormTold_0 : decode cX7_wormTold 0 = .ok (.iload_n 2, 1) := by decide +kernel
theorem dX7_wormTold_1 : decode cX7_wormTold 1 = .ok (.tableswitch 127 0 7 #[47, 54, 61, 67, 87, 93, 107, 121], 47) := by decide +kernel
theorem dX7_wormTold_48 : decode cX7_wormTold 48 = .ok (.aload_n 0, 1) := by decide +kernel
theorem dX7_wormTold_49 : decode cX7_wormTold 49 = .ok (.getfield 31, 3) := by decide +kernel
theorem dX7_wormTold_52 : decode cX7_wormTold 52 = .ok (.iload_n 1, 1) := by decide +kernel
theorem dX7_wormTold_53 : decode cX7_wormTold 53 = .ok (.iaload, 1) := by decide +kernel
theorem dX7_wormTold_54 : decode cX7_wormTold 54 = .ok (.ireturn, 1) := by decide +kernel
theorem dX7_wormTold_55 : decode cX7_wormTold 55 = .ok (.aload_n 0, 1) := by decide +kernel
theorem dX7_wormTold_56 : decode cX7_wormTold 56 = .ok (.getfield 28, 3) := by decide +kernel
theorem dX7_wormTold_59 : decode cX7_wormTold 59 = .ok (.iload_n 1, 1) := by decide +kernel
theorem dX7_wormTold_60 : decode cX7_wormTold 60 = .ok (.iaload, 1) := by decide +kernel
theorem dX7_wormTold_61 : decode cX7_wormTold 61 = .ok (.ireturn, 1) := by decide +kernel
theorem dX7_wormTold_62 : decode cX7_wormTold 62 = .ok (.aload_n 0, 1) := by decide +kernel
theorem dX7_wormTold_63 : decode cX7_wormTold 63 = .ok (.iload_n 1, 1) := by decide +kernel
theorem dX7_wormTold_64 : decode cX7_wormTold 64 = .ok (.invokevirtual 88, 3) := by decide +kernel
theorem dX7_wormTold_67 : decode cX7_wormTold 67 = .ok (.ireturn, 1) := by decide +kernel
theorem dX7_wormTold_68 : decode cX7_wormTold 68 = .ok (.aload_n 0, 1) := by decide +kernel
theorem dX7_wormTold_69 : decode cX7_wormTold 69 = .ok (.aload_n 0, 1) := by decide +kernel
theorem dX7_wormTold_70 : decode cX7_wormTold 70 = .ok (.getfield 25, 3) := by decide +kernel
theorem dX7_wormTold_73 : decode cX7_wormTold 73 = .ok (.bipush 37, 2) := by decide +kernel
theorem dX7_wormTold_75 : decode cX7_wormTold 75 = .ok (.iload_n 1, 1) := by decide +kernel
theorem dX7_wormTold_76 : decode cX7_wormTold 76 = .ok (.imul, 1) := by decide +kernel
theorem dX7_wormTold_77 : decode cX7_wormTold 77 = .ok (.aload_n 0, 1) := by decide +kernel
theorem dX7_wormTold_78 : decode cX7_wormTold 78 = .ok (.iload_n 1, 1) := by decide +kernel
theorem dX7_wormTold_79 : decode cX7_wormTold 79 = .ok (.invokevirtual 94, 3) := by decide +kernel
theorem dX7_wormTold_82 : decode cX7_wormTold 82 = .ok (.iadd, 1) := by decide +kernel
theorem dX7_wormTold_83 : decode cX7_wormTold 83 = .ok (.iaload, 1) := by decide +kernel
theorem dX7_wormTold_84 : decode cX7_wormTold 84 = .ok (.invokevirtual 167, 3) := by decide +kernel
theorem dX7_wormTold_87 : decode cX7_wormTold 87 = .ok (.ireturn, 1) := by decide +kernel
theorem dX7_wormTold_88 : decode cX7_wormTold 88 = .ok (.aload_n 0, 1) := by decide +kernel
theorem dX7_wormTold_89 : decode cX7_wormTold 89 = .ok (.iload_n 1, 1) := by decide +kernel
theorem dX7_wormTold_90 : decode cX7_wormTold 90 = .ok (.invokevirtual 173, 3) := by decide +kernel
theorem dX7_wormTold_93 : decode cX7_wormTold 93 = .ok (.ireturn, 1) := by decide +kernel
theorem dX7_wormTold_94 : decode cX7_wormTold 94 = .ok (.aload_n 0, 1) := by decide +kernel
theorem dX7_wormTold_95 : decode cX7_wormTold 95 = .ok (.iload_n 1, 1) := by decide +kernel
theorem dX7_wormTold_96 : decode cX7_wormTold 96 = .ok (.iconst 2, 1) := by decide +kernel
theorem dX7_wormTold_97 : decode cX7_wormTold 97 = .ok (.idiv, 1) := by decide +kernel
theorem dX7_wormTold_98 : decode cX7_wormTold 98 = .ok (.bipush 6, 2) := by decide +kernel
theorem dX7_wormTold_100 : decode cX7_wormTold 100 = .ok (.iload_n 1, 1) := by decide +kernel
theorem dX7_wormTold_101 : decode cX7_wormTold 101 = .ok (.iconst 2, 1) := by decide +kernel
theorem dX7_wormTold_102 : decode cX7_wormTold 102 = .ok (.irem, 1) := by decide +kernel
theorem dX7_wormTold_103 : decode cX7_wormTold 103 = .ok (.iadd, 1) := by decide +kernel
theorem dX7_wormTold_104 : decode cX7_wormTold 104 = .ok (.invokevirtual 78, 3) := by decide +kernel
theorem dX7_wormTold_107 : decode cX7_wormTold 107 = .ok (.ireturn, 1) := by decide +kernel
theorem dX7_wormTold_108 : decode cX7_wormTold 108 = .ok (.aload_n 0, 1) := by decide +kernel
theorem dX7_wormTold_109 : decode cX7_wormTold 109 = .ok (.iload_n 1, 1) := by decide +kernel
theorem dX7_wormTold_110 : decode cX7_wormTold 110 = .ok (.invokevirtual 112, 3) := by decide +kernel
theorem dX7_wormTold_113 : decode cX7_wormTold 113 = .ok (.ifCond .eq 7, 3) := by decide +kernel
theorem dX7_wormTold_116 : decode cX7_wormTold 116 = .ok (.iconst 1, 1) := by decide +kernel
theorem dX7_wormTold_117 : decode cX7_wormTold 117 = .ok (.goto 4, 3) := by decide +kernel
theorem dX7_wormTold_120 : decode cX7_wormTold 120 = .ok (.iconst 0, 1) := by decide +kernel
theorem dX7_wormTold_121 : decode cX7_wormTold 121 = .ok (.ireturn, 1) := by decide +kernel
theorem dX7_wormTold_122 : decode cX7_wormTold 122 = .ok (.aload_n 0, 1) := by decide +kernel
theorem dX7_wormTold_123 : decode cX7_wormTold 123 = .ok (.iload_n 1, 1) := by decide +kernel
theorem dX7_wormTold_124 : decode cX7_wormTold 124 = .ok (.invokevirtual 176, 3) := by decide +kernel
theorem dX7_wormTold_127 : decode cX7_wormTold 127 = .ok (.ireturn, 1) := by decide +kernel
theorem dX7_wormTold_128 : decode cX7_wormTold 128 = .ok (.aload_n 0, 1) := by decide +kernel
theorem dX7_wormTold_129 : decode cX7_wormTold 129 = .ok (.iload_n 1, 1) := by decide +kernel
theorem dX7_wormTold_130 : decode cX7_wormTold 130 = .ok (.invokevirtual 179, 3) := by decide +kernel
theorem dX7_wormTold_133 : decode cX7_wormTold 133 = .ok (.ireturn, 1) := by decide +kernel
theorem dX7_heldMany_0 : decode cX7_heldMany 0 = .ok (.aload_n 0, 1) := by decide +kernel
theorem dX7_heldMany_1 : decode cX7_heldMany 1 = .ok (.iload_n 1, 1) := by decide +kernel
theorem dX7_heldMany_2 : decode cX7_heldMany 2 = .ok (.invokevirtual 94, 3) := by decide +kernel
theorem dX7_heldMany_5 : decode cX7_heldMany 5 = .ok (.aload_n 0, 1) := by decide +kernel
theorem dX7_heldMany_6 : decode cX7_heldMany 6 = .ok (.iload_n 1, 1) := by decide +kernel
theorem dX7_heldMany_7 : decode cX7_heldMany 7 = .ok (.invokevirtual 91, 3) := by decide +kernel
theorem dX7_heldMany_10 : decode cX7_heldMany 10 = .ok (.isub, 1) := by decide +kernel
theorem dX7_heldMany_11 : decode cX7_heldMany 11 = .ok (.istore_n 2, 1) := by decide +kernel
theorem dX7_heldMany_12 : decode cX7_heldMany 12 = .ok (.iload_n 2, 1) := by decide +kernel
theorem dX7_heldMany_13 : decode cX7_heldMany 13 = .ok (.ifCond .ge 7, 3) := by decide +kernel
theorem dX7_heldMany_16 : decode cX7_heldMany 16 = .ok (.iconst 0, 1) := by decide +kernel
theorem dX7_heldMany_17 : decode cX7_heldMany 17 = .ok (.goto 4, 3) := by decide +kernel
theorem dX7_heldMany_20 : decode cX7_heldMany 20 = .ok (.iload_n 2, 1) := by decide +kernel
theorem dX7_heldMany_21 : decode cX7_heldMany 21 = .ok (.ireturn, 1) := by decide +kernel
theorem dX7_isWorm_0 : decode cX7_isWorm 0 = .ok (.aload_n 0, 1) := by decide +kernel
theorem dX7_isWorm_1 : decode cX7_isWorm 1 = .ok (.iload_n 1, 1) := by decide +kernel
theorem dX7_isWorm_2 : decode cX7_isWorm 2 = .ok (.invokevirtual 120, 3) := by decide +kernel
theorem dX7_isWorm_5 : decode cX7_isWorm 5 = .ok (.ifCond .eq 16, 3) := by decide +kernel
theorem dX7_isWorm_8 : decode cX7_isWorm 8 = .ok (.iload_n 2, 1) := by decide +kernel
theorem dX7_isWorm_9 : decode cX7_isWorm 9 = .ok (.iconst 0, 1) := by decide +kernel
theorem dX7_isWorm_10 : decode cX7_isWorm 10 = .ok (.iconst 1, 1) := by decide +kernel
theorem dX7_isWorm_11 : decode cX7_isWorm 11 = .ok (.invokestatic 54, 3) := by decide +kernel
theorem dX7_isWorm_14 : decode cX7_isWorm 14 = .ok (.ifCond .eq 7, 3) := by decide +kernel
theorem dX7_isWorm_17 : decode cX7_isWorm 17 = .ok (.iconst 1, 1) := by decide +kernel
theorem dX7_isWorm_18 : decode cX7_isWorm 18 = .ok (.goto 4, 3) := by decide +kernel
theorem dX7_isWorm_21 : decode cX7_isWorm 21 = .ok (.iconst 0, 1) := by decide +kernel
theorem dX7_isWorm_22 : decode cX7_isWorm 22 = .ok (.ireturn, 1) := by decide +kernel
theorem dX7_worm_0 : decode cX7_worm 0 = .ok (.aload_n 0, 1) := by decide +kernel
theorem dX7_worm_1 : decode cX7_worm 1 = .ok (.iload_n 1, 1) := by decide +kernel
theorem dX7_worm_2 : decode cX7_worm 2 = .ok (.iload_n 2, 1) := by decide +kernel
theorem dX7_worm_3 : decode cX7_worm 3 = .ok (.invokevirtual 182, 3) := by decide +kernel
theorem dX7_worm_6 : decode cX7_worm 6 = .ok (.ifCond .eq 13, 3) := by decide +kernel
theorem dX7_worm_9 : decode cX7_worm 9 = .ok (.iload_n 3, 1) := by decide +kernel
theorem dX7_worm_10 : decode cX7_worm 10 = .ok (.iconst 0, 1) := by decide +kernel
theorem dX7_worm_11 : decode cX7_worm 11 = .ok (.bipush 8, 2) := by decide +kernel
theorem dX7_worm_13 : decode cX7_worm 13 = .ok (.invokestatic 54, 3) := by decide +kernel
theorem dX7_worm_16 : decode cX7_worm 16 = .ok (.ifCond .ne 10, 3) := by decide +kernel
theorem dX7_worm_19 : decode cX7_worm 19 = .ok (.aload_n 0, 1) := by decide +kernel
theorem dX7_worm_20 : decode cX7_worm 20 = .ok (.bipush (-2), 2) := by decide +kernel
theorem dX7_worm_22 : decode cX7_worm 22 = .ok (.invokevirtual 47, 3) := by decide +kernel
theorem dX7_worm_25 : decode cX7_worm 25 = .ok (.ireturn, 1) := by decide +kernel
theorem dX7_worm_26 : decode cX7_worm 26 = .ok (.aload_n 0, 1) := by decide +kernel
theorem dX7_worm_27 : decode cX7_worm 27 = .ok (.invokevirtual 129, 3) := by decide +kernel
theorem dX7_worm_30 : decode cX7_worm 30 = .ok (.aload_n 0, 1) := by decide +kernel
theorem dX7_worm_31 : decode cX7_worm 31 = .ok (.iconst 2, 1) := by decide +kernel
theorem dX7_worm_32 : decode cX7_worm 32 = .ok (.iload_n 1, 1) := by decide +kernel
theorem dX7_worm_33 : decode cX7_worm 33 = .ok (.imul, 1) := by decide +kernel
theorem dX7_worm_34 : decode cX7_worm 34 = .ok (.iload_n 2, 1) := by decide +kernel
theorem dX7_worm_35 : decode cX7_worm 35 = .ok (.iadd, 1) := by decide +kernel
theorem dX7_worm_36 : decode cX7_worm 36 = .ok (.iload_n 3, 1) := by decide +kernel
theorem dX7_worm_37 : decode cX7_worm 37 = .ok (.invokevirtual 185, 3) := by decide +kernel
theorem dX7_worm_40 : decode cX7_worm 40 = .ok (.ireturn, 1) := by decide +kernel
theorem dX7_way_0 : decode cX7_way 0 = .ok (.aload_n 0, 1) := by decide +kernel
theorem dX7_way_1 : decode cX7_way 1 = .ok (.iload_n 1, 1) := by decide +kernel
theorem dX7_way_2 : decode cX7_way 2 = .ok (.iload_n 2, 1) := by decide +kernel
theorem dX7_way_3 : decode cX7_way 3 = .ok (.invokevirtual 182, 3) := by decide +kernel
theorem dX7_way_6 : decode cX7_way 6 = .ok (.ifCond .eq 7, 3) := by decide +kernel
theorem dX7_way_9 : decode cX7_way 9 = .ok (.iload_n 3, 1) := by decide +kernel
theorem dX7_way_10 : decode cX7_way 10 = .ok (.ifCond .ge 10, 3) := by decide +kernel
theorem dX7_way_13 : decode cX7_way 13 = .ok (.aload_n 0, 1) := by decide +kernel
theorem dX7_way_14 : decode cX7_way 14 = .ok (.bipush (-2), 2) := by decide +kernel
theorem dX7_way_16 : decode cX7_way 16 = .ok (.invokevirtual 47, 3) := by decide +kernel
theorem dX7_way_19 : decode cX7_way 19 = .ok (.ireturn, 1) := by decide +kernel
theorem dX7_way_20 : decode cX7_way 20 = .ok (.aload_n 0, 1) := by decide +kernel
theorem dX7_way_21 : decode cX7_way 21 = .ok (.invokevirtual 129, 3) := by decide +kernel
theorem dX7_way_24 : decode cX7_way 24 = .ok (.iconst 2, 1) := by decide +kernel
theorem dX7_way_25 : decode cX7_way 25 = .ok (.iload_n 1, 1) := by decide +kernel
theorem dX7_way_26 : decode cX7_way 26 = .ok (.imul, 1) := by decide +kernel
theorem dX7_way_27 : decode cX7_way 27 = .ok (.iload_n 2, 1) := by decide +kernel
theorem dX7_way_28 : decode cX7_way 28 = .ok (.iadd, 1) := by decide +kernel
theorem dX7_way_29 : decode cX7_way 29 = .ok (.istore 4, 2) := by decide +kernel
theorem dX7_way_31 : decode cX7_way 31 = .ok (.iload_n 3, 1) := by decide +kernel
theorem dX7_way_32 : decode cX7_way 32 = .ok (.aload_n 0, 1) := by decide +kernel
theorem dX7_way_33 : decode cX7_way 33 = .ok (.getfield 28, 3) := by decide +kernel
theorem dX7_way_36 : decode cX7_way 36 = .ok (.iload 4, 2) := by decide +kernel
theorem dX7_way_38 : decode cX7_way 38 = .ok (.iaload, 1) := by decide +kernel
theorem dX7_way_39 : decode cX7_way 39 = .ok (.if_icmp .le 7, 3) := by decide +kernel
theorem dX7_way_42 : decode cX7_way 42 = .ok (.iconst (-1), 1) := by decide +kernel
theorem dX7_way_43 : decode cX7_way 43 = .ok (.goto 19, 3) := by decide +kernel
theorem dX7_way_46 : decode cX7_way 46 = .ok (.aload_n 0, 1) := by decide +kernel
theorem dX7_way_47 : decode cX7_way 47 = .ok (.aload_n 0, 1) := by decide +kernel
theorem dX7_way_48 : decode cX7_way 48 = .ok (.getfield 25, 3) := by decide +kernel
theorem dX7_way_51 : decode cX7_way 51 = .ok (.bipush 37, 2) := by decide +kernel
theorem dX7_way_53 : decode cX7_way 53 = .ok (.iload 4, 2) := by decide +kernel
theorem dX7_way_55 : decode cX7_way 55 = .ok (.imul, 1) := by decide +kernel
theorem dX7_way_56 : decode cX7_way 56 = .ok (.iload_n 3, 1) := by decide +kernel
theorem dX7_way_57 : decode cX7_way 57 = .ok (.iadd, 1) := by decide +kernel
theorem dX7_way_58 : decode cX7_way 58 = .ok (.iaload, 1) := by decide +kernel
theorem dX7_way_59 : decode cX7_way 59 = .ok (.invokevirtual 167, 3) := by decide +kernel
theorem dX7_way_62 : decode cX7_way 62 = .ok (.ireturn, 1) := by decide +kernel
theorem dX7_goalAt_0 : decode cX7_goalAt 0 = .ok (.aload_n 0, 1) := by decide +kernel
theorem dX7_goalAt_1 : decode cX7_goalAt 1 = .ok (.iload_n 1, 1) := by decide +kernel
theorem dX7_goalAt_2 : decode cX7_goalAt 2 = .ok (.iload_n 2, 1) := by decide +kernel
theorem dX7_goalAt_3 : decode cX7_goalAt 3 = .ok (.invokevirtual 182, 3) := by decide +kernel
theorem dX7_goalAt_6 : decode cX7_goalAt 6 = .ok (.ifCond .eq 7, 3) := by decide +kernel
theorem dX7_goalAt_9 : decode cX7_goalAt 9 = .ok (.iload_n 3, 1) := by decide +kernel
theorem dX7_goalAt_10 : decode cX7_goalAt 10 = .ok (.ifCond .ge 10, 3) := by decide +kernel
theorem dX7_goalAt_13 : decode cX7_goalAt 13 = .ok (.aload_n 0, 1) := by decide +kernel
theorem dX7_goalAt_14 : decode cX7_goalAt 14 = .ok (.bipush (-2), 2) := by decide +kernel
theorem dX7_goalAt_16 : decode cX7_goalAt 16 = .ok (.invokevirtual 47, 3) := by decide +kernel
theorem dX7_goalAt_19 : decode cX7_goalAt 19 = .ok (.ireturn, 1) := by decide +kernel
theorem dX7_goalAt_20 : decode cX7_goalAt 20 = .ok (.aload_n 0, 1) := by decide +kernel
theorem dX7_goalAt_21 : decode cX7_goalAt 21 = .ok (.invokevirtual 129, 3) := by decide +kernel
theorem dX7_goalAt_24 : decode cX7_goalAt 24 = .ok (.iconst 2, 1) := by decide +kernel
theorem dX7_goalAt_25 : decode cX7_goalAt 25 = .ok (.iload_n 1, 1) := by decide +kernel
theorem dX7_goalAt_26 : decode cX7_goalAt 26 = .ok (.imul, 1) := by decide +kernel
theorem dX7_goalAt_27 : decode cX7_goalAt 27 = .ok (.iload_n 2, 1) := by decide +kernel
theorem dX7_goalAt_28 : decode cX7_goalAt 28 = .ok (.iadd, 1) := by decide +kernel
theorem dX7_goalAt_29 : decode cX7_goalAt 29 = .ok (.istore 4, 2) := by decide +kernel
theorem dX7_goalAt_31 : decode cX7_goalAt 31 = .ok (.iload_n 3, 1) := by decide +kernel
theorem dX7_goalAt_32 : decode cX7_goalAt 32 = .ok (.aload_n 0, 1) := by decide +kernel
theorem dX7_goalAt_33 : decode cX7_goalAt 33 = .ok (.getfield 31, 3) := by decide +kernel
theorem dX7_goalAt_36 : decode cX7_goalAt 36 = .ok (.iload 4, 2) := by decide +kernel
theorem dX7_goalAt_38 : decode cX7_goalAt 38 = .ok (.iaload, 1) := by decide +kernel
theorem dX7_goalAt_39 : decode cX7_goalAt 39 = .ok (.if_icmp .lt 7, 3) := by decide +kernel
theorem dX7_goalAt_42 : decode cX7_goalAt 42 = .ok (.iconst (-1), 1) := by decide +kernel
theorem dX7_goalAt_43 : decode cX7_goalAt 43 = .ok (.goto 30, 3) := by decide +kernel
theorem dX7_goalAt_46 : decode cX7_goalAt 46 = .ok (.aload_n 0, 1) := by decide +kernel
theorem dX7_goalAt_47 : decode cX7_goalAt 47 = .ok (.aload_n 0, 1) := by decide +kernel
theorem dX7_goalAt_48 : decode cX7_goalAt 48 = .ok (.getfield 25, 3) := by decide +kernel
theorem dX7_goalAt_51 : decode cX7_goalAt 51 = .ok (.bipush 37, 2) := by decide +kernel
theorem dX7_goalAt_53 : decode cX7_goalAt 53 = .ok (.iload 4, 2) := by decide +kernel
theorem dX7_goalAt_55 : decode cX7_goalAt 55 = .ok (.imul, 1) := by decide +kernel
theorem dX7_goalAt_56 : decode cX7_goalAt 56 = .ok (.aload_n 0, 1) := by decide +kernel
theorem dX7_goalAt_57 : decode cX7_goalAt 57 = .ok (.getfield 34, 3) := by decide +kernel
theorem dX7_goalAt_60 : decode cX7_goalAt 60 = .ok (.bipush 36, 2) := by decide +kernel
theorem dX7_goalAt_62 : decode cX7_goalAt 62 = .ok (.iload 4, 2) := by decide +kernel
theorem dX7_goalAt_64 : decode cX7_goalAt 64 = .ok (.imul, 1) := by decide +kernel
theorem dX7_goalAt_65 : decode cX7_goalAt 65 = .ok (.iload_n 3, 1) := by decide +kernel
theorem dX7_goalAt_66 : decode cX7_goalAt 66 = .ok (.iadd, 1) := by decide +kernel
theorem dX7_goalAt_67 : decode cX7_goalAt 67 = .ok (.iaload, 1) := by decide +kernel
theorem dX7_goalAt_68 : decode cX7_goalAt 68 = .ok (.iadd, 1) := by decide +kernel
theorem dX7_goalAt_69 : decode cX7_goalAt 69 = .ok (.iaload, 1) := by decide +kernel
theorem dX7_goalAt_70 : decode cX7_goalAt 70 = .ok (.invokevirtual 167, 3) := by decide +kernel
theorem dX7_goalAt_73 : decode cX7_goalAt 73 = .ok (.ireturn, 1) := by decide +kernel
theorem dX7_messageTold_0 : decode cX7_messageTold 0 = .ok (.aload_n 0, 1) := by decide +kernel
theorem dX7_messageTold_1 : decode cX7_messageTold 1 = .ok (.iload_n 1, 1) := by decide +kernel
theorem dX7_messageTold_2 : decode cX7_messageTold 2 = .ok (.iconst 0, 1) := by decide +kernel
theorem dX7_messageTold_3 : decode cX7_messageTold 3 = .ok (.invokevirtual 78, 3) := by decide +kernel
theorem dX7_messageTold_6 : decode cX7_messageTold 6 = .ok (.istore_n 3, 1) := by decide +kernel
theorem dX7_messageTold_7 : decode cX7_messageTold 7 = .ok (.iload_n 2, 1) := by decide +kernel
theorem dX7_messageTold_8 : decode cX7_messageTold 8 = .ok (.tableswitch 81 0 4 #[36, 42, 48, 55, 61], 36) := by decide +kernel
theorem dX7_messageTold_44 : decode cX7_messageTold 44 = .ok (.aload_n 0, 1) := by decide +kernel
theorem dX7_messageTold_45 : decode cX7_messageTold 45 = .ok (.iload_n 3, 1) := by decide +kernel
theorem dX7_messageTold_46 : decode cX7_messageTold 46 = .ok (.invokevirtual 58, 3) := by decide +kernel
theorem dX7_messageTold_49 : decode cX7_messageTold 49 = .ok (.ireturn, 1) := by decide +kernel
theorem dX7_messageTold_50 : decode cX7_messageTold 50 = .ok (.aload_n 0, 1) := by decide +kernel
theorem dX7_messageTold_51 : decode cX7_messageTold 51 = .ok (.iload_n 3, 1) := by decide +kernel
theorem dX7_messageTold_52 : decode cX7_messageTold 52 = .ok (.invokevirtual 61, 3) := by decide +kernel
theorem dX7_messageTold_55 : decode cX7_messageTold 55 = .ok (.ireturn, 1) := by decide +kernel
theorem dX7_messageTold_56 : decode cX7_messageTold 56 = .ok (.aload_n 0, 1) := by decide +kernel
theorem dX7_messageTold_57 : decode cX7_messageTold 57 = .ok (.iload_n 1, 1) := by decide +kernel
theorem dX7_messageTold_58 : decode cX7_messageTold 58 = .ok (.iconst 1, 1) := by decide +kernel
theorem dX7_messageTold_59 : decode cX7_messageTold 59 = .ok (.invokevirtual 78, 3) := by decide +kernel
theorem dX7_messageTold_62 : decode cX7_messageTold 62 = .ok (.ireturn, 1) := by decide +kernel
theorem dX7_messageTold_63 : decode cX7_messageTold 63 = .ok (.aload_n 0, 1) := by decide +kernel
theorem dX7_messageTold_64 : decode cX7_messageTold 64 = .ok (.iload_n 1, 1) := by decide +kernel
theorem dX7_messageTold_65 : decode cX7_messageTold 65 = .ok (.invokevirtual 123, 3) := by decide +kernel
theorem dX7_messageTold_68 : decode cX7_messageTold 68 = .ok (.ireturn, 1) := by decide +kernel
theorem dX7_messageTold_69 : decode cX7_messageTold 69 = .ok (.aload_n 0, 1) := by decide +kernel
theorem dX7_messageTold_70 : decode cX7_messageTold 70 = .ok (.getfield 28, 3) := by decide +kernel
theorem dX7_messageTold_73 : decode cX7_messageTold 73 = .ok (.iconst 2, 1) := by decide +kernel
theorem dX7_messageTold_74 : decode cX7_messageTold 74 = .ok (.iload_n 1, 1) := by decide +kernel
theorem dX7_messageTold_75 : decode cX7_messageTold 75 = .ok (.imul, 1) := by decide +kernel
theorem dX7_messageTold_76 : decode cX7_messageTold 76 = .ok (.iaload, 1) := by decide +kernel
theorem dX7_messageTold_77 : decode cX7_messageTold 77 = .ok (.aload_n 0, 1) := by decide +kernel
theorem dX7_messageTold_78 : decode cX7_messageTold 78 = .ok (.getfield 28, 3) := by decide +kernel
theorem dX7_messageTold_81 : decode cX7_messageTold 81 = .ok (.iconst 2, 1) := by decide +kernel
theorem dX7_messageTold_82 : decode cX7_messageTold 82 = .ok (.iload_n 1, 1) := by decide +kernel
theorem dX7_messageTold_83 : decode cX7_messageTold 83 = .ok (.imul, 1) := by decide +kernel
theorem dX7_messageTold_84 : decode cX7_messageTold 84 = .ok (.iconst 1, 1) := by decide +kernel
theorem dX7_messageTold_85 : decode cX7_messageTold 85 = .ok (.iadd, 1) := by decide +kernel
theorem dX7_messageTold_86 : decode cX7_messageTold 86 = .ok (.iaload, 1) := by decide +kernel
theorem dX7_messageTold_87 : decode cX7_messageTold 87 = .ok (.iadd, 1) := by decide +kernel
theorem dX7_messageTold_88 : decode cX7_messageTold 88 = .ok (.ireturn, 1) := by decide +kernel
theorem dX7_messageTold_89 : decode cX7_messageTold 89 = .ok (.iconst 0, 1) := by decide +kernel
theorem dX7_messageTold_90 : decode cX7_messageTold 90 = .ok (.istore 4, 2) := by decide +kernel
theorem dX7_messageTold_92 : decode cX7_messageTold 92 = .ok (.iconst 0, 1) := by decide +kernel
theorem dX7_messageTold_93 : decode cX7_messageTold 93 = .ok (.istore 5, 2) := by decide +kernel
theorem dX7_messageTold_95 : decode cX7_messageTold 95 = .ok (.iload 5, 2) := by decide +kernel
theorem dX7_messageTold_97 : decode cX7_messageTold 97 = .ok (.bipush 36, 2) := by decide +kernel
theorem dX7_messageTold_99 : decode cX7_messageTold 99 = .ok (.if_icmp .ge 35, 3) := by decide +kernel
theorem dX7_messageTold_102 : decode cX7_messageTold 102 = .ok (.iload 4, 2) := by decide +kernel
theorem dX7_messageTold_104 : decode cX7_messageTold 104 = .ok (.aload_n 0, 1) := by decide +kernel
theorem dX7_messageTold_105 : decode cX7_messageTold 105 = .ok (.iload_n 1, 1) := by decide +kernel
theorem dX7_messageTold_106 : decode cX7_messageTold 106 = .ok (.iload 5, 2) := by decide +kernel
theorem dX7_messageTold_108 : decode cX7_messageTold 108 = .ok (.invokevirtual 81, 3) := by decide +kernel
theorem dX7_messageTold_111 : decode cX7_messageTold 111 = .ok (.ifCond .eq 13, 3) := by decide +kernel
theorem dX7_messageTold_114 : decode cX7_messageTold 114 = .ok (.aload_n 0, 1) := by decide +kernel
theorem dX7_messageTold_115 : decode cX7_messageTold 115 = .ok (.iload_n 3, 1) := by decide +kernel
theorem dX7_messageTold_116 : decode cX7_messageTold 116 = .ok (.iload 5, 2) := by decide +kernel
theorem dX7_messageTold_118 : decode cX7_messageTold 118 = .ok (.invokevirtual 170, 3) := by decide +kernel
theorem dX7_messageTold_121 : decode cX7_messageTold 121 = .ok (.goto 4, 3) := by decide +kernel
theorem dX7_messageTold_124 : decode cX7_messageTold 124 = .ok (.iconst 0, 1) := by decide +kernel
theorem dX7_messageTold_125 : decode cX7_messageTold 125 = .ok (.iadd, 1) := by decide +kernel
theorem dX7_messageTold_126 : decode cX7_messageTold 126 = .ok (.istore 4, 2) := by decide +kernel
theorem dX7_messageTold_128 : decode cX7_messageTold 128 = .ok (.iinc 5 1, 3) := by decide +kernel
theorem dX7_messageTold_131 : decode cX7_messageTold 131 = .ok (.goto (-36), 3) := by decide +kernel
theorem dX7_messageTold_134 : decode cX7_messageTold 134 = .ok (.iload 4, 2) := by decide +kernel
theorem dX7_messageTold_136 : decode cX7_messageTold 136 = .ok (.ireturn, 1) := by decide +kernel
theorem dX7_of_0 : decode cX7_of 0 = .ok (.aload_n 0, 1) := by decide +kernel
theorem dX7_of_1 : decode cX7_of 1 = .ok (.iload_n 1, 1) := by decide +kernel
theorem dX7_of_2 : decode cX7_of 2 = .ok (.invokevirtual 120, 3) := by decide +kernel
theorem dX7_of_5 : decode cX7_of 5 = .ok (.ifCond .eq 12, 3) := by decide +kernel
theorem dX7_of_8 : decode cX7_of 8 = .ok (.iload_n 2, 1) := by decide +kernel
theorem dX7_of_9 : decode cX7_of 9 = .ok (.iconst 0, 1) := by decide +kernel
theorem dX7_of_10 : decode cX7_of 10 = .ok (.iconst 5, 1) := by decide +kernel
theorem dX7_of_11 : decode cX7_of 11 = .ok (.invokestatic 54, 3) := by decide +kernel
theorem dX7_of_14 : decode cX7_of 14 = .ok (.ifCond .ne 10, 3) := by decide +kernel
theorem dX7_of_17 : decode cX7_of 17 = .ok (.aload_n 0, 1) := by decide +kernel
theorem dX7_of_18 : decode cX7_of 18 = .ok (.bipush (-2), 2) := by decide +kernel
theorem dX7_of_20 : decode cX7_of 20 = .ok (.invokevirtual 47, 3) := by decide +kernel
theorem dX7_of_23 : decode cX7_of 23 = .ok (.ireturn, 1) := by decide +kernel
theorem dX7_of_24 : decode cX7_of 24 = .ok (.aload_n 0, 1) := by decide +kernel
theorem dX7_of_25 : decode cX7_of 25 = .ok (.invokevirtual 129, 3) := by decide +kernel
theorem dX7_of_28 : decode cX7_of 28 = .ok (.aload_n 0, 1) := by decide +kernel
theorem dX7_of_29 : decode cX7_of 29 = .ok (.iload_n 1, 1) := by decide +kernel
theorem dX7_of_30 : decode cX7_of 30 = .ok (.iload_n 2, 1) := by decide +kernel
theorem dX7_of_31 : decode cX7_of 31 = .ok (.invokevirtual 188, 3) := by decide +kernel
theorem dX7_of_34 : decode cX7_of 34 = .ok (.ireturn, 1) := by decide +kernel
theorem dX7_areDone_0 : decode cX7_areDone 0 = .ok (.iconst 1, 1) := by decide +kernel
theorem dX7_areDone_1 : decode cX7_areDone 1 = .ok (.istore_n 2, 1) := by decide +kernel
theorem dX7_areDone_2 : decode cX7_areDone 2 = .ok (.iconst 0, 1) := by decide +kernel
theorem dX7_areDone_3 : decode cX7_areDone 3 = .ok (.istore_n 3, 1) := by decide +kernel
theorem dX7_areDone_4 : decode cX7_areDone 4 = .ok (.iload_n 3, 1) := by decide +kernel
theorem dX7_areDone_5 : decode cX7_areDone 5 = .ok (.iconst 2, 1) := by decide +kernel
theorem dX7_areDone_6 : decode cX7_areDone 6 = .ok (.aload_n 0, 1) := by decide +kernel
theorem dX7_areDone_7 : decode cX7_areDone 7 = .ok (.getfield 7, 3) := by decide +kernel
theorem dX7_areDone_10 : decode cX7_areDone 10 = .ok (.iconst 3, 1) := by decide +kernel
theorem dX7_areDone_11 : decode cX7_areDone 11 = .ok (.iaload, 1) := by decide +kernel
theorem dX7_areDone_12 : decode cX7_areDone 12 = .ok (.imul, 1) := by decide +kernel
theorem dX7_areDone_13 : decode cX7_areDone 13 = .ok (.if_icmp .ge 39, 3) := by decide +kernel
theorem dX7_areDone_16 : decode cX7_areDone 16 = .ok (.iload_n 2, 1) := by decide +kernel
theorem dX7_areDone_17 : decode cX7_areDone 17 = .ok (.ifCond .eq 27, 3) := by decide +kernel
theorem dX7_areDone_20 : decode cX7_areDone 20 = .ok (.iload_n 1, 1) := by decide +kernel
theorem dX7_areDone_21 : decode cX7_areDone 21 = .ok (.iconst (-1), 1) := by decide +kernel
theorem dX7_areDone_22 : decode cX7_areDone 22 = .ok (.if_icmp .eq 10, 3) := by decide +kernel
theorem dX7_areDone_25 : decode cX7_areDone 25 = .ok (.iload_n 3, 1) := by decide +kernel
theorem dX7_areDone_26 : decode cX7_areDone 26 = .ok (.iconst 2, 1) := by decide +kernel
theorem dX7_areDone_27 : decode cX7_areDone 27 = .ok (.idiv, 1) := by decide +kernel
theorem dX7_areDone_28 : decode cX7_areDone 28 = .ok (.iload_n 1, 1) := by decide +kernel
theorem dX7_areDone_29 : decode cX7_areDone 29 = .ok (.if_icmp .ne 11, 3) := by decide +kernel
theorem dX7_areDone_32 : decode cX7_areDone 32 = .ok (.aload_n 0, 1) := by decide +kernel
theorem dX7_areDone_33 : decode cX7_areDone 33 = .ok (.iload_n 3, 1) := by decide +kernel
theorem dX7_areDone_34 : decode cX7_areDone 34 = .ok (.invokevirtual 112, 3) := by decide +kernel
theorem dX7_areDone_37 : decode cX7_areDone 37 = .ok (.ifCond .eq 7, 3) := by decide +kernel
theorem dX7_areDone_40 : decode cX7_areDone 40 = .ok (.iconst 1, 1) := by decide +kernel
theorem dX7_areDone_41 : decode cX7_areDone 41 = .ok (.goto 4, 3) := by decide +kernel
theorem dX7_areDone_44 : decode cX7_areDone 44 = .ok (.iconst 0, 1) := by decide +kernel
theorem dX7_areDone_45 : decode cX7_areDone 45 = .ok (.istore_n 2, 1) := by decide +kernel
theorem dX7_areDone_46 : decode cX7_areDone 46 = .ok (.iinc 3 1, 3) := by decide +kernel
theorem dX7_areDone_49 : decode cX7_areDone 49 = .ok (.goto (-45), 3) := by decide +kernel
theorem dX7_areDone_52 : decode cX7_areDone 52 = .ok (.iload_n 2, 1) := by decide +kernel
theorem dX7_areDone_53 : decode cX7_areDone 53 = .ok (.ireturn, 1) := by decide +kernel
theorem dX7_whenDone_0 : decode cX7_whenDone 0 = .ok (.aload_n 0, 1) := by decide +kernel
theorem dX7_whenDone_1 : decode cX7_whenDone 1 = .ok (.invokevirtual 129, 3) := by decide +kernel
theorem dX7_whenDone_4 : decode cX7_whenDone 4 = .ok (.aload_n 0, 1) := by decide +kernel
theorem dX7_whenDone_5 : decode cX7_whenDone 5 = .ok (.invokevirtual 139, 3) := by decide +kernel
theorem dX7_whenDone_8 : decode cX7_whenDone 8 = .ok (.iconst 0, 1) := by decide +kernel
theorem dX7_whenDone_9 : decode cX7_whenDone 9 = .ok (.istore_n 2, 1) := by decide +kernel
theorem dX7_whenDone_10 : decode cX7_whenDone 10 = .ok (.iload_n 2, 1) := by decide +kernel
theorem dX7_whenDone_11 : decode cX7_whenDone 11 = .ok (.sipush 400, 3) := by decide +kernel
theorem dX7_whenDone_14 : decode cX7_whenDone 14 = .ok (.if_icmp .gt 21, 3) := by decide +kernel
theorem dX7_whenDone_17 : decode cX7_whenDone 17 = .ok (.aload_n 0, 1) := by decide +kernel
theorem dX7_whenDone_18 : decode cX7_whenDone 18 = .ok (.iload_n 1, 1) := by decide +kernel
theorem dX7_whenDone_19 : decode cX7_whenDone 19 = .ok (.invokevirtual 191, 3) := by decide +kernel
theorem dX7_whenDone_22 : decode cX7_whenDone 22 = .ok (.ifCond .ne 13, 3) := by decide +kernel
theorem dX7_whenDone_25 : decode cX7_whenDone 25 = .ok (.aload_n 0, 1) := by decide +kernel
theorem dX7_whenDone_26 : decode cX7_whenDone 26 = .ok (.invokevirtual 132, 3) := by decide +kernel
theorem dX7_whenDone_29 : decode cX7_whenDone 29 = .ok (.iinc 2 1, 3) := by decide +kernel
theorem dX7_whenDone_32 : decode cX7_whenDone 32 = .ok (.goto (-22), 3) := by decide +kernel
theorem dX7_whenDone_35 : decode cX7_whenDone 35 = .ok (.aload_n 0, 1) := by decide +kernel
theorem dX7_whenDone_36 : decode cX7_whenDone 36 = .ok (.invokevirtual 194, 3) := by decide +kernel
theorem dX7_whenDone_39 : decode cX7_whenDone 39 = .ok (.iload_n 2, 1) := by decide +kernel
theorem dX7_whenDone_40 : decode cX7_whenDone 40 = .ok (.sipush 400, 3) := by decide +kernel
theorem dX7_whenDone_43 : decode cX7_whenDone 43 = .ok (.if_icmp .le 7, 3) := by decide +kernel
theorem dX7_whenDone_46 : decode cX7_whenDone 46 = .ok (.iconst (-1), 1) := by decide +kernel
theorem dX7_whenDone_47 : decode cX7_whenDone 47 = .ok (.goto 4, 3) := by decide +kernel
theorem dX7_whenDone_50 : decode cX7_whenDone 50 = .ok (.iload_n 2, 1) := by decide +kernel
theorem dX7_whenDone_51 : decode cX7_whenDone 51 = .ok (.ireturn, 1) := by decide +kernel
theorem dX7_when_0 : decode cX7_when 0 = .ok (.iload_n 1, 1) := by decide +kernel
theorem dX7_when_1 : decode cX7_when 1 = .ok (.iconst (-1), 1) := by decide +kernel
theorem dX7_when_2 : decode cX7_when 2 = .ok (.if_icmp .eq 11, 3) := by decide +kernel
theorem dX7_when_5 : decode cX7_when 5 = .ok (.aload_n 0, 1) := by decide +kernel
theorem dX7_when_6 : decode cX7_when 6 = .ok (.iload_n 1, 1) := by decide +kernel
theorem dX7_when_7 : decode cX7_when 7 = .ok (.invokevirtual 120, 3) := by decide +kernel
theorem dX7_when_10 : decode cX7_when 10 = .ok (.ifCond .eq 11, 3) := by decide +kernel
theorem dX7_when_13 : decode cX7_when 13 = .ok (.aload_n 0, 1) := by decide +kernel
theorem dX7_when_14 : decode cX7_when 14 = .ok (.iload_n 1, 1) := by decide +kernel
theorem dX7_when_15 : decode cX7_when 15 = .ok (.invokevirtual 197, 3) := by decide +kernel
theorem dX7_when_18 : decode cX7_when 18 = .ok (.goto 9, 3) := by decide +kernel
theorem dX7_when_21 : decode cX7_when 21 = .ok (.aload_n 0, 1) := by decide +kernel
theorem dX7_when_22 : decode cX7_when 22 = .ok (.bipush (-2), 2) := by decide +kernel
theorem dX7_when_24 : decode cX7_when 24 = .ok (.invokevirtual 47, 3) := by decide +kernel
theorem dX7_when_27 : decode cX7_when 27 = .ok (.ireturn, 1) := by decide +kernel
theorem dX7_countTold_0 : decode cX7_countTold 0 = .ok (.iconst 0, 1) := by decide +kernel
theorem dX7_countTold_1 : decode cX7_countTold 1 = .ok (.istore_n 2, 1) := by decide +kernel
theorem dX7_countTold_2 : decode cX7_countTold 2 = .ok (.iconst 0, 1) := by decide +kernel
theorem dX7_countTold_3 : decode cX7_countTold 3 = .ok (.istore_n 3, 1) := by decide +kernel
theorem dX7_countTold_4 : decode cX7_countTold 4 = .ok (.iconst 0, 1) := by decide +kernel
theorem dX7_countTold_5 : decode cX7_countTold 5 = .ok (.istore 4, 2) := by decide +kernel
theorem dX7_countTold_7 : decode cX7_countTold 7 = .ok (.iconst 0, 1) := by decide +kernel
theorem dX7_countTold_8 : decode cX7_countTold 8 = .ok (.istore 5, 2) := by decide +kernel
theorem dX7_countTold_10 : decode cX7_countTold 10 = .ok (.iconst 0, 1) := by decide +kernel
theorem dX7_countTold_11 : decode cX7_countTold 11 = .ok (.istore 6, 2) := by decide +kernel
theorem dX7_countTold_13 : decode cX7_countTold 13 = .ok (.iload 6, 2) := by decide +kernel
theorem dX7_countTold_15 : decode cX7_countTold 15 = .ok (.aload_n 0, 1) := by decide +kernel
theorem dX7_countTold_16 : decode cX7_countTold 16 = .ok (.getfield 7, 3) := by decide +kernel
theorem dX7_countTold_19 : decode cX7_countTold 19 = .ok (.iconst 0, 1) := by decide +kernel
theorem dX7_countTold_20 : decode cX7_countTold 20 = .ok (.iaload, 1) := by decide +kernel
theorem dX7_countTold_21 : decode cX7_countTold 21 = .ok (.aload_n 0, 1) := by decide +kernel
theorem dX7_countTold_22 : decode cX7_countTold 22 = .ok (.getfield 7, 3) := by decide +kernel
theorem dX7_countTold_25 : decode cX7_countTold 25 = .ok (.iconst 1, 1) := by decide +kernel
theorem dX7_countTold_26 : decode cX7_countTold 26 = .ok (.iaload, 1) := by decide +kernel
theorem dX7_countTold_27 : decode cX7_countTold 27 = .ok (.imul, 1) := by decide +kernel
theorem dX7_countTold_28 : decode cX7_countTold 28 = .ok (.if_icmp .ge 43, 3) := by decide +kernel
theorem dX7_countTold_31 : decode cX7_countTold 31 = .ok (.iconst 0, 1) := by decide +kernel
theorem dX7_countTold_32 : decode cX7_countTold 32 = .ok (.istore 7, 2) := by decide +kernel
theorem dX7_countTold_34 : decode cX7_countTold 34 = .ok (.iload 7, 2) := by decide +kernel
theorem dX7_countTold_36 : decode cX7_countTold 36 = .ok (.iconst 4, 1) := by decide +kernel
theorem dX7_countTold_37 : decode cX7_countTold 37 = .ok (.if_icmp .ge 28, 3) := by decide +kernel
theorem dX7_countTold_40 : decode cX7_countTold 40 = .ok (.iload_n 2, 1) := by decide +kernel
theorem dX7_countTold_41 : decode cX7_countTold 41 = .ok (.aload_n 0, 1) := by decide +kernel
theorem dX7_countTold_42 : decode cX7_countTold 42 = .ok (.iload 6, 2) := by decide +kernel
theorem dX7_countTold_44 : decode cX7_countTold 44 = .ok (.iload 7, 2) := by decide +kernel
theorem dX7_countTold_46 : decode cX7_countTold 46 = .ok (.invokevirtual 103, 3) := by decide +kernel
theorem dX7_countTold_49 : decode cX7_countTold 49 = .ok (.ifCond .eq 7, 3) := by decide +kernel
theorem dX7_countTold_52 : decode cX7_countTold 52 = .ok (.iconst 1, 1) := by decide +kernel
theorem dX7_countTold_53 : decode cX7_countTold 53 = .ok (.goto 4, 3) := by decide +kernel
theorem dX7_countTold_56 : decode cX7_countTold 56 = .ok (.iconst 0, 1) := by decide +kernel
theorem dX7_countTold_57 : decode cX7_countTold 57 = .ok (.iadd, 1) := by decide +kernel
theorem dX7_countTold_58 : decode cX7_countTold 58 = .ok (.istore_n 2, 1) := by decide +kernel
theorem dX7_countTold_59 : decode cX7_countTold 59 = .ok (.iinc 7 1, 3) := by decide +kernel
theorem dX7_countTold_62 : decode cX7_countTold 62 = .ok (.goto (-28), 3) := by decide +kernel
theorem dX7_countTold_65 : decode cX7_countTold 65 = .ok (.iinc 6 1, 3) := by decide +kernel
theorem dX7_countTold_68 : decode cX7_countTold 68 = .ok (.goto (-55), 3) := by decide +kernel
theorem dX7_countTold_71 : decode cX7_countTold 71 = .ok (.iconst 0, 1) := by decide +kernel
theorem dX7_countTold_72 : decode cX7_countTold 72 = .ok (.istore 6, 2) := by decide +kernel
theorem dX7_countTold_74 : decode cX7_countTold 74 = .ok (.iload 6, 2) := by decide +kernel
theorem dX7_countTold_76 : decode cX7_countTold 76 = .ok (.iconst 2, 1) := by decide +kernel
theorem dX7_countTold_77 : decode cX7_countTold 77 = .ok (.aload_n 0, 1) := by decide +kernel
theorem dX7_countTold_78 : decode cX7_countTold 78 = .ok (.getfield 7, 3) := by decide +kernel
theorem dX7_countTold_81 : decode cX7_countTold 81 = .ok (.iconst 3, 1) := by decide +kernel
theorem dX7_countTold_82 : decode cX7_countTold 82 = .ok (.iaload, 1) := by decide +kernel
theorem dX7_countTold_83 : decode cX7_countTold 83 = .ok (.imul, 1) := by decide +kernel
theorem dX7_countTold_84 : decode cX7_countTold 84 = .ok (.if_icmp .ge 38, 3) := by decide +kernel
theorem dX7_countTold_87 : decode cX7_countTold 87 = .ok (.iload_n 3, 1) := by decide +kernel
theorem dX7_countTold_88 : decode cX7_countTold 88 = .ok (.aload_n 0, 1) := by decide +kernel
theorem dX7_countTold_89 : decode cX7_countTold 89 = .ok (.iload 6, 2) := by decide +kernel
theorem dX7_countTold_91 : decode cX7_countTold 91 = .ok (.invokevirtual 176, 3) := by decide +kernel
theorem dX7_countTold_94 : decode cX7_countTold 94 = .ok (.iadd, 1) := by decide +kernel
theorem dX7_countTold_95 : decode cX7_countTold 95 = .ok (.istore_n 3, 1) := by decide +kernel
theorem dX7_countTold_96 : decode cX7_countTold 96 = .ok (.iload 4, 2) := by decide +kernel
theorem dX7_countTold_98 : decode cX7_countTold 98 = .ok (.aload_n 0, 1) := by decide +kernel
theorem dX7_countTold_99 : decode cX7_countTold 99 = .ok (.iload 6, 2) := by decide +kernel
theorem dX7_countTold_101 : decode cX7_countTold 101 = .ok (.iconst 2, 1) := by decide +kernel
theorem dX7_countTold_102 : decode cX7_countTold 102 = .ok (.idiv, 1) := by decide +kernel
theorem dX7_countTold_103 : decode cX7_countTold 103 = .ok (.bipush 6, 2) := by decide +kernel
theorem dX7_countTold_105 : decode cX7_countTold 105 = .ok (.iload 6, 2) := by decide +kernel
theorem dX7_countTold_107 : decode cX7_countTold 107 = .ok (.iconst 2, 1) := by decide +kernel
theorem dX7_countTold_108 : decode cX7_countTold 108 = .ok (.irem, 1) := by decide +kernel
theorem dX7_countTold_109 : decode cX7_countTold 109 = .ok (.iadd, 1) := by decide +kernel
theorem dX7_countTold_110 : decode cX7_countTold 110 = .ok (.invokevirtual 78, 3) := by decide +kernel
theorem dX7_countTold_113 : decode cX7_countTold 113 = .ok (.iadd, 1) := by decide +kernel
theorem dX7_countTold_114 : decode cX7_countTold 114 = .ok (.istore 4, 2) := by decide +kernel
theorem dX7_countTold_116 : decode cX7_countTold 116 = .ok (.iinc 6 1, 3) := by decide +kernel
theorem dX7_countTold_119 : decode cX7_countTold 119 = .ok (.goto (-45), 3) := by decide +kernel
theorem dX7_countTold_122 : decode cX7_countTold 122 = .ok (.iconst 0, 1) := by decide +kernel
theorem dX7_countTold_123 : decode cX7_countTold 123 = .ok (.istore 6, 2) := by decide +kernel
theorem dX7_countTold_125 : decode cX7_countTold 125 = .ok (.iload 6, 2) := by decide +kernel
theorem dX7_countTold_127 : decode cX7_countTold 127 = .ok (.aload_n 0, 1) := by decide +kernel
theorem dX7_countTold_128 : decode cX7_countTold 128 = .ok (.getfield 7, 3) := by decide +kernel
theorem dX7_countTold_131 : decode cX7_countTold 131 = .ok (.iconst 3, 1) := by decide +kernel
theorem dX7_countTold_132 : decode cX7_countTold 132 = .ok (.iaload, 1) := by decide +kernel
theorem dX7_countTold_133 : decode cX7_countTold 133 = .ok (.if_icmp .ge 28, 3) := by decide +kernel
theorem dX7_countTold_136 : decode cX7_countTold 136 = .ok (.iload 5, 2) := by decide +kernel
theorem dX7_countTold_138 : decode cX7_countTold 138 = .ok (.aload_n 0, 1) := by decide +kernel
theorem dX7_countTold_139 : decode cX7_countTold 139 = .ok (.iload 6, 2) := by decide +kernel
theorem dX7_countTold_141 : decode cX7_countTold 141 = .ok (.invokevirtual 191, 3) := by decide +kernel
theorem dX7_countTold_144 : decode cX7_countTold 144 = .ok (.ifCond .eq 7, 3) := by decide +kernel
theorem dX7_countTold_147 : decode cX7_countTold 147 = .ok (.iconst 1, 1) := by decide +kernel
theorem dX7_countTold_148 : decode cX7_countTold 148 = .ok (.goto 4, 3) := by decide +kernel
theorem dX7_countTold_151 : decode cX7_countTold 151 = .ok (.iconst 0, 1) := by decide +kernel
theorem dX7_countTold_152 : decode cX7_countTold 152 = .ok (.iadd, 1) := by decide +kernel
theorem dX7_countTold_153 : decode cX7_countTold 153 = .ok (.istore 5, 2) := by decide +kernel
theorem dX7_countTold_155 : decode cX7_countTold 155 = .ok (.iinc 6 1, 3) := by decide +kernel
theorem dX7_countTold_158 : decode cX7_countTold 158 = .ok (.goto (-33), 3) := by decide +kernel
theorem dX7_countTold_161 : decode cX7_countTold 161 = .ok (.iload_n 1, 1) := by decide +kernel
theorem dX7_countTold_162 : decode cX7_countTold 162 = .ok (.tableswitch 77 0 6 #[42, 49, 56, 63, 70, 72, 74], 42) := by decide +kernel
theorem dX7_countTold_204 : decode cX7_countTold 204 = .ok (.aload_n 0, 1) := by decide +kernel
theorem dX7_countTold_205 : decode cX7_countTold 205 = .ok (.getfield 7, 3) := by decide +kernel
theorem dX7_countTold_208 : decode cX7_countTold 208 = .ok (.iconst 0, 1) := by decide +kernel
theorem dX7_countTold_209 : decode cX7_countTold 209 = .ok (.iaload, 1) := by decide +kernel
theorem dX7_countTold_210 : decode cX7_countTold 210 = .ok (.ireturn, 1) := by decide +kernel
theorem dX7_countTold_211 : decode cX7_countTold 211 = .ok (.aload_n 0, 1) := by decide +kernel
theorem dX7_countTold_212 : decode cX7_countTold 212 = .ok (.getfield 7, 3) := by decide +kernel
theorem dX7_countTold_215 : decode cX7_countTold 215 = .ok (.iconst 1, 1) := by decide +kernel
theorem dX7_countTold_216 : decode cX7_countTold 216 = .ok (.iaload, 1) := by decide +kernel
theorem dX7_countTold_217 : decode cX7_countTold 217 = .ok (.ireturn, 1) := by decide +kernel
theorem dX7_countTold_218 : decode cX7_countTold 218 = .ok (.aload_n 0, 1) := by decide +kernel
theorem dX7_countTold_219 : decode cX7_countTold 219 = .ok (.getfield 7, 3) := by decide +kernel
theorem dX7_countTold_222 : decode cX7_countTold 222 = .ok (.iconst 3, 1) := by decide +kernel
theorem dX7_countTold_223 : decode cX7_countTold 223 = .ok (.iaload, 1) := by decide +kernel
theorem dX7_countTold_224 : decode cX7_countTold 224 = .ok (.ireturn, 1) := by decide +kernel
theorem dX7_countTold_225 : decode cX7_countTold 225 = .ok (.aload_n 0, 1) := by decide +kernel
theorem dX7_countTold_226 : decode cX7_countTold 226 = .ok (.getfield 7, 3) := by decide +kernel
theorem dX7_countTold_229 : decode cX7_countTold 229 = .ok (.iconst 2, 1) := by decide +kernel
theorem dX7_countTold_230 : decode cX7_countTold 230 = .ok (.iaload, 1) := by decide +kernel
theorem dX7_countTold_231 : decode cX7_countTold 231 = .ok (.ireturn, 1) := by decide +kernel
theorem dX7_countTold_232 : decode cX7_countTold 232 = .ok (.iload_n 2, 1) := by decide +kernel
theorem dX7_countTold_233 : decode cX7_countTold 233 = .ok (.ireturn, 1) := by decide +kernel
theorem dX7_countTold_234 : decode cX7_countTold 234 = .ok (.iload_n 3, 1) := by decide +kernel
theorem dX7_countTold_235 : decode cX7_countTold 235 = .ok (.ireturn, 1) := by decide +kernel
theorem dX7_countTold_236 : decode cX7_countTold 236 = .ok (.iload 4, 2) := by decide +kernel
theorem dX7_countTold_238 : decode cX7_countTold 238 = .ok (.ireturn, 1) := by decide +kernel
theorem dX7_countTold_239 : decode cX7_countTold 239 = .ok (.iload 5, 2) := by decide +kernel
theorem dX7_countTold_241 : decode cX7_countTold 241 = .ok (.ireturn, 1) := by decide +kernel
theorem dX7_count_0 : decode cX7_count 0 = .ok (.iload_n 1, 1) := by decide +kernel
theorem dX7_count_1 : decode cX7_count 1 = .ok (.iconst 0, 1) := by decide +kernel
theorem dX7_count_2 : decode cX7_count 2 = .ok (.bipush 7, 2) := by decide +kernel
theorem dX7_count_4 : decode cX7_count 4 = .ok (.invokestatic 54, 3) := by decide +kernel
theorem dX7_count_7 : decode cX7_count 7 = .ok (.ifCond .ne 10, 3) := by decide +kernel
theorem dX7_count_10 : decode cX7_count 10 = .ok (.aload_n 0, 1) := by decide +kernel
theorem dX7_count_11 : decode cX7_count 11 = .ok (.bipush (-2), 2) := by decide +kernel
theorem dX7_count_13 : decode cX7_count 13 = .ok (.invokevirtual 47, 3) := by decide +kernel
theorem dX7_count_16 : decode cX7_count 16 = .ok (.ireturn, 1) := by decide +kernel
theorem dX7_count_17 : decode cX7_count 17 = .ok (.aload_n 0, 1) := by decide +kernel
theorem dX7_count_18 : decode cX7_count 18 = .ok (.invokevirtual 129, 3) := by decide +kernel
theorem dX7_count_21 : decode cX7_count 21 = .ok (.aload_n 0, 1) := by decide +kernel
theorem dX7_count_22 : decode cX7_count 22 = .ok (.iload_n 1, 1) := by decide +kernel
theorem dX7_count_23 : decode cX7_count 23 = .ok (.invokevirtual 200, 3) := by decide +kernel
theorem dX7_count_26 : decode cX7_count 26 = .ok (.ireturn, 1) := by decide +kernel
theorem dX7_type_0 : decode cX7_type 0 = .ok (.iload_n 1, 1) := by decide +kernel
theorem dX7_type_1 : decode cX7_type 1 = .ok (.iconst 0, 1) := by decide +kernel
theorem dX7_type_2 : decode cX7_type 2 = .ok (.bipush 127, 2) := by decide +kernel
theorem dX7_type_4 : decode cX7_type 4 = .ok (.invokestatic 54, 3) := by decide +kernel
theorem dX7_type_7 : decode cX7_type 7 = .ok (.ifCond .ne 10, 3) := by decide +kernel
theorem dX7_type_10 : decode cX7_type 10 = .ok (.aload_n 0, 1) := by decide +kernel
theorem dX7_type_11 : decode cX7_type 11 = .ok (.bipush (-2), 2) := by decide +kernel
theorem dX7_type_13 : decode cX7_type 13 = .ok (.invokevirtual 47, 3) := by decide +kernel
theorem dX7_type_16 : decode cX7_type 16 = .ok (.ireturn, 1) := by decide +kernel
theorem dX7_type_17 : decode cX7_type 17 = .ok (.aload_n 0, 1) := by decide +kernel
theorem dX7_type_18 : decode cX7_type 18 = .ok (.getfield 203, 3) := by decide +kernel
theorem dX7_type_21 : decode cX7_type 21 = .ok (.bipush 120, 2) := by decide +kernel
theorem dX7_type_23 : decode cX7_type 23 = .ok (.if_icmp .ne 10, 3) := by decide +kernel
theorem dX7_type_26 : decode cX7_type 26 = .ok (.aload_n 0, 1) := by decide +kernel
theorem dX7_type_27 : decode cX7_type 27 = .ok (.bipush (-4), 2) := by decide +kernel
theorem dX7_type_29 : decode cX7_type 29 = .ok (.invokevirtual 47, 3) := by decide +kernel
theorem dX7_type_32 : decode cX7_type 32 = .ok (.ireturn, 1) := by decide +kernel
theorem dX7_type_33 : decode cX7_type 33 = .ok (.aload_n 0, 1) := by decide +kernel
theorem dX7_type_34 : decode cX7_type 34 = .ok (.getfield 22, 3) := by decide +kernel
theorem dX7_type_37 : decode cX7_type 37 = .ok (.aload_n 0, 1) := by decide +kernel
theorem dX7_type_38 : decode cX7_type 38 = .ok (.getfield 203, 3) := by decide +kernel
theorem dX7_type_41 : decode cX7_type 41 = .ok (.iload_n 1, 1) := by decide +kernel
theorem dX7_type_42 : decode cX7_type 42 = .ok (.iastore, 1) := by decide +kernel
theorem dX7_type_43 : decode cX7_type 43 = .ok (.aload_n 0, 1) := by decide +kernel
theorem dX7_type_44 : decode cX7_type 44 = .ok (.dup, 1) := by decide +kernel
theorem dX7_type_45 : decode cX7_type 45 = .ok (.getfield 203, 3) := by decide +kernel
theorem dX7_type_48 : decode cX7_type 48 = .ok (.iconst 1, 1) := by decide +kernel
theorem dX7_type_49 : decode cX7_type 49 = .ok (.iadd, 1) := by decide +kernel
theorem dX7_type_50 : decode cX7_type 50 = .ok (.putfield 203, 3) := by decide +kernel
theorem dX7_type_53 : decode cX7_type 53 = .ok (.aload_n 0, 1) := by decide +kernel
theorem dX7_type_54 : decode cX7_type 54 = .ok (.getfield 203, 3) := by decide +kernel
theorem dX7_type_57 : decode cX7_type 57 = .ok (.ireturn, 1) := by decide +kernel
theorem dX7_clear_0 : decode cX7_clear 0 = .ok (.aload_n 0, 1) := by decide +kernel
theorem dX7_clear_1 : decode cX7_clear 1 = .ok (.getfield 203, 3) := by decide +kernel
theorem dX7_clear_4 : decode cX7_clear 4 = .ok (.istore_n 1, 1) := by decide +kernel
theorem dX7_clear_5 : decode cX7_clear 5 = .ok (.aload_n 0, 1) := by decide +kernel
theorem dX7_clear_6 : decode cX7_clear 6 = .ok (.iconst 0, 1) := by decide +kernel
theorem dX7_clear_7 : decode cX7_clear 7 = .ok (.putfield 203, 3) := by decide +kernel
theorem dX7_clear_10 : decode cX7_clear 10 = .ok (.iload_n 1, 1) := by decide +kernel
theorem dX7_clear_11 : decode cX7_clear 11 = .ok (.ireturn, 1) := by decide +kernel
theorem dX7_isAt_0 : decode cX7_isAt 0 = .ok (.aload_n 0, 1) := by decide +kernel
theorem dX7_isAt_1 : decode cX7_isAt 1 = .ok (.getfield 206, 3) := by decide +kernel
theorem dX7_isAt_4 : decode cX7_isAt 4 = .ok (.aload_n 0, 1) := by decide +kernel
theorem dX7_isAt_5 : decode cX7_isAt 5 = .ok (.getfield 203, 3) := by decide +kernel
theorem dX7_isAt_8 : decode cX7_isAt 8 = .ok (.if_icmp .ge 24, 3) := by decide +kernel
theorem dX7_isAt_11 : decode cX7_isAt 11 = .ok (.aload_n 0, 1) := by decide +kernel
theorem dX7_isAt_12 : decode cX7_isAt 12 = .ok (.getfield 22, 3) := by decide +kernel
theorem dX7_isAt_15 : decode cX7_isAt 15 = .ok (.aload_n 0, 1) := by decide +kernel
theorem dX7_isAt_16 : decode cX7_isAt 16 = .ok (.getfield 206, 3) := by decide +kernel
theorem dX7_isAt_19 : decode cX7_isAt 19 = .ok (.iaload, 1) := by decide +kernel
theorem dX7_isAt_20 : decode cX7_isAt 20 = .ok (.iload_n 1, 1) := by decide +kernel
theorem dX7_isAt_21 : decode cX7_isAt 21 = .ok (.iload_n 2, 1) := by decide +kernel
theorem dX7_isAt_22 : decode cX7_isAt 22 = .ok (.invokestatic 54, 3) := by decide +kernel
theorem dX7_isAt_25 : decode cX7_isAt 25 = .ok (.ifCond .eq 7, 3) := by decide +kernel
theorem dX7_isAt_28 : decode cX7_isAt 28 = .ok (.iconst 1, 1) := by decide +kernel
theorem dX7_isAt_29 : decode cX7_isAt 29 = .ok (.goto 4, 3) := by decide +kernel
theorem dX7_isAt_32 : decode cX7_isAt 32 = .ok (.iconst 0, 1) := by decide +kernel
theorem dX7_isAt_33 : decode cX7_isAt 33 = .ok (.ireturn, 1) := by decide +kernel
theorem dX7_blanks_0 : decode cX7_blanks 0 = .ok (.aload_n 0, 1) := by decide +kernel
theorem dX7_blanks_1 : decode cX7_blanks 1 = .ok (.bipush 32, 2) := by decide +kernel
theorem dX7_blanks_3 : decode cX7_blanks 3 = .ok (.bipush 32, 2) := by decide +kernel
theorem dX7_blanks_5 : decode cX7_blanks 5 = .ok (.invokevirtual 209, 3) := by decide +kernel
theorem dX7_blanks_8 : decode cX7_blanks 8 = .ok (.ifCond .eq 16, 3) := by decide +kernel
theorem dX7_blanks_11 : decode cX7_blanks 11 = .ok (.aload_n 0, 1) := by decide +kernel
theorem dX7_blanks_12 : decode cX7_blanks 12 = .ok (.dup, 1) := by decide +kernel
theorem dX7_blanks_13 : decode cX7_blanks 13 = .ok (.getfield 206, 3) := by decide +kernel
theorem dX7_blanks_16 : decode cX7_blanks 16 = .ok (.iconst 1, 1) := by decide +kernel
theorem dX7_blanks_17 : decode cX7_blanks 17 = .ok (.iadd, 1) := by decide +kernel
theorem dX7_blanks_18 : decode cX7_blanks 18 = .ok (.putfield 206, 3) := by decide +kernel
theorem dX7_blanks_21 : decode cX7_blanks 21 = .ok (.goto (-21), 3) := by decide +kernel
theorem dX7_blanks_24 : decode cX7_blanks 24 = .ok (.return_, 1) := by decide +kernel
theorem dX7_fails_0 : decode cX7_fails 0 = .ok (.aload_n 0, 1) := by decide +kernel
theorem dX7_fails_1 : decode cX7_fails 1 = .ok (.aload_n 0, 1) := by decide +kernel
theorem dX7_fails_2 : decode cX7_fails 2 = .ok (.getfield 206, 3) := by decide +kernel
theorem dX7_fails_5 : decode cX7_fails 5 = .ok (.putfield 212, 3) := by decide +kernel
theorem dX7_fails_8 : decode cX7_fails 8 = .ok (.iconst 0, 1) := by decide +kernel
theorem dX7_fails_9 : decode cX7_fails 9 = .ok (.ireturn, 1) := by decide +kernel
theorem dX7_manyOf_0 : decode cX7_manyOf 0 = .ok (.iload_n 0, 1) := by decide +kernel
theorem dX7_manyOf_1 : decode cX7_manyOf 1 = .ok (.lookupswitch 67 #[(97, 65), (103, 59), (107, 63), (109, 59), (116, 59), (119, 61)], 59) := by decide +kernel
theorem dX7_manyOf_60 : decode cX7_manyOf 60 = .ok (.iconst 3, 1) := by decide +kernel
theorem dX7_manyOf_61 : decode cX7_manyOf 61 = .ok (.ireturn, 1) := by decide +kernel
theorem dX7_manyOf_62 : decode cX7_manyOf 62 = .ok (.iconst 2, 1) := by decide +kernel
theorem dX7_manyOf_63 : decode cX7_manyOf 63 = .ok (.ireturn, 1) := by decide +kernel
theorem dX7_manyOf_64 : decode cX7_manyOf 64 = .ok (.iconst 1, 1) := by decide +kernel
theorem dX7_manyOf_65 : decode cX7_manyOf 65 = .ok (.ireturn, 1) := by decide +kernel
theorem dX7_manyOf_66 : decode cX7_manyOf 66 = .ok (.iconst 0, 1) := by decide +kernel
theorem dX7_manyOf_67 : decode cX7_manyOf 67 = .ok (.ireturn, 1) := by decide +kernel
theorem dX7_manyOf_68 : decode cX7_manyOf 68 = .ok (.iconst (-1), 1) := by decide +kernel
theorem dX7_manyOf_69 : decode cX7_manyOf 69 = .ok (.ireturn, 1) := by decide +kernel
end
section
theorem dX7_takesNumber_0 : decode cX7_takesNumber 0 = .ok (.aload_n 0, 1) := by decide +kernel
theorem dX7_takesNumber_1 : decode cX7_takesNumber 1 = .ok (.invokevirtual 215, 3) := by decide +kernel
theorem dX7_takesNumber_4 : decode cX7_takesNumber 4 = .ok (.aload_n 0, 1) := by decide +kernel
theorem dX7_takesNumber_5 : decode cX7_takesNumber 5 = .ok (.getfield 206, 3) := by decide +kernel
theorem dX7_takesNumber_8 : decode cX7_takesNumber 8 = .ok (.istore_n 2, 1) := by decide +kernel
theorem dX7_takesNumber_9 : decode cX7_takesNumber 9 = .ok (.iconst 0, 1) := by decide +kernel
theorem dX7_takesNumber_10 : decode cX7_takesNumber 10 = .ok (.istore_n 3, 1) := by decide +kernel
theorem dX7_takesNumber_11 : decode cX7_takesNumber 11 = .ok (.aload_n 0, 1) := by decide +kernel
theorem dX7_takesNumber_12 : decode cX7_takesNumber 12 = .ok (.bipush 48, 2) := by decide +kernel
theorem dX7_takesNumber_14 : decode cX7_takesNumber 14 = .ok (.bipush 57, 2) := by decide +kernel
theorem dX7_takesNumber_16 : decode cX7_takesNumber 16 = .ok (.invokevirtual 209, 3) := by decide +kernel
theorem dX7_takesNumber_19 : decode cX7_takesNumber 19 = .ok (.ifCond .eq 49, 3) := by decide +kernel
theorem dX7_takesNumber_22 : decode cX7_takesNumber 22 = .ok (.aload_n 0, 1) := by decide +kernel
theorem dX7_takesNumber_23 : decode cX7_takesNumber 23 = .ok (.getfield 206, 3) := by decide +kernel
theorem dX7_takesNumber_26 : decode cX7_takesNumber 26 = .ok (.iload_n 2, 1) := by decide +kernel
theorem dX7_takesNumber_27 : decode cX7_takesNumber 27 = .ok (.iconst 3, 1) := by decide +kernel
theorem dX7_takesNumber_28 : decode cX7_takesNumber 28 = .ok (.iadd, 1) := by decide +kernel
theorem dX7_takesNumber_29 : decode cX7_takesNumber 29 = .ok (.if_icmp .ne 8, 3) := by decide +kernel
theorem dX7_takesNumber_32 : decode cX7_takesNumber 32 = .ok (.aload_n 0, 1) := by decide +kernel
theorem dX7_takesNumber_33 : decode cX7_takesNumber 33 = .ok (.invokevirtual 218, 3) := by decide +kernel
theorem dX7_takesNumber_36 : decode cX7_takesNumber 36 = .ok (.ireturn, 1) := by decide +kernel
theorem dX7_takesNumber_37 : decode cX7_takesNumber 37 = .ok (.bipush 10, 2) := by decide +kernel
theorem dX7_takesNumber_39 : decode cX7_takesNumber 39 = .ok (.iload_n 3, 1) := by decide +kernel
theorem dX7_takesNumber_40 : decode cX7_takesNumber 40 = .ok (.imul, 1) := by decide +kernel
theorem dX7_takesNumber_41 : decode cX7_takesNumber 41 = .ok (.aload_n 0, 1) := by decide +kernel
theorem dX7_takesNumber_42 : decode cX7_takesNumber 42 = .ok (.getfield 22, 3) := by decide +kernel
theorem dX7_takesNumber_45 : decode cX7_takesNumber 45 = .ok (.aload_n 0, 1) := by decide +kernel
theorem dX7_takesNumber_46 : decode cX7_takesNumber 46 = .ok (.getfield 206, 3) := by decide +kernel
theorem dX7_takesNumber_49 : decode cX7_takesNumber 49 = .ok (.iaload, 1) := by decide +kernel
theorem dX7_takesNumber_50 : decode cX7_takesNumber 50 = .ok (.iadd, 1) := by decide +kernel
theorem dX7_takesNumber_51 : decode cX7_takesNumber 51 = .ok (.bipush 48, 2) := by decide +kernel
theorem dX7_takesNumber_53 : decode cX7_takesNumber 53 = .ok (.isub, 1) := by decide +kernel
theorem dX7_takesNumber_54 : decode cX7_takesNumber 54 = .ok (.istore_n 3, 1) := by decide +kernel
theorem dX7_takesNumber_55 : decode cX7_takesNumber 55 = .ok (.aload_n 0, 1) := by decide +kernel
theorem dX7_takesNumber_56 : decode cX7_takesNumber 56 = .ok (.dup, 1) := by decide +kernel
theorem dX7_takesNumber_57 : decode cX7_takesNumber 57 = .ok (.getfield 206, 3) := by decide +kernel
theorem dX7_takesNumber_60 : decode cX7_takesNumber 60 = .ok (.iconst 1, 1) := by decide +kernel
theorem dX7_takesNumber_61 : decode cX7_takesNumber 61 = .ok (.iadd, 1) := by decide +kernel
theorem dX7_takesNumber_62 : decode cX7_takesNumber 62 = .ok (.putfield 206, 3) := by decide +kernel
theorem dX7_takesNumber_65 : decode cX7_takesNumber 65 = .ok (.goto (-54), 3) := by decide +kernel
theorem dX7_takesNumber_68 : decode cX7_takesNumber 68 = .ok (.aload_n 0, 1) := by decide +kernel
theorem dX7_takesNumber_69 : decode cX7_takesNumber 69 = .ok (.getfield 40, 3) := by decide +kernel
theorem dX7_takesNumber_72 : decode cX7_takesNumber 72 = .ok (.iload_n 1, 1) := by decide +kernel
theorem dX7_takesNumber_73 : decode cX7_takesNumber 73 = .ok (.iload_n 3, 1) := by decide +kernel
theorem dX7_takesNumber_74 : decode cX7_takesNumber 74 = .ok (.iastore, 1) := by decide +kernel
theorem dX7_takesNumber_75 : decode cX7_takesNumber 75 = .ok (.aload_n 0, 1) := by decide +kernel
theorem dX7_takesNumber_76 : decode cX7_takesNumber 76 = .ok (.getfield 206, 3) := by decide +kernel
theorem dX7_takesNumber_79 : decode cX7_takesNumber 79 = .ok (.iload_n 2, 1) := by decide +kernel
theorem dX7_takesNumber_80 : decode cX7_takesNumber 80 = .ok (.if_icmp .gt 10, 3) := by decide +kernel
theorem dX7_takesNumber_83 : decode cX7_takesNumber 83 = .ok (.aload_n 0, 1) := by decide +kernel
theorem dX7_takesNumber_84 : decode cX7_takesNumber 84 = .ok (.invokevirtual 218, 3) := by decide +kernel
theorem dX7_takesNumber_87 : decode cX7_takesNumber 87 = .ok (.ifCond .eq 7, 3) := by decide +kernel
theorem dX7_takesNumber_90 : decode cX7_takesNumber 90 = .ok (.iconst 1, 1) := by decide +kernel
theorem dX7_takesNumber_91 : decode cX7_takesNumber 91 = .ok (.goto 4, 3) := by decide +kernel
theorem dX7_takesNumber_94 : decode cX7_takesNumber 94 = .ok (.iconst 0, 1) := by decide +kernel
theorem dX7_takesNumber_95 : decode cX7_takesNumber 95 = .ok (.ireturn, 1) := by decide +kernel
theorem dX7_takesOrder_0 : decode cX7_takesOrder 0 = .ok (.aload_n 0, 1) := by decide +kernel
theorem dX7_takesOrder_1 : decode cX7_takesOrder 1 = .ok (.getfield 22, 3) := by decide +kernel
theorem dX7_takesOrder_4 : decode cX7_takesOrder 4 = .ok (.aload_n 0, 1) := by decide +kernel
theorem dX7_takesOrder_5 : decode cX7_takesOrder 5 = .ok (.getfield 206, 3) := by decide +kernel
theorem dX7_takesOrder_8 : decode cX7_takesOrder 8 = .ok (.iaload, 1) := by decide +kernel
theorem dX7_takesOrder_9 : decode cX7_takesOrder 9 = .ok (.invokestatic 222, 3) := by decide +kernel
theorem dX7_takesOrder_12 : decode cX7_takesOrder 12 = .ok (.istore_n 1, 1) := by decide +kernel
theorem dX7_takesOrder_13 : decode cX7_takesOrder 13 = .ok (.iload_n 1, 1) := by decide +kernel
theorem dX7_takesOrder_14 : decode cX7_takesOrder 14 = .ok (.iconst (-1), 1) := by decide +kernel
theorem dX7_takesOrder_15 : decode cX7_takesOrder 15 = .ok (.if_icmp .ne 8, 3) := by decide +kernel
theorem dX7_takesOrder_18 : decode cX7_takesOrder 18 = .ok (.aload_n 0, 1) := by decide +kernel
theorem dX7_takesOrder_19 : decode cX7_takesOrder 19 = .ok (.invokevirtual 218, 3) := by decide +kernel
theorem dX7_takesOrder_22 : decode cX7_takesOrder 22 = .ok (.ireturn, 1) := by decide +kernel
theorem dX7_takesOrder_23 : decode cX7_takesOrder 23 = .ok (.aload_n 0, 1) := by decide +kernel
theorem dX7_takesOrder_24 : decode cX7_takesOrder 24 = .ok (.getfield 37, 3) := by decide +kernel
theorem dX7_takesOrder_27 : decode cX7_takesOrder 27 = .ok (.aload_n 0, 1) := by decide +kernel
theorem dX7_takesOrder_28 : decode cX7_takesOrder 28 = .ok (.getfield 225, 3) := by decide +kernel
theorem dX7_takesOrder_31 : decode cX7_takesOrder 31 = .ok (.aload_n 0, 1) := by decide +kernel
theorem dX7_takesOrder_32 : decode cX7_takesOrder 32 = .ok (.getfield 22, 3) := by decide +kernel
theorem dX7_takesOrder_35 : decode cX7_takesOrder 35 = .ok (.aload_n 0, 1) := by decide +kernel
theorem dX7_takesOrder_36 : decode cX7_takesOrder 36 = .ok (.getfield 206, 3) := by decide +kernel
theorem dX7_takesOrder_39 : decode cX7_takesOrder 39 = .ok (.iaload, 1) := by decide +kernel
theorem dX7_takesOrder_40 : decode cX7_takesOrder 40 = .ok (.iastore, 1) := by decide +kernel
theorem dX7_takesOrder_41 : decode cX7_takesOrder 41 = .ok (.aload_n 0, 1) := by decide +kernel
theorem dX7_takesOrder_42 : decode cX7_takesOrder 42 = .ok (.dup, 1) := by decide +kernel
theorem dX7_takesOrder_43 : decode cX7_takesOrder 43 = .ok (.getfield 206, 3) := by decide +kernel
theorem dX7_takesOrder_46 : decode cX7_takesOrder 46 = .ok (.iconst 1, 1) := by decide +kernel
theorem dX7_takesOrder_47 : decode cX7_takesOrder 47 = .ok (.iadd, 1) := by decide +kernel
theorem dX7_takesOrder_48 : decode cX7_takesOrder 48 = .ok (.putfield 206, 3) := by decide +kernel
theorem dX7_takesOrder_51 : decode cX7_takesOrder 51 = .ok (.iconst 0, 1) := by decide +kernel
theorem dX7_takesOrder_52 : decode cX7_takesOrder 52 = .ok (.istore_n 2, 1) := by decide +kernel
theorem dX7_takesOrder_53 : decode cX7_takesOrder 53 = .ok (.iload_n 2, 1) := by decide +kernel
theorem dX7_takesOrder_54 : decode cX7_takesOrder 54 = .ok (.iload_n 1, 1) := by decide +kernel
theorem dX7_takesOrder_55 : decode cX7_takesOrder 55 = .ok (.if_icmp .ge 26, 3) := by decide +kernel
theorem dX7_takesOrder_58 : decode cX7_takesOrder 58 = .ok (.aload_n 0, 1) := by decide +kernel
theorem dX7_takesOrder_59 : decode cX7_takesOrder 59 = .ok (.iconst 3, 1) := by decide +kernel
theorem dX7_takesOrder_60 : decode cX7_takesOrder 60 = .ok (.aload_n 0, 1) := by decide +kernel
theorem dX7_takesOrder_61 : decode cX7_takesOrder 61 = .ok (.getfield 225, 3) := by decide +kernel
theorem dX7_takesOrder_64 : decode cX7_takesOrder 64 = .ok (.imul, 1) := by decide +kernel
theorem dX7_takesOrder_65 : decode cX7_takesOrder 65 = .ok (.iload_n 2, 1) := by decide +kernel
theorem dX7_takesOrder_66 : decode cX7_takesOrder 66 = .ok (.iadd, 1) := by decide +kernel
theorem dX7_takesOrder_67 : decode cX7_takesOrder 67 = .ok (.invokevirtual 228, 3) := by decide +kernel
theorem dX7_takesOrder_70 : decode cX7_takesOrder 70 = .ok (.ifCond .ne 5, 3) := by decide +kernel
theorem dX7_takesOrder_73 : decode cX7_takesOrder 73 = .ok (.iconst 0, 1) := by decide +kernel
theorem dX7_takesOrder_74 : decode cX7_takesOrder 74 = .ok (.ireturn, 1) := by decide +kernel
theorem dX7_takesOrder_75 : decode cX7_takesOrder 75 = .ok (.iinc 2 1, 3) := by decide +kernel
theorem dX7_takesOrder_78 : decode cX7_takesOrder 78 = .ok (.goto (-25), 3) := by decide +kernel
theorem dX7_takesOrder_81 : decode cX7_takesOrder 81 = .ok (.aload_n 0, 1) := by decide +kernel
theorem dX7_takesOrder_82 : decode cX7_takesOrder 82 = .ok (.invokevirtual 215, 3) := by decide +kernel
theorem dX7_takesOrder_85 : decode cX7_takesOrder 85 = .ok (.aload_n 0, 1) := by decide +kernel
theorem dX7_takesOrder_86 : decode cX7_takesOrder 86 = .ok (.bipush 59, 2) := by decide +kernel
theorem dX7_takesOrder_88 : decode cX7_takesOrder 88 = .ok (.bipush 59, 2) := by decide +kernel
theorem dX7_takesOrder_90 : decode cX7_takesOrder 90 = .ok (.invokevirtual 209, 3) := by decide +kernel
theorem dX7_takesOrder_93 : decode cX7_takesOrder 93 = .ok (.ifCond .ne 8, 3) := by decide +kernel
theorem dX7_takesOrder_96 : decode cX7_takesOrder 96 = .ok (.aload_n 0, 1) := by decide +kernel
theorem dX7_takesOrder_97 : decode cX7_takesOrder 97 = .ok (.invokevirtual 218, 3) := by decide +kernel
theorem dX7_takesOrder_100 : decode cX7_takesOrder 100 = .ok (.ireturn, 1) := by decide +kernel
theorem dX7_takesOrder_101 : decode cX7_takesOrder 101 = .ok (.aload_n 0, 1) := by decide +kernel
theorem dX7_takesOrder_102 : decode cX7_takesOrder 102 = .ok (.dup, 1) := by decide +kernel
theorem dX7_takesOrder_103 : decode cX7_takesOrder 103 = .ok (.getfield 206, 3) := by decide +kernel
theorem dX7_takesOrder_106 : decode cX7_takesOrder 106 = .ok (.iconst 1, 1) := by decide +kernel
theorem dX7_takesOrder_107 : decode cX7_takesOrder 107 = .ok (.iadd, 1) := by decide +kernel
theorem dX7_takesOrder_108 : decode cX7_takesOrder 108 = .ok (.putfield 206, 3) := by decide +kernel
theorem dX7_takesOrder_111 : decode cX7_takesOrder 111 = .ok (.aload_n 0, 1) := by decide +kernel
theorem dX7_takesOrder_112 : decode cX7_takesOrder 112 = .ok (.dup, 1) := by decide +kernel
theorem dX7_takesOrder_113 : decode cX7_takesOrder 113 = .ok (.getfield 225, 3) := by decide +kernel
theorem dX7_takesOrder_116 : decode cX7_takesOrder 116 = .ok (.iconst 1, 1) := by decide +kernel
theorem dX7_takesOrder_117 : decode cX7_takesOrder 117 = .ok (.iadd, 1) := by decide +kernel
theorem dX7_takesOrder_118 : decode cX7_takesOrder 118 = .ok (.putfield 225, 3) := by decide +kernel
theorem dX7_takesOrder_121 : decode cX7_takesOrder 121 = .ok (.iconst 1, 1) := by decide +kernel
theorem dX7_takesOrder_122 : decode cX7_takesOrder 122 = .ok (.ireturn, 1) := by decide +kernel
theorem dX7_isRead_0 : decode cX7_isRead 0 = .ok (.aload_n 0, 1) := by decide +kernel
theorem dX7_isRead_1 : decode cX7_isRead 1 = .ok (.iconst 0, 1) := by decide +kernel
theorem dX7_isRead_2 : decode cX7_isRead 2 = .ok (.putfield 206, 3) := by decide +kernel
theorem dX7_isRead_5 : decode cX7_isRead 5 = .ok (.aload_n 0, 1) := by decide +kernel
theorem dX7_isRead_6 : decode cX7_isRead 6 = .ok (.iconst 0, 1) := by decide +kernel
theorem dX7_isRead_7 : decode cX7_isRead 7 = .ok (.putfield 225, 3) := by decide +kernel
theorem dX7_isRead_10 : decode cX7_isRead 10 = .ok (.aload_n 0, 1) := by decide +kernel
theorem dX7_isRead_11 : decode cX7_isRead 11 = .ok (.invokevirtual 215, 3) := by decide +kernel
theorem dX7_isRead_14 : decode cX7_isRead 14 = .ok (.aload_n 0, 1) := by decide +kernel
theorem dX7_isRead_15 : decode cX7_isRead 15 = .ok (.getfield 206, 3) := by decide +kernel
theorem dX7_isRead_18 : decode cX7_isRead 18 = .ok (.aload_n 0, 1) := by decide +kernel
theorem dX7_isRead_19 : decode cX7_isRead 19 = .ok (.getfield 203, 3) := by decide +kernel
theorem dX7_isRead_22 : decode cX7_isRead 22 = .ok (.if_icmp .ge 19, 3) := by decide +kernel
theorem dX7_isRead_25 : decode cX7_isRead 25 = .ok (.aload_n 0, 1) := by decide +kernel
theorem dX7_isRead_26 : decode cX7_isRead 26 = .ok (.invokevirtual 231, 3) := by decide +kernel
theorem dX7_isRead_29 : decode cX7_isRead 29 = .ok (.ifCond .ne 5, 3) := by decide +kernel
theorem dX7_isRead_32 : decode cX7_isRead 32 = .ok (.iconst 0, 1) := by decide +kernel
theorem dX7_isRead_33 : decode cX7_isRead 33 = .ok (.ireturn, 1) := by decide +kernel
theorem dX7_isRead_34 : decode cX7_isRead 34 = .ok (.aload_n 0, 1) := by decide +kernel
theorem dX7_isRead_35 : decode cX7_isRead 35 = .ok (.invokevirtual 215, 3) := by decide +kernel
theorem dX7_isRead_38 : decode cX7_isRead 38 = .ok (.goto (-24), 3) := by decide +kernel
theorem dX7_isRead_41 : decode cX7_isRead 41 = .ok (.aload_n 0, 1) := by decide +kernel
theorem dX7_isRead_42 : decode cX7_isRead 42 = .ok (.getfield 225, 3) := by decide +kernel
theorem dX7_isRead_45 : decode cX7_isRead 45 = .ok (.ifCond .gt 10, 3) := by decide +kernel
theorem dX7_isRead_48 : decode cX7_isRead 48 = .ok (.aload_n 0, 1) := by decide +kernel
theorem dX7_isRead_49 : decode cX7_isRead 49 = .ok (.invokevirtual 218, 3) := by decide +kernel
theorem dX7_isRead_52 : decode cX7_isRead 52 = .ok (.ifCond .eq 7, 3) := by decide +kernel
theorem dX7_isRead_55 : decode cX7_isRead 55 = .ok (.iconst 1, 1) := by decide +kernel
theorem dX7_isRead_56 : decode cX7_isRead 56 = .ok (.goto 4, 3) := by decide +kernel
theorem dX7_isRead_59 : decode cX7_isRead 59 = .ok (.iconst 0, 1) := by decide +kernel
theorem dX7_isRead_60 : decode cX7_isRead 60 = .ok (.ireturn, 1) := by decide +kernel
theorem dX7_doneOne_0 : decode cX7_doneOne 0 = .ok (.aload_n 0, 1) := by decide +kernel
theorem dX7_doneOne_1 : decode cX7_doneOne 1 = .ok (.getfield 40, 3) := by decide +kernel
theorem dX7_doneOne_4 : decode cX7_doneOne 4 = .ok (.iconst 3, 1) := by decide +kernel
theorem dX7_doneOne_5 : decode cX7_doneOne 5 = .ok (.iload_n 1, 1) := by decide +kernel
theorem dX7_doneOne_6 : decode cX7_doneOne 6 = .ok (.imul, 1) := by decide +kernel
theorem dX7_doneOne_7 : decode cX7_doneOne 7 = .ok (.iaload, 1) := by decide +kernel
theorem dX7_doneOne_8 : decode cX7_doneOne 8 = .ok (.istore_n 2, 1) := by decide +kernel
theorem dX7_doneOne_9 : decode cX7_doneOne 9 = .ok (.aload_n 0, 1) := by decide +kernel
theorem dX7_doneOne_10 : decode cX7_doneOne 10 = .ok (.getfield 40, 3) := by decide +kernel
theorem dX7_doneOne_13 : decode cX7_doneOne 13 = .ok (.iconst 3, 1) := by decide +kernel
theorem dX7_doneOne_14 : decode cX7_doneOne 14 = .ok (.iload_n 1, 1) := by decide +kernel
theorem dX7_doneOne_15 : decode cX7_doneOne 15 = .ok (.imul, 1) := by decide +kernel
theorem dX7_doneOne_16 : decode cX7_doneOne 16 = .ok (.iconst 1, 1) := by decide +kernel
theorem dX7_doneOne_17 : decode cX7_doneOne 17 = .ok (.iadd, 1) := by decide +kernel
theorem dX7_doneOne_18 : decode cX7_doneOne 18 = .ok (.iaload, 1) := by decide +kernel
theorem dX7_doneOne_19 : decode cX7_doneOne 19 = .ok (.istore_n 3, 1) := by decide +kernel
theorem dX7_doneOne_20 : decode cX7_doneOne 20 = .ok (.aload_n 0, 1) := by decide +kernel
theorem dX7_doneOne_21 : decode cX7_doneOne 21 = .ok (.getfield 40, 3) := by decide +kernel
theorem dX7_doneOne_24 : decode cX7_doneOne 24 = .ok (.iconst 3, 1) := by decide +kernel
theorem dX7_doneOne_25 : decode cX7_doneOne 25 = .ok (.iload_n 1, 1) := by decide +kernel
theorem dX7_doneOne_26 : decode cX7_doneOne 26 = .ok (.imul, 1) := by decide +kernel
theorem dX7_doneOne_27 : decode cX7_doneOne 27 = .ok (.iconst 2, 1) := by decide +kernel
theorem dX7_doneOne_28 : decode cX7_doneOne 28 = .ok (.iadd, 1) := by decide +kernel
theorem dX7_doneOne_29 : decode cX7_doneOne 29 = .ok (.iaload, 1) := by decide +kernel
theorem dX7_doneOne_30 : decode cX7_doneOne 30 = .ok (.istore 4, 2) := by decide +kernel
theorem dX7_doneOne_32 : decode cX7_doneOne 32 = .ok (.aload_n 0, 1) := by decide +kernel
theorem dX7_doneOne_33 : decode cX7_doneOne 33 = .ok (.getfield 37, 3) := by decide +kernel
theorem dX7_doneOne_36 : decode cX7_doneOne 36 = .ok (.iload_n 1, 1) := by decide +kernel
theorem dX7_doneOne_37 : decode cX7_doneOne 37 = .ok (.iaload, 1) := by decide +kernel
theorem dX7_doneOne_38 : decode cX7_doneOne 38 = .ok (.lookupswitch 90 #[(103, 66), (107, 84), (109, 57), (116, 75), (119, 50)], 50) := by decide +kernel
theorem dX7_doneOne_88 : decode cX7_doneOne 88 = .ok (.aload_n 0, 1) := by decide +kernel
theorem dX7_doneOne_89 : decode cX7_doneOne 89 = .ok (.iload_n 2, 1) := by decide +kernel
theorem dX7_doneOne_90 : decode cX7_doneOne 90 = .ok (.iload_n 3, 1) := by decide +kernel
theorem dX7_doneOne_91 : decode cX7_doneOne 91 = .ok (.invokevirtual 142, 3) := by decide +kernel
theorem dX7_doneOne_94 : decode cX7_doneOne 94 = .ok (.ireturn, 1) := by decide +kernel
theorem dX7_doneOne_95 : decode cX7_doneOne 95 = .ok (.aload_n 0, 1) := by decide +kernel
theorem dX7_doneOne_96 : decode cX7_doneOne 96 = .ok (.iload_n 2, 1) := by decide +kernel
theorem dX7_doneOne_97 : decode cX7_doneOne 97 = .ok (.iload_n 3, 1) := by decide +kernel
theorem dX7_doneOne_98 : decode cX7_doneOne 98 = .ok (.iload 4, 2) := by decide +kernel
theorem dX7_doneOne_100 : decode cX7_doneOne 100 = .ok (.invokevirtual 148, 3) := by decide +kernel
theorem dX7_doneOne_103 : decode cX7_doneOne 103 = .ok (.ireturn, 1) := by decide +kernel
theorem dX7_doneOne_104 : decode cX7_doneOne 104 = .ok (.aload_n 0, 1) := by decide +kernel
theorem dX7_doneOne_105 : decode cX7_doneOne 105 = .ok (.iload_n 2, 1) := by decide +kernel
theorem dX7_doneOne_106 : decode cX7_doneOne 106 = .ok (.iload_n 3, 1) := by decide +kernel
theorem dX7_doneOne_107 : decode cX7_doneOne 107 = .ok (.iload 4, 2) := by decide +kernel
theorem dX7_doneOne_109 : decode cX7_doneOne 109 = .ok (.invokevirtual 152, 3) := by decide +kernel
theorem dX7_doneOne_112 : decode cX7_doneOne 112 = .ok (.ireturn, 1) := by decide +kernel
theorem dX7_doneOne_113 : decode cX7_doneOne 113 = .ok (.aload_n 0, 1) := by decide +kernel
theorem dX7_doneOne_114 : decode cX7_doneOne 114 = .ok (.iload_n 2, 1) := by decide +kernel
theorem dX7_doneOne_115 : decode cX7_doneOne 115 = .ok (.iload_n 3, 1) := by decide +kernel
theorem dX7_doneOne_116 : decode cX7_doneOne 116 = .ok (.iload 4, 2) := by decide +kernel
theorem dX7_doneOne_118 : decode cX7_doneOne 118 = .ok (.invokevirtual 155, 3) := by decide +kernel
theorem dX7_doneOne_121 : decode cX7_doneOne 121 = .ok (.ireturn, 1) := by decide +kernel
theorem dX7_doneOne_122 : decode cX7_doneOne 122 = .ok (.aload_n 0, 1) := by decide +kernel
theorem dX7_doneOne_123 : decode cX7_doneOne 123 = .ok (.iload_n 2, 1) := by decide +kernel
theorem dX7_doneOne_124 : decode cX7_doneOne 124 = .ok (.invokevirtual 158, 3) := by decide +kernel
theorem dX7_doneOne_127 : decode cX7_doneOne 127 = .ok (.ireturn, 1) := by decide +kernel
theorem dX7_doneOne_128 : decode cX7_doneOne 128 = .ok (.aload_n 0, 1) := by decide +kernel
theorem dX7_doneOne_129 : decode cX7_doneOne 129 = .ok (.invokevirtual 161, 3) := by decide +kernel
theorem dX7_doneOne_132 : decode cX7_doneOne 132 = .ok (.ireturn, 1) := by decide +kernel
theorem dX7_does_0 : decode cX7_does 0 = .ok (.aload_n 0, 1) := by decide +kernel
theorem dX7_does_1 : decode cX7_does 1 = .ok (.invokevirtual 234, 3) := by decide +kernel
theorem dX7_does_4 : decode cX7_does 4 = .ok (.ifCond .ne 11, 3) := by decide +kernel
theorem dX7_does_7 : decode cX7_does 7 = .ok (.bipush (-10), 2) := by decide +kernel
theorem dX7_does_9 : decode cX7_does 9 = .ok (.aload_n 0, 1) := by decide +kernel
theorem dX7_does_10 : decode cX7_does 10 = .ok (.getfield 212, 3) := by decide +kernel
theorem dX7_does_13 : decode cX7_does 13 = .ok (.isub, 1) := by decide +kernel
theorem dX7_does_14 : decode cX7_does 14 = .ok (.ireturn, 1) := by decide +kernel
theorem dX7_does_15 : decode cX7_does 15 = .ok (.aload_n 0, 1) := by decide +kernel
theorem dX7_does_16 : decode cX7_does 16 = .ok (.invokevirtual 139, 3) := by decide +kernel
theorem dX7_does_19 : decode cX7_does 19 = .ok (.iconst 0, 1) := by decide +kernel
theorem dX7_does_20 : decode cX7_does 20 = .ok (.istore_n 1, 1) := by decide +kernel
theorem dX7_does_21 : decode cX7_does 21 = .ok (.iload_n 1, 1) := by decide +kernel
theorem dX7_does_22 : decode cX7_does 22 = .ok (.aload_n 0, 1) := by decide +kernel
theorem dX7_does_23 : decode cX7_does 23 = .ok (.getfield 225, 3) := by decide +kernel
theorem dX7_does_26 : decode cX7_does 26 = .ok (.if_icmp .ge 29, 3) := by decide +kernel
theorem dX7_does_29 : decode cX7_does 29 = .ok (.aload_n 0, 1) := by decide +kernel
theorem dX7_does_30 : decode cX7_does 30 = .ok (.iload_n 1, 1) := by decide +kernel
theorem dX7_does_31 : decode cX7_does 31 = .ok (.invokevirtual 237, 3) := by decide +kernel
theorem dX7_does_34 : decode cX7_does 34 = .ok (.bipush (-2), 2) := by decide +kernel
theorem dX7_does_36 : decode cX7_does 36 = .ok (.if_icmp .gt 13, 3) := by decide +kernel
theorem dX7_does_39 : decode cX7_does 39 = .ok (.aload_n 0, 1) := by decide +kernel
theorem dX7_does_40 : decode cX7_does 40 = .ok (.invokevirtual 194, 3) := by decide +kernel
theorem dX7_does_43 : decode cX7_does 43 = .ok (.sipush (-1000), 3) := by decide +kernel
theorem dX7_does_46 : decode cX7_does 46 = .ok (.iload_n 1, 1) := by decide +kernel
theorem dX7_does_47 : decode cX7_does 47 = .ok (.isub, 1) := by decide +kernel
theorem dX7_does_48 : decode cX7_does 48 = .ok (.ireturn, 1) := by decide +kernel
theorem dX7_does_49 : decode cX7_does 49 = .ok (.iinc 1 1, 3) := by decide +kernel
theorem dX7_does_52 : decode cX7_does 52 = .ok (.goto (-31), 3) := by decide +kernel
theorem dX7_does_55 : decode cX7_does 55 = .ok (.aload_n 0, 1) := by decide +kernel
theorem dX7_does_56 : decode cX7_does 56 = .ok (.invokevirtual 51, 3) := by decide +kernel
theorem dX7_does_59 : decode cX7_does 59 = .ok (.aload_n 0, 1) := by decide +kernel
theorem dX7_does_60 : decode cX7_does 60 = .ok (.getfield 225, 3) := by decide +kernel
theorem dX7_does_63 : decode cX7_does 63 = .ok (.ireturn, 1) := by decide +kernel
theorem dX7_toldAt_0 : decode cX7_toldAt 0 = .ok (.iload_n 1, 1) := by decide +kernel
theorem dX7_toldAt_1 : decode cX7_toldAt 1 = .ok (.iconst 3, 1) := by decide +kernel
theorem dX7_toldAt_2 : decode cX7_toldAt 2 = .ok (.if_icmp .ge 12, 3) := by decide +kernel
theorem dX7_toldAt_5 : decode cX7_toldAt 5 = .ok (.aload_n 0, 1) := by decide +kernel
theorem dX7_toldAt_6 : decode cX7_toldAt 6 = .ok (.getfield 19, 3) := by decide +kernel
theorem dX7_toldAt_9 : decode cX7_toldAt 9 = .ok (.iload_n 1, 1) := by decide +kernel
theorem dX7_toldAt_10 : decode cX7_toldAt 10 = .ok (.iaload, 1) := by decide +kernel
theorem dX7_toldAt_11 : decode cX7_toldAt 11 = .ok (.goto 19, 3) := by decide +kernel
theorem dX7_toldAt_14 : decode cX7_toldAt 14 = .ok (.iload_n 1, 1) := by decide +kernel
theorem dX7_toldAt_15 : decode cX7_toldAt 15 = .ok (.iconst 3, 1) := by decide +kernel
theorem dX7_toldAt_16 : decode cX7_toldAt 16 = .ok (.if_icmp .ne 10, 3) := by decide +kernel
theorem dX7_toldAt_19 : decode cX7_toldAt 19 = .ok (.aload_n 0, 1) := by decide +kernel
theorem dX7_toldAt_20 : decode cX7_toldAt 20 = .ok (.getfield 203, 3) := by decide +kernel
theorem dX7_toldAt_23 : decode cX7_toldAt 23 = .ok (.goto 7, 3) := by decide +kernel
theorem dX7_toldAt_26 : decode cX7_toldAt 26 = .ok (.aload_n 0, 1) := by decide +kernel
theorem dX7_toldAt_27 : decode cX7_toldAt 27 = .ok (.getfield 43, 3) := by decide +kernel
theorem dX7_toldAt_30 : decode cX7_toldAt 30 = .ok (.ireturn, 1) := by decide +kernel
theorem dX7_told_0 : decode cX7_told 0 = .ok (.iload_n 1, 1) := by decide +kernel
theorem dX7_told_1 : decode cX7_told 1 = .ok (.iconst 0, 1) := by decide +kernel
theorem dX7_told_2 : decode cX7_told 2 = .ok (.iconst 4, 1) := by decide +kernel
theorem dX7_told_3 : decode cX7_told 3 = .ok (.invokestatic 54, 3) := by decide +kernel
theorem dX7_told_6 : decode cX7_told 6 = .ok (.ifCond .eq 11, 3) := by decide +kernel
theorem dX7_told_9 : decode cX7_told 9 = .ok (.aload_n 0, 1) := by decide +kernel
theorem dX7_told_10 : decode cX7_told 10 = .ok (.iload_n 1, 1) := by decide +kernel
theorem dX7_told_11 : decode cX7_told 11 = .ok (.invokevirtual 240, 3) := by decide +kernel
theorem dX7_told_14 : decode cX7_told 14 = .ok (.goto 9, 3) := by decide +kernel
theorem dX7_told_17 : decode cX7_told 17 = .ok (.aload_n 0, 1) := by decide +kernel
theorem dX7_told_18 : decode cX7_told 18 = .ok (.bipush (-2), 2) := by decide +kernel
theorem dX7_told_20 : decode cX7_told 20 = .ok (.invokevirtual 47, 3) := by decide +kernel
theorem dX7_told_23 : decode cX7_told 23 = .ok (.ireturn, 1) := by decide +kernel
theorem dX7_mix_0 : decode cX7_mix 0 = .ok (.aload_n 0, 1) := by decide +kernel
theorem dX7_mix_1 : decode cX7_mix 1 = .ok (.ldc2_w 243, 3) := by decide +kernel
theorem dX7_mix_4 : decode cX7_mix 4 = .ok (.aload_n 0, 1) := by decide +kernel
theorem dX7_mix_5 : decode cX7_mix 5 = .ok (.getfield 245, 3) := by decide +kernel
theorem dX7_mix_8 : decode cX7_mix 8 = .ok (.lmul, 1) := by decide +kernel
theorem dX7_mix_9 : decode cX7_mix 9 = .ok (.lload_n 1, 1) := by decide +kernel
theorem dX7_mix_10 : decode cX7_mix 10 = .ok (.ladd, 1) := by decide +kernel
theorem dX7_mix_11 : decode cX7_mix 11 = .ok (.putfield 245, 3) := by decide +kernel
theorem dX7_mix_14 : decode cX7_mix 14 = .ok (.return_, 1) := by decide +kernel
theorem dX7_mixMessage_0 : decode cX7_mixMessage 0 = .ok (.iconst 0, 1) := by decide +kernel
theorem dX7_mixMessage_1 : decode cX7_mixMessage 1 = .ok (.istore_n 2, 1) := by decide +kernel
theorem dX7_mixMessage_2 : decode cX7_mixMessage 2 = .ok (.iload_n 2, 1) := by decide +kernel
theorem dX7_mixMessage_3 : decode cX7_mixMessage 3 = .ok (.bipush 6, 2) := by decide +kernel
theorem dX7_mixMessage_5 : decode cX7_mixMessage 5 = .ok (.if_icmp .ge 20, 3) := by decide +kernel
theorem dX7_mixMessage_8 : decode cX7_mixMessage 8 = .ok (.aload_n 0, 1) := by decide +kernel
theorem dX7_mixMessage_9 : decode cX7_mixMessage 9 = .ok (.aload_n 0, 1) := by decide +kernel
theorem dX7_mixMessage_10 : decode cX7_mixMessage 10 = .ok (.iload_n 1, 1) := by decide +kernel
theorem dX7_mixMessage_11 : decode cX7_mixMessage 11 = .ok (.iload_n 2, 1) := by decide +kernel
theorem dX7_mixMessage_12 : decode cX7_mixMessage 12 = .ok (.invokevirtual 188, 3) := by decide +kernel
theorem dX7_mixMessage_15 : decode cX7_mixMessage 15 = .ok (.i2l, 1) := by decide +kernel
theorem dX7_mixMessage_16 : decode cX7_mixMessage 16 = .ok (.invokevirtual 249, 3) := by decide +kernel
theorem dX7_mixMessage_19 : decode cX7_mixMessage 19 = .ok (.iinc 2 1, 3) := by decide +kernel
theorem dX7_mixMessage_22 : decode cX7_mixMessage 22 = .ok (.goto (-20), 3) := by decide +kernel
theorem dX7_mixMessage_25 : decode cX7_mixMessage 25 = .ok (.iconst 2, 1) := by decide +kernel
theorem dX7_mixMessage_26 : decode cX7_mixMessage 26 = .ok (.iload_n 1, 1) := by decide +kernel
theorem dX7_mixMessage_27 : decode cX7_mixMessage 27 = .ok (.imul, 1) := by decide +kernel
theorem dX7_mixMessage_28 : decode cX7_mixMessage 28 = .ok (.istore_n 2, 1) := by decide +kernel
theorem dX7_mixMessage_29 : decode cX7_mixMessage 29 = .ok (.iload_n 2, 1) := by decide +kernel
theorem dX7_mixMessage_30 : decode cX7_mixMessage 30 = .ok (.iconst 2, 1) := by decide +kernel
theorem dX7_mixMessage_31 : decode cX7_mixMessage 31 = .ok (.iload_n 1, 1) := by decide +kernel
theorem dX7_mixMessage_32 : decode cX7_mixMessage 32 = .ok (.imul, 1) := by decide +kernel
theorem dX7_mixMessage_33 : decode cX7_mixMessage 33 = .ok (.iconst 2, 1) := by decide +kernel
theorem dX7_mixMessage_34 : decode cX7_mixMessage 34 = .ok (.iadd, 1) := by decide +kernel
theorem dX7_mixMessage_35 : decode cX7_mixMessage 35 = .ok (.if_icmp .ge 72, 3) := by decide +kernel
theorem dX7_mixMessage_38 : decode cX7_mixMessage 38 = .ok (.iconst 0, 1) := by decide +kernel
theorem dX7_mixMessage_39 : decode cX7_mixMessage 39 = .ok (.istore_n 3, 1) := by decide +kernel
theorem dX7_mixMessage_40 : decode cX7_mixMessage 40 = .ok (.iload_n 3, 1) := by decide +kernel
theorem dX7_mixMessage_41 : decode cX7_mixMessage 41 = .ok (.bipush 9, 2) := by decide +kernel
theorem dX7_mixMessage_43 : decode cX7_mixMessage 43 = .ok (.if_icmp .ge 20, 3) := by decide +kernel
theorem dX7_mixMessage_46 : decode cX7_mixMessage 46 = .ok (.aload_n 0, 1) := by decide +kernel
theorem dX7_mixMessage_47 : decode cX7_mixMessage 47 = .ok (.aload_n 0, 1) := by decide +kernel
theorem dX7_mixMessage_48 : decode cX7_mixMessage 48 = .ok (.iload_n 2, 1) := by decide +kernel
theorem dX7_mixMessage_49 : decode cX7_mixMessage 49 = .ok (.iload_n 3, 1) := by decide +kernel
theorem dX7_mixMessage_50 : decode cX7_mixMessage 50 = .ok (.invokevirtual 185, 3) := by decide +kernel
theorem dX7_mixMessage_53 : decode cX7_mixMessage 53 = .ok (.i2l, 1) := by decide +kernel
theorem dX7_mixMessage_54 : decode cX7_mixMessage 54 = .ok (.invokevirtual 249, 3) := by decide +kernel
theorem dX7_mixMessage_57 : decode cX7_mixMessage 57 = .ok (.iinc 3 1, 3) := by decide +kernel
theorem dX7_mixMessage_60 : decode cX7_mixMessage 60 = .ok (.goto (-20), 3) := by decide +kernel
theorem dX7_mixMessage_63 : decode cX7_mixMessage 63 = .ok (.iconst 0, 1) := by decide +kernel
theorem dX7_mixMessage_64 : decode cX7_mixMessage 64 = .ok (.istore_n 3, 1) := by decide +kernel
theorem dX7_mixMessage_65 : decode cX7_mixMessage 65 = .ok (.iload_n 3, 1) := by decide +kernel
theorem dX7_mixMessage_66 : decode cX7_mixMessage 66 = .ok (.aload_n 0, 1) := by decide +kernel
theorem dX7_mixMessage_67 : decode cX7_mixMessage 67 = .ok (.getfield 28, 3) := by decide +kernel
theorem dX7_mixMessage_70 : decode cX7_mixMessage 70 = .ok (.iload_n 2, 1) := by decide +kernel
theorem dX7_mixMessage_71 : decode cX7_mixMessage 71 = .ok (.iaload, 1) := by decide +kernel
theorem dX7_mixMessage_72 : decode cX7_mixMessage 72 = .ok (.if_icmp .gt 29, 3) := by decide +kernel
theorem dX7_mixMessage_75 : decode cX7_mixMessage 75 = .ok (.aload_n 0, 1) := by decide +kernel
theorem dX7_mixMessage_76 : decode cX7_mixMessage 76 = .ok (.aload_n 0, 1) := by decide +kernel
theorem dX7_mixMessage_77 : decode cX7_mixMessage 77 = .ok (.aload_n 0, 1) := by decide +kernel
theorem dX7_mixMessage_78 : decode cX7_mixMessage 78 = .ok (.getfield 25, 3) := by decide +kernel
theorem dX7_mixMessage_81 : decode cX7_mixMessage 81 = .ok (.bipush 37, 2) := by decide +kernel
theorem dX7_mixMessage_83 : decode cX7_mixMessage 83 = .ok (.iload_n 2, 1) := by decide +kernel
theorem dX7_mixMessage_84 : decode cX7_mixMessage 84 = .ok (.imul, 1) := by decide +kernel
theorem dX7_mixMessage_85 : decode cX7_mixMessage 85 = .ok (.iload_n 3, 1) := by decide +kernel
theorem dX7_mixMessage_86 : decode cX7_mixMessage 86 = .ok (.iadd, 1) := by decide +kernel
theorem dX7_mixMessage_87 : decode cX7_mixMessage 87 = .ok (.iaload, 1) := by decide +kernel
theorem dX7_mixMessage_88 : decode cX7_mixMessage 88 = .ok (.invokevirtual 167, 3) := by decide +kernel
theorem dX7_mixMessage_91 : decode cX7_mixMessage 91 = .ok (.i2l, 1) := by decide +kernel
theorem dX7_mixMessage_92 : decode cX7_mixMessage 92 = .ok (.invokevirtual 249, 3) := by decide +kernel
theorem dX7_mixMessage_95 : decode cX7_mixMessage 95 = .ok (.iinc 3 1, 3) := by decide +kernel
theorem dX7_mixMessage_98 : decode cX7_mixMessage 98 = .ok (.goto (-33), 3) := by decide +kernel
theorem dX7_mixMessage_101 : decode cX7_mixMessage 101 = .ok (.iinc 2 1, 3) := by decide +kernel
theorem dX7_mixMessage_104 : decode cX7_mixMessage 104 = .ok (.goto (-75), 3) := by decide +kernel
theorem dX7_mixMessage_107 : decode cX7_mixMessage 107 = .ok (.return_, 1) := by decide +kernel
theorem dX7_digest_0 : decode cX7_digest 0 = .ok (.aload_n 0, 1) := by decide +kernel
theorem dX7_digest_1 : decode cX7_digest 1 = .ok (.ldc2_w 253, 3) := by decide +kernel
theorem dX7_digest_4 : decode cX7_digest 4 = .ok (.putfield 245, 3) := by decide +kernel
theorem dX7_digest_7 : decode cX7_digest 7 = .ok (.aload_n 0, 1) := by decide +kernel
theorem dX7_digest_8 : decode cX7_digest 8 = .ok (.invokevirtual 129, 3) := by decide +kernel
theorem dX7_digest_11 : decode cX7_digest 11 = .ok (.iconst 0, 1) := by decide +kernel
theorem dX7_digest_12 : decode cX7_digest 12 = .ok (.istore_n 1, 1) := by decide +kernel
theorem dX7_digest_13 : decode cX7_digest 13 = .ok (.iload_n 1, 1) := by decide +kernel
theorem dX7_digest_14 : decode cX7_digest 14 = .ok (.iconst 5, 1) := by decide +kernel
theorem dX7_digest_15 : decode cX7_digest 15 = .ok (.if_icmp .ge 19, 3) := by decide +kernel
theorem dX7_digest_18 : decode cX7_digest 18 = .ok (.aload_n 0, 1) := by decide +kernel
theorem dX7_digest_19 : decode cX7_digest 19 = .ok (.aload_n 0, 1) := by decide +kernel
theorem dX7_digest_20 : decode cX7_digest 20 = .ok (.iload_n 1, 1) := by decide +kernel
theorem dX7_digest_21 : decode cX7_digest 21 = .ok (.invokevirtual 240, 3) := by decide +kernel
theorem dX7_digest_24 : decode cX7_digest 24 = .ok (.i2l, 1) := by decide +kernel
theorem dX7_digest_25 : decode cX7_digest 25 = .ok (.invokevirtual 249, 3) := by decide +kernel
theorem dX7_digest_28 : decode cX7_digest 28 = .ok (.iinc 1 1, 3) := by decide +kernel
theorem dX7_digest_31 : decode cX7_digest 31 = .ok (.goto (-18), 3) := by decide +kernel
theorem dX7_digest_34 : decode cX7_digest 34 = .ok (.iconst 0, 1) := by decide +kernel
theorem dX7_digest_35 : decode cX7_digest 35 = .ok (.istore_n 1, 1) := by decide +kernel
theorem dX7_digest_36 : decode cX7_digest 36 = .ok (.iload_n 1, 1) := by decide +kernel
theorem dX7_digest_37 : decode cX7_digest 37 = .ok (.bipush 8, 2) := by decide +kernel
theorem dX7_digest_39 : decode cX7_digest 39 = .ok (.if_icmp .ge 19, 3) := by decide +kernel
theorem dX7_digest_42 : decode cX7_digest 42 = .ok (.aload_n 0, 1) := by decide +kernel
theorem dX7_digest_43 : decode cX7_digest 43 = .ok (.aload_n 0, 1) := by decide +kernel
theorem dX7_digest_44 : decode cX7_digest 44 = .ok (.iload_n 1, 1) := by decide +kernel
theorem dX7_digest_45 : decode cX7_digest 45 = .ok (.invokevirtual 200, 3) := by decide +kernel
theorem dX7_digest_48 : decode cX7_digest 48 = .ok (.i2l, 1) := by decide +kernel
theorem dX7_digest_49 : decode cX7_digest 49 = .ok (.invokevirtual 249, 3) := by decide +kernel
theorem dX7_digest_52 : decode cX7_digest 52 = .ok (.iinc 1 1, 3) := by decide +kernel
theorem dX7_digest_55 : decode cX7_digest 55 = .ok (.goto (-19), 3) := by decide +kernel
theorem dX7_digest_58 : decode cX7_digest 58 = .ok (.iconst 0, 1) := by decide +kernel
theorem dX7_digest_59 : decode cX7_digest 59 = .ok (.istore_n 1, 1) := by decide +kernel
theorem dX7_digest_60 : decode cX7_digest 60 = .ok (.iload_n 1, 1) := by decide +kernel
theorem dX7_digest_61 : decode cX7_digest 61 = .ok (.aload_n 0, 1) := by decide +kernel
theorem dX7_digest_62 : decode cX7_digest 62 = .ok (.getfield 7, 3) := by decide +kernel
theorem dX7_digest_65 : decode cX7_digest 65 = .ok (.iconst 0, 1) := by decide +kernel
theorem dX7_digest_66 : decode cX7_digest 66 = .ok (.iaload, 1) := by decide +kernel
theorem dX7_digest_67 : decode cX7_digest 67 = .ok (.aload_n 0, 1) := by decide +kernel
theorem dX7_digest_68 : decode cX7_digest 68 = .ok (.getfield 7, 3) := by decide +kernel
theorem dX7_digest_71 : decode cX7_digest 71 = .ok (.iconst 1, 1) := by decide +kernel
theorem dX7_digest_72 : decode cX7_digest 72 = .ok (.iaload, 1) := by decide +kernel
theorem dX7_digest_73 : decode cX7_digest 73 = .ok (.imul, 1) := by decide +kernel
theorem dX7_digest_74 : decode cX7_digest 74 = .ok (.if_icmp .ge 40, 3) := by decide +kernel
theorem dX7_digest_77 : decode cX7_digest 77 = .ok (.iconst 0, 1) := by decide +kernel
theorem dX7_digest_78 : decode cX7_digest 78 = .ok (.istore_n 2, 1) := by decide +kernel
theorem dX7_digest_79 : decode cX7_digest 79 = .ok (.iload_n 2, 1) := by decide +kernel
theorem dX7_digest_80 : decode cX7_digest 80 = .ok (.iconst 4, 1) := by decide +kernel
theorem dX7_digest_81 : decode cX7_digest 81 = .ok (.if_icmp .ge 27, 3) := by decide +kernel
theorem dX7_digest_84 : decode cX7_digest 84 = .ok (.aload_n 0, 1) := by decide +kernel
theorem dX7_digest_85 : decode cX7_digest 85 = .ok (.aload_n 0, 1) := by decide +kernel
theorem dX7_digest_86 : decode cX7_digest 86 = .ok (.iload_n 1, 1) := by decide +kernel
theorem dX7_digest_87 : decode cX7_digest 87 = .ok (.iload_n 2, 1) := by decide +kernel
theorem dX7_digest_88 : decode cX7_digest 88 = .ok (.invokevirtual 103, 3) := by decide +kernel
theorem dX7_digest_91 : decode cX7_digest 91 = .ok (.ifCond .eq 7, 3) := by decide +kernel
theorem dX7_digest_94 : decode cX7_digest 94 = .ok (.lconst 1, 1) := by decide +kernel
theorem dX7_digest_95 : decode cX7_digest 95 = .ok (.goto 4, 3) := by decide +kernel
theorem dX7_digest_98 : decode cX7_digest 98 = .ok (.lconst 0, 1) := by decide +kernel
theorem dX7_digest_99 : decode cX7_digest 99 = .ok (.invokevirtual 249, 3) := by decide +kernel
theorem dX7_digest_102 : decode cX7_digest 102 = .ok (.iinc 2 1, 3) := by decide +kernel
theorem dX7_digest_105 : decode cX7_digest 105 = .ok (.goto (-26), 3) := by decide +kernel
theorem dX7_digest_108 : decode cX7_digest 108 = .ok (.iinc 1 1, 3) := by decide +kernel
theorem dX7_digest_111 : decode cX7_digest 111 = .ok (.goto (-51), 3) := by decide +kernel
theorem dX7_digest_114 : decode cX7_digest 114 = .ok (.iconst 0, 1) := by decide +kernel
theorem dX7_digest_115 : decode cX7_digest 115 = .ok (.istore_n 1, 1) := by decide +kernel
theorem dX7_digest_116 : decode cX7_digest 116 = .ok (.iload_n 1, 1) := by decide +kernel
theorem dX7_digest_117 : decode cX7_digest 117 = .ok (.aload_n 0, 1) := by decide +kernel
theorem dX7_digest_118 : decode cX7_digest 118 = .ok (.getfield 7, 3) := by decide +kernel
theorem dX7_digest_121 : decode cX7_digest 121 = .ok (.iconst 3, 1) := by decide +kernel
theorem dX7_digest_122 : decode cX7_digest 122 = .ok (.iaload, 1) := by decide +kernel
theorem dX7_digest_123 : decode cX7_digest 123 = .ok (.if_icmp .ge 14, 3) := by decide +kernel
theorem dX7_digest_126 : decode cX7_digest 126 = .ok (.aload_n 0, 1) := by decide +kernel
theorem dX7_digest_127 : decode cX7_digest 127 = .ok (.iload_n 1, 1) := by decide +kernel
theorem dX7_digest_128 : decode cX7_digest 128 = .ok (.invokevirtual 255, 3) := by decide +kernel
theorem dX7_digest_131 : decode cX7_digest 131 = .ok (.iinc 1 1, 3) := by decide +kernel
theorem dX7_digest_134 : decode cX7_digest 134 = .ok (.goto (-18), 3) := by decide +kernel
theorem dX7_digest_137 : decode cX7_digest 137 = .ok (.aload_n 0, 1) := by decide +kernel
theorem dX7_digest_138 : decode cX7_digest 138 = .ok (.aload_n 0, 1) := by decide +kernel
theorem dX7_digest_139 : decode cX7_digest 139 = .ok (.iconst (-1), 1) := by decide +kernel
theorem dX7_digest_140 : decode cX7_digest 140 = .ok (.invokevirtual 197, 3) := by decide +kernel
theorem dX7_digest_143 : decode cX7_digest 143 = .ok (.i2l, 1) := by decide +kernel
theorem dX7_digest_144 : decode cX7_digest 144 = .ok (.invokevirtual 249, 3) := by decide +kernel
theorem dX7_digest_147 : decode cX7_digest 147 = .ok (.aload_n 0, 1) := by decide +kernel
theorem dX7_digest_148 : decode cX7_digest 148 = .ok (.getfield 245, 3) := by decide +kernel
theorem dX7_digest_151 : decode cX7_digest 151 = .ok (.lreturn, 1) := by decide +kernel
theorem dJ6_bitCount_0f7a4_0 : decode cJ6_bitCount_0f7a4 0 = .ok (.iload_n 0, 1) := by decide +kernel
theorem dJ6_bitCount_0f7a4_1 : decode cJ6_bitCount_0f7a4 1 = .ok (.iload_n 0, 1) := by decide +kernel
theorem dJ6_bitCount_0f7a4_2 : decode cJ6_bitCount_0f7a4 2 = .ok (.iconst 1, 1) := by decide +kernel
theorem dJ6_bitCount_0f7a4_3 : decode cJ6_bitCount_0f7a4 3 = .ok (.iushr, 1) := by decide +kernel
theorem dJ6_bitCount_0f7a4_4 : decode cJ6_bitCount_0f7a4 4 = .ok (.ldc_w 265, 3) := by decide +kernel
theorem dJ6_bitCount_0f7a4_7 : decode cJ6_bitCount_0f7a4 7 = .ok (.iand, 1) := by decide +kernel
theorem dJ6_bitCount_0f7a4_8 : decode cJ6_bitCount_0f7a4 8 = .ok (.isub, 1) := by decide +kernel
theorem dJ6_bitCount_0f7a4_9 : decode cJ6_bitCount_0f7a4 9 = .ok (.istore_n 0, 1) := by decide +kernel
theorem dJ6_bitCount_0f7a4_10 : decode cJ6_bitCount_0f7a4 10 = .ok (.iload_n 0, 1) := by decide +kernel
theorem dJ6_bitCount_0f7a4_11 : decode cJ6_bitCount_0f7a4 11 = .ok (.ldc_w 266, 3) := by decide +kernel
theorem dJ6_bitCount_0f7a4_14 : decode cJ6_bitCount_0f7a4 14 = .ok (.iand, 1) := by decide +kernel
theorem dJ6_bitCount_0f7a4_15 : decode cJ6_bitCount_0f7a4 15 = .ok (.iload_n 0, 1) := by decide +kernel
theorem dJ6_bitCount_0f7a4_16 : decode cJ6_bitCount_0f7a4 16 = .ok (.iconst 2, 1) := by decide +kernel
theorem dJ6_bitCount_0f7a4_17 : decode cJ6_bitCount_0f7a4 17 = .ok (.iushr, 1) := by decide +kernel
theorem dJ6_bitCount_0f7a4_18 : decode cJ6_bitCount_0f7a4 18 = .ok (.ldc_w 266, 3) := by decide +kernel
theorem dJ6_bitCount_0f7a4_21 : decode cJ6_bitCount_0f7a4 21 = .ok (.iand, 1) := by decide +kernel
theorem dJ6_bitCount_0f7a4_22 : decode cJ6_bitCount_0f7a4 22 = .ok (.iadd, 1) := by decide +kernel
theorem dJ6_bitCount_0f7a4_23 : decode cJ6_bitCount_0f7a4 23 = .ok (.istore_n 0, 1) := by decide +kernel
theorem dJ6_bitCount_0f7a4_24 : decode cJ6_bitCount_0f7a4 24 = .ok (.iload_n 0, 1) := by decide +kernel
theorem dJ6_bitCount_0f7a4_25 : decode cJ6_bitCount_0f7a4 25 = .ok (.iload_n 0, 1) := by decide +kernel
theorem dJ6_bitCount_0f7a4_26 : decode cJ6_bitCount_0f7a4 26 = .ok (.iconst 4, 1) := by decide +kernel
theorem dJ6_bitCount_0f7a4_27 : decode cJ6_bitCount_0f7a4 27 = .ok (.iushr, 1) := by decide +kernel
theorem dJ6_bitCount_0f7a4_28 : decode cJ6_bitCount_0f7a4 28 = .ok (.iadd, 1) := by decide +kernel
theorem dJ6_bitCount_0f7a4_29 : decode cJ6_bitCount_0f7a4 29 = .ok (.ldc_w 267, 3) := by decide +kernel
theorem dJ6_bitCount_0f7a4_32 : decode cJ6_bitCount_0f7a4 32 = .ok (.iand, 1) := by decide +kernel
theorem dJ6_bitCount_0f7a4_33 : decode cJ6_bitCount_0f7a4 33 = .ok (.istore_n 0, 1) := by decide +kernel
theorem dJ6_bitCount_0f7a4_34 : decode cJ6_bitCount_0f7a4 34 = .ok (.iload_n 0, 1) := by decide +kernel
theorem dJ6_bitCount_0f7a4_35 : decode cJ6_bitCount_0f7a4 35 = .ok (.iload_n 0, 1) := by decide +kernel
theorem dJ6_bitCount_0f7a4_36 : decode cJ6_bitCount_0f7a4 36 = .ok (.bipush 8, 2) := by decide +kernel
theorem dJ6_bitCount_0f7a4_38 : decode cJ6_bitCount_0f7a4 38 = .ok (.iushr, 1) := by decide +kernel
theorem dJ6_bitCount_0f7a4_39 : decode cJ6_bitCount_0f7a4 39 = .ok (.iadd, 1) := by decide +kernel
theorem dJ6_bitCount_0f7a4_40 : decode cJ6_bitCount_0f7a4 40 = .ok (.istore_n 0, 1) := by decide +kernel
theorem dJ6_bitCount_0f7a4_41 : decode cJ6_bitCount_0f7a4 41 = .ok (.iload_n 0, 1) := by decide +kernel
theorem dJ6_bitCount_0f7a4_42 : decode cJ6_bitCount_0f7a4 42 = .ok (.iload_n 0, 1) := by decide +kernel
theorem dJ6_bitCount_0f7a4_43 : decode cJ6_bitCount_0f7a4 43 = .ok (.bipush 16, 2) := by decide +kernel
theorem dJ6_bitCount_0f7a4_45 : decode cJ6_bitCount_0f7a4 45 = .ok (.iushr, 1) := by decide +kernel
theorem dJ6_bitCount_0f7a4_46 : decode cJ6_bitCount_0f7a4 46 = .ok (.iadd, 1) := by decide +kernel
theorem dJ6_bitCount_0f7a4_47 : decode cJ6_bitCount_0f7a4 47 = .ok (.istore_n 0, 1) := by decide +kernel
theorem dJ6_bitCount_0f7a4_48 : decode cJ6_bitCount_0f7a4 48 = .ok (.iload_n 0, 1) := by decide +kernel
theorem dJ6_bitCount_0f7a4_49 : decode cJ6_bitCount_0f7a4 49 = .ok (.bipush 63, 2) := by decide +kernel
theorem dJ6_bitCount_0f7a4_51 : decode cJ6_bitCount_0f7a4 51 = .ok (.iand, 1) := by decide +kernel
theorem dJ6_bitCount_0f7a4_52 : decode cJ6_bitCount_0f7a4 52 = .ok (.ireturn, 1) := by decide +kernel
theorem dJ13_bitCount_95d88_0 : decode cJ13_bitCount_95d88 0 = .ok (.lload_n 0, 1) := by decide +kernel
theorem dJ13_bitCount_95d88_1 : decode cJ13_bitCount_95d88 1 = .ok (.lload_n 0, 1) := by decide +kernel
theorem dJ13_bitCount_95d88_2 : decode cJ13_bitCount_95d88 2 = .ok (.iconst 1, 1) := by decide +kernel
theorem dJ13_bitCount_95d88_3 : decode cJ13_bitCount_95d88 3 = .ok (.lushr, 1) := by decide +kernel
theorem dJ13_bitCount_95d88_4 : decode cJ13_bitCount_95d88 4 = .ok (.ldc2_w 314, 3) := by decide +kernel
theorem dJ13_bitCount_95d88_7 : decode cJ13_bitCount_95d88 7 = .ok (.land, 1) := by decide +kernel
theorem dJ13_bitCount_95d88_8 : decode cJ13_bitCount_95d88 8 = .ok (.lsub, 1) := by decide +kernel
theorem dJ13_bitCount_95d88_9 : decode cJ13_bitCount_95d88 9 = .ok (.lstore_n 0, 1) := by decide +kernel
theorem dJ13_bitCount_95d88_10 : decode cJ13_bitCount_95d88 10 = .ok (.lload_n 0, 1) := by decide +kernel
theorem dJ13_bitCount_95d88_11 : decode cJ13_bitCount_95d88 11 = .ok (.ldc2_w 316, 3) := by decide +kernel
theorem dJ13_bitCount_95d88_14 : decode cJ13_bitCount_95d88 14 = .ok (.land, 1) := by decide +kernel
theorem dJ13_bitCount_95d88_15 : decode cJ13_bitCount_95d88 15 = .ok (.lload_n 0, 1) := by decide +kernel
theorem dJ13_bitCount_95d88_16 : decode cJ13_bitCount_95d88 16 = .ok (.iconst 2, 1) := by decide +kernel
theorem dJ13_bitCount_95d88_17 : decode cJ13_bitCount_95d88 17 = .ok (.lushr, 1) := by decide +kernel
theorem dJ13_bitCount_95d88_18 : decode cJ13_bitCount_95d88 18 = .ok (.ldc2_w 316, 3) := by decide +kernel
theorem dJ13_bitCount_95d88_21 : decode cJ13_bitCount_95d88 21 = .ok (.land, 1) := by decide +kernel
theorem dJ13_bitCount_95d88_22 : decode cJ13_bitCount_95d88 22 = .ok (.ladd, 1) := by decide +kernel
theorem dJ13_bitCount_95d88_23 : decode cJ13_bitCount_95d88 23 = .ok (.lstore_n 0, 1) := by decide +kernel
theorem dJ13_bitCount_95d88_24 : decode cJ13_bitCount_95d88 24 = .ok (.lload_n 0, 1) := by decide +kernel
theorem dJ13_bitCount_95d88_25 : decode cJ13_bitCount_95d88 25 = .ok (.lload_n 0, 1) := by decide +kernel
theorem dJ13_bitCount_95d88_26 : decode cJ13_bitCount_95d88 26 = .ok (.iconst 4, 1) := by decide +kernel
theorem dJ13_bitCount_95d88_27 : decode cJ13_bitCount_95d88 27 = .ok (.lushr, 1) := by decide +kernel
theorem dJ13_bitCount_95d88_28 : decode cJ13_bitCount_95d88 28 = .ok (.ladd, 1) := by decide +kernel
theorem dJ13_bitCount_95d88_29 : decode cJ13_bitCount_95d88 29 = .ok (.ldc2_w 318, 3) := by decide +kernel
theorem dJ13_bitCount_95d88_32 : decode cJ13_bitCount_95d88 32 = .ok (.land, 1) := by decide +kernel
theorem dJ13_bitCount_95d88_33 : decode cJ13_bitCount_95d88 33 = .ok (.lstore_n 0, 1) := by decide +kernel
theorem dJ13_bitCount_95d88_34 : decode cJ13_bitCount_95d88 34 = .ok (.lload_n 0, 1) := by decide +kernel
theorem dJ13_bitCount_95d88_35 : decode cJ13_bitCount_95d88 35 = .ok (.lload_n 0, 1) := by decide +kernel
theorem dJ13_bitCount_95d88_36 : decode cJ13_bitCount_95d88 36 = .ok (.bipush 8, 2) := by decide +kernel
theorem dJ13_bitCount_95d88_38 : decode cJ13_bitCount_95d88 38 = .ok (.lushr, 1) := by decide +kernel
theorem dJ13_bitCount_95d88_39 : decode cJ13_bitCount_95d88 39 = .ok (.ladd, 1) := by decide +kernel
theorem dJ13_bitCount_95d88_40 : decode cJ13_bitCount_95d88 40 = .ok (.lstore_n 0, 1) := by decide +kernel
theorem dJ13_bitCount_95d88_41 : decode cJ13_bitCount_95d88 41 = .ok (.lload_n 0, 1) := by decide +kernel
theorem dJ13_bitCount_95d88_42 : decode cJ13_bitCount_95d88 42 = .ok (.lload_n 0, 1) := by decide +kernel
theorem dJ13_bitCount_95d88_43 : decode cJ13_bitCount_95d88 43 = .ok (.bipush 16, 2) := by decide +kernel
theorem dJ13_bitCount_95d88_45 : decode cJ13_bitCount_95d88 45 = .ok (.lushr, 1) := by decide +kernel
theorem dJ13_bitCount_95d88_46 : decode cJ13_bitCount_95d88 46 = .ok (.ladd, 1) := by decide +kernel
theorem dJ13_bitCount_95d88_47 : decode cJ13_bitCount_95d88 47 = .ok (.lstore_n 0, 1) := by decide +kernel
theorem dJ13_bitCount_95d88_48 : decode cJ13_bitCount_95d88 48 = .ok (.lload_n 0, 1) := by decide +kernel
theorem dJ13_bitCount_95d88_49 : decode cJ13_bitCount_95d88 49 = .ok (.lload_n 0, 1) := by decide +kernel
theorem dJ13_bitCount_95d88_50 : decode cJ13_bitCount_95d88 50 = .ok (.bipush 32, 2) := by decide +kernel
theorem dJ13_bitCount_95d88_52 : decode cJ13_bitCount_95d88 52 = .ok (.lushr, 1) := by decide +kernel
theorem dJ13_bitCount_95d88_53 : decode cJ13_bitCount_95d88 53 = .ok (.ladd, 1) := by decide +kernel
theorem dJ13_bitCount_95d88_54 : decode cJ13_bitCount_95d88 54 = .ok (.lstore_n 0, 1) := by decide +kernel
theorem dJ13_bitCount_95d88_55 : decode cJ13_bitCount_95d88 55 = .ok (.lload_n 0, 1) := by decide +kernel
theorem dJ13_bitCount_95d88_56 : decode cJ13_bitCount_95d88 56 = .ok (.l2i, 1) := by decide +kernel
theorem dJ13_bitCount_95d88_57 : decode cJ13_bitCount_95d88 57 = .ok (.bipush 127, 2) := by decide +kernel
theorem dJ13_bitCount_95d88_59 : decode cJ13_bitCount_95d88 59 = .ok (.iand, 1) := by decide +kernel
theorem dJ13_bitCount_95d88_60 : decode cJ13_bitCount_95d88 60 = .ok (.ireturn, 1) := by decide +kernel
theorem dJ9_max_7cf53_0 : decode cJ9_max_7cf53 0 = .ok (.iload_n 0, 1) := by decide +kernel
theorem dJ9_max_7cf53_1 : decode cJ9_max_7cf53 1 = .ok (.iload_n 1, 1) := by decide +kernel
theorem dJ9_max_7cf53_2 : decode cJ9_max_7cf53 2 = .ok (.if_icmp .lt 7, 3) := by decide +kernel
theorem dJ9_max_7cf53_5 : decode cJ9_max_7cf53 5 = .ok (.iload_n 0, 1) := by decide +kernel
theorem dJ9_max_7cf53_6 : decode cJ9_max_7cf53 6 = .ok (.goto 4, 3) := by decide +kernel
theorem dJ9_max_7cf53_9 : decode cJ9_max_7cf53 9 = .ok (.iload_n 1, 1) := by decide +kernel
theorem dJ9_max_7cf53_10 : decode cJ9_max_7cf53 10 = .ok (.ireturn, 1) := by decide +kernel
theorem dJ9_min_7cf53_0 : decode cJ9_min_7cf53 0 = .ok (.iload_n 0, 1) := by decide +kernel
theorem dJ9_min_7cf53_1 : decode cJ9_min_7cf53 1 = .ok (.iload_n 1, 1) := by decide +kernel
theorem dJ9_min_7cf53_2 : decode cJ9_min_7cf53 2 = .ok (.if_icmp .gt 7, 3) := by decide +kernel
theorem dJ9_min_7cf53_5 : decode cJ9_min_7cf53 5 = .ok (.iload_n 0, 1) := by decide +kernel
theorem dJ9_min_7cf53_6 : decode cJ9_min_7cf53 6 = .ok (.goto 4, 3) := by decide +kernel
theorem dJ9_min_7cf53_9 : decode cJ9_min_7cf53 9 = .ok (.iload_n 1, 1) := by decide +kernel
theorem dJ9_min_7cf53_10 : decode cJ9_min_7cf53 10 = .ok (.ireturn, 1) := by decide +kernel
theorem dJ7_fill_53178_0 : decode cJ7_fill_53178 0 = .ok (.iconst 0, 1) := by decide +kernel
theorem dJ7_fill_53178_1 : decode cJ7_fill_53178 1 = .ok (.istore_n 2, 1) := by decide +kernel
theorem dJ7_fill_53178_2 : decode cJ7_fill_53178 2 = .ok (.aload_n 0, 1) := by decide +kernel
theorem dJ7_fill_53178_3 : decode cJ7_fill_53178 3 = .ok (.arraylength, 1) := by decide +kernel
theorem dJ7_fill_53178_4 : decode cJ7_fill_53178 4 = .ok (.istore_n 3, 1) := by decide +kernel
theorem dJ7_fill_53178_5 : decode cJ7_fill_53178 5 = .ok (.iload_n 2, 1) := by decide +kernel
theorem dJ7_fill_53178_6 : decode cJ7_fill_53178 6 = .ok (.iload_n 3, 1) := by decide +kernel
theorem dJ7_fill_53178_7 : decode cJ7_fill_53178 7 = .ok (.if_icmp .ge 13, 3) := by decide +kernel
theorem dJ7_fill_53178_10 : decode cJ7_fill_53178 10 = .ok (.aload_n 0, 1) := by decide +kernel
theorem dJ7_fill_53178_11 : decode cJ7_fill_53178 11 = .ok (.iload_n 2, 1) := by decide +kernel
theorem dJ7_fill_53178_12 : decode cJ7_fill_53178 12 = .ok (.iload_n 1, 1) := by decide +kernel
theorem dJ7_fill_53178_13 : decode cJ7_fill_53178 13 = .ok (.iastore, 1) := by decide +kernel
theorem dJ7_fill_53178_14 : decode cJ7_fill_53178 14 = .ok (.iinc 2 1, 3) := by decide +kernel
theorem dJ7_fill_53178_17 : decode cJ7_fill_53178 17 = .ok (.goto (-12), 3) := by decide +kernel
theorem dJ7_fill_53178_20 : decode cJ7_fill_53178 20 = .ok (.return_, 1) := by decide +kernel
end
section
theorem dL_law_0 : decode cL_law 0 = .ok (.new 7, 3) := by decide +kernel
theorem dL_law_3 : decode cL_law 3 = .ok (.dup, 1) := by decide +kernel
theorem dL_law_4 : decode cL_law 4 = .ok (.invokespecial 9, 3) := by decide +kernel
theorem dL_law_7 : decode cL_law 7 = .ok (.astore_n 1, 1) := by decide +kernel
theorem dL_law_8 : decode cL_law 8 = .ok (.new 10, 3) := by decide +kernel
theorem dL_law_11 : decode cL_law 11 = .ok (.dup, 1) := by decide +kernel
theorem dL_law_12 : decode cL_law 12 = .ok (.invokespecial 12, 3) := by decide +kernel
theorem dL_law_15 : decode cL_law 15 = .ok (.astore_n 2, 1) := by decide +kernel
theorem dL_law_16 : decode cL_law 16 = .ok (.iconst 0, 1) := by decide +kernel
theorem dL_law_17 : decode cL_law 17 = .ok (.istore_n 3, 1) := by decide +kernel
theorem dL_law_18 : decode cL_law 18 = .ok (.iload_n 3, 1) := by decide +kernel
theorem dL_law_19 : decode cL_law 19 = .ok (.aload_n 0, 1) := by decide +kernel
theorem dL_law_20 : decode cL_law 20 = .ok (.arraylength, 1) := by decide +kernel
theorem dL_law_21 : decode cL_law 21 = .ok (.iconst 5, 1) := by decide +kernel
theorem dL_law_22 : decode cL_law 22 = .ok (.isub, 1) := by decide +kernel
theorem dL_law_23 : decode cL_law 23 = .ok (.if_icmp .gt 833, 3) := by decide +kernel
theorem dL_law_26 : decode cL_law 26 = .ok (.aload_n 0, 1) := by decide +kernel
theorem dL_law_27 : decode cL_law 27 = .ok (.iload_n 3, 1) := by decide +kernel
theorem dL_law_28 : decode cL_law 28 = .ok (.iaload, 1) := by decide +kernel
theorem dL_law_29 : decode cL_law 29 = .ok (.bipush 31, 2) := by decide +kernel
theorem dL_law_31 : decode cL_law 31 = .ok (.iand, 1) := by decide +kernel
theorem dL_law_32 : decode cL_law 32 = .ok (.tableswitch 818 0 22 #[108, 141, 184, 227, 270, 293, 306, 339, 362, 415, 468, 511, 554, 597, 640, 673, 696, 719, 742, 755, 768, 781, 804], 108) := by decide +kernel
theorem dL_law_140 : decode cL_law 140 = .ok (.aload_n 1, 1) := by decide +kernel
theorem dL_law_141 : decode cL_law 141 = .ok (.aload_n 0, 1) := by decide +kernel
theorem dL_law_142 : decode cL_law 142 = .ok (.iload_n 3, 1) := by decide +kernel
theorem dL_law_143 : decode cL_law 143 = .ok (.iconst 1, 1) := by decide +kernel
theorem dL_law_144 : decode cL_law 144 = .ok (.iadd, 1) := by decide +kernel
theorem dL_law_145 : decode cL_law 145 = .ok (.iaload, 1) := by decide +kernel
theorem dL_law_146 : decode cL_law 146 = .ok (.aload_n 0, 1) := by decide +kernel
theorem dL_law_147 : decode cL_law 147 = .ok (.iload_n 3, 1) := by decide +kernel
theorem dL_law_148 : decode cL_law 148 = .ok (.iconst 2, 1) := by decide +kernel
theorem dL_law_149 : decode cL_law 149 = .ok (.iadd, 1) := by decide +kernel
theorem dL_law_150 : decode cL_law 150 = .ok (.iaload, 1) := by decide +kernel
theorem dL_law_151 : decode cL_law 151 = .ok (.invokevirtual 13, 3) := by decide +kernel
theorem dL_law_154 : decode cL_law 154 = .ok (.aload_n 2, 1) := by decide +kernel
theorem dL_law_155 : decode cL_law 155 = .ok (.aload_n 0, 1) := by decide +kernel
theorem dL_law_156 : decode cL_law 156 = .ok (.iload_n 3, 1) := by decide +kernel
theorem dL_law_157 : decode cL_law 157 = .ok (.iconst 1, 1) := by decide +kernel
theorem dL_law_158 : decode cL_law 158 = .ok (.iadd, 1) := by decide +kernel
theorem dL_law_159 : decode cL_law 159 = .ok (.iaload, 1) := by decide +kernel
theorem dL_law_160 : decode cL_law 160 = .ok (.aload_n 0, 1) := by decide +kernel
theorem dL_law_161 : decode cL_law 161 = .ok (.iload_n 3, 1) := by decide +kernel
theorem dL_law_162 : decode cL_law 162 = .ok (.iconst 2, 1) := by decide +kernel
theorem dL_law_163 : decode cL_law 163 = .ok (.iadd, 1) := by decide +kernel
theorem dL_law_164 : decode cL_law 164 = .ok (.iaload, 1) := by decide +kernel
theorem dL_law_165 : decode cL_law 165 = .ok (.invokevirtual 17, 3) := by decide +kernel
theorem dL_law_168 : decode cL_law 168 = .ok (.if_icmp .eq 682, 3) := by decide +kernel
theorem dL_law_171 : decode cL_law 171 = .ok (.iconst 0, 1) := by decide +kernel
theorem dL_law_172 : decode cL_law 172 = .ok (.ireturn, 1) := by decide +kernel
theorem dL_law_173 : decode cL_law 173 = .ok (.aload_n 1, 1) := by decide +kernel
theorem dL_law_174 : decode cL_law 174 = .ok (.aload_n 0, 1) := by decide +kernel
theorem dL_law_175 : decode cL_law 175 = .ok (.iload_n 3, 1) := by decide +kernel
theorem dL_law_176 : decode cL_law 176 = .ok (.iconst 1, 1) := by decide +kernel
theorem dL_law_177 : decode cL_law 177 = .ok (.iadd, 1) := by decide +kernel
theorem dL_law_178 : decode cL_law 178 = .ok (.iaload, 1) := by decide +kernel
theorem dL_law_179 : decode cL_law 179 = .ok (.aload_n 0, 1) := by decide +kernel
theorem dL_law_180 : decode cL_law 180 = .ok (.iload_n 3, 1) := by decide +kernel
theorem dL_law_181 : decode cL_law 181 = .ok (.iconst 2, 1) := by decide +kernel
theorem dL_law_182 : decode cL_law 182 = .ok (.iadd, 1) := by decide +kernel
theorem dL_law_183 : decode cL_law 183 = .ok (.iaload, 1) := by decide +kernel
theorem dL_law_184 : decode cL_law 184 = .ok (.aload_n 0, 1) := by decide +kernel
theorem dL_law_185 : decode cL_law 185 = .ok (.iload_n 3, 1) := by decide +kernel
theorem dL_law_186 : decode cL_law 186 = .ok (.iconst 3, 1) := by decide +kernel
theorem dL_law_187 : decode cL_law 187 = .ok (.iadd, 1) := by decide +kernel
theorem dL_law_188 : decode cL_law 188 = .ok (.iaload, 1) := by decide +kernel
theorem dL_law_189 : decode cL_law 189 = .ok (.invokevirtual 18, 3) := by decide +kernel
theorem dL_law_192 : decode cL_law 192 = .ok (.aload_n 2, 1) := by decide +kernel
theorem dL_law_193 : decode cL_law 193 = .ok (.aload_n 0, 1) := by decide +kernel
theorem dL_law_194 : decode cL_law 194 = .ok (.iload_n 3, 1) := by decide +kernel
theorem dL_law_195 : decode cL_law 195 = .ok (.iconst 1, 1) := by decide +kernel
theorem dL_law_196 : decode cL_law 196 = .ok (.iadd, 1) := by decide +kernel
theorem dL_law_197 : decode cL_law 197 = .ok (.iaload, 1) := by decide +kernel
theorem dL_law_198 : decode cL_law 198 = .ok (.aload_n 0, 1) := by decide +kernel
theorem dL_law_199 : decode cL_law 199 = .ok (.iload_n 3, 1) := by decide +kernel
theorem dL_law_200 : decode cL_law 200 = .ok (.iconst 2, 1) := by decide +kernel
theorem dL_law_201 : decode cL_law 201 = .ok (.iadd, 1) := by decide +kernel
theorem dL_law_202 : decode cL_law 202 = .ok (.iaload, 1) := by decide +kernel
theorem dL_law_203 : decode cL_law 203 = .ok (.aload_n 0, 1) := by decide +kernel
theorem dL_law_204 : decode cL_law 204 = .ok (.iload_n 3, 1) := by decide +kernel
theorem dL_law_205 : decode cL_law 205 = .ok (.iconst 3, 1) := by decide +kernel
theorem dL_law_206 : decode cL_law 206 = .ok (.iadd, 1) := by decide +kernel
theorem dL_law_207 : decode cL_law 207 = .ok (.iaload, 1) := by decide +kernel
theorem dL_law_208 : decode cL_law 208 = .ok (.invokevirtual 22, 3) := by decide +kernel
theorem dL_law_211 : decode cL_law 211 = .ok (.if_icmp .eq 639, 3) := by decide +kernel
theorem dL_law_214 : decode cL_law 214 = .ok (.iconst 0, 1) := by decide +kernel
theorem dL_law_215 : decode cL_law 215 = .ok (.ireturn, 1) := by decide +kernel
theorem dL_law_216 : decode cL_law 216 = .ok (.aload_n 1, 1) := by decide +kernel
theorem dL_law_217 : decode cL_law 217 = .ok (.aload_n 0, 1) := by decide +kernel
theorem dL_law_218 : decode cL_law 218 = .ok (.iload_n 3, 1) := by decide +kernel
theorem dL_law_219 : decode cL_law 219 = .ok (.iconst 1, 1) := by decide +kernel
theorem dL_law_220 : decode cL_law 220 = .ok (.iadd, 1) := by decide +kernel
theorem dL_law_221 : decode cL_law 221 = .ok (.iaload, 1) := by decide +kernel
theorem dL_law_222 : decode cL_law 222 = .ok (.aload_n 0, 1) := by decide +kernel
theorem dL_law_223 : decode cL_law 223 = .ok (.iload_n 3, 1) := by decide +kernel
theorem dL_law_224 : decode cL_law 224 = .ok (.iconst 2, 1) := by decide +kernel
theorem dL_law_225 : decode cL_law 225 = .ok (.iadd, 1) := by decide +kernel
theorem dL_law_226 : decode cL_law 226 = .ok (.iaload, 1) := by decide +kernel
theorem dL_law_227 : decode cL_law 227 = .ok (.aload_n 0, 1) := by decide +kernel
theorem dL_law_228 : decode cL_law 228 = .ok (.iload_n 3, 1) := by decide +kernel
theorem dL_law_229 : decode cL_law 229 = .ok (.iconst 3, 1) := by decide +kernel
theorem dL_law_230 : decode cL_law 230 = .ok (.iadd, 1) := by decide +kernel
theorem dL_law_231 : decode cL_law 231 = .ok (.iaload, 1) := by decide +kernel
theorem dL_law_232 : decode cL_law 232 = .ok (.invokevirtual 23, 3) := by decide +kernel
theorem dL_law_235 : decode cL_law 235 = .ok (.aload_n 2, 1) := by decide +kernel
theorem dL_law_236 : decode cL_law 236 = .ok (.aload_n 0, 1) := by decide +kernel
theorem dL_law_237 : decode cL_law 237 = .ok (.iload_n 3, 1) := by decide +kernel
theorem dL_law_238 : decode cL_law 238 = .ok (.iconst 1, 1) := by decide +kernel
theorem dL_law_239 : decode cL_law 239 = .ok (.iadd, 1) := by decide +kernel
theorem dL_law_240 : decode cL_law 240 = .ok (.iaload, 1) := by decide +kernel
theorem dL_law_241 : decode cL_law 241 = .ok (.aload_n 0, 1) := by decide +kernel
theorem dL_law_242 : decode cL_law 242 = .ok (.iload_n 3, 1) := by decide +kernel
theorem dL_law_243 : decode cL_law 243 = .ok (.iconst 2, 1) := by decide +kernel
theorem dL_law_244 : decode cL_law 244 = .ok (.iadd, 1) := by decide +kernel
theorem dL_law_245 : decode cL_law 245 = .ok (.iaload, 1) := by decide +kernel
theorem dL_law_246 : decode cL_law 246 = .ok (.aload_n 0, 1) := by decide +kernel
theorem dL_law_247 : decode cL_law 247 = .ok (.iload_n 3, 1) := by decide +kernel
theorem dL_law_248 : decode cL_law 248 = .ok (.iconst 3, 1) := by decide +kernel
theorem dL_law_249 : decode cL_law 249 = .ok (.iadd, 1) := by decide +kernel
theorem dL_law_250 : decode cL_law 250 = .ok (.iaload, 1) := by decide +kernel
theorem dL_law_251 : decode cL_law 251 = .ok (.invokevirtual 26, 3) := by decide +kernel
theorem dL_law_254 : decode cL_law 254 = .ok (.if_icmp .eq 596, 3) := by decide +kernel
theorem dL_law_257 : decode cL_law 257 = .ok (.iconst 0, 1) := by decide +kernel
theorem dL_law_258 : decode cL_law 258 = .ok (.ireturn, 1) := by decide +kernel
theorem dL_law_259 : decode cL_law 259 = .ok (.aload_n 1, 1) := by decide +kernel
theorem dL_law_260 : decode cL_law 260 = .ok (.aload_n 0, 1) := by decide +kernel
theorem dL_law_261 : decode cL_law 261 = .ok (.iload_n 3, 1) := by decide +kernel
theorem dL_law_262 : decode cL_law 262 = .ok (.iconst 1, 1) := by decide +kernel
theorem dL_law_263 : decode cL_law 263 = .ok (.iadd, 1) := by decide +kernel
theorem dL_law_264 : decode cL_law 264 = .ok (.iaload, 1) := by decide +kernel
theorem dL_law_265 : decode cL_law 265 = .ok (.aload_n 0, 1) := by decide +kernel
theorem dL_law_266 : decode cL_law 266 = .ok (.iload_n 3, 1) := by decide +kernel
theorem dL_law_267 : decode cL_law 267 = .ok (.iconst 2, 1) := by decide +kernel
theorem dL_law_268 : decode cL_law 268 = .ok (.iadd, 1) := by decide +kernel
theorem dL_law_269 : decode cL_law 269 = .ok (.iaload, 1) := by decide +kernel
theorem dL_law_270 : decode cL_law 270 = .ok (.aload_n 0, 1) := by decide +kernel
theorem dL_law_271 : decode cL_law 271 = .ok (.iload_n 3, 1) := by decide +kernel
theorem dL_law_272 : decode cL_law 272 = .ok (.iconst 3, 1) := by decide +kernel
theorem dL_law_273 : decode cL_law 273 = .ok (.iadd, 1) := by decide +kernel
theorem dL_law_274 : decode cL_law 274 = .ok (.iaload, 1) := by decide +kernel
theorem dL_law_275 : decode cL_law 275 = .ok (.invokevirtual 27, 3) := by decide +kernel
theorem dL_law_278 : decode cL_law 278 = .ok (.aload_n 2, 1) := by decide +kernel
theorem dL_law_279 : decode cL_law 279 = .ok (.aload_n 0, 1) := by decide +kernel
theorem dL_law_280 : decode cL_law 280 = .ok (.iload_n 3, 1) := by decide +kernel
theorem dL_law_281 : decode cL_law 281 = .ok (.iconst 1, 1) := by decide +kernel
theorem dL_law_282 : decode cL_law 282 = .ok (.iadd, 1) := by decide +kernel
theorem dL_law_283 : decode cL_law 283 = .ok (.iaload, 1) := by decide +kernel
theorem dL_law_284 : decode cL_law 284 = .ok (.aload_n 0, 1) := by decide +kernel
theorem dL_law_285 : decode cL_law 285 = .ok (.iload_n 3, 1) := by decide +kernel
theorem dL_law_286 : decode cL_law 286 = .ok (.iconst 2, 1) := by decide +kernel
theorem dL_law_287 : decode cL_law 287 = .ok (.iadd, 1) := by decide +kernel
theorem dL_law_288 : decode cL_law 288 = .ok (.iaload, 1) := by decide +kernel
theorem dL_law_289 : decode cL_law 289 = .ok (.aload_n 0, 1) := by decide +kernel
theorem dL_law_290 : decode cL_law 290 = .ok (.iload_n 3, 1) := by decide +kernel
theorem dL_law_291 : decode cL_law 291 = .ok (.iconst 3, 1) := by decide +kernel
theorem dL_law_292 : decode cL_law 292 = .ok (.iadd, 1) := by decide +kernel
theorem dL_law_293 : decode cL_law 293 = .ok (.iaload, 1) := by decide +kernel
theorem dL_law_294 : decode cL_law 294 = .ok (.invokevirtual 30, 3) := by decide +kernel
theorem dL_law_297 : decode cL_law 297 = .ok (.if_icmp .eq 553, 3) := by decide +kernel
theorem dL_law_300 : decode cL_law 300 = .ok (.iconst 0, 1) := by decide +kernel
theorem dL_law_301 : decode cL_law 301 = .ok (.ireturn, 1) := by decide +kernel
theorem dL_law_302 : decode cL_law 302 = .ok (.aload_n 1, 1) := by decide +kernel
theorem dL_law_303 : decode cL_law 303 = .ok (.aload_n 0, 1) := by decide +kernel
theorem dL_law_304 : decode cL_law 304 = .ok (.iload_n 3, 1) := by decide +kernel
theorem dL_law_305 : decode cL_law 305 = .ok (.iconst 1, 1) := by decide +kernel
theorem dL_law_306 : decode cL_law 306 = .ok (.iadd, 1) := by decide +kernel
theorem dL_law_307 : decode cL_law 307 = .ok (.iaload, 1) := by decide +kernel
theorem dL_law_308 : decode cL_law 308 = .ok (.invokevirtual 31, 3) := by decide +kernel
theorem dL_law_311 : decode cL_law 311 = .ok (.aload_n 2, 1) := by decide +kernel
theorem dL_law_312 : decode cL_law 312 = .ok (.aload_n 0, 1) := by decide +kernel
theorem dL_law_313 : decode cL_law 313 = .ok (.iload_n 3, 1) := by decide +kernel
theorem dL_law_314 : decode cL_law 314 = .ok (.iconst 1, 1) := by decide +kernel
theorem dL_law_315 : decode cL_law 315 = .ok (.iadd, 1) := by decide +kernel
theorem dL_law_316 : decode cL_law 316 = .ok (.iaload, 1) := by decide +kernel
theorem dL_law_317 : decode cL_law 317 = .ok (.invokevirtual 35, 3) := by decide +kernel
theorem dL_law_320 : decode cL_law 320 = .ok (.if_icmp .eq 530, 3) := by decide +kernel
theorem dL_law_323 : decode cL_law 323 = .ok (.iconst 0, 1) := by decide +kernel
theorem dL_law_324 : decode cL_law 324 = .ok (.ireturn, 1) := by decide +kernel
theorem dL_law_325 : decode cL_law 325 = .ok (.aload_n 1, 1) := by decide +kernel
theorem dL_law_326 : decode cL_law 326 = .ok (.invokevirtual 36, 3) := by decide +kernel
theorem dL_law_329 : decode cL_law 329 = .ok (.aload_n 2, 1) := by decide +kernel
theorem dL_law_330 : decode cL_law 330 = .ok (.invokevirtual 40, 3) := by decide +kernel
theorem dL_law_333 : decode cL_law 333 = .ok (.if_icmp .eq 517, 3) := by decide +kernel
theorem dL_law_336 : decode cL_law 336 = .ok (.iconst 0, 1) := by decide +kernel
theorem dL_law_337 : decode cL_law 337 = .ok (.ireturn, 1) := by decide +kernel
theorem dL_law_338 : decode cL_law 338 = .ok (.aload_n 1, 1) := by decide +kernel
theorem dL_law_339 : decode cL_law 339 = .ok (.aload_n 0, 1) := by decide +kernel
theorem dL_law_340 : decode cL_law 340 = .ok (.iload_n 3, 1) := by decide +kernel
theorem dL_law_341 : decode cL_law 341 = .ok (.iconst 1, 1) := by decide +kernel
theorem dL_law_342 : decode cL_law 342 = .ok (.iadd, 1) := by decide +kernel
theorem dL_law_343 : decode cL_law 343 = .ok (.iaload, 1) := by decide +kernel
theorem dL_law_344 : decode cL_law 344 = .ok (.aload_n 0, 1) := by decide +kernel
theorem dL_law_345 : decode cL_law 345 = .ok (.iload_n 3, 1) := by decide +kernel
theorem dL_law_346 : decode cL_law 346 = .ok (.iconst 2, 1) := by decide +kernel
theorem dL_law_347 : decode cL_law 347 = .ok (.iadd, 1) := by decide +kernel
theorem dL_law_348 : decode cL_law 348 = .ok (.iaload, 1) := by decide +kernel
theorem dL_law_349 : decode cL_law 349 = .ok (.invokevirtual 41, 3) := by decide +kernel
theorem dL_law_352 : decode cL_law 352 = .ok (.aload_n 2, 1) := by decide +kernel
theorem dL_law_353 : decode cL_law 353 = .ok (.aload_n 0, 1) := by decide +kernel
theorem dL_law_354 : decode cL_law 354 = .ok (.iload_n 3, 1) := by decide +kernel
theorem dL_law_355 : decode cL_law 355 = .ok (.iconst 1, 1) := by decide +kernel
theorem dL_law_356 : decode cL_law 356 = .ok (.iadd, 1) := by decide +kernel
theorem dL_law_357 : decode cL_law 357 = .ok (.iaload, 1) := by decide +kernel
theorem dL_law_358 : decode cL_law 358 = .ok (.aload_n 0, 1) := by decide +kernel
theorem dL_law_359 : decode cL_law 359 = .ok (.iload_n 3, 1) := by decide +kernel
theorem dL_law_360 : decode cL_law 360 = .ok (.iconst 2, 1) := by decide +kernel
theorem dL_law_361 : decode cL_law 361 = .ok (.iadd, 1) := by decide +kernel
theorem dL_law_362 : decode cL_law 362 = .ok (.iaload, 1) := by decide +kernel
theorem dL_law_363 : decode cL_law 363 = .ok (.invokevirtual 44, 3) := by decide +kernel
theorem dL_law_366 : decode cL_law 366 = .ok (.if_icmp .eq 484, 3) := by decide +kernel
theorem dL_law_369 : decode cL_law 369 = .ok (.iconst 0, 1) := by decide +kernel
theorem dL_law_370 : decode cL_law 370 = .ok (.ireturn, 1) := by decide +kernel
theorem dL_law_371 : decode cL_law 371 = .ok (.aload_n 1, 1) := by decide +kernel
theorem dL_law_372 : decode cL_law 372 = .ok (.aload_n 0, 1) := by decide +kernel
theorem dL_law_373 : decode cL_law 373 = .ok (.iload_n 3, 1) := by decide +kernel
theorem dL_law_374 : decode cL_law 374 = .ok (.iconst 1, 1) := by decide +kernel
theorem dL_law_375 : decode cL_law 375 = .ok (.iadd, 1) := by decide +kernel
theorem dL_law_376 : decode cL_law 376 = .ok (.iaload, 1) := by decide +kernel
theorem dL_law_377 : decode cL_law 377 = .ok (.invokevirtual 45, 3) := by decide +kernel
theorem dL_law_380 : decode cL_law 380 = .ok (.aload_n 2, 1) := by decide +kernel
theorem dL_law_381 : decode cL_law 381 = .ok (.aload_n 0, 1) := by decide +kernel
theorem dL_law_382 : decode cL_law 382 = .ok (.iload_n 3, 1) := by decide +kernel
theorem dL_law_383 : decode cL_law 383 = .ok (.iconst 1, 1) := by decide +kernel
theorem dL_law_384 : decode cL_law 384 = .ok (.iadd, 1) := by decide +kernel
theorem dL_law_385 : decode cL_law 385 = .ok (.iaload, 1) := by decide +kernel
theorem dL_law_386 : decode cL_law 386 = .ok (.invokevirtual 48, 3) := by decide +kernel
theorem dL_law_389 : decode cL_law 389 = .ok (.if_icmp .eq 461, 3) := by decide +kernel
theorem dL_law_392 : decode cL_law 392 = .ok (.iconst 0, 1) := by decide +kernel
theorem dL_law_393 : decode cL_law 393 = .ok (.ireturn, 1) := by decide +kernel
theorem dL_law_394 : decode cL_law 394 = .ok (.aload_n 1, 1) := by decide +kernel
theorem dL_law_395 : decode cL_law 395 = .ok (.aload_n 0, 1) := by decide +kernel
theorem dL_law_396 : decode cL_law 396 = .ok (.iload_n 3, 1) := by decide +kernel
theorem dL_law_397 : decode cL_law 397 = .ok (.iconst 1, 1) := by decide +kernel
theorem dL_law_398 : decode cL_law 398 = .ok (.iadd, 1) := by decide +kernel
theorem dL_law_399 : decode cL_law 399 = .ok (.iaload, 1) := by decide +kernel
theorem dL_law_400 : decode cL_law 400 = .ok (.aload_n 0, 1) := by decide +kernel
theorem dL_law_401 : decode cL_law 401 = .ok (.iload_n 3, 1) := by decide +kernel
theorem dL_law_402 : decode cL_law 402 = .ok (.iconst 2, 1) := by decide +kernel
theorem dL_law_403 : decode cL_law 403 = .ok (.iadd, 1) := by decide +kernel
theorem dL_law_404 : decode cL_law 404 = .ok (.iaload, 1) := by decide +kernel
theorem dL_law_405 : decode cL_law 405 = .ok (.aload_n 0, 1) := by decide +kernel
theorem dL_law_406 : decode cL_law 406 = .ok (.iload_n 3, 1) := by decide +kernel
theorem dL_law_407 : decode cL_law 407 = .ok (.iconst 3, 1) := by decide +kernel
theorem dL_law_408 : decode cL_law 408 = .ok (.iadd, 1) := by decide +kernel
theorem dL_law_409 : decode cL_law 409 = .ok (.iaload, 1) := by decide +kernel
theorem dL_law_410 : decode cL_law 410 = .ok (.aload_n 0, 1) := by decide +kernel
theorem dL_law_411 : decode cL_law 411 = .ok (.iload_n 3, 1) := by decide +kernel
theorem dL_law_412 : decode cL_law 412 = .ok (.iconst 4, 1) := by decide +kernel
theorem dL_law_413 : decode cL_law 413 = .ok (.iadd, 1) := by decide +kernel
theorem dL_law_414 : decode cL_law 414 = .ok (.iaload, 1) := by decide +kernel
theorem dL_law_415 : decode cL_law 415 = .ok (.invokevirtual 49, 3) := by decide +kernel
theorem dL_law_418 : decode cL_law 418 = .ok (.aload_n 2, 1) := by decide +kernel
theorem dL_law_419 : decode cL_law 419 = .ok (.aload_n 0, 1) := by decide +kernel
theorem dL_law_420 : decode cL_law 420 = .ok (.iload_n 3, 1) := by decide +kernel
theorem dL_law_421 : decode cL_law 421 = .ok (.iconst 1, 1) := by decide +kernel
theorem dL_law_422 : decode cL_law 422 = .ok (.iadd, 1) := by decide +kernel
theorem dL_law_423 : decode cL_law 423 = .ok (.iaload, 1) := by decide +kernel
theorem dL_law_424 : decode cL_law 424 = .ok (.aload_n 0, 1) := by decide +kernel
theorem dL_law_425 : decode cL_law 425 = .ok (.iload_n 3, 1) := by decide +kernel
theorem dL_law_426 : decode cL_law 426 = .ok (.iconst 2, 1) := by decide +kernel
theorem dL_law_427 : decode cL_law 427 = .ok (.iadd, 1) := by decide +kernel
theorem dL_law_428 : decode cL_law 428 = .ok (.iaload, 1) := by decide +kernel
theorem dL_law_429 : decode cL_law 429 = .ok (.aload_n 0, 1) := by decide +kernel
theorem dL_law_430 : decode cL_law 430 = .ok (.iload_n 3, 1) := by decide +kernel
theorem dL_law_431 : decode cL_law 431 = .ok (.iconst 3, 1) := by decide +kernel
theorem dL_law_432 : decode cL_law 432 = .ok (.iadd, 1) := by decide +kernel
theorem dL_law_433 : decode cL_law 433 = .ok (.iaload, 1) := by decide +kernel
theorem dL_law_434 : decode cL_law 434 = .ok (.aload_n 0, 1) := by decide +kernel
theorem dL_law_435 : decode cL_law 435 = .ok (.iload_n 3, 1) := by decide +kernel
theorem dL_law_436 : decode cL_law 436 = .ok (.iconst 4, 1) := by decide +kernel
theorem dL_law_437 : decode cL_law 437 = .ok (.iadd, 1) := by decide +kernel
theorem dL_law_438 : decode cL_law 438 = .ok (.iaload, 1) := by decide +kernel
theorem dL_law_439 : decode cL_law 439 = .ok (.invokevirtual 53, 3) := by decide +kernel
theorem dL_law_442 : decode cL_law 442 = .ok (.if_icmp .eq 408, 3) := by decide +kernel
theorem dL_law_445 : decode cL_law 445 = .ok (.iconst 0, 1) := by decide +kernel
theorem dL_law_446 : decode cL_law 446 = .ok (.ireturn, 1) := by decide +kernel
theorem dL_law_447 : decode cL_law 447 = .ok (.aload_n 1, 1) := by decide +kernel
theorem dL_law_448 : decode cL_law 448 = .ok (.aload_n 0, 1) := by decide +kernel
theorem dL_law_449 : decode cL_law 449 = .ok (.iload_n 3, 1) := by decide +kernel
theorem dL_law_450 : decode cL_law 450 = .ok (.iconst 1, 1) := by decide +kernel
theorem dL_law_451 : decode cL_law 451 = .ok (.iadd, 1) := by decide +kernel
theorem dL_law_452 : decode cL_law 452 = .ok (.iaload, 1) := by decide +kernel
theorem dL_law_453 : decode cL_law 453 = .ok (.aload_n 0, 1) := by decide +kernel
theorem dL_law_454 : decode cL_law 454 = .ok (.iload_n 3, 1) := by decide +kernel
theorem dL_law_455 : decode cL_law 455 = .ok (.iconst 2, 1) := by decide +kernel
theorem dL_law_456 : decode cL_law 456 = .ok (.iadd, 1) := by decide +kernel
theorem dL_law_457 : decode cL_law 457 = .ok (.iaload, 1) := by decide +kernel
theorem dL_law_458 : decode cL_law 458 = .ok (.aload_n 0, 1) := by decide +kernel
theorem dL_law_459 : decode cL_law 459 = .ok (.iload_n 3, 1) := by decide +kernel
theorem dL_law_460 : decode cL_law 460 = .ok (.iconst 3, 1) := by decide +kernel
theorem dL_law_461 : decode cL_law 461 = .ok (.iadd, 1) := by decide +kernel
theorem dL_law_462 : decode cL_law 462 = .ok (.iaload, 1) := by decide +kernel
theorem dL_law_463 : decode cL_law 463 = .ok (.aload_n 0, 1) := by decide +kernel
theorem dL_law_464 : decode cL_law 464 = .ok (.iload_n 3, 1) := by decide +kernel
theorem dL_law_465 : decode cL_law 465 = .ok (.iconst 4, 1) := by decide +kernel
theorem dL_law_466 : decode cL_law 466 = .ok (.iadd, 1) := by decide +kernel
theorem dL_law_467 : decode cL_law 467 = .ok (.iaload, 1) := by decide +kernel
theorem dL_law_468 : decode cL_law 468 = .ok (.invokevirtual 54, 3) := by decide +kernel
theorem dL_law_471 : decode cL_law 471 = .ok (.aload_n 2, 1) := by decide +kernel
theorem dL_law_472 : decode cL_law 472 = .ok (.aload_n 0, 1) := by decide +kernel
theorem dL_law_473 : decode cL_law 473 = .ok (.iload_n 3, 1) := by decide +kernel
theorem dL_law_474 : decode cL_law 474 = .ok (.iconst 1, 1) := by decide +kernel
theorem dL_law_475 : decode cL_law 475 = .ok (.iadd, 1) := by decide +kernel
theorem dL_law_476 : decode cL_law 476 = .ok (.iaload, 1) := by decide +kernel
theorem dL_law_477 : decode cL_law 477 = .ok (.aload_n 0, 1) := by decide +kernel
theorem dL_law_478 : decode cL_law 478 = .ok (.iload_n 3, 1) := by decide +kernel
theorem dL_law_479 : decode cL_law 479 = .ok (.iconst 2, 1) := by decide +kernel
theorem dL_law_480 : decode cL_law 480 = .ok (.iadd, 1) := by decide +kernel
theorem dL_law_481 : decode cL_law 481 = .ok (.iaload, 1) := by decide +kernel
theorem dL_law_482 : decode cL_law 482 = .ok (.aload_n 0, 1) := by decide +kernel
theorem dL_law_483 : decode cL_law 483 = .ok (.iload_n 3, 1) := by decide +kernel
theorem dL_law_484 : decode cL_law 484 = .ok (.iconst 3, 1) := by decide +kernel
theorem dL_law_485 : decode cL_law 485 = .ok (.iadd, 1) := by decide +kernel
theorem dL_law_486 : decode cL_law 486 = .ok (.iaload, 1) := by decide +kernel
theorem dL_law_487 : decode cL_law 487 = .ok (.aload_n 0, 1) := by decide +kernel
theorem dL_law_488 : decode cL_law 488 = .ok (.iload_n 3, 1) := by decide +kernel
theorem dL_law_489 : decode cL_law 489 = .ok (.iconst 4, 1) := by decide +kernel
theorem dL_law_490 : decode cL_law 490 = .ok (.iadd, 1) := by decide +kernel
theorem dL_law_491 : decode cL_law 491 = .ok (.iaload, 1) := by decide +kernel
theorem dL_law_492 : decode cL_law 492 = .ok (.invokevirtual 57, 3) := by decide +kernel
theorem dL_law_495 : decode cL_law 495 = .ok (.if_icmp .eq 355, 3) := by decide +kernel
theorem dL_law_498 : decode cL_law 498 = .ok (.iconst 0, 1) := by decide +kernel
theorem dL_law_499 : decode cL_law 499 = .ok (.ireturn, 1) := by decide +kernel
theorem dL_law_500 : decode cL_law 500 = .ok (.aload_n 1, 1) := by decide +kernel
theorem dL_law_501 : decode cL_law 501 = .ok (.aload_n 0, 1) := by decide +kernel
theorem dL_law_502 : decode cL_law 502 = .ok (.iload_n 3, 1) := by decide +kernel
theorem dL_law_503 : decode cL_law 503 = .ok (.iconst 1, 1) := by decide +kernel
theorem dL_law_504 : decode cL_law 504 = .ok (.iadd, 1) := by decide +kernel
theorem dL_law_505 : decode cL_law 505 = .ok (.iaload, 1) := by decide +kernel
theorem dL_law_506 : decode cL_law 506 = .ok (.aload_n 0, 1) := by decide +kernel
theorem dL_law_507 : decode cL_law 507 = .ok (.iload_n 3, 1) := by decide +kernel
theorem dL_law_508 : decode cL_law 508 = .ok (.iconst 2, 1) := by decide +kernel
theorem dL_law_509 : decode cL_law 509 = .ok (.iadd, 1) := by decide +kernel
theorem dL_law_510 : decode cL_law 510 = .ok (.iaload, 1) := by decide +kernel
theorem dL_law_511 : decode cL_law 511 = .ok (.aload_n 0, 1) := by decide +kernel
theorem dL_law_512 : decode cL_law 512 = .ok (.iload_n 3, 1) := by decide +kernel
theorem dL_law_513 : decode cL_law 513 = .ok (.iconst 3, 1) := by decide +kernel
theorem dL_law_514 : decode cL_law 514 = .ok (.iadd, 1) := by decide +kernel
theorem dL_law_515 : decode cL_law 515 = .ok (.iaload, 1) := by decide +kernel
theorem dL_law_516 : decode cL_law 516 = .ok (.invokevirtual 58, 3) := by decide +kernel
theorem dL_law_519 : decode cL_law 519 = .ok (.aload_n 2, 1) := by decide +kernel
theorem dL_law_520 : decode cL_law 520 = .ok (.aload_n 0, 1) := by decide +kernel
theorem dL_law_521 : decode cL_law 521 = .ok (.iload_n 3, 1) := by decide +kernel
theorem dL_law_522 : decode cL_law 522 = .ok (.iconst 1, 1) := by decide +kernel
theorem dL_law_523 : decode cL_law 523 = .ok (.iadd, 1) := by decide +kernel
theorem dL_law_524 : decode cL_law 524 = .ok (.iaload, 1) := by decide +kernel
theorem dL_law_525 : decode cL_law 525 = .ok (.aload_n 0, 1) := by decide +kernel
theorem dL_law_526 : decode cL_law 526 = .ok (.iload_n 3, 1) := by decide +kernel
theorem dL_law_527 : decode cL_law 527 = .ok (.iconst 2, 1) := by decide +kernel
theorem dL_law_528 : decode cL_law 528 = .ok (.iadd, 1) := by decide +kernel
theorem dL_law_529 : decode cL_law 529 = .ok (.iaload, 1) := by decide +kernel
theorem dL_law_530 : decode cL_law 530 = .ok (.aload_n 0, 1) := by decide +kernel
theorem dL_law_531 : decode cL_law 531 = .ok (.iload_n 3, 1) := by decide +kernel
theorem dL_law_532 : decode cL_law 532 = .ok (.iconst 3, 1) := by decide +kernel
theorem dL_law_533 : decode cL_law 533 = .ok (.iadd, 1) := by decide +kernel
theorem dL_law_534 : decode cL_law 534 = .ok (.iaload, 1) := by decide +kernel
theorem dL_law_535 : decode cL_law 535 = .ok (.invokevirtual 61, 3) := by decide +kernel
theorem dL_law_538 : decode cL_law 538 = .ok (.if_icmp .eq 312, 3) := by decide +kernel
theorem dL_law_541 : decode cL_law 541 = .ok (.iconst 0, 1) := by decide +kernel
theorem dL_law_542 : decode cL_law 542 = .ok (.ireturn, 1) := by decide +kernel
theorem dL_law_543 : decode cL_law 543 = .ok (.aload_n 1, 1) := by decide +kernel
theorem dL_law_544 : decode cL_law 544 = .ok (.aload_n 0, 1) := by decide +kernel
theorem dL_law_545 : decode cL_law 545 = .ok (.iload_n 3, 1) := by decide +kernel
theorem dL_law_546 : decode cL_law 546 = .ok (.iconst 1, 1) := by decide +kernel
theorem dL_law_547 : decode cL_law 547 = .ok (.iadd, 1) := by decide +kernel
theorem dL_law_548 : decode cL_law 548 = .ok (.iaload, 1) := by decide +kernel
theorem dL_law_549 : decode cL_law 549 = .ok (.aload_n 0, 1) := by decide +kernel
theorem dL_law_550 : decode cL_law 550 = .ok (.iload_n 3, 1) := by decide +kernel
theorem dL_law_551 : decode cL_law 551 = .ok (.iconst 2, 1) := by decide +kernel
theorem dL_law_552 : decode cL_law 552 = .ok (.iadd, 1) := by decide +kernel
theorem dL_law_553 : decode cL_law 553 = .ok (.iaload, 1) := by decide +kernel
theorem dL_law_554 : decode cL_law 554 = .ok (.aload_n 0, 1) := by decide +kernel
theorem dL_law_555 : decode cL_law 555 = .ok (.iload_n 3, 1) := by decide +kernel
theorem dL_law_556 : decode cL_law 556 = .ok (.iconst 3, 1) := by decide +kernel
theorem dL_law_557 : decode cL_law 557 = .ok (.iadd, 1) := by decide +kernel
theorem dL_law_558 : decode cL_law 558 = .ok (.iaload, 1) := by decide +kernel
theorem dL_law_559 : decode cL_law 559 = .ok (.invokevirtual 62, 3) := by decide +kernel
theorem dL_law_562 : decode cL_law 562 = .ok (.aload_n 2, 1) := by decide +kernel
theorem dL_law_563 : decode cL_law 563 = .ok (.aload_n 0, 1) := by decide +kernel
theorem dL_law_564 : decode cL_law 564 = .ok (.iload_n 3, 1) := by decide +kernel
theorem dL_law_565 : decode cL_law 565 = .ok (.iconst 1, 1) := by decide +kernel
theorem dL_law_566 : decode cL_law 566 = .ok (.iadd, 1) := by decide +kernel
theorem dL_law_567 : decode cL_law 567 = .ok (.iaload, 1) := by decide +kernel
theorem dL_law_568 : decode cL_law 568 = .ok (.aload_n 0, 1) := by decide +kernel
theorem dL_law_569 : decode cL_law 569 = .ok (.iload_n 3, 1) := by decide +kernel
theorem dL_law_570 : decode cL_law 570 = .ok (.iconst 2, 1) := by decide +kernel
theorem dL_law_571 : decode cL_law 571 = .ok (.iadd, 1) := by decide +kernel
theorem dL_law_572 : decode cL_law 572 = .ok (.iaload, 1) := by decide +kernel
theorem dL_law_573 : decode cL_law 573 = .ok (.aload_n 0, 1) := by decide +kernel
theorem dL_law_574 : decode cL_law 574 = .ok (.iload_n 3, 1) := by decide +kernel
theorem dL_law_575 : decode cL_law 575 = .ok (.iconst 3, 1) := by decide +kernel
theorem dL_law_576 : decode cL_law 576 = .ok (.iadd, 1) := by decide +kernel
theorem dL_law_577 : decode cL_law 577 = .ok (.iaload, 1) := by decide +kernel
theorem dL_law_578 : decode cL_law 578 = .ok (.invokevirtual 65, 3) := by decide +kernel
theorem dL_law_581 : decode cL_law 581 = .ok (.if_icmp .eq 269, 3) := by decide +kernel
theorem dL_law_584 : decode cL_law 584 = .ok (.iconst 0, 1) := by decide +kernel
theorem dL_law_585 : decode cL_law 585 = .ok (.ireturn, 1) := by decide +kernel
theorem dL_law_586 : decode cL_law 586 = .ok (.aload_n 1, 1) := by decide +kernel
theorem dL_law_587 : decode cL_law 587 = .ok (.aload_n 0, 1) := by decide +kernel
theorem dL_law_588 : decode cL_law 588 = .ok (.iload_n 3, 1) := by decide +kernel
theorem dL_law_589 : decode cL_law 589 = .ok (.iconst 1, 1) := by decide +kernel
theorem dL_law_590 : decode cL_law 590 = .ok (.iadd, 1) := by decide +kernel
theorem dL_law_591 : decode cL_law 591 = .ok (.iaload, 1) := by decide +kernel
theorem dL_law_592 : decode cL_law 592 = .ok (.aload_n 0, 1) := by decide +kernel
theorem dL_law_593 : decode cL_law 593 = .ok (.iload_n 3, 1) := by decide +kernel
theorem dL_law_594 : decode cL_law 594 = .ok (.iconst 2, 1) := by decide +kernel
theorem dL_law_595 : decode cL_law 595 = .ok (.iadd, 1) := by decide +kernel
theorem dL_law_596 : decode cL_law 596 = .ok (.iaload, 1) := by decide +kernel
theorem dL_law_597 : decode cL_law 597 = .ok (.aload_n 0, 1) := by decide +kernel
theorem dL_law_598 : decode cL_law 598 = .ok (.iload_n 3, 1) := by decide +kernel
theorem dL_law_599 : decode cL_law 599 = .ok (.iconst 3, 1) := by decide +kernel
theorem dL_law_600 : decode cL_law 600 = .ok (.iadd, 1) := by decide +kernel
theorem dL_law_601 : decode cL_law 601 = .ok (.iaload, 1) := by decide +kernel
theorem dL_law_602 : decode cL_law 602 = .ok (.invokevirtual 66, 3) := by decide +kernel
theorem dL_law_605 : decode cL_law 605 = .ok (.aload_n 2, 1) := by decide +kernel
theorem dL_law_606 : decode cL_law 606 = .ok (.aload_n 0, 1) := by decide +kernel
theorem dL_law_607 : decode cL_law 607 = .ok (.iload_n 3, 1) := by decide +kernel
theorem dL_law_608 : decode cL_law 608 = .ok (.iconst 1, 1) := by decide +kernel
theorem dL_law_609 : decode cL_law 609 = .ok (.iadd, 1) := by decide +kernel
theorem dL_law_610 : decode cL_law 610 = .ok (.iaload, 1) := by decide +kernel
theorem dL_law_611 : decode cL_law 611 = .ok (.aload_n 0, 1) := by decide +kernel
theorem dL_law_612 : decode cL_law 612 = .ok (.iload_n 3, 1) := by decide +kernel
theorem dL_law_613 : decode cL_law 613 = .ok (.iconst 2, 1) := by decide +kernel
theorem dL_law_614 : decode cL_law 614 = .ok (.iadd, 1) := by decide +kernel
theorem dL_law_615 : decode cL_law 615 = .ok (.iaload, 1) := by decide +kernel
theorem dL_law_616 : decode cL_law 616 = .ok (.aload_n 0, 1) := by decide +kernel
theorem dL_law_617 : decode cL_law 617 = .ok (.iload_n 3, 1) := by decide +kernel
theorem dL_law_618 : decode cL_law 618 = .ok (.iconst 3, 1) := by decide +kernel
theorem dL_law_619 : decode cL_law 619 = .ok (.iadd, 1) := by decide +kernel
theorem dL_law_620 : decode cL_law 620 = .ok (.iaload, 1) := by decide +kernel
theorem dL_law_621 : decode cL_law 621 = .ok (.invokevirtual 69, 3) := by decide +kernel
theorem dL_law_624 : decode cL_law 624 = .ok (.if_icmp .eq 226, 3) := by decide +kernel
theorem dL_law_627 : decode cL_law 627 = .ok (.iconst 0, 1) := by decide +kernel
theorem dL_law_628 : decode cL_law 628 = .ok (.ireturn, 1) := by decide +kernel
theorem dL_law_629 : decode cL_law 629 = .ok (.aload_n 1, 1) := by decide +kernel
theorem dL_law_630 : decode cL_law 630 = .ok (.aload_n 0, 1) := by decide +kernel
theorem dL_law_631 : decode cL_law 631 = .ok (.iload_n 3, 1) := by decide +kernel
theorem dL_law_632 : decode cL_law 632 = .ok (.iconst 1, 1) := by decide +kernel
theorem dL_law_633 : decode cL_law 633 = .ok (.iadd, 1) := by decide +kernel
theorem dL_law_634 : decode cL_law 634 = .ok (.iaload, 1) := by decide +kernel
theorem dL_law_635 : decode cL_law 635 = .ok (.aload_n 0, 1) := by decide +kernel
theorem dL_law_636 : decode cL_law 636 = .ok (.iload_n 3, 1) := by decide +kernel
theorem dL_law_637 : decode cL_law 637 = .ok (.iconst 2, 1) := by decide +kernel
theorem dL_law_638 : decode cL_law 638 = .ok (.iadd, 1) := by decide +kernel
theorem dL_law_639 : decode cL_law 639 = .ok (.iaload, 1) := by decide +kernel
theorem dL_law_640 : decode cL_law 640 = .ok (.aload_n 0, 1) := by decide +kernel
theorem dL_law_641 : decode cL_law 641 = .ok (.iload_n 3, 1) := by decide +kernel
theorem dL_law_642 : decode cL_law 642 = .ok (.iconst 3, 1) := by decide +kernel
theorem dL_law_643 : decode cL_law 643 = .ok (.iadd, 1) := by decide +kernel
theorem dL_law_644 : decode cL_law 644 = .ok (.iaload, 1) := by decide +kernel
theorem dL_law_645 : decode cL_law 645 = .ok (.invokevirtual 70, 3) := by decide +kernel
theorem dL_law_648 : decode cL_law 648 = .ok (.aload_n 2, 1) := by decide +kernel
theorem dL_law_649 : decode cL_law 649 = .ok (.aload_n 0, 1) := by decide +kernel
theorem dL_law_650 : decode cL_law 650 = .ok (.iload_n 3, 1) := by decide +kernel
theorem dL_law_651 : decode cL_law 651 = .ok (.iconst 1, 1) := by decide +kernel
theorem dL_law_652 : decode cL_law 652 = .ok (.iadd, 1) := by decide +kernel
theorem dL_law_653 : decode cL_law 653 = .ok (.iaload, 1) := by decide +kernel
theorem dL_law_654 : decode cL_law 654 = .ok (.aload_n 0, 1) := by decide +kernel
theorem dL_law_655 : decode cL_law 655 = .ok (.iload_n 3, 1) := by decide +kernel
theorem dL_law_656 : decode cL_law 656 = .ok (.iconst 2, 1) := by decide +kernel
theorem dL_law_657 : decode cL_law 657 = .ok (.iadd, 1) := by decide +kernel
theorem dL_law_658 : decode cL_law 658 = .ok (.iaload, 1) := by decide +kernel
theorem dL_law_659 : decode cL_law 659 = .ok (.aload_n 0, 1) := by decide +kernel
theorem dL_law_660 : decode cL_law 660 = .ok (.iload_n 3, 1) := by decide +kernel
theorem dL_law_661 : decode cL_law 661 = .ok (.iconst 3, 1) := by decide +kernel
theorem dL_law_662 : decode cL_law 662 = .ok (.iadd, 1) := by decide +kernel
theorem dL_law_663 : decode cL_law 663 = .ok (.iaload, 1) := by decide +kernel
theorem dL_law_664 : decode cL_law 664 = .ok (.invokevirtual 73, 3) := by decide +kernel
theorem dL_law_667 : decode cL_law 667 = .ok (.if_icmp .eq 183, 3) := by decide +kernel
theorem dL_law_670 : decode cL_law 670 = .ok (.iconst 0, 1) := by decide +kernel
theorem dL_law_671 : decode cL_law 671 = .ok (.ireturn, 1) := by decide +kernel
theorem dL_law_672 : decode cL_law 672 = .ok (.aload_n 1, 1) := by decide +kernel
theorem dL_law_673 : decode cL_law 673 = .ok (.aload_n 0, 1) := by decide +kernel
theorem dL_law_674 : decode cL_law 674 = .ok (.iload_n 3, 1) := by decide +kernel
theorem dL_law_675 : decode cL_law 675 = .ok (.iconst 1, 1) := by decide +kernel
theorem dL_law_676 : decode cL_law 676 = .ok (.iadd, 1) := by decide +kernel
theorem dL_law_677 : decode cL_law 677 = .ok (.iaload, 1) := by decide +kernel
theorem dL_law_678 : decode cL_law 678 = .ok (.aload_n 0, 1) := by decide +kernel
theorem dL_law_679 : decode cL_law 679 = .ok (.iload_n 3, 1) := by decide +kernel
theorem dL_law_680 : decode cL_law 680 = .ok (.iconst 2, 1) := by decide +kernel
theorem dL_law_681 : decode cL_law 681 = .ok (.iadd, 1) := by decide +kernel
theorem dL_law_682 : decode cL_law 682 = .ok (.iaload, 1) := by decide +kernel
theorem dL_law_683 : decode cL_law 683 = .ok (.invokevirtual 74, 3) := by decide +kernel
theorem dL_law_686 : decode cL_law 686 = .ok (.aload_n 2, 1) := by decide +kernel
theorem dL_law_687 : decode cL_law 687 = .ok (.aload_n 0, 1) := by decide +kernel
theorem dL_law_688 : decode cL_law 688 = .ok (.iload_n 3, 1) := by decide +kernel
theorem dL_law_689 : decode cL_law 689 = .ok (.iconst 1, 1) := by decide +kernel
theorem dL_law_690 : decode cL_law 690 = .ok (.iadd, 1) := by decide +kernel
theorem dL_law_691 : decode cL_law 691 = .ok (.iaload, 1) := by decide +kernel
theorem dL_law_692 : decode cL_law 692 = .ok (.aload_n 0, 1) := by decide +kernel
theorem dL_law_693 : decode cL_law 693 = .ok (.iload_n 3, 1) := by decide +kernel
theorem dL_law_694 : decode cL_law 694 = .ok (.iconst 2, 1) := by decide +kernel
theorem dL_law_695 : decode cL_law 695 = .ok (.iadd, 1) := by decide +kernel
theorem dL_law_696 : decode cL_law 696 = .ok (.iaload, 1) := by decide +kernel
theorem dL_law_697 : decode cL_law 697 = .ok (.invokevirtual 77, 3) := by decide +kernel
theorem dL_law_700 : decode cL_law 700 = .ok (.if_icmp .eq 150, 3) := by decide +kernel
theorem dL_law_703 : decode cL_law 703 = .ok (.iconst 0, 1) := by decide +kernel
theorem dL_law_704 : decode cL_law 704 = .ok (.ireturn, 1) := by decide +kernel
theorem dL_law_705 : decode cL_law 705 = .ok (.aload_n 1, 1) := by decide +kernel
theorem dL_law_706 : decode cL_law 706 = .ok (.aload_n 0, 1) := by decide +kernel
theorem dL_law_707 : decode cL_law 707 = .ok (.iload_n 3, 1) := by decide +kernel
theorem dL_law_708 : decode cL_law 708 = .ok (.iconst 1, 1) := by decide +kernel
theorem dL_law_709 : decode cL_law 709 = .ok (.iadd, 1) := by decide +kernel
theorem dL_law_710 : decode cL_law 710 = .ok (.iaload, 1) := by decide +kernel
theorem dL_law_711 : decode cL_law 711 = .ok (.invokevirtual 78, 3) := by decide +kernel
theorem dL_law_714 : decode cL_law 714 = .ok (.aload_n 2, 1) := by decide +kernel
theorem dL_law_715 : decode cL_law 715 = .ok (.aload_n 0, 1) := by decide +kernel
theorem dL_law_716 : decode cL_law 716 = .ok (.iload_n 3, 1) := by decide +kernel
theorem dL_law_717 : decode cL_law 717 = .ok (.iconst 1, 1) := by decide +kernel
theorem dL_law_718 : decode cL_law 718 = .ok (.iadd, 1) := by decide +kernel
theorem dL_law_719 : decode cL_law 719 = .ok (.iaload, 1) := by decide +kernel
theorem dL_law_720 : decode cL_law 720 = .ok (.invokevirtual 81, 3) := by decide +kernel
theorem dL_law_723 : decode cL_law 723 = .ok (.if_icmp .eq 127, 3) := by decide +kernel
theorem dL_law_726 : decode cL_law 726 = .ok (.iconst 0, 1) := by decide +kernel
theorem dL_law_727 : decode cL_law 727 = .ok (.ireturn, 1) := by decide +kernel
theorem dL_law_728 : decode cL_law 728 = .ok (.aload_n 1, 1) := by decide +kernel
theorem dL_law_729 : decode cL_law 729 = .ok (.aload_n 0, 1) := by decide +kernel
theorem dL_law_730 : decode cL_law 730 = .ok (.iload_n 3, 1) := by decide +kernel
theorem dL_law_731 : decode cL_law 731 = .ok (.iconst 1, 1) := by decide +kernel
theorem dL_law_732 : decode cL_law 732 = .ok (.iadd, 1) := by decide +kernel
theorem dL_law_733 : decode cL_law 733 = .ok (.iaload, 1) := by decide +kernel
theorem dL_law_734 : decode cL_law 734 = .ok (.invokevirtual 82, 3) := by decide +kernel
theorem dL_law_737 : decode cL_law 737 = .ok (.aload_n 2, 1) := by decide +kernel
theorem dL_law_738 : decode cL_law 738 = .ok (.aload_n 0, 1) := by decide +kernel
theorem dL_law_739 : decode cL_law 739 = .ok (.iload_n 3, 1) := by decide +kernel
theorem dL_law_740 : decode cL_law 740 = .ok (.iconst 1, 1) := by decide +kernel
theorem dL_law_741 : decode cL_law 741 = .ok (.iadd, 1) := by decide +kernel
theorem dL_law_742 : decode cL_law 742 = .ok (.iaload, 1) := by decide +kernel
theorem dL_law_743 : decode cL_law 743 = .ok (.invokevirtual 85, 3) := by decide +kernel
theorem dL_law_746 : decode cL_law 746 = .ok (.if_icmp .eq 104, 3) := by decide +kernel
theorem dL_law_749 : decode cL_law 749 = .ok (.iconst 0, 1) := by decide +kernel
theorem dL_law_750 : decode cL_law 750 = .ok (.ireturn, 1) := by decide +kernel
theorem dL_law_751 : decode cL_law 751 = .ok (.aload_n 1, 1) := by decide +kernel
theorem dL_law_752 : decode cL_law 752 = .ok (.aload_n 0, 1) := by decide +kernel
theorem dL_law_753 : decode cL_law 753 = .ok (.iload_n 3, 1) := by decide +kernel
theorem dL_law_754 : decode cL_law 754 = .ok (.iconst 1, 1) := by decide +kernel
theorem dL_law_755 : decode cL_law 755 = .ok (.iadd, 1) := by decide +kernel
theorem dL_law_756 : decode cL_law 756 = .ok (.iaload, 1) := by decide +kernel
theorem dL_law_757 : decode cL_law 757 = .ok (.invokevirtual 86, 3) := by decide +kernel
theorem dL_law_760 : decode cL_law 760 = .ok (.aload_n 2, 1) := by decide +kernel
theorem dL_law_761 : decode cL_law 761 = .ok (.aload_n 0, 1) := by decide +kernel
theorem dL_law_762 : decode cL_law 762 = .ok (.iload_n 3, 1) := by decide +kernel
theorem dL_law_763 : decode cL_law 763 = .ok (.iconst 1, 1) := by decide +kernel
theorem dL_law_764 : decode cL_law 764 = .ok (.iadd, 1) := by decide +kernel
theorem dL_law_765 : decode cL_law 765 = .ok (.iaload, 1) := by decide +kernel
theorem dL_law_766 : decode cL_law 766 = .ok (.invokevirtual 89, 3) := by decide +kernel
theorem dL_law_769 : decode cL_law 769 = .ok (.if_icmp .eq 81, 3) := by decide +kernel
theorem dL_law_772 : decode cL_law 772 = .ok (.iconst 0, 1) := by decide +kernel
theorem dL_law_773 : decode cL_law 773 = .ok (.ireturn, 1) := by decide +kernel
theorem dL_law_774 : decode cL_law 774 = .ok (.aload_n 1, 1) := by decide +kernel
theorem dL_law_775 : decode cL_law 775 = .ok (.invokevirtual 90, 3) := by decide +kernel
theorem dL_law_778 : decode cL_law 778 = .ok (.aload_n 2, 1) := by decide +kernel
theorem dL_law_779 : decode cL_law 779 = .ok (.invokevirtual 93, 3) := by decide +kernel
theorem dL_law_782 : decode cL_law 782 = .ok (.if_icmp .eq 68, 3) := by decide +kernel
theorem dL_law_785 : decode cL_law 785 = .ok (.iconst 0, 1) := by decide +kernel
theorem dL_law_786 : decode cL_law 786 = .ok (.ireturn, 1) := by decide +kernel
theorem dL_law_787 : decode cL_law 787 = .ok (.aload_n 1, 1) := by decide +kernel
theorem dL_law_788 : decode cL_law 788 = .ok (.invokevirtual 94, 3) := by decide +kernel
theorem dL_law_791 : decode cL_law 791 = .ok (.aload_n 2, 1) := by decide +kernel
theorem dL_law_792 : decode cL_law 792 = .ok (.invokevirtual 97, 3) := by decide +kernel
theorem dL_law_795 : decode cL_law 795 = .ok (.if_icmp .eq 55, 3) := by decide +kernel
theorem dL_law_798 : decode cL_law 798 = .ok (.iconst 0, 1) := by decide +kernel
theorem dL_law_799 : decode cL_law 799 = .ok (.ireturn, 1) := by decide +kernel
theorem dL_law_800 : decode cL_law 800 = .ok (.aload_n 1, 1) := by decide +kernel
theorem dL_law_801 : decode cL_law 801 = .ok (.invokevirtual 98, 3) := by decide +kernel
theorem dL_law_804 : decode cL_law 804 = .ok (.aload_n 2, 1) := by decide +kernel
theorem dL_law_805 : decode cL_law 805 = .ok (.invokevirtual 101, 3) := by decide +kernel
theorem dL_law_808 : decode cL_law 808 = .ok (.if_icmp .eq 42, 3) := by decide +kernel
theorem dL_law_811 : decode cL_law 811 = .ok (.iconst 0, 1) := by decide +kernel
theorem dL_law_812 : decode cL_law 812 = .ok (.ireturn, 1) := by decide +kernel
theorem dL_law_813 : decode cL_law 813 = .ok (.aload_n 1, 1) := by decide +kernel
theorem dL_law_814 : decode cL_law 814 = .ok (.aload_n 0, 1) := by decide +kernel
theorem dL_law_815 : decode cL_law 815 = .ok (.iload_n 3, 1) := by decide +kernel
theorem dL_law_816 : decode cL_law 816 = .ok (.iconst 1, 1) := by decide +kernel
theorem dL_law_817 : decode cL_law 817 = .ok (.iadd, 1) := by decide +kernel
theorem dL_law_818 : decode cL_law 818 = .ok (.iaload, 1) := by decide +kernel
theorem dL_law_819 : decode cL_law 819 = .ok (.invokevirtual 102, 3) := by decide +kernel
theorem dL_law_822 : decode cL_law 822 = .ok (.aload_n 2, 1) := by decide +kernel
theorem dL_law_823 : decode cL_law 823 = .ok (.aload_n 0, 1) := by decide +kernel
theorem dL_law_824 : decode cL_law 824 = .ok (.iload_n 3, 1) := by decide +kernel
theorem dL_law_825 : decode cL_law 825 = .ok (.iconst 1, 1) := by decide +kernel
theorem dL_law_826 : decode cL_law 826 = .ok (.iadd, 1) := by decide +kernel
theorem dL_law_827 : decode cL_law 827 = .ok (.iaload, 1) := by decide +kernel
theorem dL_law_828 : decode cL_law 828 = .ok (.invokevirtual 105, 3) := by decide +kernel
theorem dL_law_831 : decode cL_law 831 = .ok (.if_icmp .eq 19, 3) := by decide +kernel
theorem dL_law_834 : decode cL_law 834 = .ok (.iconst 0, 1) := by decide +kernel
theorem dL_law_835 : decode cL_law 835 = .ok (.ireturn, 1) := by decide +kernel
theorem dL_law_836 : decode cL_law 836 = .ok (.aload_n 1, 1) := by decide +kernel
theorem dL_law_837 : decode cL_law 837 = .ok (.invokevirtual 106, 3) := by decide +kernel
theorem dL_law_840 : decode cL_law 840 = .ok (.aload_n 2, 1) := by decide +kernel
theorem dL_law_841 : decode cL_law 841 = .ok (.invokevirtual 110, 3) := by decide +kernel
theorem dL_law_844 : decode cL_law 844 = .ok (.lcmp, 1) := by decide +kernel
theorem dL_law_845 : decode cL_law 845 = .ok (.ifCond .eq 5, 3) := by decide +kernel
theorem dL_law_848 : decode cL_law 848 = .ok (.iconst 0, 1) := by decide +kernel
theorem dL_law_849 : decode cL_law 849 = .ok (.ireturn, 1) := by decide +kernel
theorem dL_law_850 : decode cL_law 850 = .ok (.iinc 3 5, 3) := by decide +kernel
theorem dL_law_853 : decode cL_law 853 = .ok (.goto (-835), 3) := by decide +kernel
theorem dL_law_856 : decode cL_law 856 = .ok (.iconst 1, 1) := by decide +kernel
theorem dL_law_857 : decode cL_law 857 = .ok (.ireturn, 1) := by decide +kernel
end
section
-- ===== the mini heap: by cells; ints (fields by their slots, rows by their places), longs likewise =====
abbrev HT : Type := (Nat → Nat → Int32) × (Nat → Nat → Int64)
def wG (en : Nat → (Nat → Int32) → (Nat → Int64) → va_E) (n : Nat) (ad : Nat → Nat) (x : HT) : va_W := (List.range n).map (fun k => (ad k, en k (x.1 k) (x.2 k)))
theorem wG_at {en : Nat → (Nat → Int32) → (Nat → Int64) → va_E} {n : Nat} {ad : Nat → Nat} {x : HT} {k : Nat} (hk : k < n) : (wG en n ad x)[k]? = some (ad k, en k (x.1 k) (x.2 k)) := by
  simp [wG, hk]
theorem wG_some {en : Nat → (Nat → Int32) → (Nat → Int64) → va_E} {n : Nat} {ad : Nat → Nat} {x : HT} {k : Nat} {q : Nat × va_E} (h : (wG en n ad x)[k]? = some q) : k < n ∧ q = (ad k, en k (x.1 k) (x.2 k)) := by
  have hl : k < (wG en n ad x).length := (List.getElem?_eq_some_iff.mp h).1
  have hk : k < n := by simpa [wG] using hl
  rw [wG_at hk] at h
  exact ⟨hk, (Option.some.inj h).symm⟩
theorem wG_set {en : Nat → (Nat → Int32) → (Nat → Int64) → va_E} {n : Nat} {ad : Nat → Nat} {x x' : HT} {k : Nat} {v : va_E} (h1 : en k (x'.1 k) (x'.2 k) = v) (h2 : ∀ j, j ≠ k → x'.1 j = x.1 j ∧ x'.2 j = x.2 j) : (wG en n ad x).set k (ad k, v) = wG en n ad x' := by
  apply List.ext_getElem?
  intro j
  rw [List.getElem?_set]
  by_cases hj : j < n
  · rw [wG_at (x := x') hj]
    by_cases e : k = j
    · subst e
      have hl : k < (wG en n ad x).length := by simpa [wG] using hj
      simp [hl, h1]
    · rw [if_neg e, wG_at hj]
      obtain ⟨a, b⟩ := h2 j (fun q => e q.symm)
      rw [a, b]
  · have hl : (wG en n ad x).length = n := by simp [wG]
    have hl' : (wG en n ad x').length = n := by simp [wG]
    rw [List.getElem?_eq_none (l := wG en n ad x') (by omega), List.getElem?_eq_none (l := wG en n ad x) (by omega)]
    by_cases e : k = j
    · subst e
      simp [hl, hj]
    · simp [e]
def apart (ad : Nat → Nat) (A : Nat → Prop) (n : Nat) : Prop := (∀ i j, i < n → j < n → ad i = ad j → i = j) ∧ ∀ k, k < n → A (ad k)
theorem wG_D {en : Nat → (Nat → Int32) → (Nat → Int64) → va_E} {n : Nat} {ad : Nat → Nat} {A : Nat → Prop} {x : HT} (h : apart ad A n) : va_D A (wG en n ad x) := by
  refine ⟨fun i j p q hp hq e => ?_, fun k q hq => ?_⟩
  · obtain ⟨h1, rfl⟩ := wG_some hp
    obtain ⟨h2, rfl⟩ := wG_some hq
    exact h.1 i j h1 h2 e
  · obtain ⟨h1, rfl⟩ := wG_some hq
    exact h.2 k h1
-- writes
def sI (x : HT) (k i : Nat) (v : Int32) : HT := (va_up x.1 k (upd (x.1 k) i v), x.2)
def sL (x : HT) (k i : Nat) (v : Int64) : HT := (x.1, va_up x.2 k (vp_updL (x.2 k) i v))
def sA (x : HT) (k : Nat) (f : Nat → Int32) : HT := (va_up x.1 k f, x.2)
def sB (x : HT) (k : Nat) (f : Nat → Int64) : HT := (x.1, va_up x.2 k f)
theorem sI_ne {x : HT} {k i : Nat} {v : Int32} : ∀ j, j ≠ k → (sI x k i v).1 j = x.1 j ∧ (sI x k i v).2 j = x.2 j := fun j h => ⟨by simp [sI, va_up, h], rfl⟩
theorem sL_ne {x : HT} {k i : Nat} {v : Int64} : ∀ j, j ≠ k → (sL x k i v).1 j = x.1 j ∧ (sL x k i v).2 j = x.2 j := fun j h => ⟨rfl, by simp [sL, va_up, h]⟩
theorem sA_ne {x : HT} {k : Nat} {f : Nat → Int32} : ∀ j, j ≠ k → (sA x k f).1 j = x.1 j ∧ (sA x k f).2 j = x.2 j := fun j h => ⟨by simp [sA, va_up, h], rfl⟩
theorem sB_ne {x : HT} {k : Nat} {f : Nat → Int64} : ∀ j, j ≠ k → (sB x k f).1 j = x.1 j ∧ (sB x k f).2 j = x.2 j := fun j h => ⟨rfl, by simp [sB, va_up, h]⟩
theorem sI_at {x : HT} {k i : Nat} {v : Int32} : (sI x k i v).1 k = upd (x.1 k) i v ∧ (sI x k i v).2 k = x.2 k := ⟨by simp [sI, va_up], rfl⟩
theorem sL_at {x : HT} {k i : Nat} {v : Int64} : (sL x k i v).1 k = x.1 k ∧ (sL x k i v).2 k = vp_updL (x.2 k) i v := ⟨rfl, by simp [sL, va_up]⟩
theorem sA_at {x : HT} {k : Nat} {f : Nat → Int32} : (sA x k f).1 k = f ∧ (sA x k f).2 k = x.2 k := ⟨by simp [sA, va_up], rfl⟩
theorem sB_at {x : HT} {k : Nat} {f : Nat → Int64} : (sB x k f).1 k = x.1 k ∧ (sB x k f).2 k = f := ⟨rfl, by simp [sB, va_up]⟩
-- the pieces that the functions are made of
def inb (i : Int32) (n : Nat) : Bool := !(decide (i < 0)) && decide (i.toNatClampNeg < n)
theorem inb_in {i : Int32} {n : Nat} (h : inb i n = true) : vp_in i n := by
  simp only [inb, Bool.and_eq_true, Bool.not_eq_true', decide_eq_false_iff_not, decide_eq_true_eq] at h
  exact fun q => q.elim h.1 (fun z => by omega)
def ck {β : Type} (b : Bool) (k : Option β) : Option β := match b with
  | true => k
  | false => none
theorem ck_some {β : Type} {b : Bool} {k : Option β} {z : β} (h : ck b k = some z) : b = true ∧ k = some z := by
  cases b
  · cases h
  · exact ⟨rfl, h⟩
def bd {α β : Type} (o : Option (α × HT)) (k : α → HT → Option β) : Option β := match o with
  | some q => k q.1 q.2
  | none => none
theorem bd_some {α β : Type} {o : Option (α × HT)} {k : α → HT → Option β} {z : β} (h : bd o k = some z) : ∃ (r : α) (u : HT), o = some (r, u) ∧ k r u = some z := by
  cases o with
  | none => cases h
  | some q => exact ⟨q.1, q.2, rfl, h⟩
def lt_ {α β : Type} (a : α) (k : α → β) : β := k a
theorem lt_some {α β : Type} {a : α} {k : α → β} {z : β} (h : lt_ a k = z) : ∃ y : α, y = a ∧ k y = z := ⟨a, rfl, h⟩
theorem it_t {β : Type} {c : Prop} {d : Decidable c} {a b r : β} (h : c) (hf : @ite β c d a b = r) : a = r := by rw [← hf, if_pos h]
theorem it_f {β : Type} {c : Prop} {d : Decidable c} {a b r : β} (h : ¬ c) (hf : @ite β c d a b = r) : b = r := by rw [← hf, if_neg h]
def nz (y : Int32) : Bool := decide (y ≠ 0)
theorem nz_ne {y : Int32} (h : nz y = true) : ¬ y = 0 := by simpa [nz] using h
def isb (y : Int32) : Bool := decide (y = 0) || decide (y = 1)
theorem isb_nar {y : Int32} (h : isb y = true) : narrow .boolean (.int y) = .int y := by
  simp only [isb, Bool.or_eq_true, decide_eq_true_eq] at h
  rcases h with rfl | rfl <;> rfl
-- the words
theorem wAll_of {w : Cond} {i : Nat} (h : lw_tbl[i]? = some w) (g : goodWord w = true) : w ∈ wAll := List.mem_filter.mpr ⟨List.mem_of_getElem? h, g⟩
theorem wAll_good {w : Cond} (h : w ∈ wAll) : (w.onTables && w.keeps) = true ∨ ∃ ty, w = .arrayClass ty := good_of_word (List.mem_filter.mp h).2
theorem gdS {w : List Cond} (h : ∀ q ∈ w, q ∈ wAll) : GoodIn wAll w := fun q hq => ⟨h q hq, wAll_good (h q hq)⟩
theorem gdC {w : Cond} (h : w ∈ wAll) : GoodIn wAll (w :: wAll) := gdS (fun q hq => (List.mem_cons.mp hq).elim (fun e => e ▸ h) id)
theorem gdV {own C : String} {idx : Nat} {y : MethodName} {w : Cond} (h1 : Cond.methodLink own idx y ∈ wAll) (h2 : Cond.instanceMethod y ∈ wAll) (h3 : Cond.selects C y y ∈ wAll) (h4 : Cond.initialized C ∈ wAll) (h5 : w ∈ wAll) : GoodIn wAll (wsV own idx C y (w :: wAll)) := gdS (fun q hq => by
  simp only [wsV, List.mem_append, List.mem_cons, List.not_mem_nil, or_false] at hq
  rcases hq with (rfl | rfl | rfl | rfl) | rfl | hq
  · exact h1
  · exact h2
  · exact h3
  · exact h4
  · exact h5
  · exact hq)
theorem gdSt {own : String} {idx : Nat} {y : MethodName} {w : Cond} (h1 : Cond.methodLink own idx y ∈ wAll) (h2 : Cond.static y ∈ wAll) (h4 : Cond.initialized y.cls ∈ wAll) (h5 : w ∈ wAll) : GoodIn wAll (va_wsS own idx y (w :: wAll)) := gdS (fun q hq => by
  simp only [va_wsS, List.mem_append, List.mem_cons, List.not_mem_nil, or_false] at hq
  rcases hq with (rfl | rfl | rfl) | rfl | hq
  · exact h1
  · exact h2
  · exact h4
  · exact h5
  · exact hq)
end
section
-- ===== rows over the mini heap =====
def tyL (cy : Nat → ClassId) : List (ClassId × FieldType) := [(cy 0, .int), (cy 1, .long), (cy 2, .boolean), (cy 3, .object "SnakeMesh$State"), (cy 4, .array .int)]
def xBy (k : Nat) : Int32 := if k = 0 then 1 else if k = 2 then -1 else 0
def yBy (k : Nat) : Int32 := if k = 1 then 1 else if k = 3 then -1 else 0
/-- the links to nest mates: they last, but by a law of their own -/
def NW (U : State) : Prop := va_Nw (Cond.fieldLinkNest RX0 36 "SnakeMesh" "X_BY_DIRECTION" "[I" "SnakeMesh") U ∧ va_Nw (Cond.fieldLinkNest RX0 39 "SnakeMesh" "Y_BY_DIRECTION" "[I" "SnakeMesh") U ∧ va_Nw (Cond.methodLinkNest RX6 11 yX2_init "SnakeMesh") U ∧ va_Nw (Cond.methodLinkNest RX1 17 yX2_init "SnakeMesh") U ∧ va_Nw (Cond.methodLinkNest RX6 31 yX0_init "SnakeMesh") U ∧ va_Nw (Cond.methodLinkNest RX6 38 yX5_init "SnakeMesh") U ∧ va_Nw (Cond.methodLinkNest RX6 54 yX3_init "SnakeMesh") U
theorem NW.warm {u U : State} (hW : u.WarmedH U.vm) (h : NW u) : NW U := ⟨va_Nw.warmF hW h.1, va_Nw.warmF hW h.2.1, va_Nw.warmM hW h.2.2.1, va_Nw.warmM hW h.2.2.2.1, va_Nw.warmM hW h.2.2.2.2.1, va_Nw.warmM hW h.2.2.2.2.2.1, va_Nw.warmM hW h.2.2.2.2.2.2⟩
theorem NW.same {u U : State} (hv : u.vm = U.vm) (h : NW u) : NW U := ⟨va_Nw.same rfl hv h.1, va_Nw.same rfl hv h.2.1, va_Nw.same rfl hv h.2.2.1, va_Nw.same rfl hv h.2.2.2.1, va_Nw.same rfl hv h.2.2.2.2.1, va_Nw.same rfl hv h.2.2.2.2.2.1, va_Nw.same rfl hv h.2.2.2.2.2.2⟩
def ZS (tX tY : Nat) (A : Nat → Prop) (U : State) (H : Heap) : Prop := va_Z "SnakeMesh" "X_BY_DIRECTION" "[I" (.ref tX) A U H ∧ va_T .int tX 4 (fun j => .int (xBy j)) A U H ∧ va_Z "SnakeMesh" "Y_BY_DIRECTION" "[I" (.ref tY) A U H ∧ va_T .int tY 4 (fun j => .int (yBy j)) A U H ∧ NW U
theorem ZS.warm {tX tY : Nat} {A : Nat → Prop} {u U : State} {H : Heap} (hW : u.WarmedH U.vm) (h : ZS tX tY A u H) : ZS tX tY A U H := ⟨h.1.moved hW.alike, h.2.1.moved hW.alike, h.2.2.1.moved hW.alike, h.2.2.2.1.moved hW.alike, h.2.2.2.2.warm hW⟩
theorem ZS.same {tX tY : Nat} {A : Nat → Prop} {u U : State} {H : Heap} (hA : u.vm.Alike U.vm) (hv : u.vm = U.vm) (h : ZS tX tY A u H) : ZS tX tY A U H := ⟨h.1.moved hA, h.2.1.moved hA, h.2.2.1.moved hA, h.2.2.2.1.moved hA, h.2.2.2.2.same hv⟩
theorem ZS.kept {tX tY : Nat} {A : Nat → Prop} {U : State} {H H1 : Heap} (h : ZS tX tY A U H) (hq : ∀ a : Nat, a < H.size → ¬ A a → H1[a]? = H[a]?) : ZS tX tY A U H1 := ⟨h.1.kept hq, h.2.1.kept hq, h.2.2.1.kept hq, h.2.2.2.1.kept hq, h.2.2.2.2⟩
def cPc (en : Nat → (Nat → Int32) → (Nat → Int64) → va_E) (n : Nat) (ad : Nat → Nat) (D : va_G) (cy : Nat → ClassId) (tX tY : Nat) (A : Nat → Prop) (av : List Value) (x : HT) : Array Value → State → Prop := va_Pc av (fun U => va_P D vwCl (wG en n ad x) U.heap ∧ va_K D vwCl (tyL cy) U ∧ ZS tX tY A U U.heap)
theorem cPc_blind {en : Nat → (Nat → Int32) → (Nat → Int64) → va_E} {n : Nat} {ad : Nat → Nat} {D : va_G} {cy : Nat → ClassId} {tX tY : Nat} {A : Nat → Prop} {av : List Value} {x : HT} : FrameBlind (cPc en n ad D cy tX tY A av x) := fun a U g mk q => ⟨q.1, q.2.1, va_K.moved (u := U) (U := U.calling g mk a) (Vm.Alike.refl U.vm) q.2.2.1, ZS.same (u := U) (U := U.calling g mk a) (Vm.Alike.refl U.vm) rfl q.2.2.2⟩
def cB (en : Nat → (Nat → Int32) → (Nat → Int64) → va_E) (n : Nat) (ad : Nat → Nat) (D : va_G) (u : HT) (t : State) : Prop := va_P D vwCl (wG en n ad u) t.heap
def cQi (en : Nat → (Nat → Int32) → (Nat → Int64) → va_E) (n : Nat) (ad : Nat → Nat) (D : va_G) (A : Nat → Prop) (z : Int32 × HT) : Array Value → State → Outcome → State → Prop := va_Qi (fun (r : Int32) (u : HT) => r = z.1 ∧ u = z.2) (cB en n ad D) A
def cQl (en : Nat → (Nat → Int32) → (Nat → Int64) → va_E) (n : Nat) (ad : Nat → Nat) (D : va_G) (A : Nat → Prop) (z : Int64 × HT) : Array Value → State → Outcome → State → Prop := va_Ql (fun (r : Int64) (u : HT) => r = z.1 ∧ u = z.2) (cB en n ad D) A
def cQv (en : Nat → (Nat → Int32) → (Nat → Int64) → va_E) (n : Nat) (ad : Nat → Nat) (D : va_G) (A : Nat → Prop) (z : Unit × HT) : Array Value → State → Outcome → State → Prop := va_Qv (fun (u : HT) => u = z.2) (cB en n ad D) A
/-- what stays the same within a method -/
def Cf (p : Program) (s : State) (m : MethodId) (args : Array Value) (meth : Method) (c : Code) (cc : ByteArray) (nL : Nat) (own : String) (ret : Option FieldType) (D : va_G) (cy : Nat → ClassId) (tX tY : Nat) (ad : Nat → Nat) (A : Nat → Prop) (n : Nat) : Prop :=
  p.tables.exec = Jvm.exec ∧ c.code = cc ∧ c.maxLocals = nL ∧ s.vm.findClass own = some m.cls ∧ (∀ w ∈ wAll, w.before args s = true) ∧ meth.sig.returnType = ret ∧ va_K D vwCl (tyL cy) s ∧ ZS tX tY A s s.heap ∧ apart ad A n ∧ meth.locks = false
section GR
variable {p : Program} {l : Launch} {e : Env} {R : Room} {s : State} {m : MethodId} {args : Array Value} {below : List Frame} {meth : Method} {c : Code} {H : Heap} {locs : List Loc} {cells slots : Nat} {Q : State → Prop} {cc : ByteArray} {pc : Nat} {ls : Array Slot} {rest : List Value} {D : va_G} {cy : Nat → ClassId} {tX tY : Nat} {ad : Nat → Nat} {A : Nat → Prop} {n nL : Nat} {own : String} {ret : Option FieldType} {x : HT} {en : Nat → (Nat → Int32) → (Nat → Int64) → va_E}
theorem gGet (hC : Cf p s m args meth c cc nL own ret D cy tX tY ad A n) (hP : va_P D vwCl (wG en n ad x) H) (k : Nat) (hk : k < n) {ci N index : Nat} {fs : List Value} {C : String} {T : u_T} {v : Value} (he : en k (x.1 k) (x.2 k) = .inr (ci, fs)) (hc : vwCl[ci]? = some (C, T, N)) (hin : ∀ w ∈ u_ws C T N, w ∈ wAll) (j : Nat) (hj : j < N) (hl : Cond.fieldLink own index (T j).1 (T j).2.1 (T j).2.2.1 ∈ wAll) (hv : fs[j]? = some v) (hdg : decode cc pc = .ok (.getfield index, 3))
    (kk : W p l e R s m args below meth c H locs cells slots Q (F0 m (pc + 3) ls (v :: rest))) : W p l e R s m args below meth c H locs cells slots Q (F0 m pc ls (.ref (ad k) :: rest)) := by
  obtain ⟨hx, hb, hml, hown, hts, hr, hK, hZ, hA, hlk⟩ := hC
  exact va_get (D := D) (ci := ci) (v := v) (C := C) (T := T) (N := N) hx hb hts hin hown hK hP k (by rw [wG_at hk, he]) hc j hj (hts _ hl) (fun _ h => h) hv hdg kk
theorem gPut (hC : Cf p s m args meth c cc nL own ret D cy tX tY ad A n) (hP : va_P D vwCl (wG en n ad x) H) (hS : va_S A s.heap H locs) (k : Nat) (hk : k < n) {ci N index : Nat} {fs : List Value} {C : String} {T : u_T} {v : Int32} (he : en k (x.1 k) (x.2 k) = .inr (ci, fs)) (hc : vwCl[ci]? = some (C, T, N)) (hin : ∀ w ∈ u_ws C T N, w ∈ wAll) {ty0 : Nat → FieldType} (hty : ∀ k, k < N → parseFieldDescriptor (T k).2.2.1 = some (ty0 k)) (hnm : ∀ a, a < N → ∀ b, b < N → a ≠ b → (T a).2.1 ≠ (T b).2.1) (j : Nat) (hj : j < N) (hl : Cond.fieldLink own index (T j).1 (T j).2.1 (T j).2.2.1 ∈ wAll) (hfin : (T j).2.2.2 = false) (hd : parseFieldDescriptor (T j).2.2.1 = some .int) (hlen : j < fs.length) (he' : en k (upd (x.1 k) j v) (x.2 k) = .inr (ci, fs.set j (.int v))) (hdg : decode cc pc = .ok (.putfield index, 3))
    (kk : ∀ (H : Heap) (locs : List Loc), va_P D vwCl (wG en n ad (sI x k j v)) H → va_S A s.heap H locs → W p l e R s m args below meth c H locs cells slots Q (F0 m (pc + 3) ls rest)) : W p l e R s m args below meth c H locs cells slots Q (F0 m pc ls (.int v :: .ref (ad k) :: rest)) := by
  obtain ⟨hx, hb, hml, hown, hts, hr, hK, hZ, hA, hlk⟩ := hC
  refine va_put (D := D) (ci := ci) (v := .int v) (ty := .int) (C := C) (T := T) (N := N) hx hb hts hin ty0 hty hnm hown hK hP (wG_D hA) hS k (by rw [wG_at hk, he]) hc j hj (hts _ hl) (fun _ h => h) hfin hd rfl rfl hlen hdg (fun H1 locs1 hP1 hD1 hS1 => ?_)
  rw [wG_set (x' := sI x k j v) (by rw [sI_at.1, sI_at.2, he']) sI_ne] at hP1
  exact kk H1 locs1 hP1 hS1
theorem gPutL (hC : Cf p s m args meth c cc nL own ret D cy tX tY ad A n) (hP : va_P D vwCl (wG en n ad x) H) (hS : va_S A s.heap H locs) (k : Nat) (hk : k < n) {ci N index : Nat} {fs : List Value} {C : String} {T : u_T} {v : Int64} (he : en k (x.1 k) (x.2 k) = .inr (ci, fs)) (hc : vwCl[ci]? = some (C, T, N)) (hin : ∀ w ∈ u_ws C T N, w ∈ wAll) {ty0 : Nat → FieldType} (hty : ∀ k, k < N → parseFieldDescriptor (T k).2.2.1 = some (ty0 k)) (hnm : ∀ a, a < N → ∀ b, b < N → a ≠ b → (T a).2.1 ≠ (T b).2.1) (j : Nat) (hj : j < N) (hl : Cond.fieldLink own index (T j).1 (T j).2.1 (T j).2.2.1 ∈ wAll) (hfin : (T j).2.2.2 = false) (hd : parseFieldDescriptor (T j).2.2.1 = some .long) (hlen : j < fs.length) (he' : en k (x.1 k) (vp_updL (x.2 k) j v) = .inr (ci, fs.set j (.long v))) (hdg : decode cc pc = .ok (.putfield index, 3))
    (kk : ∀ (H : Heap) (locs : List Loc), va_P D vwCl (wG en n ad (sL x k j v)) H → va_S A s.heap H locs → W p l e R s m args below meth c H locs cells slots Q (F0 m (pc + 3) ls rest)) : W p l e R s m args below meth c H locs cells slots Q (F0 m pc ls (.long v :: .ref (ad k) :: rest)) := by
  obtain ⟨hx, hb, hml, hown, hts, hr, hK, hZ, hA, hlk⟩ := hC
  refine va_put (D := D) (ci := ci) (v := .long v) (ty := .long) (C := C) (T := T) (N := N) hx hb hts hin ty0 hty hnm hown hK hP (wG_D hA) hS k (by rw [wG_at hk, he]) hc j hj (hts _ hl) (fun _ h => h) hfin hd rfl rfl hlen hdg (fun H1 locs1 hP1 hD1 hS1 => ?_)
  rw [wG_set (x' := sL x k j v) (by rw [sL_at.1, sL_at.2, he']) sL_ne] at hP1
  exact kk H1 locs1 hP1 hS1
theorem gIal (hC : Cf p s m args meth c cc nL own ret D cy tX tY ad A n) (hP : va_P D vwCl (wG en n ad x) H) (k : Nat) (hk : k < n) {N : Nat} (he : en k (x.1 k) (x.2 k) = .inl (cy 0, N, .inl (x.1 k))) {i : Int32} (hi : inb i N = true) (hdg : decode cc pc = .ok (.iaload, 1))
    (kk : W p l e R s m args below meth c H locs cells slots Q (F0 m (pc + 1) ls (.int (x.1 k i.toNatClampNeg) :: rest))) : W p l e R s m args below meth c H locs cells slots Q (F0 m pc ls (.int i :: .ref (ad k) :: rest)) := by
  obtain ⟨hx, hb, hml, hown, hts, hr, hK, hZ, hA, hlk⟩ := hC
  exact va_iald hx hb hK hP k 0 (by rw [wG_at hk, he]) rfl (inb_in hi) hdg kk
theorem gLal (hC : Cf p s m args meth c cc nL own ret D cy tX tY ad A n) (hP : va_P D vwCl (wG en n ad x) H) (k : Nat) (hk : k < n) {N : Nat} (he : en k (x.1 k) (x.2 k) = .inl (cy 1, N, .inr (.inl (x.2 k)))) {i : Int32} (hi : inb i N = true) (hdg : decode cc pc = .ok (.laload, 1))
    (kk : W p l e R s m args below meth c H locs cells slots Q (F0 m (pc + 1) ls (.long (x.2 k i.toNatClampNeg) :: rest))) : W p l e R s m args below meth c H locs cells slots Q (F0 m pc ls (.int i :: .ref (ad k) :: rest)) := by
  obtain ⟨hx, hb, hml, hown, hts, hr, hK, hZ, hA, hlk⟩ := hC
  exact va_lald hx hb hK hP k 1 (by rw [wG_at hk, he]) rfl (inb_in hi) hdg kk
theorem gZal (hC : Cf p s m args meth c cc nL own ret D cy tX tY ad A n) (hP : va_P D vwCl (wG en n ad x) H) (k : Nat) (hk : k < n) {N : Nat} (he : en k (x.1 k) (x.2 k) = .inl (cy 2, N, .inl (x.1 k))) {i : Int32} (hi : inb i N = true) (hdg : decode cc pc = .ok (.baload, 1))
    (kk : W p l e R s m args below meth c H locs cells slots Q (F0 m (pc + 1) ls (.int (x.1 k i.toNatClampNeg) :: rest))) : W p l e R s m args below meth c H locs cells slots Q (F0 m pc ls (.int i :: .ref (ad k) :: rest)) := by
  obtain ⟨hx, hb, hml, hown, hts, hr, hK, hZ, hA, hlk⟩ := hC
  exact va_zald hx hb hK hP k 2 (by rw [wG_at hk, he]) rfl (inb_in hi) hdg kk
theorem gLen (hC : Cf p s m args meth c cc nL own ret D cy tX tY ad A n) (hP : va_P D vwCl (wG en n ad x) H) (k : Nat) (hk : k < n) {N : Nat} (he : en k (x.1 k) (x.2 k) = .inl (cy 0, N, .inl (x.1 k))) (hdg : decode cc pc = .ok (.arraylength, 1))
    (kk : W p l e R s m args below meth c H locs cells slots Q (F0 m (pc + 1) ls (.int (Int32.ofNat N) :: rest))) : W p l e R s m args below meth c H locs cells slots Q (F0 m pc ls (.ref (ad k) :: rest)) := by
  obtain ⟨hx, hb, hml, hown, hts, hr, hK, hZ, hA, hlk⟩ := hC
  exact va_alen hx hb hK hP k 0 (by rw [wG_at hk, he]) rfl rfl hdg kk
theorem gIas (hC : Cf p s m args meth c cc nL own ret D cy tX tY ad A n) (hP : va_P D vwCl (wG en n ad x) H) (hS : va_S A s.heap H locs) (k : Nat) (hk : k < n) {N : Nat} {i v : Int32} (he : ∀ f, en k f (x.2 k) = .inl (cy 0, N, .inl f)) (hi : inb i N = true) (hdg : decode cc pc = .ok (.iastore, 1))
    (kk : ∀ (H : Heap) (locs : List Loc), va_P D vwCl (wG en n ad (sI x k i.toNatClampNeg v)) H → va_S A s.heap H locs → W p l e R s m args below meth c H locs cells slots Q (F0 m (pc + 1) ls rest)) : W p l e R s m args below meth c H locs cells slots Q (F0 m pc ls (.int v :: .int i :: .ref (ad k) :: rest)) := by
  obtain ⟨hx, hb, hml, hown, hts, hr, hK, hZ, hA, hlk⟩ := hC
  refine va_iast hx hb hK hP (wG_D hA) hS k 0 (by rw [wG_at hk, he]) rfl (inb_in hi) hdg (fun H1 locs1 hP1 hD1 hS1 => ?_)
  rw [wG_set (x' := sI x k i.toNatClampNeg v) (by rw [sI_at.1, sI_at.2, he]) sI_ne] at hP1
  exact kk H1 locs1 hP1 hS1
theorem gZas (hC : Cf p s m args meth c cc nL own ret D cy tX tY ad A n) (hP : va_P D vwCl (wG en n ad x) H) (hS : va_S A s.heap H locs) (k : Nat) (hk : k < n) {N : Nat} {i v : Int32} (he : ∀ f, en k f (x.2 k) = .inl (cy 2, N, .inl f)) (hi : inb i N = true) (hdg : decode cc pc = .ok (.bastore, 1))
    (kk : ∀ (H : Heap) (locs : List Loc), va_P D vwCl (wG en n ad (sI x k i.toNatClampNeg (vp_nar .boolean v))) H → va_S A s.heap H locs → W p l e R s m args below meth c H locs cells slots Q (F0 m (pc + 1) ls rest)) : W p l e R s m args below meth c H locs cells slots Q (F0 m pc ls (.int v :: .int i :: .ref (ad k) :: rest)) := by
  obtain ⟨hx, hb, hml, hown, hts, hr, hK, hZ, hA, hlk⟩ := hC
  refine va_zast hx hb hK hP (wG_D hA) hS k 2 (by rw [wG_at hk, he]) rfl (inb_in hi) hdg (fun H1 locs1 hP1 hD1 hS1 => ?_)
  rw [wG_set (x' := sI x k i.toNatClampNeg (vp_nar .boolean v)) (by rw [sI_at.1, sI_at.2, he]) sI_ne] at hP1
  exact kk H1 locs1 hP1 hS1
theorem gLas (hC : Cf p s m args meth c cc nL own ret D cy tX tY ad A n) (hP : va_P D vwCl (wG en n ad x) H) (hS : va_S A s.heap H locs) (k : Nat) (hk : k < n) {N : Nat} {i : Int32} {v : Int64} (he : ∀ g, en k (x.1 k) g = .inl (cy 1, N, .inr (.inl g))) (hi : inb i N = true) (hdg : decode cc pc = .ok (.lastore, 1))
    (kk : ∀ (H : Heap) (locs : List Loc), va_P D vwCl (wG en n ad (sL x k i.toNatClampNeg v)) H → va_S A s.heap H locs → W p l e R s m args below meth c H locs cells slots Q (F0 m (pc + 1) ls rest)) : W p l e R s m args below meth c H locs cells slots Q (F0 m pc ls (.long v :: .int i :: .ref (ad k) :: rest)) := by
  obtain ⟨hx, hb, hml, hown, hts, hr, hK, hZ, hA, hlk⟩ := hC
  refine va_last hx hb hK hP (wG_D hA) hS k 1 (by rw [wG_at hk, he]) rfl (inb_in hi) hdg (fun H1 locs1 hP1 hD1 hS1 => ?_)
  rw [wG_set (x' := sL x k i.toNatClampNeg v) (by rw [sL_at.1, sL_at.2, he]) sL_ne] at hP1
  exact kk H1 locs1 hP1 hS1
-- calls
theorem gVi (hC : Cf p s m args meth c cc nL own ret D cy tX tY ad A n) (hP : va_P D vwCl (wG en n ad x) H) (hS : va_S A s.heap H locs) {y : MethodName} {bytes : ByteArray} {maxL index k ci N nn : Nat} {ret' : Option FieldType} {rm : Room} {As : List Value} {C : String} {T : u_T} {fs : List Value} {r0 : Int32} {x0 : HT} {st : List Value} (hM : Met l y (Cond.code y bytes maxL ret' :: wAll) rm (cPc en n ad D cy tX tY A (.ref (ad k) :: As) x) (cQi en n ad D A (r0, x0)) 0 0 A) (hG : GoodIn wAll (wsV own index C y (Cond.code y bytes maxL ret' :: wAll))) (hrm : rm.cells = 0 ∧ rm.slots = 0)
    (hd : y.cls = C ∧ y.cls ≠ "java/lang/invoke/MethodHandle" ∧ y.cls ≠ "java/lang/invoke/VarHandle" ∧ (parseMethodDescriptor y.desc).map (fun d => d.parameters.length) = some nn) (hR : rm.frames + 1 ≤ R.frames ∧ 8 + (maxL + 11) + rm.locals ≤ R.locals) (hk : k < n) (he : en k (x.1 k) (x.2 k) = .inr (ci, fs)) (hc : vwCl[ci]? = some (C, T, N)) (hn : As.length = nn) (hsize : ls.size = nL) (hst : st = As.reverse ++ .ref (ad k) :: rest) (hW : (rest.map fun v => v.category).sum ≤ 8) (hdg : decode cc pc = .ok (.invokevirtual index, 3)) (hcs : cells ≤ R.cells ∧ slots ≤ R.slots)
    (kk : ∀ (H : Heap) (locs : List Loc), va_P D vwCl (wG en n ad x0) H → va_S A s.heap H locs → W p l e R s m args below meth c H locs cells slots Q (F0 m (pc + 3) ls (.int r0 :: rest))) : W p l e R s m args below meth c H locs cells slots Q (F0 m pc ls st) := by
  obtain ⟨hx, hb, hml, hown, hts, hr, hK, hZ, hA, hlk⟩ := hC
  refine va_calli (va_runV (As := As) (rest := rest) ⟨hx, hb, hml, hown, hts⟩ hM (cwV nn hts hG rfl hrm.1 hrm.2 hd hR) ⟨cPc_blind, va_recv hK hP hc (by rw [wG_at hk, he]), fun U hU hW => ⟨rfl, by rw [hU]; exact hP, va_K.moved hW.alike hK, ZS.warm hW (hZ.kept (by rw [hU]; exact fun q h1 h2 => hS.2.1 q h1 h2))⟩⟩ rfl hn hsize hst (lv_room hW) hdg hcs) hS (fun q _ h => h) (fun q h => h) (fun r u t H1 locs1 ht hvm hw hB hz1 hk1 hS1 => ?_)
  obtain ⟨rfl, rfl⟩ := hw
  exact kk H1 locs1 (by rw [← ht]; exact hB) hS1
theorem gVl (hC : Cf p s m args meth c cc nL own ret D cy tX tY ad A n) (hP : va_P D vwCl (wG en n ad x) H) (hS : va_S A s.heap H locs) {y : MethodName} {bytes : ByteArray} {maxL index k ci N nn : Nat} {ret' : Option FieldType} {rm : Room} {As : List Value} {C : String} {T : u_T} {fs : List Value} {r0 : Int64} {x0 : HT} {st : List Value} (hM : Met l y (Cond.code y bytes maxL ret' :: wAll) rm (cPc en n ad D cy tX tY A (.ref (ad k) :: As) x) (cQl en n ad D A (r0, x0)) 0 0 A) (hG : GoodIn wAll (wsV own index C y (Cond.code y bytes maxL ret' :: wAll))) (hrm : rm.cells = 0 ∧ rm.slots = 0)
    (hd : y.cls = C ∧ y.cls ≠ "java/lang/invoke/MethodHandle" ∧ y.cls ≠ "java/lang/invoke/VarHandle" ∧ (parseMethodDescriptor y.desc).map (fun d => d.parameters.length) = some nn) (hR : rm.frames + 1 ≤ R.frames ∧ 8 + (maxL + 11) + rm.locals ≤ R.locals) (hk : k < n) (he : en k (x.1 k) (x.2 k) = .inr (ci, fs)) (hc : vwCl[ci]? = some (C, T, N)) (hn : As.length = nn) (hsize : ls.size = nL) (hst : st = As.reverse ++ .ref (ad k) :: rest) (hW : (rest.map fun v => v.category).sum ≤ 8) (hdg : decode cc pc = .ok (.invokevirtual index, 3)) (hcs : cells ≤ R.cells ∧ slots ≤ R.slots)
    (kk : ∀ (H : Heap) (locs : List Loc), va_P D vwCl (wG en n ad x0) H → va_S A s.heap H locs → W p l e R s m args below meth c H locs cells slots Q (F0 m (pc + 3) ls (.long r0 :: rest))) : W p l e R s m args below meth c H locs cells slots Q (F0 m pc ls st) := by
  obtain ⟨hx, hb, hml, hown, hts, hr, hK, hZ, hA, hlk⟩ := hC
  refine va_calll (va_runV (As := As) (rest := rest) ⟨hx, hb, hml, hown, hts⟩ hM (cwV nn hts hG rfl hrm.1 hrm.2 hd hR) ⟨cPc_blind, va_recv hK hP hc (by rw [wG_at hk, he]), fun U hU hW => ⟨rfl, by rw [hU]; exact hP, va_K.moved hW.alike hK, ZS.warm hW (hZ.kept (by rw [hU]; exact fun q h1 h2 => hS.2.1 q h1 h2))⟩⟩ rfl hn hsize hst (lv_room hW) hdg hcs) hS (fun q _ h => h) (fun q h => h) (fun r u t H1 locs1 ht hvm hw hB hz1 hk1 hS1 => ?_)
  obtain ⟨rfl, rfl⟩ := hw
  exact kk H1 locs1 (by rw [← ht]; exact hB) hS1
theorem gVv (hC : Cf p s m args meth c cc nL own ret D cy tX tY ad A n) (hP : va_P D vwCl (wG en n ad x) H) (hS : va_S A s.heap H locs) {y : MethodName} {bytes : ByteArray} {maxL index k ci N nn : Nat} {ret' : Option FieldType} {rm : Room} {As : List Value} {C : String} {T : u_T} {fs : List Value} {x0 : HT} {st : List Value} (hM : Met l y (Cond.code y bytes maxL ret' :: wAll) rm (cPc en n ad D cy tX tY A (.ref (ad k) :: As) x) (cQv en n ad D A ((), x0)) 0 0 A) (hG : GoodIn wAll (wsV own index C y (Cond.code y bytes maxL ret' :: wAll))) (hrm : rm.cells = 0 ∧ rm.slots = 0)
    (hd : y.cls = C ∧ y.cls ≠ "java/lang/invoke/MethodHandle" ∧ y.cls ≠ "java/lang/invoke/VarHandle" ∧ (parseMethodDescriptor y.desc).map (fun d => d.parameters.length) = some nn) (hR : rm.frames + 1 ≤ R.frames ∧ 8 + (maxL + 11) + rm.locals ≤ R.locals) (hk : k < n) (he : en k (x.1 k) (x.2 k) = .inr (ci, fs)) (hc : vwCl[ci]? = some (C, T, N)) (hn : As.length = nn) (hsize : ls.size = nL) (hst : st = As.reverse ++ .ref (ad k) :: rest) (hW : (rest.map fun v => v.category).sum ≤ 8) (hdg : decode cc pc = .ok (.invokevirtual index, 3)) (hcs : cells ≤ R.cells ∧ slots ≤ R.slots)
    (kk : ∀ (H : Heap) (locs : List Loc), va_P D vwCl (wG en n ad x0) H → va_S A s.heap H locs → W p l e R s m args below meth c H locs cells slots Q (F0 m (pc + 3) ls rest)) : W p l e R s m args below meth c H locs cells slots Q (F0 m pc ls st) := by
  obtain ⟨hx, hb, hml, hown, hts, hr, hK, hZ, hA, hlk⟩ := hC
  refine va_callv (va_runV (As := As) (rest := rest) ⟨hx, hb, hml, hown, hts⟩ hM (cwV nn hts hG rfl hrm.1 hrm.2 hd hR) ⟨cPc_blind, va_recv hK hP hc (by rw [wG_at hk, he]), fun U hU hW => ⟨rfl, by rw [hU]; exact hP, va_K.moved hW.alike hK, ZS.warm hW (hZ.kept (by rw [hU]; exact fun q h1 h2 => hS.2.1 q h1 h2))⟩⟩ rfl hn hsize hst (lv_room hW) hdg hcs) hS (fun q _ h => h) (fun q h => h) (fun u t H1 locs1 ht hvm hw hB hz1 hk1 hS1 => ?_)
  cases hw
  exact kk H1 locs1 (by rw [← ht]; exact hB) hS1
theorem gSi (hC : Cf p s m args meth c cc nL own ret D cy tX tY ad A n) (hP : va_P D vwCl (wG en n ad x) H) (hS : va_S A s.heap H locs) {y : MethodName} {bytes : ByteArray} {maxL index nn : Nat} {ret' : Option FieldType} {rm : Room} {As : List Value} {r0 : Int32} {x0 : HT} {st : List Value} (hM : Met l y (Cond.code y bytes maxL ret' :: wAll) rm (cPc en n ad D cy tX tY A As x) (cQi en n ad D A (r0, x0)) 0 0 A) (hG : GoodIn wAll (va_wsS own index y (Cond.code y bytes maxL ret' :: wAll))) (hrm : rm.cells = 0 ∧ rm.slots = 0)
    (hd : y.cls ≠ "java/lang/invoke/MethodHandle" ∧ y.cls ≠ "java/lang/invoke/VarHandle" ∧ (parseMethodDescriptor y.desc).map (fun d => d.parameters.length) = some nn) (hR : rm.frames + 1 ≤ R.frames ∧ 8 + (maxL + 11) + rm.locals ≤ R.locals) (hn : As.length = nn) (hsize : ls.size = nL) (hst : st = As.reverse ++ rest) (hW : (rest.map fun v => v.category).sum ≤ 8) (hdg : decode cc pc = .ok (.invokestatic index, 3)) (hcs : cells ≤ R.cells ∧ slots ≤ R.slots)
    (kk : ∀ (H : Heap) (locs : List Loc), va_P D vwCl (wG en n ad x0) H → va_S A s.heap H locs → W p l e R s m args below meth c H locs cells slots Q (F0 m (pc + 3) ls (.int r0 :: rest))) : W p l e R s m args below meth c H locs cells slots Q (F0 m pc ls st) := by
  obtain ⟨hx, hb, hml, hown, hts, hr, hK, hZ, hA, hlk⟩ := hC
  refine va_calli (va_runS (As := As) (rest := rest) ⟨hx, hb, hml, hown, hts⟩ hM (va_cwS nn hts hG rfl hrm.1 hrm.2 hd hR) ⟨cPc_blind, fun U hU hW => ⟨rfl, by rw [hU]; exact hP, va_K.moved hW.alike hK, ZS.warm hW (hZ.kept (by rw [hU]; exact fun q h1 h2 => hS.2.1 q h1 h2))⟩⟩ rfl hn hsize hst (lv_room hW) hdg hcs) hS (fun q _ h => h) (fun q h => h) (fun r u t H1 locs1 ht hvm hw hB hz1 hk1 hS1 => ?_)
  obtain ⟨rfl, rfl⟩ := hw
  exact kk H1 locs1 (by rw [← ht]; exact hB) hS1
theorem gSv (hC : Cf p s m args meth c cc nL own ret D cy tX tY ad A n) (hP : va_P D vwCl (wG en n ad x) H) (hS : va_S A s.heap H locs) {y : MethodName} {bytes : ByteArray} {maxL index nn : Nat} {ret' : Option FieldType} {rm : Room} {As : List Value} {x0 : HT} {st : List Value} (hM : Met l y (Cond.code y bytes maxL ret' :: wAll) rm (cPc en n ad D cy tX tY A As x) (cQv en n ad D A ((), x0)) 0 0 A) (hG : GoodIn wAll (va_wsS own index y (Cond.code y bytes maxL ret' :: wAll))) (hrm : rm.cells = 0 ∧ rm.slots = 0)
    (hd : y.cls ≠ "java/lang/invoke/MethodHandle" ∧ y.cls ≠ "java/lang/invoke/VarHandle" ∧ (parseMethodDescriptor y.desc).map (fun d => d.parameters.length) = some nn) (hR : rm.frames + 1 ≤ R.frames ∧ 8 + (maxL + 11) + rm.locals ≤ R.locals) (hn : As.length = nn) (hsize : ls.size = nL) (hst : st = As.reverse ++ rest) (hW : (rest.map fun v => v.category).sum ≤ 8) (hdg : decode cc pc = .ok (.invokestatic index, 3)) (hcs : cells ≤ R.cells ∧ slots ≤ R.slots)
    (kk : ∀ (H : Heap) (locs : List Loc), va_P D vwCl (wG en n ad x0) H → va_S A s.heap H locs → W p l e R s m args below meth c H locs cells slots Q (F0 m (pc + 3) ls rest)) : W p l e R s m args below meth c H locs cells slots Q (F0 m pc ls st) := by
  obtain ⟨hx, hb, hml, hown, hts, hr, hK, hZ, hA, hlk⟩ := hC
  refine va_callv (va_runS (As := As) (rest := rest) ⟨hx, hb, hml, hown, hts⟩ hM (va_cwS nn hts hG rfl hrm.1 hrm.2 hd hR) ⟨cPc_blind, fun U hU hW => ⟨rfl, by rw [hU]; exact hP, va_K.moved hW.alike hK, ZS.warm hW (hZ.kept (by rw [hU]; exact fun q h1 h2 => hS.2.1 q h1 h2))⟩⟩ rfl hn hsize hst (lv_room hW) hdg hcs) hS (fun q _ h => h) (fun q h => h) (fun u t H1 locs1 ht hvm hw hB hz1 hk1 hS1 => ?_)
  cases hw
  exact kk H1 locs1 (by rw [← ht]; exact hB) hS1
-- returns
theorem gIret (hC : Cf p s m args meth c cc nL own (some .int) D cy tX tY ad A n) (hP : va_P D vwCl (wG en n ad x) H) (hS : va_S A s.heap H locs) {v : Int32} {z : Int32 × HT} (hf : some (v, x) = some z) (hdg : decode cc pc = .ok (.ireturn, 1)) : W p l e R s m args below meth c H locs cells slots (MQ below (cQi en n ad D A z) args s cells slots A) (F0 m pc ls [.int v]) := by
  obtain ⟨hx, hb, hml, hown, hts, hr, hK, hZ, hA, hlk⟩ := hC
  cases hf
  exact W.iret hx hb hr (fun t ht hW => ⟨⟨v, x, rfl, ⟨rfl, rfl⟩, by show va_P D vwCl (wG en n ad x) t.heap; rw [ht]; exact hP⟩, hS.F ht⟩) hS.2.2 hdg hlk
theorem gZret (hC : Cf p s m args meth c cc nL own (some .boolean) D cy tX tY ad A n) (hP : va_P D vwCl (wG en n ad x) H) (hS : va_S A s.heap H locs) {v : Int32} {z : Int32 × HT} (hb9 : isb v = true) (hf : some (v, x) = some z) (hdg : decode cc pc = .ok (.ireturn, 1)) : W p l e R s m args below meth c H locs cells slots (MQ below (cQi en n ad D A z) args s cells slots A) (F0 m pc ls [.int v]) := by
  obtain ⟨hx, hb, hml, hown, hts, hr, hK, hZ, hA, hlk⟩ := hC
  cases hf
  exact W.zret hx hb hr (isb_nar hb9) (fun t ht hW => ⟨⟨v, x, rfl, ⟨rfl, rfl⟩, by show va_P D vwCl (wG en n ad x) t.heap; rw [ht]; exact hP⟩, hS.F ht⟩) hS.2.2 hdg hlk
theorem gLret (hC : Cf p s m args meth c cc nL own (some .long) D cy tX tY ad A n) (hP : va_P D vwCl (wG en n ad x) H) (hS : va_S A s.heap H locs) {v : Int64} {z : Int64 × HT} (hf : some (v, x) = some z) (hdg : decode cc pc = .ok (.lreturn, 1)) : W p l e R s m args below meth c H locs cells slots (MQ below (cQl en n ad D A z) args s cells slots A) (F0 m pc ls [.long v]) := by
  obtain ⟨hx, hb, hml, hown, hts, hr, hK, hZ, hA, hlk⟩ := hC
  cases hf
  exact W.lret hx hb hr (fun t ht hW => ⟨⟨v, x, rfl, ⟨rfl, rfl⟩, by show va_P D vwCl (wG en n ad x) t.heap; rw [ht]; exact hP⟩, hS.F ht⟩) hS.2.2 hdg hlk
theorem gVret (hC : Cf p s m args meth c cc nL own none D cy tX tY ad A n) (hP : va_P D vwCl (wG en n ad x) H) (hS : va_S A s.heap H locs) {z : Unit × HT} (hf : some ((), x) = some z) (hdg : decode cc pc = .ok (.return_, 1)) : W p l e R s m args below meth c H locs cells slots (MQ below (cQv en n ad D A z) args s cells slots A) (F0 m pc ls []) := by
  obtain ⟨hx, hb, hml, hown, hts, hr, hK, hZ, hA, hlk⟩ := hC
  cases hf
  exact W.vret hx hb hr (fun t ht hW => ⟨⟨x, rfl, rfl, by show va_P D vwCl (wG en n ad x) t.heap; rw [ht]; exact hP⟩, hS.F ht⟩) hS.2.2 hdg hlk
end GR
end
section
-- ===== the two worlds =====
/-- the reference: cell 0 the object, 1 to 11 its rows -/
def eM (cy : Nat → ClassId) (ad : Nat → Nat) (k : Nat) (f : Nat → Int32) (g : Nat → Int64) : va_E :=
  if k = 0 then .inr (7, [.ref (ad 1), .ref (ad 2), .ref (ad 3), .int (f 3), .ref (ad 4), .ref (ad 5), .int (f 6), .ref (ad 6), .ref (ad 7), .ref (ad 8), .ref (ad 9), .ref (ad 10), .ref (ad 11), .int (f 13), .int (f 14), .int (f 15), .long (g 16)])
  else .inl (cy 0, [0, 80, 80, 400, 3, 120, 370, 10, 10, 360, 60, 180].getD k 0, .inl f)
theorem eM_0 (cy : Nat → ClassId) (ad : Nat → Nat) (f : Nat → Int32) (g : Nat → Int64) : eM cy ad 0 f g = .inr (7, [.ref (ad 1), .ref (ad 2), .ref (ad 3), .int (f 3), .ref (ad 4), .ref (ad 5), .int (f 6), .ref (ad 6), .ref (ad 7), .ref (ad 8), .ref (ad 9), .ref (ad 10), .ref (ad 11), .int (f 13), .int (f 14), .int (f 15), .long (g 16)]) := rfl
theorem eM_1 (cy : Nat → ClassId) (ad : Nat → Nat) (f : Nat → Int32) (g : Nat → Int64) : eM cy ad 1 f g = .inl (cy 0, 80, .inl f) := rfl
theorem eM_2 (cy : Nat → ClassId) (ad : Nat → Nat) (f : Nat → Int32) (g : Nat → Int64) : eM cy ad 2 f g = .inl (cy 0, 80, .inl f) := rfl
theorem eM_3 (cy : Nat → ClassId) (ad : Nat → Nat) (f : Nat → Int32) (g : Nat → Int64) : eM cy ad 3 f g = .inl (cy 0, 400, .inl f) := rfl
theorem eM_4 (cy : Nat → ClassId) (ad : Nat → Nat) (f : Nat → Int32) (g : Nat → Int64) : eM cy ad 4 f g = .inl (cy 0, 3, .inl f) := rfl
theorem eM_5 (cy : Nat → ClassId) (ad : Nat → Nat) (f : Nat → Int32) (g : Nat → Int64) : eM cy ad 5 f g = .inl (cy 0, 120, .inl f) := rfl
theorem eM_6 (cy : Nat → ClassId) (ad : Nat → Nat) (f : Nat → Int32) (g : Nat → Int64) : eM cy ad 6 f g = .inl (cy 0, 370, .inl f) := rfl
theorem eM_7 (cy : Nat → ClassId) (ad : Nat → Nat) (f : Nat → Int32) (g : Nat → Int64) : eM cy ad 7 f g = .inl (cy 0, 10, .inl f) := rfl
theorem eM_8 (cy : Nat → ClassId) (ad : Nat → Nat) (f : Nat → Int32) (g : Nat → Int64) : eM cy ad 8 f g = .inl (cy 0, 10, .inl f) := rfl
theorem eM_9 (cy : Nat → ClassId) (ad : Nat → Nat) (f : Nat → Int32) (g : Nat → Int64) : eM cy ad 9 f g = .inl (cy 0, 360, .inl f) := rfl
theorem eM_10 (cy : Nat → ClassId) (ad : Nat → Nat) (f : Nat → Int32) (g : Nat → Int64) : eM cy ad 10 f g = .inl (cy 0, 60, .inl f) := rfl
theorem eM_11 (cy : Nat → ClassId) (ad : Nat → Nat) (f : Nat → Int32) (g : Nat → Int64) : eM cy ad 11 f g = .inl (cy 0, 180, .inl f) := rfl
/-- the class: 0 SnakeMesh; 1 to 56 eight States of seven cells (now, before, ahead, kept 0 to 4); 57 History, 58 kept; 59 Grid, 60 xs, 61 ys, 62 ends; 63 Ways, 64 lengths, 65 places, 66 channels, 67 to 76 rows of places, 77 to 86 rows of channels; 87 Traffic, 88 taken; 89 Text, 90 bytes, 91 letters, 92 numbers -/
def eX (cy : Nat → ClassId) (ad : Nat → Nat) (k : Nat) (f : Nat → Int32) (g : Nat → Int64) : va_E :=
  if k = 0 then .inr (6, [.ref (ad 1), .ref (ad 8), .ref (ad 15), .ref (ad 57), .ref (ad 59), .ref (ad 63), .ref (ad 87), .ref (ad 89), .int (f 8), .int (f 9), .int (f 10)])
  else if k < 57 then
    (if k % 7 = 1 then .inr (2, [.int (f 0), .int (f 1), .int (f 2), .int (f 3), .ref (ad (k + 1)), .ref (ad (k + 2)), .ref (ad (k + 3)), .ref (ad (k + 4)), .ref (ad (k + 5)), .ref (ad (k + 6))])
    else if k % 7 = 5 then .inl (cy 1, 5, .inr (.inl g))
    else .inl (cy 0, [10, 0, 36, 5, 5, 0, 10].getD (k % 7) 0, .inl f))
  else if k = 57 then .inr (1, [.ref (ad 58), .int (f 1), .int (f 2)])
  else if k = 58 then .inl (cy 3, 5, .inr (.inr (.inr (.inr (fun i => some (ad (7 * (3 + i) + 1)))))))
  else if k = 59 then .inr (0, [.int (f 0), .int (f 1), .ref (ad 60), .ref (ad 61), .ref (ad 62)])
  else if k < 63 then .inl (cy 0, if k = 62 then 144 else 36, .inl f)
  else if k = 63 then .inr (5, [.ref (ad 64), .ref (ad 65), .ref (ad 66)])
  else if k = 64 then .inl (cy 0, 10, .inl f)
  else if k = 65 then .inl (cy 4, 10, .inr (.inr (.inr (.inr (fun i => some (ad (67 + i)))))))
  else if k = 66 then .inl (cy 4, 10, .inr (.inr (.inr (.inr (fun i => some (ad (77 + i)))))))
  else if k < 87 then .inl (cy 0, 36, .inl f)
  else if k = 87 then .inr (4, [.ref (ad 63), .ref (ad 88)])
  else if k = 88 then .inl (cy 2, 144, .inl f)
  else if k = 89 then .inr (3, [.ref (ad 90), .int (f 1), .ref (ad 91), .ref (ad 92), .int (f 4), .int (f 5)])
  else .inl (cy 0, if k = 90 then 120 else if k = 91 then 60 else 180, .inl f)
theorem eX_0 (cy : Nat → ClassId) (ad : Nat → Nat) (f : Nat → Int32) (g : Nat → Int64) : eX cy ad 0 f g = .inr (6, [.ref (ad 1), .ref (ad 8), .ref (ad 15), .ref (ad 57), .ref (ad 59), .ref (ad 63), .ref (ad 87), .ref (ad 89), .int (f 8), .int (f 9), .int (f 10)]) := rfl
theorem eX_S {j : Nat} (hj : j < 8) (cy : Nat → ClassId) (ad : Nat → Nat) (f : Nat → Int32) (g : Nat → Int64) : eX cy ad (7 * j + 1) f g = .inr (2, [.int (f 0), .int (f 1), .int (f 2), .int (f 3), .ref (ad (7 * j + 2)), .ref (ad (7 * j + 3)), .ref (ad (7 * j + 4)), .ref (ad (7 * j + 5)), .ref (ad (7 * j + 6)), .ref (ad (7 * j + 7))]) := by
  rw [eX, if_neg (by omega), if_pos (by omega), if_pos (by omega)]
theorem eX_S1 {j : Nat} (hj : j < 8) (cy : Nat → ClassId) (ad : Nat → Nat) (f : Nat → Int32) (g : Nat → Int64) : eX cy ad (7 * j + 2) f g = .inl (cy 0, 36, .inl f) := by
  rw [eX, if_neg (by omega), if_pos (by omega), if_neg (by omega), if_neg (by omega), show (7 * j + 2) % 7 = 2 by omega]; rfl
theorem eX_S2 {j : Nat} (hj : j < 8) (cy : Nat → ClassId) (ad : Nat → Nat) (f : Nat → Int32) (g : Nat → Int64) : eX cy ad (7 * j + 3) f g = .inl (cy 0, 5, .inl f) := by
  rw [eX, if_neg (by omega), if_pos (by omega), if_neg (by omega), if_neg (by omega), show (7 * j + 3) % 7 = 3 by omega]; rfl
theorem eX_S3 {j : Nat} (hj : j < 8) (cy : Nat → ClassId) (ad : Nat → Nat) (f : Nat → Int32) (g : Nat → Int64) : eX cy ad (7 * j + 4) f g = .inl (cy 0, 5, .inl f) := by
  rw [eX, if_neg (by omega), if_pos (by omega), if_neg (by omega), if_neg (by omega), show (7 * j + 4) % 7 = 4 by omega]; rfl
theorem eX_S4 {j : Nat} (hj : j < 8) (cy : Nat → ClassId) (ad : Nat → Nat) (f : Nat → Int32) (g : Nat → Int64) : eX cy ad (7 * j + 5) f g = .inl (cy 1, 5, .inr (.inl g)) := by
  rw [eX, if_neg (by omega), if_pos (by omega), if_neg (by omega), if_pos (by omega)]
theorem eX_S5 {j : Nat} (hj : j < 8) (cy : Nat → ClassId) (ad : Nat → Nat) (f : Nat → Int32) (g : Nat → Int64) : eX cy ad (7 * j + 6) f g = .inl (cy 0, 10, .inl f) := by
  rw [eX, if_neg (by omega), if_pos (by omega), if_neg (by omega), if_neg (by omega), show (7 * j + 6) % 7 = 6 by omega]; rfl
theorem eX_S6 {j : Nat} (hj : j < 8) (cy : Nat → ClassId) (ad : Nat → Nat) (f : Nat → Int32) (g : Nat → Int64) : eX cy ad (7 * j + 7) f g = .inl (cy 0, 10, .inl f) := by
  rw [eX, if_neg (by omega), if_pos (by omega), if_neg (by omega), if_neg (by omega), show (7 * j + 7) % 7 = 0 by omega]; rfl
theorem eX_57 (cy : Nat → ClassId) (ad : Nat → Nat) (f : Nat → Int32) (g : Nat → Int64) : eX cy ad 57 f g = .inr (1, [.ref (ad 58), .int (f 1), .int (f 2)]) := rfl
theorem eX_58 (cy : Nat → ClassId) (ad : Nat → Nat) (f : Nat → Int32) (g : Nat → Int64) : eX cy ad 58 f g = .inl (cy 3, 5, .inr (.inr (.inr (.inr (fun i => some (ad (7 * (3 + i) + 1))))))) := rfl
theorem eX_59 (cy : Nat → ClassId) (ad : Nat → Nat) (f : Nat → Int32) (g : Nat → Int64) : eX cy ad 59 f g = .inr (0, [.int (f 0), .int (f 1), .ref (ad 60), .ref (ad 61), .ref (ad 62)]) := rfl
theorem eX_60 (cy : Nat → ClassId) (ad : Nat → Nat) (f : Nat → Int32) (g : Nat → Int64) : eX cy ad 60 f g = .inl (cy 0, 36, .inl f) := rfl
theorem eX_61 (cy : Nat → ClassId) (ad : Nat → Nat) (f : Nat → Int32) (g : Nat → Int64) : eX cy ad 61 f g = .inl (cy 0, 36, .inl f) := rfl
theorem eX_62 (cy : Nat → ClassId) (ad : Nat → Nat) (f : Nat → Int32) (g : Nat → Int64) : eX cy ad 62 f g = .inl (cy 0, 144, .inl f) := rfl
theorem eX_63 (cy : Nat → ClassId) (ad : Nat → Nat) (f : Nat → Int32) (g : Nat → Int64) : eX cy ad 63 f g = .inr (5, [.ref (ad 64), .ref (ad 65), .ref (ad 66)]) := rfl
theorem eX_64 (cy : Nat → ClassId) (ad : Nat → Nat) (f : Nat → Int32) (g : Nat → Int64) : eX cy ad 64 f g = .inl (cy 0, 10, .inl f) := rfl
theorem eX_65 (cy : Nat → ClassId) (ad : Nat → Nat) (f : Nat → Int32) (g : Nat → Int64) : eX cy ad 65 f g = .inl (cy 4, 10, .inr (.inr (.inr (.inr (fun i => some (ad (67 + i))))))) := rfl
theorem eX_66 (cy : Nat → ClassId) (ad : Nat → Nat) (f : Nat → Int32) (g : Nat → Int64) : eX cy ad 66 f g = .inl (cy 4, 10, .inr (.inr (.inr (.inr (fun i => some (ad (77 + i))))))) := rfl
theorem eX_P {i : Nat} (hi : i < 10) (cy : Nat → ClassId) (ad : Nat → Nat) (f : Nat → Int32) (g : Nat → Int64) : eX cy ad (67 + i) f g = .inl (cy 0, 36, .inl f) := by
  rw [eX, if_neg (by omega), if_neg (by omega), if_neg (by omega), if_neg (by omega), if_neg (by omega), if_neg (by omega), if_neg (by omega), if_neg (by omega), if_neg (by omega), if_neg (by omega), if_pos (by omega)]
theorem eX_Q {i : Nat} (hi : i < 10) (cy : Nat → ClassId) (ad : Nat → Nat) (f : Nat → Int32) (g : Nat → Int64) : eX cy ad (77 + i) f g = .inl (cy 0, 36, .inl f) := by
  rw [eX, if_neg (by omega), if_neg (by omega), if_neg (by omega), if_neg (by omega), if_neg (by omega), if_neg (by omega), if_neg (by omega), if_neg (by omega), if_neg (by omega), if_neg (by omega), if_pos (by omega)]
theorem eX_87 (cy : Nat → ClassId) (ad : Nat → Nat) (f : Nat → Int32) (g : Nat → Int64) : eX cy ad 87 f g = .inr (4, [.ref (ad 63), .ref (ad 88)]) := rfl
theorem eX_88 (cy : Nat → ClassId) (ad : Nat → Nat) (f : Nat → Int32) (g : Nat → Int64) : eX cy ad 88 f g = .inl (cy 2, 144, .inl f) := rfl
theorem eX_89 (cy : Nat → ClassId) (ad : Nat → Nat) (f : Nat → Int32) (g : Nat → Int64) : eX cy ad 89 f g = .inr (3, [.ref (ad 90), .int (f 1), .ref (ad 91), .ref (ad 92), .int (f 4), .int (f 5)]) := rfl
theorem eX_90 (cy : Nat → ClassId) (ad : Nat → Nat) (f : Nat → Int32) (g : Nat → Int64) : eX cy ad 90 f g = .inl (cy 0, 120, .inl f) := rfl
theorem eX_91 (cy : Nat → ClassId) (ad : Nat → Nat) (f : Nat → Int32) (g : Nat → Int64) : eX cy ad 91 f g = .inl (cy 0, 60, .inl f) := rfl
theorem eX_92 (cy : Nat → ClassId) (ad : Nat → Nat) (f : Nat → Int32) (g : Nat → Int64) : eX cy ad 92 f g = .inl (cy 0, 180, .inl f) := rfl
theorem inb_lt {i : Int32} {n : Nat} (h : inb i n = true) : i.toNatClampNeg < n := by
  simp only [inb, Bool.and_eq_true, decide_eq_true_eq] at h
  exact h.2
/-- a contract out of a walk from the entry -/
theorem gMet {en : Nat → (Nat → Int32) → (Nat → Int64) → va_E} {n : Nat} {ad : Nat → Nat} {D : va_G} {cy : Nat → ClassId} {tX tY : Nat} {A : Nat → Prop} {av : List Value} {x : HT} {l : Launch} {y : MethodName} {cc : ByteArray} {nL : Nat} {ret : Option FieldType} {rm : Room} {Qc : Array Value → State → Outcome → State → Prop} (hA : apart ad A n) (hy : plainName y.cls = true) (hn : (lg_sl av).length ≤ nL)
    (K : ∀ (p : Program) (e : Env) (s : State) (m : MethodId) (below : List Frame) (meth : Method) (c : Code), Cf p s m av.toArray meth c cc nL y.cls ret D cy tX tY ad A n → ∀ (H : Heap) (locs : List Loc) (ls : Array Slot), va_P D vwCl (wG en n ad x) H → va_S A s.heap H locs → lv_has ls nL (lv_args 0 av) → W p l e rm s m av.toArray below meth c H locs 0 0 (MQ below Qc av.toArray s 0 0 A) (F0 m 0 ls [])) :
    Met l y (Cond.code y cc nL ret :: wAll) rm (cPc en n ad D cy tX tY A av x) Qc 0 0 A := by
  refine Met.ofW (cc := cc) (maxL := nL) (ret := ret) hy rfl ?_
  intro p e s m args below meth c s₁ B hml hv
  obtain ⟨rfl, hP, hK, hZ⟩ := hv
  have hts := atoms_spec (ws := Cond.code y cc nL ret :: wAll) B.pre
  have hC : Cf p s m av.toArray meth c cc nL y.cls ret D cy tX tY ad A n := ⟨B.exec, B.bytes, hml, findClass_of_methodNamed B.named, fun w hw => hts w (List.mem_cons_of_mem _ hw), B.returns, hK, hZ, hA, B.notSynchronized⟩
  have hl := lv_entry av (n := nL) hn
  rw [lg_entry_eq]
  exact K p e s m below meth c hC s.heap [] _ hP va_S.rf hl
/-- a walk from a place in a method, whatever the heap -/
def Wd (p : Program) (l : Launch) (e : Env) (R : Room) (s : State) (m : MethodId) (args : Array Value) (below : List Frame) (meth : Method) (c : Code) (D : va_G) (en : Nat → (Nat → Int32) → (Nat → Int64) → va_E) (n : Nat) (ad : Nat → Nat) (A : Nat → Prop) (Qc : Array Value → State → Outcome → State → Prop) (nL pc : Nat) (L : List (Nat × Value)) (st : List Value) (x : HT) : Prop :=
  ∀ (H : Heap) (locs : List Loc) (ls : Array Slot), va_P D vwCl (wG en n ad x) H → va_S A s.heap H locs → lv_has ls nL L → W p l e R s m args below meth c H locs 0 0 (MQ below Qc args s 0 0 A) (F0 m pc ls st)
section GR2
variable {p : Program} {l : Launch} {e : Env} {R : Room} {s : State} {m : MethodId} {args : Array Value} {below : List Frame} {meth : Method} {c : Code} {H : Heap} {locs : List Loc} {cells slots : Nat} {Q : State → Prop} {cc : ByteArray} {pc : Nat} {ls : Array Slot} {rest : List Value} {D : va_G} {cy : Nat → ClassId} {tX tY : Nat} {ad : Nat → Nat} {A : Nat → Prop} {n nL : Nat} {own : String} {ret : Option FieldType} {x : HT}
theorem gKept (hC : Cf p s m args meth c cc nL own ret D cy tX tY ad A 93) (hP : va_P D vwCl (wG (eX cy ad) 93 ad x) H) {i : Int32} (hi : inb i 5 = true) (hdg : decode cc pc = .ok (.aaload, 1))
    (kk : W p l e R s m args below meth c H locs cells slots Q (F0 m (pc + 1) ls (.ref (ad (7 * (3 + i.toNatClampNeg) + 1)) :: rest))) : W p l e R s m args below meth c H locs cells slots Q (F0 m pc ls (.int i :: .ref (ad 58) :: rest)) := by
  obtain ⟨hx, hb, hml, hown, hts, hr, hK, hZ, hA, hlk⟩ := hC
  exact va_aldq (C := "SnakeMesh$State") (f := fun i => some (ad (7 * (3 + i) + 1))) hx hb hK hP 58 3 (by rw [wG_at (by decide), eX_58]) rfl (inb_in hi) hdg kk
theorem gRow (hC : Cf p s m args meth c cc nL own ret D cy tX tY ad A 93) (hP : va_P D vwCl (wG (eX cy ad) 93 ad x) H) (k b : Nat) (hk : k < 93) (he : eX cy ad k (x.1 k) (x.2 k) = .inl (cy 4, 10, .inr (.inr (.inr (.inr (fun i => some (ad (b + i)))))))) {i : Int32} (hi : inb i 10 = true) (hdg : decode cc pc = .ok (.aaload, 1))
    (kk : W p l e R s m args below meth c H locs cells slots Q (F0 m (pc + 1) ls (.ref (ad (b + i.toNatClampNeg)) :: rest))) : W p l e R s m args below meth c H locs cells slots Q (F0 m pc ls (.int i :: .ref (ad k) :: rest)) := by
  obtain ⟨hx, hb, hml, hown, hts, hr, hK, hZ, hA, hlk⟩ := hC
  have hlt : i.toNatClampNeg < 10 := inb_lt hi
  have ha : (wG (eX cy ad) 93 ad x)[k]? = some (ad k, .inl (cy 4, 10, .inr (.inr (.inr (.inr (fun i => some (ad (b + i)))))))) := by rw [wG_at hk, he]
  exact W.aald (v := .ref (ad (b + i.toNatClampNeg))) (ty := .array .int) hx hb (hP k _ ha) ((hK.2 4 (cy 4, .array .int) rfl).1 10 (fun j => va_rf (some (ad (b + j))))) rfl (fun q => by cases q) (by show ¬ (i < 0 ∨ (arrV _ _ _).slots.size ≤ _); rw [arrV_size]; exact inb_in hi) (by show (arrV _ _ _).slots[_]? = _; rw [arrV_read _ _ hlt]; rfl) rfl rfl hdg kk
theorem gStat (hC : Cf p s m args meth c cc nL own ret D cy tX tY ad A n) (hS : va_S A s.heap H locs) {i : Int32} {t : Nat} {f : Nat → Int32} (hT : va_T .int t 4 (fun j => .int (f j)) A s s.heap) (hi : inb i 4 = true) (hdg : decode cc pc = .ok (.iaload, 1))
    (kk : W p l e R s m args below meth c H locs cells slots Q (F0 m (pc + 1) ls (.int (f i.toNatClampNeg) :: rest))) : W p l e R s m args below meth c H locs cells slots Q (F0 m pc ls (.int i :: .ref t :: rest)) := by
  obtain ⟨hx, hb, hml, hown, hts, hr, hK, hZ, hA, hlk⟩ := hC
  exact va_ti hx hb hT hS (inb_in hi) rfl hdg kk
theorem gLookD {x9 : Int32} {a : Int} {k : Int32} (h : ¬ x9 = k) (hk : k.toInt = a) : ¬ x9.toInt = a := lv_neT h hk
end GR2
end
section
theorem iX7 : ∀ w ∈ wsX70, w ∈ wAll := by decide +kernel
theorem iX0 : ∀ w ∈ wsX00, w ∈ wAll := by decide +kernel
theorem iX1 : ∀ w ∈ wsX10, w ∈ wAll := by decide +kernel
theorem iX2 : ∀ w ∈ wsX20, w ∈ wAll := by decide +kernel
theorem iX3 : ∀ w ∈ wsX30, w ∈ wAll := by decide +kernel
theorem iX4 : ∀ w ∈ wsX40, w ∈ wAll := by decide +kernel
theorem iX5 : ∀ w ∈ wsX50, w ∈ wAll := by decide +kernel
theorem iX6 : ∀ w ∈ wsX60, w ∈ wAll := by decide +kernel
theorem qw0 : Cond.selects RX0 yX0_layPlace yX0_layPlace ∈ wAll := wAll_of (i := 0) (by decide +kernel) (by decide +kernel)
theorem qw1 : Cond.selects RX6 yX6_makeMesh yX6_makeMesh ∈ wAll := wAll_of (i := 1) (by decide +kernel) (by decide +kernel)
theorem qw2 : Cond.selects RX6 yX6_settle yX6_settle ∈ wAll := wAll_of (i := 2) (by decide +kernel) (by decide +kernel)
theorem qw3 : Cond.selects RX6 yX6_refuse yX6_refuse ∈ wAll := wAll_of (i := 3) (by decide +kernel) (by decide +kernel)
theorem qw4 : Cond.selects RX6 yX6_addMessage yX6_addMessage ∈ wAll := wAll_of (i := 4) (by decide +kernel) (by decide +kernel)
theorem qw5 : Cond.selects RX6 yX6_layMessage yX6_layMessage ∈ wAll := wAll_of (i := 5) (by decide +kernel) (by decide +kernel)
theorem qw6 : Cond.selects RX5 yX5_layTo yX5_layTo ∈ wAll := wAll_of (i := 6) (by decide +kernel) (by decide +kernel)
theorem qw7 : Cond.selects RX6 yX6_turnGoal yX6_turnGoal ∈ wAll := wAll_of (i := 7) (by decide +kernel) (by decide +kernel)
theorem qw8 : Cond.selects RX6 yX6_hasMessage yX6_hasMessage ∈ wAll := wAll_of (i := 8) (by decide +kernel) (by decide +kernel)
theorem qw9 : Cond.selects RX6 yX6_turnChannel yX6_turnChannel ∈ wAll := wAll_of (i := 9) (by decide +kernel) (by decide +kernel)
theorem qw10 : Cond.selects RX6 yX6_goSteps yX6_goSteps ∈ wAll := wAll_of (i := 10) (by decide +kernel) (by decide +kernel)
theorem qw11 : Cond.selects RX4 yX4_isStopped yX4_isStopped ∈ wAll := wAll_of (i := 11) (by decide +kernel) (by decide +kernel)
theorem qw12 : Cond.selects RX4 yX4_moveOn yX4_moveOn ∈ wAll := wAll_of (i := 12) (by decide +kernel) (by decide +kernel)
theorem qw13 : Cond.selects RX4 yX4_waitFor yX4_waitFor ∈ wAll := wAll_of (i := 13) (by decide +kernel) (by decide +kernel)
theorem qw14 : Cond.selects RX6 yX6_startAgain yX6_startAgain ∈ wAll := wAll_of (i := 14) (by decide +kernel) (by decide +kernel)
theorem qw15 : Cond.selects RX6 yX6_hasWorm yX6_hasWorm ∈ wAll := wAll_of (i := 15) (by decide +kernel) (by decide +kernel)
theorem qw16 : Cond.selects RX6 yX6_wormFact yX6_wormFact ∈ wAll := wAll_of (i := 16) (by decide +kernel) (by decide +kernel)
theorem qw17 : Cond.selects RX6 yX6_messageFact yX6_messageFact ∈ wAll := wAll_of (i := 17) (by decide +kernel) (by decide +kernel)
theorem qw18 : Cond.selects RX6 yX6_straightWays yX6_straightWays ∈ wAll := wAll_of (i := 18) (by decide +kernel) (by decide +kernel)
theorem qw19 : Cond.selects RX6 yX6_stepsUntilDone yX6_stepsUntilDone ∈ wAll := wAll_of (i := 19) (by decide +kernel) (by decide +kernel)
theorem qw20 : Cond.selects RX6 yX6_countFact yX6_countFact ∈ wAll := wAll_of (i := 20) (by decide +kernel) (by decide +kernel)
theorem qw21 : Cond.selects RX6 yX6_messagesDone yX6_messagesDone ∈ wAll := wAll_of (i := 21) (by decide +kernel) (by decide +kernel)
theorem qw22 : Cond.selects RX3 yX3_passBlanks yX3_passBlanks ∈ wAll := wAll_of (i := 22) (by decide +kernel) (by decide +kernel)
theorem qw23 : Cond.selects RX3 yX3_readOrder yX3_readOrder ∈ wAll := wAll_of (i := 23) (by decide +kernel) (by decide +kernel)
theorem qw24 : Cond.selects RX3 yX3_byteHere yX3_byteHere ∈ wAll := wAll_of (i := 24) (by decide +kernel) (by decide +kernel)
theorem qw25 : Cond.selects RX3 yX3_readNumber yX3_readNumber ∈ wAll := wAll_of (i := 25) (by decide +kernel) (by decide +kernel)
theorem qw26 : Cond.selects RX6 yX6_perform yX6_perform ∈ wAll := wAll_of (i := 26) (by decide +kernel) (by decide +kernel)
theorem qw27 : Cond.selects RX6 yX6_layAll yX6_layAll ∈ wAll := wAll_of (i := 27) (by decide +kernel) (by decide +kernel)
theorem qw28 : Cond.selects RX6 yX6_toldFact yX6_toldFact ∈ wAll := wAll_of (i := 28) (by decide +kernel) (by decide +kernel)
theorem qw29 : Cond.selects RX6 yX6_digestMessage yX6_digestMessage ∈ wAll := wAll_of (i := 29) (by decide +kernel) (by decide +kernel)
theorem qw30 : Cond.selects RX7 yX7_refuses yX7_refuses ∈ wAll := wAll_of (i := 30) (by decide +kernel) (by decide +kernel)
theorem qw31 : Cond.selects RX7 yX7_laysAside yX7_laysAside ∈ wAll := wAll_of (i := 31) (by decide +kernel) (by decide +kernel)
theorem qw32 : Cond.selects RX7 yX7_putMesh yX7_putMesh ∈ wAll := wAll_of (i := 32) (by decide +kernel) (by decide +kernel)
theorem qw33 : Cond.selects RX7 yX7_finished yX7_finished ∈ wAll := wAll_of (i := 33) (by decide +kernel) (by decide +kernel)
theorem qw34 : Cond.selects RX7 yX7_remembers yX7_remembers ∈ wAll := wAll_of (i := 34) (by decide +kernel) (by decide +kernel)
theorem qw35 : Cond.selects RX7 yX7_putMessage yX7_putMessage ∈ wAll := wAll_of (i := 35) (by decide +kernel) (by decide +kernel)
theorem qw36 : Cond.selects RX7 yX7_isPlace yX7_isPlace ∈ wAll := wAll_of (i := 36) (by decide +kernel) (by decide +kernel)
theorem qw37 : Cond.selects RX7 yX7_spotOf yX7_spotOf ∈ wAll := wAll_of (i := 37) (by decide +kernel) (by decide +kernel)
theorem qw38 : Cond.selects RX7 yX7_labelOf yX7_labelOf ∈ wAll := wAll_of (i := 38) (by decide +kernel) (by decide +kernel)
theorem qw39 : Cond.selects RX7 yX7_putGoal yX7_putGoal ∈ wAll := wAll_of (i := 39) (by decide +kernel) (by decide +kernel)
theorem qw40 : Cond.selects RX7 yX7_isMessage yX7_isMessage ∈ wAll := wAll_of (i := 40) (by decide +kernel) (by decide +kernel)
theorem qw41 : Cond.selects RX7 yX7_of0 yX7_of0 ∈ wAll := wAll_of (i := 41) (by decide +kernel) (by decide +kernel)
theorem qw42 : Cond.selects RX7 yX7_goalsOf yX7_goalsOf ∈ wAll := wAll_of (i := 42) (by decide +kernel) (by decide +kernel)
theorem qw43 : Cond.selects RX7 yX7_isGoal yX7_isGoal ∈ wAll := wAll_of (i := 43) (by decide +kernel) (by decide +kernel)
theorem qw44 : Cond.selects RX7 yX7_putTurn yX7_putTurn ∈ wAll := wAll_of (i := 44) (by decide +kernel) (by decide +kernel)
theorem qw45 : Cond.selects RX7 yX7_isChannel yX7_isChannel ∈ wAll := wAll_of (i := 45) (by decide +kernel) (by decide +kernel)
theorem qw46 : Cond.selects RX7 yX7_beside yX7_beside ∈ wAll := wAll_of (i := 46) (by decide +kernel) (by decide +kernel)
theorem qw47 : Cond.selects RX7 yX7_xOf yX7_xOf ∈ wAll := wAll_of (i := 47) (by decide +kernel) (by decide +kernel)
theorem qw48 : Cond.selects RX7 yX7_yOf yX7_yOf ∈ wAll := wAll_of (i := 48) (by decide +kernel) (by decide +kernel)
theorem qw49 : Cond.selects RX7 yX7_isDown yX7_isDown ∈ wAll := wAll_of (i := 49) (by decide +kernel) (by decide +kernel)
theorem qw50 : Cond.selects RX7 yX7_putSteps yX7_putSteps ∈ wAll := wAll_of (i := 50) (by decide +kernel) (by decide +kernel)
theorem qw51 : Cond.selects RX7 yX7_laysWays yX7_laysWays ∈ wAll := wAll_of (i := 51) (by decide +kernel) (by decide +kernel)
theorem qw52 : Cond.selects RX7 yX7_laysWay yX7_laysWay ∈ wAll := wAll_of (i := 52) (by decide +kernel) (by decide +kernel)
theorem qw53 : Cond.selects RX7 yX7_nextOf yX7_nextOf ∈ wAll := wAll_of (i := 53) (by decide +kernel) (by decide +kernel)
theorem qw54 : Cond.selects RX7 yX7_step yX7_step ∈ wAll := wAll_of (i := 54) (by decide +kernel) (by decide +kernel)
theorem qw55 : Cond.selects RX7 yX7_isDone yX7_isDone ∈ wAll := wAll_of (i := 55) (by decide +kernel) (by decide +kernel)
theorem qw56 : Cond.selects RX7 yX7_moves yX7_moves ∈ wAll := wAll_of (i := 56) (by decide +kernel) (by decide +kernel)
theorem qw57 : Cond.selects RX7 yX7_goes yX7_goes ∈ wAll := wAll_of (i := 57) (by decide +kernel) (by decide +kernel)
theorem qw58 : Cond.selects RX7 yX7_wayTo yX7_wayTo ∈ wAll := wAll_of (i := 58) (by decide +kernel) (by decide +kernel)
theorem qw59 : Cond.selects RX7 yX7_holder yX7_holder ∈ wAll := wAll_of (i := 59) (by decide +kernel) (by decide +kernel)
theorem qw60 : Cond.selects RX7 yX7_isHeldBy yX7_isHeldBy ∈ wAll := wAll_of (i := 60) (by decide +kernel) (by decide +kernel)
theorem qw61 : Cond.selects RX7 yX7_heldFrom yX7_heldFrom ∈ wAll := wAll_of (i := 61) (by decide +kernel) (by decide +kernel)
theorem qw62 : Cond.selects RX7 yX7_heldTo yX7_heldTo ∈ wAll := wAll_of (i := 62) (by decide +kernel) (by decide +kernel)
theorem qw63 : Cond.selects RX7 yX7_notDone yX7_notDone ∈ wAll := wAll_of (i := 63) (by decide +kernel) (by decide +kernel)
theorem qw64 : Cond.selects RX7 yX7_putAgain yX7_putAgain ∈ wAll := wAll_of (i := 64) (by decide +kernel) (by decide +kernel)
theorem qw65 : Cond.selects RX7 yX7_isLabel yX7_isLabel ∈ wAll := wAll_of (i := 65) (by decide +kernel) (by decide +kernel)
theorem qw66 : Cond.selects RX7 yX7_toldOf yX7_toldOf ∈ wAll := wAll_of (i := 66) (by decide +kernel) (by decide +kernel)
theorem qw67 : Cond.selects RX7 yX7_farOf yX7_farOf ∈ wAll := wAll_of (i := 67) (by decide +kernel) (by decide +kernel)
theorem qw68 : Cond.selects RX7 yX7_isWorm yX7_isWorm ∈ wAll := wAll_of (i := 68) (by decide +kernel) (by decide +kernel)
theorem qw69 : Cond.selects RX7 yX7_wormTold yX7_wormTold ∈ wAll := wAll_of (i := 69) (by decide +kernel) (by decide +kernel)
theorem qw70 : Cond.selects RX7 yX7_arrived yX7_arrived ∈ wAll := wAll_of (i := 70) (by decide +kernel) (by decide +kernel)
theorem qw71 : Cond.selects RX7 yX7_heldMany yX7_heldMany ∈ wAll := wAll_of (i := 71) (by decide +kernel) (by decide +kernel)
theorem qw72 : Cond.selects RX7 yX7_downOf yX7_downOf ∈ wAll := wAll_of (i := 72) (by decide +kernel) (by decide +kernel)
theorem qw73 : Cond.selects RX7 yX7_messageTold yX7_messageTold ∈ wAll := wAll_of (i := 73) (by decide +kernel) (by decide +kernel)
theorem qw74 : Cond.selects RX7 yX7_whenDone yX7_whenDone ∈ wAll := wAll_of (i := 74) (by decide +kernel) (by decide +kernel)
theorem qw75 : Cond.selects RX7 yX7_areDone yX7_areDone ∈ wAll := wAll_of (i := 75) (by decide +kernel) (by decide +kernel)
theorem qw76 : Cond.selects RX7 yX7_takesBack yX7_takesBack ∈ wAll := wAll_of (i := 76) (by decide +kernel) (by decide +kernel)
theorem qw77 : Cond.selects RX7 yX7_countTold yX7_countTold ∈ wAll := wAll_of (i := 77) (by decide +kernel) (by decide +kernel)
theorem qw78 : Cond.selects RX7 yX7_isRead yX7_isRead ∈ wAll := wAll_of (i := 78) (by decide +kernel) (by decide +kernel)
theorem qw79 : Cond.selects RX7 yX7_blanks yX7_blanks ∈ wAll := wAll_of (i := 79) (by decide +kernel) (by decide +kernel)
theorem qw80 : Cond.selects RX7 yX7_isAt yX7_isAt ∈ wAll := wAll_of (i := 80) (by decide +kernel) (by decide +kernel)
theorem qw81 : Cond.selects RX7 yX7_takesOrder yX7_takesOrder ∈ wAll := wAll_of (i := 81) (by decide +kernel) (by decide +kernel)
theorem qw82 : Cond.selects RX7 yX7_fails yX7_fails ∈ wAll := wAll_of (i := 82) (by decide +kernel) (by decide +kernel)
theorem qw83 : Cond.selects RX7 yX7_takesNumber yX7_takesNumber ∈ wAll := wAll_of (i := 83) (by decide +kernel) (by decide +kernel)
theorem qw84 : Cond.selects RX7 yX7_doneOne yX7_doneOne ∈ wAll := wAll_of (i := 84) (by decide +kernel) (by decide +kernel)
theorem qw85 : Cond.selects RX7 yX7_toldAt yX7_toldAt ∈ wAll := wAll_of (i := 85) (by decide +kernel) (by decide +kernel)
theorem qw86 : Cond.selects RX7 yX7_mix yX7_mix ∈ wAll := wAll_of (i := 86) (by decide +kernel) (by decide +kernel)
theorem qw87 : Cond.selects RX7 yX7_mixMessage yX7_mixMessage ∈ wAll := wAll_of (i := 87) (by decide +kernel) (by decide +kernel)
theorem qw89 : Cond.initialized RX6 ∈ wAll := wAll_of (i := 89) (by decide +kernel) (by decide +kernel)
theorem qw90 : Cond.initialized RX2 ∈ wAll := wAll_of (i := 90) (by decide +kernel) (by decide +kernel)
theorem qw91 : Cond.initialized RX1 ∈ wAll := wAll_of (i := 91) (by decide +kernel) (by decide +kernel)
theorem qw92 : Cond.initialized RX0 ∈ wAll := wAll_of (i := 92) (by decide +kernel) (by decide +kernel)
theorem qw93 : Cond.initialized RX5 ∈ wAll := wAll_of (i := 93) (by decide +kernel) (by decide +kernel)
theorem qw94 : Cond.initialized RX4 ∈ wAll := wAll_of (i := 94) (by decide +kernel) (by decide +kernel)
theorem qw95 : Cond.initialized RX3 ∈ wAll := wAll_of (i := 95) (by decide +kernel) (by decide +kernel)
theorem qw96 : Cond.initialized RJ7 ∈ wAll := wAll_of (i := 96) (by decide +kernel) (by decide +kernel)
theorem qw97 : Cond.initialized RX7 ∈ wAll := wAll_of (i := 97) (by decide +kernel) (by decide +kernel)
theorem qw98 : Cond.initialized RJ10 ∈ wAll := wAll_of (i := 98) (by decide +kernel) (by decide +kernel)
theorem qw99 : Cond.initialized RJ9 ∈ wAll := wAll_of (i := 99) (by decide +kernel) (by decide +kernel)
theorem qw100 : Cond.initialized RJ13 ∈ wAll := wAll_of (i := 100) (by decide +kernel) (by decide +kernel)
theorem qw101 : Cond.initialized RJ6 ∈ wAll := wAll_of (i := 101) (by decide +kernel) (by decide +kernel)
theorem qw116 : Cond.fieldLink RX2 31 "SnakeMesh$State" "wide" "I" ∈ wAll := wAll_of (i := 116) (by decide +kernel) (by decide +kernel)
theorem qw117 : Cond.fieldLink RX6 299 "SnakeMesh$State" "wide" "I" ∈ wAll := wAll_of (i := 117) (by decide +kernel) (by decide +kernel)
theorem qw118 : Cond.fieldLink RX2 35 "SnakeMesh$State" "high" "I" ∈ wAll := wAll_of (i := 118) (by decide +kernel) (by decide +kernel)
theorem qw119 : Cond.fieldLink RX6 302 "SnakeMesh$State" "high" "I" ∈ wAll := wAll_of (i := 119) (by decide +kernel) (by decide +kernel)
theorem qw120 : Cond.fieldLink RX2 50 "SnakeMesh$State" "stepped" "I" ∈ wAll := wAll_of (i := 120) (by decide +kernel) (by decide +kernel)
theorem qw121 : Cond.fieldLink RX4 60 "SnakeMesh$State" "stepped" "I" ∈ wAll := wAll_of (i := 121) (by decide +kernel) (by decide +kernel)
theorem qw122 : Cond.fieldLink RX6 258 "SnakeMesh$State" "stepped" "I" ∈ wAll := wAll_of (i := 122) (by decide +kernel) (by decide +kernel)
theorem qw123 : Cond.fieldLink RX2 38 "SnakeMesh$State" "messages" "I" ∈ wAll := wAll_of (i := 123) (by decide +kernel) (by decide +kernel)
theorem qw124 : Cond.fieldLink RX6 205 "SnakeMesh$State" "messages" "I" ∈ wAll := wAll_of (i := 124) (by decide +kernel) (by decide +kernel)
theorem qw125 : Cond.fieldLink RX2 9 "SnakeMesh$State" "down" "[I" ∈ wAll := wAll_of (i := 125) (by decide +kernel) (by decide +kernel)
theorem qw126 : Cond.fieldLink RX2 15 "SnakeMesh$State" "source" "[I" ∈ wAll := wAll_of (i := 126) (by decide +kernel) (by decide +kernel)
theorem qw127 : Cond.fieldLink RX6 228 "SnakeMesh$State" "source" "[I" ∈ wAll := wAll_of (i := 127) (by decide +kernel) (by decide +kernel)
theorem qw128 : Cond.fieldLink RX2 18 "SnakeMesh$State" "length" "[I" ∈ wAll := wAll_of (i := 128) (by decide +kernel) (by decide +kernel)
theorem qw129 : Cond.fieldLink RX6 293 "SnakeMesh$State" "length" "[I" ∈ wAll := wAll_of (i := 129) (by decide +kernel) (by decide +kernel)
theorem qw130 : Cond.fieldLink RX2 21 "SnakeMesh$State" "goals" "[J" ∈ wAll := wAll_of (i := 130) (by decide +kernel) (by decide +kernel)
theorem qw131 : Cond.fieldLink RX6 235 "SnakeMesh$State" "goals" "[J" ∈ wAll := wAll_of (i := 131) (by decide +kernel) (by decide +kernel)
theorem qw132 : Cond.fieldLink RX2 25 "SnakeMesh$State" "moves" "[I" ∈ wAll := wAll_of (i := 132) (by decide +kernel) (by decide +kernel)
theorem qw133 : Cond.fieldLink RX4 64 "SnakeMesh$State" "moves" "[I" ∈ wAll := wAll_of (i := 133) (by decide +kernel) (by decide +kernel)
theorem qw134 : Cond.fieldLink RX5 53 "SnakeMesh$State" "moves" "[I" ∈ wAll := wAll_of (i := 134) (by decide +kernel) (by decide +kernel)
theorem qw135 : Cond.fieldLink RX6 232 "SnakeMesh$State" "moves" "[I" ∈ wAll := wAll_of (i := 135) (by decide +kernel) (by decide +kernel)
theorem qw136 : Cond.fieldLink RX2 28 "SnakeMesh$State" "waited" "[I" ∈ wAll := wAll_of (i := 136) (by decide +kernel) (by decide +kernel)
theorem qw137 : Cond.fieldLink RX4 53 "SnakeMesh$State" "waited" "[I" ∈ wAll := wAll_of (i := 137) (by decide +kernel) (by decide +kernel)
theorem qw138 : Cond.fieldLink RX6 274 "SnakeMesh$State" "waited" "[I" ∈ wAll := wAll_of (i := 138) (by decide +kernel) (by decide +kernel)
theorem qw171 : Cond.fieldLink RX1 11 "SnakeMesh$History" "kept" "[LSnakeMesh$State;" ∈ wAll := wAll_of (i := 171) (by decide +kernel) (by decide +kernel)
theorem qw172 : Cond.fieldLink RX1 22 "SnakeMesh$History" "top" "I" ∈ wAll := wAll_of (i := 172) (by decide +kernel) (by decide +kernel)
theorem qw173 : Cond.fieldLink RX1 18 "SnakeMesh$History" "held" "I" ∈ wAll := wAll_of (i := 173) (by decide +kernel) (by decide +kernel)
theorem qw187 : Cond.fieldLink RX0 21 "SnakeMesh$Grid" "wide" "I" ∈ wAll := wAll_of (i := 187) (by decide +kernel) (by decide +kernel)
theorem qw188 : Cond.fieldLink RX0 25 "SnakeMesh$Grid" "high" "I" ∈ wAll := wAll_of (i := 188) (by decide +kernel) (by decide +kernel)
theorem qw189 : Cond.fieldLink RX0 9 "SnakeMesh$Grid" "xs" "[I" ∈ wAll := wAll_of (i := 189) (by decide +kernel) (by decide +kernel)
theorem qw190 : Cond.fieldLink RX0 15 "SnakeMesh$Grid" "ys" "[I" ∈ wAll := wAll_of (i := 190) (by decide +kernel) (by decide +kernel)
theorem qw191 : Cond.fieldLink RX0 18 "SnakeMesh$Grid" "ends" "[I" ∈ wAll := wAll_of (i := 191) (by decide +kernel) (by decide +kernel)
theorem qw211 : Cond.fieldLink RX5 9 "SnakeMesh$Ways" "lengths" "[I" ∈ wAll := wAll_of (i := 211) (by decide +kernel) (by decide +kernel)
theorem qw212 : Cond.fieldLink RX5 17 "SnakeMesh$Ways" "places" "[[I" ∈ wAll := wAll_of (i := 212) (by decide +kernel) (by decide +kernel)
theorem qw213 : Cond.fieldLink RX5 20 "SnakeMesh$Ways" "channels" "[[I" ∈ wAll := wAll_of (i := 213) (by decide +kernel) (by decide +kernel)
theorem qw227 : Cond.fieldLink RX4 15 "SnakeMesh$Traffic" "ways" "LSnakeMesh$Ways;" ∈ wAll := wAll_of (i := 227) (by decide +kernel) (by decide +kernel)
theorem qw228 : Cond.fieldLink RX4 9 "SnakeMesh$Traffic" "taken" "[Z" ∈ wAll := wAll_of (i := 228) (by decide +kernel) (by decide +kernel)
theorem qw241 : Cond.fieldLink RX3 9 "SnakeMesh$Text" "bytes" "[I" ∈ wAll := wAll_of (i := 241) (by decide +kernel) (by decide +kernel)
theorem qw242 : Cond.fieldLink RX3 21 "SnakeMesh$Text" "typed" "I" ∈ wAll := wAll_of (i := 242) (by decide +kernel) (by decide +kernel)
theorem qw243 : Cond.fieldLink RX3 15 "SnakeMesh$Text" "letters" "[I" ∈ wAll := wAll_of (i := 243) (by decide +kernel) (by decide +kernel)
theorem qw244 : Cond.fieldLink RX3 18 "SnakeMesh$Text" "numbers" "[I" ∈ wAll := wAll_of (i := 244) (by decide +kernel) (by decide +kernel)
theorem qw245 : Cond.fieldLink RX3 25 "SnakeMesh$Text" "found" "I" ∈ wAll := wAll_of (i := 245) (by decide +kernel) (by decide +kernel)
theorem qw246 : Cond.fieldLink RX3 28 "SnakeMesh$Text" "spot" "I" ∈ wAll := wAll_of (i := 246) (by decide +kernel) (by decide +kernel)
theorem qw260 : Cond.methodLink RX6 59 yX2_begin ∈ wAll := wAll_of (i := 260) (by decide +kernel) (by decide +kernel)
theorem qw261 : Cond.instanceMethod yX2_begin ∈ wAll := wAll_of (i := 261) (by decide +kernel) (by decide +kernel)
theorem qw262 : Cond.selects RX2 yX2_begin yX2_begin ∈ wAll := wAll_of (i := 262) (by decide +kernel) (by decide +kernel)
theorem qw263 : Cond.code yX2_begin cX2_begin 3 none ∈ wAll := wAll_of (i := 263) (by decide +kernel) (by decide +kernel)
theorem qw264 : Cond.methodLink RX2 41 yJ7_fill_53178 ∈ wAll := wAll_of (i := 264) (by decide +kernel) (by decide +kernel)
theorem qw265 : Cond.static yJ7_fill_53178 ∈ wAll := wAll_of (i := 265) (by decide +kernel) (by decide +kernel)
theorem qw266 : Cond.code yJ7_fill_53178 cJ7_fill_53178 4 none ∈ wAll := wAll_of (i := 266) (by decide +kernel) (by decide +kernel)
theorem qw267 : Cond.methodLink RX2 47 yX2_standStill ∈ wAll := wAll_of (i := 267) (by decide +kernel) (by decide +kernel)
theorem qw268 : Cond.instanceMethod yX2_standStill ∈ wAll := wAll_of (i := 268) (by decide +kernel) (by decide +kernel)
theorem qw269 : Cond.selects RX2 yX2_standStill yX2_standStill ∈ wAll := wAll_of (i := 269) (by decide +kernel) (by decide +kernel)
theorem qw270 : Cond.code yX2_standStill cX2_standStill 1 none ∈ wAll := wAll_of (i := 270) (by decide +kernel) (by decide +kernel)
theorem qw271 : Cond.methodLink RX6 63 yX0_lay ∈ wAll := wAll_of (i := 271) (by decide +kernel) (by decide +kernel)
theorem qw272 : Cond.instanceMethod yX0_lay ∈ wAll := wAll_of (i := 272) (by decide +kernel) (by decide +kernel)
theorem qw273 : Cond.selects RX0 yX0_lay yX0_lay ∈ wAll := wAll_of (i := 273) (by decide +kernel) (by decide +kernel)
theorem qw274 : Cond.code yX0_lay cX0_lay 5 none ∈ wAll := wAll_of (i := 274) (by decide +kernel) (by decide +kernel)
theorem qw275 : Cond.methodLink RX0 28 yX0_layPlace ∈ wAll := wAll_of (i := 275) (by decide +kernel) (by decide +kernel)
theorem qw277 : Cond.instanceMethod yX0_layPlace ∈ wAll := wAll_of (i := 277) (by decide +kernel) (by decide +kernel)
theorem qw278 : Cond.code yX0_layPlace cX0_layPlace 7 none ∈ wAll := wAll_of (i := 278) (by decide +kernel) (by decide +kernel)
theorem qw279 : Cond.methodLink RX0 32 yX0_labelAt ∈ wAll := wAll_of (i := 279) (by decide +kernel) (by decide +kernel)
theorem qw280 : Cond.instanceMethod yX0_labelAt ∈ wAll := wAll_of (i := 280) (by decide +kernel) (by decide +kernel)
theorem qw281 : Cond.selects RX0 yX0_labelAt yX0_labelAt ∈ wAll := wAll_of (i := 281) (by decide +kernel) (by decide +kernel)
theorem qw282 : Cond.code yX0_labelAt cX0_labelAt 3 (some .int) ∈ wAll := wAll_of (i := 282) (by decide +kernel) (by decide +kernel)
theorem qw287 : Cond.methodLink RX0 42 yX0_has ∈ wAll := wAll_of (i := 287) (by decide +kernel) (by decide +kernel)
theorem qw288 : Cond.instanceMethod yX0_has ∈ wAll := wAll_of (i := 288) (by decide +kernel) (by decide +kernel)
theorem qw289 : Cond.selects RX0 yX0_has yX0_has ∈ wAll := wAll_of (i := 289) (by decide +kernel) (by decide +kernel)
theorem qw290 : Cond.code yX0_has cX0_has 3 (some .boolean) ∈ wAll := wAll_of (i := 290) (by decide +kernel) (by decide +kernel)
theorem qw291 : Cond.fieldLink RX6 12 "SnakeMesh" "now" "LSnakeMesh$State;" ∈ wAll := wAll_of (i := 291) (by decide +kernel) (by decide +kernel)
theorem qw292 : Cond.fieldLink RX6 16 "SnakeMesh" "before" "LSnakeMesh$State;" ∈ wAll := wAll_of (i := 292) (by decide +kernel) (by decide +kernel)
theorem qw293 : Cond.fieldLink RX6 19 "SnakeMesh" "ahead" "LSnakeMesh$State;" ∈ wAll := wAll_of (i := 293) (by decide +kernel) (by decide +kernel)
theorem qw294 : Cond.fieldLink RX6 25 "SnakeMesh" "history" "LSnakeMesh$History;" ∈ wAll := wAll_of (i := 294) (by decide +kernel) (by decide +kernel)
theorem qw295 : Cond.fieldLink RX6 32 "SnakeMesh" "grid" "LSnakeMesh$Grid;" ∈ wAll := wAll_of (i := 295) (by decide +kernel) (by decide +kernel)
theorem qw296 : Cond.fieldLink RX6 39 "SnakeMesh" "ways" "LSnakeMesh$Ways;" ∈ wAll := wAll_of (i := 296) (by decide +kernel) (by decide +kernel)
theorem qw297 : Cond.fieldLink RX6 48 "SnakeMesh" "traffic" "LSnakeMesh$Traffic;" ∈ wAll := wAll_of (i := 297) (by decide +kernel) (by decide +kernel)
theorem qw298 : Cond.fieldLink RX6 55 "SnakeMesh" "text" "LSnakeMesh$Text;" ∈ wAll := wAll_of (i := 298) (by decide +kernel) (by decide +kernel)
theorem qw299 : Cond.fieldLink RX6 213 "SnakeMesh" "refusedBad" "I" ∈ wAll := wAll_of (i := 299) (by decide +kernel) (by decide +kernel)
theorem qw300 : Cond.fieldLink RX6 216 "SnakeMesh" "refusedNo" "I" ∈ wAll := wAll_of (i := 300) (by decide +kernel) (by decide +kernel)
theorem qw301 : Cond.fieldLink RX6 219 "SnakeMesh" "refusedFull" "I" ∈ wAll := wAll_of (i := 301) (by decide +kernel) (by decide +kernel)
theorem qw329 : Cond.methodLink RX6 66 yX2_copyFrom ∈ wAll := wAll_of (i := 329) (by decide +kernel) (by decide +kernel)
theorem qw330 : Cond.instanceMethod yX2_copyFrom ∈ wAll := wAll_of (i := 330) (by decide +kernel) (by decide +kernel)
theorem qw331 : Cond.selects RX2 yX2_copyFrom yX2_copyFrom ∈ wAll := wAll_of (i := 331) (by decide +kernel) (by decide +kernel)
theorem qw332 : Cond.code yX2_copyFrom cX2_copyFrom 2 none ∈ wAll := wAll_of (i := 332) (by decide +kernel) (by decide +kernel)
theorem qw333 : Cond.methodLink RX2 53 ⟨"java/lang/System", "arraycopy", "(Ljava/lang/Object;ILjava/lang/Object;II)V"⟩ ∈ wAll := wAll_of (i := 333) (by decide +kernel) (by decide +kernel)
theorem qw336 : Cond.methodLink RX6 70 yX6_makeMesh ∈ wAll := wAll_of (i := 336) (by decide +kernel) (by decide +kernel)
theorem qw338 : Cond.instanceMethod yX6_makeMesh ∈ wAll := wAll_of (i := 338) (by decide +kernel) (by decide +kernel)
theorem qw339 : Cond.code yX6_makeMesh cX6_makeMesh 4 (some .int) ∈ wAll := wAll_of (i := 339) (by decide +kernel) (by decide +kernel)
theorem qw340 : Cond.methodLink RX6 199 yX0_places ∈ wAll := wAll_of (i := 340) (by decide +kernel) (by decide +kernel)
theorem qw341 : Cond.instanceMethod yX0_places ∈ wAll := wAll_of (i := 341) (by decide +kernel) (by decide +kernel)
theorem qw342 : Cond.selects RX0 yX0_places yX0_places ∈ wAll := wAll_of (i := 342) (by decide +kernel) (by decide +kernel)
theorem qw343 : Cond.code yX0_places cX0_places 1 (some .int) ∈ wAll := wAll_of (i := 343) (by decide +kernel) (by decide +kernel)
theorem qw344 : Cond.methodLink RX6 74 yX6_settle ∈ wAll := wAll_of (i := 344) (by decide +kernel) (by decide +kernel)
theorem qw346 : Cond.instanceMethod yX6_settle ∈ wAll := wAll_of (i := 346) (by decide +kernel) (by decide +kernel)
theorem qw347 : Cond.code yX6_settle cX6_settle 2 (some .int) ∈ wAll := wAll_of (i := 347) (by decide +kernel) (by decide +kernel)
theorem qw348 : Cond.methodLink RX6 102 yX6_refuse ∈ wAll := wAll_of (i := 348) (by decide +kernel) (by decide +kernel)
theorem qw350 : Cond.instanceMethod yX6_refuse ∈ wAll := wAll_of (i := 350) (by decide +kernel) (by decide +kernel)
theorem qw351 : Cond.code yX6_refuse cX6_refuse 2 (some .int) ∈ wAll := wAll_of (i := 351) (by decide +kernel) (by decide +kernel)
theorem qw352 : Cond.methodLink RX6 184 yX1_push ∈ wAll := wAll_of (i := 352) (by decide +kernel) (by decide +kernel)
theorem qw353 : Cond.instanceMethod yX1_push ∈ wAll := wAll_of (i := 353) (by decide +kernel) (by decide +kernel)
theorem qw354 : Cond.selects RX1 yX1_push yX1_push ∈ wAll := wAll_of (i := 354) (by decide +kernel) (by decide +kernel)
theorem qw355 : Cond.code yX1_push cX1_push 2 none ∈ wAll := wAll_of (i := 355) (by decide +kernel) (by decide +kernel)
theorem qw356 : Cond.methodLink RX1 25 yX2_copyFrom ∈ wAll := wAll_of (i := 356) (by decide +kernel) (by decide +kernel)
theorem qw357 : Cond.methodLink RX1 29 yJ9_min_7cf53 ∈ wAll := wAll_of (i := 357) (by decide +kernel) (by decide +kernel)
theorem qw358 : Cond.static yJ9_min_7cf53 ∈ wAll := wAll_of (i := 358) (by decide +kernel) (by decide +kernel)
theorem qw359 : Cond.code Lib.Math.min.name Lib.Math.min.code 2 (some .int) ∈ wAll := wAll_of (i := 359) (by decide +kernel) (by decide +kernel)
theorem qw364 : Cond.methodLink RX6 78 yX6_addMessage ∈ wAll := wAll_of (i := 364) (by decide +kernel) (by decide +kernel)
theorem qw366 : Cond.instanceMethod yX6_addMessage ∈ wAll := wAll_of (i := 366) (by decide +kernel) (by decide +kernel)
theorem qw367 : Cond.code yX6_addMessage cX6_addMessage 5 (some .int) ∈ wAll := wAll_of (i := 367) (by decide +kernel) (by decide +kernel)
theorem qw368 : Cond.methodLink RX6 95 yX0_has ∈ wAll := wAll_of (i := 368) (by decide +kernel) (by decide +kernel)
theorem qw369 : Cond.methodLink RX6 99 yX0_labelAt ∈ wAll := wAll_of (i := 369) (by decide +kernel) (by decide +kernel)
theorem qw370 : Cond.methodLink RX6 222 yX2_addMessage ∈ wAll := wAll_of (i := 370) (by decide +kernel) (by decide +kernel)
theorem qw371 : Cond.instanceMethod yX2_addMessage ∈ wAll := wAll_of (i := 371) (by decide +kernel) (by decide +kernel)
theorem qw372 : Cond.selects RX2 yX2_addMessage yX2_addMessage ∈ wAll := wAll_of (i := 372) (by decide +kernel) (by decide +kernel)
theorem qw373 : Cond.code yX2_addMessage cX2_addMessage 5 (some .int) ∈ wAll := wAll_of (i := 373) (by decide +kernel) (by decide +kernel)
theorem qw374 : Cond.methodLink RX6 224 yX6_layMessage ∈ wAll := wAll_of (i := 374) (by decide +kernel) (by decide +kernel)
theorem qw376 : Cond.instanceMethod yX6_layMessage ∈ wAll := wAll_of (i := 376) (by decide +kernel) (by decide +kernel)
theorem qw377 : Cond.code yX6_layMessage cX6_layMessage 2 none ∈ wAll := wAll_of (i := 377) (by decide +kernel) (by decide +kernel)
theorem qw378 : Cond.methodLink RX6 320 yX5_lay ∈ wAll := wAll_of (i := 378) (by decide +kernel) (by decide +kernel)
theorem qw379 : Cond.instanceMethod yX5_lay ∈ wAll := wAll_of (i := 379) (by decide +kernel) (by decide +kernel)
theorem qw380 : Cond.selects RX5 yX5_lay yX5_lay ∈ wAll := wAll_of (i := 380) (by decide +kernel) (by decide +kernel)
theorem qw381 : Cond.code yX5_lay cX5_lay 8 none ∈ wAll := wAll_of (i := 381) (by decide +kernel) (by decide +kernel)
theorem qw382 : Cond.methodLink RX5 23 yX2_goalsOfWorm ∈ wAll := wAll_of (i := 382) (by decide +kernel) (by decide +kernel)
theorem qw383 : Cond.instanceMethod yX2_goalsOfWorm ∈ wAll := wAll_of (i := 383) (by decide +kernel) (by decide +kernel)
theorem qw384 : Cond.selects RX2 yX2_goalsOfWorm yX2_goalsOfWorm ∈ wAll := wAll_of (i := 384) (by decide +kernel) (by decide +kernel)
theorem qw385 : Cond.code yX2_goalsOfWorm cX2_goalsOfWorm 4 (some .long) ∈ wAll := wAll_of (i := 385) (by decide +kernel) (by decide +kernel)
theorem qw386 : Cond.methodLink RX2 59 yX2_sourceOf ∈ wAll := wAll_of (i := 386) (by decide +kernel) (by decide +kernel)
theorem qw387 : Cond.instanceMethod yX2_sourceOf ∈ wAll := wAll_of (i := 387) (by decide +kernel) (by decide +kernel)
theorem qw388 : Cond.selects RX2 yX2_sourceOf yX2_sourceOf ∈ wAll := wAll_of (i := 388) (by decide +kernel) (by decide +kernel)
theorem qw389 : Cond.code yX2_sourceOf cX2_sourceOf 2 (some .int) ∈ wAll := wAll_of (i := 389) (by decide +kernel) (by decide +kernel)
theorem qw390 : Cond.methodLink RX2 63 yX2_rises ∈ wAll := wAll_of (i := 390) (by decide +kernel) (by decide +kernel)
theorem qw391 : Cond.instanceMethod yX2_rises ∈ wAll := wAll_of (i := 391) (by decide +kernel) (by decide +kernel)
theorem qw392 : Cond.selects RX2 yX2_rises yX2_rises ∈ wAll := wAll_of (i := 392) (by decide +kernel) (by decide +kernel)
theorem qw393 : Cond.code yX2_rises cX2_rises 2 (some .boolean) ∈ wAll := wAll_of (i := 393) (by decide +kernel) (by decide +kernel)
theorem qw394 : Cond.constantLong RX2 67 (-1) ∈ wAll := wAll_of (i := 394) (by decide +kernel) (by decide +kernel)
theorem qw395 : Cond.methodLink RX5 29 yX2_rises ∈ wAll := wAll_of (i := 395) (by decide +kernel) (by decide +kernel)
theorem qw396 : Cond.methodLink RX5 33 yX2_sourceOf ∈ wAll := wAll_of (i := 396) (by decide +kernel) (by decide +kernel)
theorem qw397 : Cond.methodLink RX5 37 yX0_hasLabel ∈ wAll := wAll_of (i := 397) (by decide +kernel) (by decide +kernel)
theorem qw398 : Cond.instanceMethod yX0_hasLabel ∈ wAll := wAll_of (i := 398) (by decide +kernel) (by decide +kernel)
theorem qw399 : Cond.selects RX0 yX0_hasLabel yX0_hasLabel ∈ wAll := wAll_of (i := 399) (by decide +kernel) (by decide +kernel)
theorem qw400 : Cond.code yX0_hasLabel cX0_hasLabel 2 (some .boolean) ∈ wAll := wAll_of (i := 400) (by decide +kernel) (by decide +kernel)
theorem qw401 : Cond.methodLink RX0 46 yX0_places ∈ wAll := wAll_of (i := 401) (by decide +kernel) (by decide +kernel)
theorem qw402 : Cond.methodLink RX5 42 yX5_layTo ∈ wAll := wAll_of (i := 402) (by decide +kernel) (by decide +kernel)
theorem qw404 : Cond.instanceMethod yX5_layTo ∈ wAll := wAll_of (i := 404) (by decide +kernel) (by decide +kernel)
theorem qw405 : Cond.code yX5_layTo cX5_layTo 6 none ∈ wAll := wAll_of (i := 405) (by decide +kernel) (by decide +kernel)
theorem qw406 : Cond.methodLink RX5 46 yX0_channelTowards ∈ wAll := wAll_of (i := 406) (by decide +kernel) (by decide +kernel)
theorem qw407 : Cond.instanceMethod yX0_channelTowards ∈ wAll := wAll_of (i := 407) (by decide +kernel) (by decide +kernel)
theorem qw408 : Cond.selects RX0 yX0_channelTowards yX0_channelTowards ∈ wAll := wAll_of (i := 408) (by decide +kernel) (by decide +kernel)
theorem qw409 : Cond.code yX0_channelTowards cX0_channelTowards 8 (some .int) ∈ wAll := wAll_of (i := 409) (by decide +kernel) (by decide +kernel)
theorem qw410 : Cond.methodLink RX5 50 yX0_endOf ∈ wAll := wAll_of (i := 410) (by decide +kernel) (by decide +kernel)
theorem qw411 : Cond.instanceMethod yX0_endOf ∈ wAll := wAll_of (i := 411) (by decide +kernel) (by decide +kernel)
theorem qw412 : Cond.selects RX0 yX0_endOf yX0_endOf ∈ wAll := wAll_of (i := 412) (by decide +kernel) (by decide +kernel)
theorem qw413 : Cond.code yX0_endOf cX0_endOf 2 (some .int) ∈ wAll := wAll_of (i := 413) (by decide +kernel) (by decide +kernel)
theorem qw418 : Cond.methodLink RX6 82 yX6_turnGoal ∈ wAll := wAll_of (i := 418) (by decide +kernel) (by decide +kernel)
theorem qw420 : Cond.instanceMethod yX6_turnGoal ∈ wAll := wAll_of (i := 420) (by decide +kernel) (by decide +kernel)
theorem qw421 : Cond.code yX6_turnGoal cX6_turnGoal 5 (some .int) ∈ wAll := wAll_of (i := 421) (by decide +kernel) (by decide +kernel)
theorem qw422 : Cond.methodLink RX6 144 yX6_hasMessage ∈ wAll := wAll_of (i := 422) (by decide +kernel) (by decide +kernel)
theorem qw424 : Cond.instanceMethod yX6_hasMessage ∈ wAll := wAll_of (i := 424) (by decide +kernel) (by decide +kernel)
theorem qw425 : Cond.code yX6_hasMessage cX6_hasMessage 2 (some .boolean) ∈ wAll := wAll_of (i := 425) (by decide +kernel) (by decide +kernel)
theorem qw426 : Cond.methodLink RX6 239 yJ13_bitCount_95d88 ∈ wAll := wAll_of (i := 426) (by decide +kernel) (by decide +kernel)
theorem qw427 : Cond.static yJ13_bitCount_95d88 ∈ wAll := wAll_of (i := 427) (by decide +kernel) (by decide +kernel)
theorem qw428 : Cond.code yJ13_bitCount_95d88 cJ13_bitCount_95d88 2 (some .int) ∈ wAll := wAll_of (i := 428) (by decide +kernel) (by decide +kernel)
theorem qw429 : Cond.constantLong RJ13 314 6148914691236517205 ∈ wAll := wAll_of (i := 429) (by decide +kernel) (by decide +kernel)
theorem qw430 : Cond.constantLong RJ13 316 3689348814741910323 ∈ wAll := wAll_of (i := 430) (by decide +kernel) (by decide +kernel)
theorem qw431 : Cond.constantLong RJ13 318 1085102592571150095 ∈ wAll := wAll_of (i := 431) (by decide +kernel) (by decide +kernel)
theorem qw436 : Cond.methodLink RX6 85 yX6_turnChannel ∈ wAll := wAll_of (i := 436) (by decide +kernel) (by decide +kernel)
theorem qw438 : Cond.instanceMethod yX6_turnChannel ∈ wAll := wAll_of (i := 438) (by decide +kernel) (by decide +kernel)
theorem qw439 : Cond.code yX6_turnChannel cX6_turnChannel 5 (some .int) ∈ wAll := wAll_of (i := 439) (by decide +kernel) (by decide +kernel)
theorem qw440 : Cond.methodLink RX6 121 yX0_channelAt ∈ wAll := wAll_of (i := 440) (by decide +kernel) (by decide +kernel)
theorem qw441 : Cond.instanceMethod yX0_channelAt ∈ wAll := wAll_of (i := 441) (by decide +kernel) (by decide +kernel)
theorem qw442 : Cond.selects RX0 yX0_channelAt yX0_channelAt ∈ wAll := wAll_of (i := 442) (by decide +kernel) (by decide +kernel)
theorem qw443 : Cond.code yX0_channelAt cX0_channelAt 5 (some .int) ∈ wAll := wAll_of (i := 443) (by decide +kernel) (by decide +kernel)
theorem qw444 : Cond.methodLink RX6 245 yX2_turn ∈ wAll := wAll_of (i := 444) (by decide +kernel) (by decide +kernel)
theorem qw445 : Cond.instanceMethod yX2_turn ∈ wAll := wAll_of (i := 445) (by decide +kernel) (by decide +kernel)
theorem qw446 : Cond.selects RX2 yX2_turn yX2_turn ∈ wAll := wAll_of (i := 446) (by decide +kernel) (by decide +kernel)
theorem qw447 : Cond.code yX2_turn cX2_turn 2 none ∈ wAll := wAll_of (i := 447) (by decide +kernel) (by decide +kernel)
theorem qw448 : Cond.methodLink RX6 202 yX2_isDown ∈ wAll := wAll_of (i := 448) (by decide +kernel) (by decide +kernel)
theorem qw449 : Cond.instanceMethod yX2_isDown ∈ wAll := wAll_of (i := 449) (by decide +kernel) (by decide +kernel)
theorem qw450 : Cond.selects RX2 yX2_isDown yX2_isDown ∈ wAll := wAll_of (i := 450) (by decide +kernel) (by decide +kernel)
theorem qw451 : Cond.code yX2_isDown cX2_isDown 2 (some .boolean) ∈ wAll := wAll_of (i := 451) (by decide +kernel) (by decide +kernel)
theorem qw456 : Cond.methodLink RX6 88 yX6_goSteps ∈ wAll := wAll_of (i := 456) (by decide +kernel) (by decide +kernel)
theorem qw458 : Cond.instanceMethod yX6_goSteps ∈ wAll := wAll_of (i := 458) (by decide +kernel) (by decide +kernel)
theorem qw459 : Cond.code yX6_goSteps cX6_goSteps 2 (some .int) ∈ wAll := wAll_of (i := 459) (by decide +kernel) (by decide +kernel)
theorem qw460 : Cond.methodLink RX6 248 yX4_enter ∈ wAll := wAll_of (i := 460) (by decide +kernel) (by decide +kernel)
theorem qw461 : Cond.instanceMethod yX4_enter ∈ wAll := wAll_of (i := 461) (by decide +kernel) (by decide +kernel)
theorem qw462 : Cond.selects RX4 yX4_enter yX4_enter ∈ wAll := wAll_of (i := 462) (by decide +kernel) (by decide +kernel)
theorem qw463 : Cond.code yX4_enter cX4_enter 4 none ∈ wAll := wAll_of (i := 463) (by decide +kernel) (by decide +kernel)
theorem qw464 : Cond.methodLink RX4 19 yX2_worms ∈ wAll := wAll_of (i := 464) (by decide +kernel) (by decide +kernel)
theorem qw465 : Cond.instanceMethod yX2_worms ∈ wAll := wAll_of (i := 465) (by decide +kernel) (by decide +kernel)
theorem qw466 : Cond.selects RX2 yX2_worms yX2_worms ∈ wAll := wAll_of (i := 466) (by decide +kernel) (by decide +kernel)
theorem qw467 : Cond.code yX2_worms cX2_worms 1 (some .int) ∈ wAll := wAll_of (i := 467) (by decide +kernel) (by decide +kernel)
theorem qw468 : Cond.methodLink RX4 25 yX5_tailOf ∈ wAll := wAll_of (i := 468) (by decide +kernel) (by decide +kernel)
theorem qw469 : Cond.instanceMethod yX5_tailOf ∈ wAll := wAll_of (i := 469) (by decide +kernel) (by decide +kernel)
theorem qw470 : Cond.selects RX5 yX5_tailOf yX5_tailOf ∈ wAll := wAll_of (i := 470) (by decide +kernel) (by decide +kernel)
theorem qw471 : Cond.code yX5_tailOf cX5_tailOf 3 (some .int) ∈ wAll := wAll_of (i := 471) (by decide +kernel) (by decide +kernel)
theorem qw472 : Cond.methodLink RX5 61 yX2_lengthOf ∈ wAll := wAll_of (i := 472) (by decide +kernel) (by decide +kernel)
theorem qw473 : Cond.instanceMethod yX2_lengthOf ∈ wAll := wAll_of (i := 473) (by decide +kernel) (by decide +kernel)
theorem qw474 : Cond.selects RX2 yX2_lengthOf yX2_lengthOf ∈ wAll := wAll_of (i := 474) (by decide +kernel) (by decide +kernel)
theorem qw475 : Cond.code yX2_lengthOf cX2_lengthOf 2 (some .int) ∈ wAll := wAll_of (i := 475) (by decide +kernel) (by decide +kernel)
theorem qw476 : Cond.methodLink RX5 64 yJ9_max_7cf53 ∈ wAll := wAll_of (i := 476) (by decide +kernel) (by decide +kernel)
theorem qw477 : Cond.static yJ9_max_7cf53 ∈ wAll := wAll_of (i := 477) (by decide +kernel) (by decide +kernel)
theorem qw478 : Cond.code Lib.Math.max.name Lib.Math.max.code 2 (some .int) ∈ wAll := wAll_of (i := 478) (by decide +kernel) (by decide +kernel)
theorem qw479 : Cond.methodLink RX4 31 yX5_headOf ∈ wAll := wAll_of (i := 479) (by decide +kernel) (by decide +kernel)
theorem qw480 : Cond.instanceMethod yX5_headOf ∈ wAll := wAll_of (i := 480) (by decide +kernel) (by decide +kernel)
theorem qw481 : Cond.selects RX5 yX5_headOf yX5_headOf ∈ wAll := wAll_of (i := 481) (by decide +kernel) (by decide +kernel)
theorem qw482 : Cond.code yX5_headOf cX5_headOf 3 (some .int) ∈ wAll := wAll_of (i := 482) (by decide +kernel) (by decide +kernel)
theorem qw483 : Cond.methodLink RX5 56 yJ9_min_7cf53 ∈ wAll := wAll_of (i := 483) (by decide +kernel) (by decide +kernel)
theorem qw484 : Cond.methodLink RX4 34 yX5_channelOf ∈ wAll := wAll_of (i := 484) (by decide +kernel) (by decide +kernel)
theorem qw485 : Cond.instanceMethod yX5_channelOf ∈ wAll := wAll_of (i := 485) (by decide +kernel) (by decide +kernel)
theorem qw486 : Cond.selects RX5 yX5_channelOf yX5_channelOf ∈ wAll := wAll_of (i := 486) (by decide +kernel) (by decide +kernel)
theorem qw487 : Cond.code yX5_channelOf cX5_channelOf 3 (some .int) ∈ wAll := wAll_of (i := 487) (by decide +kernel) (by decide +kernel)
theorem qw488 : Cond.methodLink RX6 251 yX4_run ∈ wAll := wAll_of (i := 488) (by decide +kernel) (by decide +kernel)
theorem qw489 : Cond.instanceMethod yX4_run ∈ wAll := wAll_of (i := 489) (by decide +kernel) (by decide +kernel)
theorem qw490 : Cond.selects RX4 yX4_run yX4_run ∈ wAll := wAll_of (i := 490) (by decide +kernel) (by decide +kernel)
theorem qw491 : Cond.code yX4_run cX4_run 4 none ∈ wAll := wAll_of (i := 491) (by decide +kernel) (by decide +kernel)
theorem qw492 : Cond.methodLink RX4 38 yX4_stepOnce ∈ wAll := wAll_of (i := 492) (by decide +kernel) (by decide +kernel)
theorem qw493 : Cond.instanceMethod yX4_stepOnce ∈ wAll := wAll_of (i := 493) (by decide +kernel) (by decide +kernel)
theorem qw494 : Cond.selects RX4 yX4_stepOnce yX4_stepOnce ∈ wAll := wAll_of (i := 494) (by decide +kernel) (by decide +kernel)
theorem qw495 : Cond.code yX4_stepOnce cX4_stepOnce 4 (some .boolean) ∈ wAll := wAll_of (i := 495) (by decide +kernel) (by decide +kernel)
theorem qw496 : Cond.methodLink RX4 46 yX5_isDone ∈ wAll := wAll_of (i := 496) (by decide +kernel) (by decide +kernel)
theorem qw497 : Cond.instanceMethod yX5_isDone ∈ wAll := wAll_of (i := 497) (by decide +kernel) (by decide +kernel)
theorem qw498 : Cond.selects RX5 yX5_isDone yX5_isDone ∈ wAll := wAll_of (i := 498) (by decide +kernel) (by decide +kernel)
theorem qw499 : Cond.code yX5_isDone cX5_isDone 3 (some .boolean) ∈ wAll := wAll_of (i := 499) (by decide +kernel) (by decide +kernel)
theorem qw500 : Cond.methodLink RX4 50 yX4_isStopped ∈ wAll := wAll_of (i := 500) (by decide +kernel) (by decide +kernel)
theorem qw502 : Cond.instanceMethod yX4_isStopped ∈ wAll := wAll_of (i := 502) (by decide +kernel) (by decide +kernel)
theorem qw503 : Cond.code yX4_isStopped cX4_isStopped 5 (some .boolean) ∈ wAll := wAll_of (i := 503) (by decide +kernel) (by decide +kernel)
theorem qw504 : Cond.methodLink RX4 67 yX5_channelsOf ∈ wAll := wAll_of (i := 504) (by decide +kernel) (by decide +kernel)
theorem qw505 : Cond.instanceMethod yX5_channelsOf ∈ wAll := wAll_of (i := 505) (by decide +kernel) (by decide +kernel)
theorem qw506 : Cond.selects RX5 yX5_channelsOf yX5_channelsOf ∈ wAll := wAll_of (i := 506) (by decide +kernel) (by decide +kernel)
theorem qw507 : Cond.code yX5_channelsOf cX5_channelsOf 2 (some .int) ∈ wAll := wAll_of (i := 507) (by decide +kernel) (by decide +kernel)
theorem qw508 : Cond.methodLink RX4 71 yX2_isDown ∈ wAll := wAll_of (i := 508) (by decide +kernel) (by decide +kernel)
theorem qw509 : Cond.methodLink RX4 57 yX4_moveOn ∈ wAll := wAll_of (i := 509) (by decide +kernel) (by decide +kernel)
theorem qw511 : Cond.instanceMethod yX4_moveOn ∈ wAll := wAll_of (i := 511) (by decide +kernel) (by decide +kernel)
theorem qw512 : Cond.code yX4_moveOn cX4_moveOn 5 none ∈ wAll := wAll_of (i := 512) (by decide +kernel) (by decide +kernel)
theorem qw513 : Cond.methodLink RX4 75 yX2_lengthOf ∈ wAll := wAll_of (i := 513) (by decide +kernel) (by decide +kernel)
theorem qw514 : Cond.methodLink RX4 42 yX4_waitFor ∈ wAll := wAll_of (i := 514) (by decide +kernel) (by decide +kernel)
theorem qw516 : Cond.instanceMethod yX4_waitFor ∈ wAll := wAll_of (i := 516) (by decide +kernel) (by decide +kernel)
theorem qw517 : Cond.code yX4_waitFor cX4_waitFor 4 none ∈ wAll := wAll_of (i := 517) (by decide +kernel) (by decide +kernel)
theorem qw518 : Cond.methodLink RX6 255 yX5_undone ∈ wAll := wAll_of (i := 518) (by decide +kernel) (by decide +kernel)
theorem qw519 : Cond.instanceMethod yX5_undone ∈ wAll := wAll_of (i := 519) (by decide +kernel) (by decide +kernel)
theorem qw520 : Cond.selects RX5 yX5_undone yX5_undone ∈ wAll := wAll_of (i := 520) (by decide +kernel) (by decide +kernel)
theorem qw521 : Cond.code yX5_undone cX5_undone 7 (some .int) ∈ wAll := wAll_of (i := 521) (by decide +kernel) (by decide +kernel)
theorem qw522 : Cond.methodLink RX5 74 yX2_worms ∈ wAll := wAll_of (i := 522) (by decide +kernel) (by decide +kernel)
theorem qw523 : Cond.methodLink RX5 78 yX5_isDone ∈ wAll := wAll_of (i := 523) (by decide +kernel) (by decide +kernel)
theorem qw528 : Cond.methodLink RX6 91 yX6_startAgain ∈ wAll := wAll_of (i := 528) (by decide +kernel) (by decide +kernel)
theorem qw530 : Cond.instanceMethod yX6_startAgain ∈ wAll := wAll_of (i := 530) (by decide +kernel) (by decide +kernel)
theorem qw531 : Cond.code yX6_startAgain cX6_startAgain 2 (some .int) ∈ wAll := wAll_of (i := 531) (by decide +kernel) (by decide +kernel)
theorem qw532 : Cond.methodLink RX6 261 yX2_standStill ∈ wAll := wAll_of (i := 532) (by decide +kernel) (by decide +kernel)
theorem qw541 : Cond.methodLink RX6 105 yX0_hasLabel ∈ wAll := wAll_of (i := 541) (by decide +kernel) (by decide +kernel)
theorem qw542 : Cond.methodLink RX6 109 yX0_tell ∈ wAll := wAll_of (i := 542) (by decide +kernel) (by decide +kernel)
theorem qw543 : Cond.instanceMethod yX0_tell ∈ wAll := wAll_of (i := 543) (by decide +kernel) (by decide +kernel)
theorem qw544 : Cond.selects RX0 yX0_tell yX0_tell ∈ wAll := wAll_of (i := 544) (by decide +kernel) (by decide +kernel)
theorem qw545 : Cond.code yX0_tell cX0_tell 2 (some .int) ∈ wAll := wAll_of (i := 545) (by decide +kernel) (by decide +kernel)
theorem qw546 : Cond.methodLink RX0 50 yX0_hasLabel ∈ wAll := wAll_of (i := 546) (by decide +kernel) (by decide +kernel)
theorem qw551 : Cond.methodLink RX6 112 yX0_channelTowards ∈ wAll := wAll_of (i := 551) (by decide +kernel) (by decide +kernel)
theorem qw552 : Cond.methodLink RX6 115 yX0_endOf ∈ wAll := wAll_of (i := 552) (by decide +kernel) (by decide +kernel)
theorem qw557 : Cond.methodLink RX6 118 yX0_distance ∈ wAll := wAll_of (i := 557) (by decide +kernel) (by decide +kernel)
theorem qw558 : Cond.instanceMethod yX0_distance ∈ wAll := wAll_of (i := 558) (by decide +kernel) (by decide +kernel)
theorem qw559 : Cond.selects RX0 yX0_distance yX0_distance ∈ wAll := wAll_of (i := 559) (by decide +kernel) (by decide +kernel)
theorem qw560 : Cond.code yX0_distance cX0_distance 5 (some .int) ∈ wAll := wAll_of (i := 560) (by decide +kernel) (by decide +kernel)
theorem qw561 : Cond.methodLink RX0 54 yX0_channelTowards ∈ wAll := wAll_of (i := 561) (by decide +kernel) (by decide +kernel)
theorem qw562 : Cond.methodLink RX0 57 yX0_endOf ∈ wAll := wAll_of (i := 562) (by decide +kernel) (by decide +kernel)
theorem qw567 : Cond.methodLink RX6 124 yX5_holderOf ∈ wAll := wAll_of (i := 567) (by decide +kernel) (by decide +kernel)
theorem qw568 : Cond.instanceMethod yX5_holderOf ∈ wAll := wAll_of (i := 568) (by decide +kernel) (by decide +kernel)
theorem qw569 : Cond.selects RX5 yX5_holderOf yX5_holderOf ∈ wAll := wAll_of (i := 569) (by decide +kernel) (by decide +kernel)
theorem qw570 : Cond.code yX5_holderOf cX5_holderOf 5 (some .int) ∈ wAll := wAll_of (i := 570) (by decide +kernel) (by decide +kernel)
theorem qw571 : Cond.methodLink RX5 82 yX5_tailOf ∈ wAll := wAll_of (i := 571) (by decide +kernel) (by decide +kernel)
theorem qw572 : Cond.methodLink RX5 67 yX5_headOf ∈ wAll := wAll_of (i := 572) (by decide +kernel) (by decide +kernel)
theorem qw577 : Cond.methodLink RX6 128 yX6_hasWorm ∈ wAll := wAll_of (i := 577) (by decide +kernel) (by decide +kernel)
theorem qw579 : Cond.instanceMethod yX6_hasWorm ∈ wAll := wAll_of (i := 579) (by decide +kernel) (by decide +kernel)
theorem qw580 : Cond.code yX6_hasWorm cX6_hasWorm 3 (some .boolean) ∈ wAll := wAll_of (i := 580) (by decide +kernel) (by decide +kernel)
theorem qw581 : Cond.methodLink RX6 131 yX6_wormFact ∈ wAll := wAll_of (i := 581) (by decide +kernel) (by decide +kernel)
theorem qw583 : Cond.instanceMethod yX6_wormFact ∈ wAll := wAll_of (i := 583) (by decide +kernel) (by decide +kernel)
theorem qw584 : Cond.code yX6_wormFact cX6_wormFact 3 (some .int) ∈ wAll := wAll_of (i := 584) (by decide +kernel) (by decide +kernel)
theorem qw585 : Cond.methodLink RX6 264 yX2_goalsOfWorm ∈ wAll := wAll_of (i := 585) (by decide +kernel) (by decide +kernel)
theorem qw586 : Cond.methodLink RX6 134 yX5_channelsOf ∈ wAll := wAll_of (i := 586) (by decide +kernel) (by decide +kernel)
theorem qw587 : Cond.methodLink RX6 268 yX5_headOf ∈ wAll := wAll_of (i := 587) (by decide +kernel) (by decide +kernel)
theorem qw588 : Cond.methodLink RX6 137 yX5_placeOf ∈ wAll := wAll_of (i := 588) (by decide +kernel) (by decide +kernel)
theorem qw589 : Cond.instanceMethod yX5_placeOf ∈ wAll := wAll_of (i := 589) (by decide +kernel) (by decide +kernel)
theorem qw590 : Cond.selects RX5 yX5_placeOf yX5_placeOf ∈ wAll := wAll_of (i := 590) (by decide +kernel) (by decide +kernel)
theorem qw591 : Cond.code yX5_placeOf cX5_placeOf 3 (some .int) ∈ wAll := wAll_of (i := 591) (by decide +kernel) (by decide +kernel)
theorem qw592 : Cond.methodLink RX6 271 yX5_arrived ∈ wAll := wAll_of (i := 592) (by decide +kernel) (by decide +kernel)
theorem qw593 : Cond.instanceMethod yX5_arrived ∈ wAll := wAll_of (i := 593) (by decide +kernel) (by decide +kernel)
theorem qw594 : Cond.selects RX5 yX5_arrived yX5_arrived ∈ wAll := wAll_of (i := 594) (by decide +kernel) (by decide +kernel)
theorem qw595 : Cond.code yX5_arrived cX5_arrived 7 (some .int) ∈ wAll := wAll_of (i := 595) (by decide +kernel) (by decide +kernel)
theorem qw596 : Cond.methodLink RX6 277 yX5_isDone ∈ wAll := wAll_of (i := 596) (by decide +kernel) (by decide +kernel)
theorem qw597 : Cond.methodLink RX6 281 yX5_tailOf ∈ wAll := wAll_of (i := 597) (by decide +kernel) (by decide +kernel)
theorem qw598 : Cond.methodLink RX6 284 yX5_channelsDown ∈ wAll := wAll_of (i := 598) (by decide +kernel) (by decide +kernel)
theorem qw599 : Cond.instanceMethod yX5_channelsDown ∈ wAll := wAll_of (i := 599) (by decide +kernel) (by decide +kernel)
theorem qw600 : Cond.selects RX5 yX5_channelsDown yX5_channelsDown ∈ wAll := wAll_of (i := 600) (by decide +kernel) (by decide +kernel)
theorem qw601 : Cond.code yX5_channelsDown cX5_channelsDown 5 (some .int) ∈ wAll := wAll_of (i := 601) (by decide +kernel) (by decide +kernel)
theorem qw602 : Cond.methodLink RX5 71 yX2_isDown ∈ wAll := wAll_of (i := 602) (by decide +kernel) (by decide +kernel)
theorem qw611 : Cond.methodLink RX6 140 yX5_goalOf ∈ wAll := wAll_of (i := 611) (by decide +kernel) (by decide +kernel)
theorem qw612 : Cond.instanceMethod yX5_goalOf ∈ wAll := wAll_of (i := 612) (by decide +kernel) (by decide +kernel)
theorem qw613 : Cond.selects RX5 yX5_goalOf yX5_goalOf ∈ wAll := wAll_of (i := 613) (by decide +kernel) (by decide +kernel)
theorem qw614 : Cond.code yX5_goalOf cX5_goalOf 9 (some .int) ∈ wAll := wAll_of (i := 614) (by decide +kernel) (by decide +kernel)
theorem qw619 : Cond.methodLink RX6 147 yX6_messageFact ∈ wAll := wAll_of (i := 619) (by decide +kernel) (by decide +kernel)
theorem qw621 : Cond.instanceMethod yX6_messageFact ∈ wAll := wAll_of (i := 621) (by decide +kernel) (by decide +kernel)
theorem qw622 : Cond.code yX6_messageFact cX6_messageFact 3 (some .int) ∈ wAll := wAll_of (i := 622) (by decide +kernel) (by decide +kernel)
theorem qw623 : Cond.methodLink RX6 287 yX0_xOf ∈ wAll := wAll_of (i := 623) (by decide +kernel) (by decide +kernel)
theorem qw624 : Cond.instanceMethod yX0_xOf ∈ wAll := wAll_of (i := 624) (by decide +kernel) (by decide +kernel)
theorem qw625 : Cond.selects RX0 yX0_xOf yX0_xOf ∈ wAll := wAll_of (i := 625) (by decide +kernel) (by decide +kernel)
theorem qw626 : Cond.code yX0_xOf cX0_xOf 2 (some .int) ∈ wAll := wAll_of (i := 626) (by decide +kernel) (by decide +kernel)
theorem qw627 : Cond.methodLink RX6 290 yX0_yOf ∈ wAll := wAll_of (i := 627) (by decide +kernel) (by decide +kernel)
theorem qw628 : Cond.instanceMethod yX0_yOf ∈ wAll := wAll_of (i := 628) (by decide +kernel) (by decide +kernel)
theorem qw629 : Cond.selects RX0 yX0_yOf yX0_yOf ∈ wAll := wAll_of (i := 629) (by decide +kernel) (by decide +kernel)
theorem qw630 : Cond.code yX0_yOf cX0_yOf 2 (some .int) ∈ wAll := wAll_of (i := 630) (by decide +kernel) (by decide +kernel)
theorem qw631 : Cond.methodLink RX6 296 yX6_straightWays ∈ wAll := wAll_of (i := 631) (by decide +kernel) (by decide +kernel)
theorem qw633 : Cond.instanceMethod yX6_straightWays ∈ wAll := wAll_of (i := 633) (by decide +kernel) (by decide +kernel)
theorem qw634 : Cond.code yX6_straightWays cX6_straightWays 4 (some .int) ∈ wAll := wAll_of (i := 634) (by decide +kernel) (by decide +kernel)
theorem qw639 : Cond.methodLink RX6 150 yX6_stepsUntilDone ∈ wAll := wAll_of (i := 639) (by decide +kernel) (by decide +kernel)
theorem qw641 : Cond.instanceMethod yX6_stepsUntilDone ∈ wAll := wAll_of (i := 641) (by decide +kernel) (by decide +kernel)
theorem qw642 : Cond.code yX6_stepsUntilDone cX6_stepsUntilDone 3 (some .int) ∈ wAll := wAll_of (i := 642) (by decide +kernel) (by decide +kernel)
theorem qw643 : Cond.methodLink RX6 317 yX4_stepOnce ∈ wAll := wAll_of (i := 643) (by decide +kernel) (by decide +kernel)
theorem qw648 : Cond.methodLink RX6 153 yX6_countFact ∈ wAll := wAll_of (i := 648) (by decide +kernel) (by decide +kernel)
theorem qw650 : Cond.instanceMethod yX6_countFact ∈ wAll := wAll_of (i := 650) (by decide +kernel) (by decide +kernel)
theorem qw651 : Cond.code yX6_countFact cX6_countFact 2 (some .int) ∈ wAll := wAll_of (i := 651) (by decide +kernel) (by decide +kernel)
theorem qw652 : Cond.methodLink RX6 305 yX2_channelsDown ∈ wAll := wAll_of (i := 652) (by decide +kernel) (by decide +kernel)
theorem qw653 : Cond.instanceMethod yX2_channelsDown ∈ wAll := wAll_of (i := 653) (by decide +kernel) (by decide +kernel)
theorem qw654 : Cond.selects RX2 yX2_channelsDown yX2_channelsDown ∈ wAll := wAll_of (i := 654) (by decide +kernel) (by decide +kernel)
theorem qw655 : Cond.code yX2_channelsDown cX2_channelsDown 3 (some .int) ∈ wAll := wAll_of (i := 655) (by decide +kernel) (by decide +kernel)
theorem qw656 : Cond.methodLink RX2 69 yJ6_bitCount_0f7a4 ∈ wAll := wAll_of (i := 656) (by decide +kernel) (by decide +kernel)
theorem qw657 : Cond.static yJ6_bitCount_0f7a4 ∈ wAll := wAll_of (i := 657) (by decide +kernel) (by decide +kernel)
theorem qw658 : Cond.code yJ6_bitCount_0f7a4 cJ6_bitCount_0f7a4 1 (some .int) ∈ wAll := wAll_of (i := 658) (by decide +kernel) (by decide +kernel)
theorem qw659 : Cond.constant RJ6 265 1431655765 ∈ wAll := wAll_of (i := 659) (by decide +kernel) (by decide +kernel)
theorem qw660 : Cond.constant RJ6 266 858993459 ∈ wAll := wAll_of (i := 660) (by decide +kernel) (by decide +kernel)
theorem qw661 : Cond.constant RJ6 267 252645135 ∈ wAll := wAll_of (i := 661) (by decide +kernel) (by decide +kernel)
theorem qw662 : Cond.methodLink RX6 307 yX5_channelsHeld ∈ wAll := wAll_of (i := 662) (by decide +kernel) (by decide +kernel)
theorem qw663 : Cond.instanceMethod yX5_channelsHeld ∈ wAll := wAll_of (i := 663) (by decide +kernel) (by decide +kernel)
theorem qw664 : Cond.selects RX5 yX5_channelsHeld yX5_channelsHeld ∈ wAll := wAll_of (i := 664) (by decide +kernel) (by decide +kernel)
theorem qw665 : Cond.code yX5_channelsHeld cX5_channelsHeld 4 (some .int) ∈ wAll := wAll_of (i := 665) (by decide +kernel) (by decide +kernel)
theorem qw666 : Cond.methodLink RX6 311 yX2_waitedInAll ∈ wAll := wAll_of (i := 666) (by decide +kernel) (by decide +kernel)
theorem qw667 : Cond.instanceMethod yX2_waitedInAll ∈ wAll := wAll_of (i := 667) (by decide +kernel) (by decide +kernel)
theorem qw668 : Cond.selects RX2 yX2_waitedInAll yX2_waitedInAll ∈ wAll := wAll_of (i := 668) (by decide +kernel) (by decide +kernel)
theorem qw669 : Cond.code yX2_waitedInAll cX2_waitedInAll 3 (some .int) ∈ wAll := wAll_of (i := 669) (by decide +kernel) (by decide +kernel)
theorem qw670 : Cond.methodLink RX2 74 yX2_worms ∈ wAll := wAll_of (i := 670) (by decide +kernel) (by decide +kernel)
theorem qw671 : Cond.methodLink RX6 314 yX6_messagesDone ∈ wAll := wAll_of (i := 671) (by decide +kernel) (by decide +kernel)
theorem qw673 : Cond.instanceMethod yX6_messagesDone ∈ wAll := wAll_of (i := 673) (by decide +kernel) (by decide +kernel)
theorem qw674 : Cond.code yX6_messagesDone cX6_messagesDone 3 (some .int) ∈ wAll := wAll_of (i := 674) (by decide +kernel) (by decide +kernel)
theorem qw679 : Cond.methodLink RX6 156 yX3_add ∈ wAll := wAll_of (i := 679) (by decide +kernel) (by decide +kernel)
theorem qw680 : Cond.instanceMethod yX3_add ∈ wAll := wAll_of (i := 680) (by decide +kernel) (by decide +kernel)
theorem qw681 : Cond.selects RX3 yX3_add yX3_add ∈ wAll := wAll_of (i := 681) (by decide +kernel) (by decide +kernel)
theorem qw682 : Cond.code yX3_add cX3_add 2 (some .boolean) ∈ wAll := wAll_of (i := 682) (by decide +kernel) (by decide +kernel)
theorem qw683 : Cond.methodLink RX6 159 yX3_size ∈ wAll := wAll_of (i := 683) (by decide +kernel) (by decide +kernel)
theorem qw684 : Cond.instanceMethod yX3_size ∈ wAll := wAll_of (i := 684) (by decide +kernel) (by decide +kernel)
theorem qw685 : Cond.selects RX3 yX3_size yX3_size ∈ wAll := wAll_of (i := 685) (by decide +kernel) (by decide +kernel)
theorem qw686 : Cond.code yX3_size cX3_size 1 (some .int) ∈ wAll := wAll_of (i := 686) (by decide +kernel) (by decide +kernel)
theorem qw691 : Cond.methodLink RX6 162 yX3_empty ∈ wAll := wAll_of (i := 691) (by decide +kernel) (by decide +kernel)
theorem qw692 : Cond.instanceMethod yX3_empty ∈ wAll := wAll_of (i := 692) (by decide +kernel) (by decide +kernel)
theorem qw693 : Cond.selects RX3 yX3_empty yX3_empty ∈ wAll := wAll_of (i := 693) (by decide +kernel) (by decide +kernel)
theorem qw694 : Cond.code yX3_empty cX3_empty 2 (some .int) ∈ wAll := wAll_of (i := 694) (by decide +kernel) (by decide +kernel)
theorem qw699 : Cond.methodLink RX6 165 yX3_read ∈ wAll := wAll_of (i := 699) (by decide +kernel) (by decide +kernel)
theorem qw700 : Cond.instanceMethod yX3_read ∈ wAll := wAll_of (i := 700) (by decide +kernel) (by decide +kernel)
theorem qw701 : Cond.selects RX3 yX3_read yX3_read ∈ wAll := wAll_of (i := 701) (by decide +kernel) (by decide +kernel)
theorem qw702 : Cond.code yX3_read cX3_read 1 (some .int) ∈ wAll := wAll_of (i := 702) (by decide +kernel) (by decide +kernel)
theorem qw703 : Cond.methodLink RX3 31 yX3_passBlanks ∈ wAll := wAll_of (i := 703) (by decide +kernel) (by decide +kernel)
theorem qw705 : Cond.instanceMethod yX3_passBlanks ∈ wAll := wAll_of (i := 705) (by decide +kernel) (by decide +kernel)
theorem qw706 : Cond.code yX3_passBlanks cX3_passBlanks 1 none ∈ wAll := wAll_of (i := 706) (by decide +kernel) (by decide +kernel)
theorem qw707 : Cond.methodLink RX3 34 yX3_readOrder ∈ wAll := wAll_of (i := 707) (by decide +kernel) (by decide +kernel)
theorem qw709 : Cond.instanceMethod yX3_readOrder ∈ wAll := wAll_of (i := 709) (by decide +kernel) (by decide +kernel)
theorem qw710 : Cond.code yX3_readOrder cX3_readOrder 4 (some .boolean) ∈ wAll := wAll_of (i := 710) (by decide +kernel) (by decide +kernel)
theorem qw711 : Cond.methodLink RX3 38 yX3_byteHere ∈ wAll := wAll_of (i := 711) (by decide +kernel) (by decide +kernel)
theorem qw713 : Cond.instanceMethod yX3_byteHere ∈ wAll := wAll_of (i := 713) (by decide +kernel) (by decide +kernel)
theorem qw714 : Cond.code yX3_byteHere cX3_byteHere 1 (some .int) ∈ wAll := wAll_of (i := 714) (by decide +kernel) (by decide +kernel)
theorem qw715 : Cond.methodLink RX3 42 yX3_numbersDue ∈ wAll := wAll_of (i := 715) (by decide +kernel) (by decide +kernel)
theorem qw716 : Cond.static yX3_numbersDue ∈ wAll := wAll_of (i := 716) (by decide +kernel) (by decide +kernel)
theorem qw717 : Cond.code yX3_numbersDue cX3_numbersDue 1 (some .int) ∈ wAll := wAll_of (i := 717) (by decide +kernel) (by decide +kernel)
theorem qw718 : Cond.methodLink RX3 46 yX3_readNumber ∈ wAll := wAll_of (i := 718) (by decide +kernel) (by decide +kernel)
theorem qw720 : Cond.instanceMethod yX3_readNumber ∈ wAll := wAll_of (i := 720) (by decide +kernel) (by decide +kernel)
theorem qw721 : Cond.code yX3_readNumber cX3_readNumber 4 (some .boolean) ∈ wAll := wAll_of (i := 721) (by decide +kernel) (by decide +kernel)
theorem qw722 : Cond.methodLink RX3 50 yX3_isFigure ∈ wAll := wAll_of (i := 722) (by decide +kernel) (by decide +kernel)
theorem qw723 : Cond.static yX3_isFigure ∈ wAll := wAll_of (i := 723) (by decide +kernel) (by decide +kernel)
theorem qw724 : Cond.code yX3_isFigure cX3_isFigure 1 (some .boolean) ∈ wAll := wAll_of (i := 724) (by decide +kernel) (by decide +kernel)
theorem qw725 : Cond.methodLink RX6 168 yX3_orders ∈ wAll := wAll_of (i := 725) (by decide +kernel) (by decide +kernel)
theorem qw726 : Cond.instanceMethod yX3_orders ∈ wAll := wAll_of (i := 726) (by decide +kernel) (by decide +kernel)
theorem qw727 : Cond.selects RX3 yX3_orders yX3_orders ∈ wAll := wAll_of (i := 727) (by decide +kernel) (by decide +kernel)
theorem qw728 : Cond.code yX3_orders cX3_orders 1 (some .int) ∈ wAll := wAll_of (i := 728) (by decide +kernel) (by decide +kernel)
theorem qw729 : Cond.methodLink RX6 171 yX3_letterOf ∈ wAll := wAll_of (i := 729) (by decide +kernel) (by decide +kernel)
theorem qw730 : Cond.instanceMethod yX3_letterOf ∈ wAll := wAll_of (i := 730) (by decide +kernel) (by decide +kernel)
theorem qw731 : Cond.selects RX3 yX3_letterOf yX3_letterOf ∈ wAll := wAll_of (i := 731) (by decide +kernel) (by decide +kernel)
theorem qw732 : Cond.code yX3_letterOf cX3_letterOf 2 (some .int) ∈ wAll := wAll_of (i := 732) (by decide +kernel) (by decide +kernel)
theorem qw733 : Cond.methodLink RX6 174 yX3_numberOf ∈ wAll := wAll_of (i := 733) (by decide +kernel) (by decide +kernel)
theorem qw734 : Cond.instanceMethod yX3_numberOf ∈ wAll := wAll_of (i := 734) (by decide +kernel) (by decide +kernel)
theorem qw735 : Cond.selects RX3 yX3_numberOf yX3_numberOf ∈ wAll := wAll_of (i := 735) (by decide +kernel) (by decide +kernel)
theorem qw736 : Cond.code yX3_numberOf cX3_numberOf 3 (some .int) ∈ wAll := wAll_of (i := 736) (by decide +kernel) (by decide +kernel)
theorem qw737 : Cond.methodLink RX6 177 yX6_perform ∈ wAll := wAll_of (i := 737) (by decide +kernel) (by decide +kernel)
theorem qw739 : Cond.instanceMethod yX6_perform ∈ wAll := wAll_of (i := 739) (by decide +kernel) (by decide +kernel)
theorem qw740 : Cond.code yX6_perform cX6_perform 5 (some .int) ∈ wAll := wAll_of (i := 740) (by decide +kernel) (by decide +kernel)
theorem qw741 : Cond.methodLink RX6 181 yX6_layAll ∈ wAll := wAll_of (i := 741) (by decide +kernel) (by decide +kernel)
theorem qw743 : Cond.instanceMethod yX6_layAll ∈ wAll := wAll_of (i := 743) (by decide +kernel) (by decide +kernel)
theorem qw744 : Cond.code yX6_layAll cX6_layAll 2 none ∈ wAll := wAll_of (i := 744) (by decide +kernel) (by decide +kernel)
theorem qw749 : Cond.methodLink RX6 187 yX1_popInto ∈ wAll := wAll_of (i := 749) (by decide +kernel) (by decide +kernel)
theorem qw750 : Cond.instanceMethod yX1_popInto ∈ wAll := wAll_of (i := 750) (by decide +kernel) (by decide +kernel)
theorem qw751 : Cond.selects RX1 yX1_popInto yX1_popInto ∈ wAll := wAll_of (i := 751) (by decide +kernel) (by decide +kernel)
theorem qw752 : Cond.code yX1_popInto cX1_popInto 2 (some .boolean) ∈ wAll := wAll_of (i := 752) (by decide +kernel) (by decide +kernel)
theorem qw753 : Cond.methodLink RX6 191 yX1_size ∈ wAll := wAll_of (i := 753) (by decide +kernel) (by decide +kernel)
theorem qw754 : Cond.instanceMethod yX1_size ∈ wAll := wAll_of (i := 754) (by decide +kernel) (by decide +kernel)
theorem qw755 : Cond.selects RX1 yX1_size yX1_size ∈ wAll := wAll_of (i := 755) (by decide +kernel) (by decide +kernel)
theorem qw756 : Cond.code yX1_size cX1_size 1 (some .int) ∈ wAll := wAll_of (i := 756) (by decide +kernel) (by decide +kernel)
theorem qw761 : Cond.methodLink RX6 192 yX6_toldFact ∈ wAll := wAll_of (i := 761) (by decide +kernel) (by decide +kernel)
theorem qw763 : Cond.instanceMethod yX6_toldFact ∈ wAll := wAll_of (i := 763) (by decide +kernel) (by decide +kernel)
theorem qw764 : Cond.code yX6_toldFact cX6_toldFact 2 (some .int) ∈ wAll := wAll_of (i := 764) (by decide +kernel) (by decide +kernel)
theorem qw769 : Cond.constantLong RX6 195 2806 ∈ wAll := wAll_of (i := 769) (by decide +kernel) (by decide +kernel)
theorem qw770 : Cond.constantLong RX6 197 31 ∈ wAll := wAll_of (i := 770) (by decide +kernel) (by decide +kernel)
theorem qw771 : Cond.methodLink RX6 209 yX6_digestMessage ∈ wAll := wAll_of (i := 771) (by decide +kernel) (by decide +kernel)
theorem qw773 : Cond.instanceMethod yX6_digestMessage ∈ wAll := wAll_of (i := 773) (by decide +kernel) (by decide +kernel)
theorem qw774 : Cond.code yX6_digestMessage cX6_digestMessage 8 (some .long) ∈ wAll := wAll_of (i := 774) (by decide +kernel) (by decide +kernel)
theorem qw781 : Cond.fieldLink RX7 7 "SnakeMeshModel" "now" "[I" ∈ wAll := wAll_of (i := 781) (by decide +kernel) (by decide +kernel)
theorem qw782 : Cond.fieldLink RX7 13 "SnakeMeshModel" "aside" "[I" ∈ wAll := wAll_of (i := 782) (by decide +kernel) (by decide +kernel)
theorem qw783 : Cond.fieldLink RX7 16 "SnakeMeshModel" "past" "[I" ∈ wAll := wAll_of (i := 783) (by decide +kernel) (by decide +kernel)
theorem qw784 : Cond.fieldLink RX7 43 "SnakeMeshModel" "states" "I" ∈ wAll := wAll_of (i := 784) (by decide +kernel) (by decide +kernel)
theorem qw785 : Cond.fieldLink RX7 19 "SnakeMeshModel" "refusals" "[I" ∈ wAll := wAll_of (i := 785) (by decide +kernel) (by decide +kernel)
theorem qw786 : Cond.fieldLink RX7 22 "SnakeMeshModel" "text" "[I" ∈ wAll := wAll_of (i := 786) (by decide +kernel) (by decide +kernel)
theorem qw787 : Cond.fieldLink RX7 203 "SnakeMeshModel" "bytes" "I" ∈ wAll := wAll_of (i := 787) (by decide +kernel) (by decide +kernel)
theorem qw788 : Cond.fieldLink RX7 25 "SnakeMeshModel" "ways" "[I" ∈ wAll := wAll_of (i := 788) (by decide +kernel) (by decide +kernel)
theorem qw789 : Cond.fieldLink RX7 28 "SnakeMeshModel" "wayLong" "[I" ∈ wAll := wAll_of (i := 789) (by decide +kernel) (by decide +kernel)
theorem qw790 : Cond.fieldLink RX7 31 "SnakeMeshModel" "goalMany" "[I" ∈ wAll := wAll_of (i := 790) (by decide +kernel) (by decide +kernel)
theorem qw791 : Cond.fieldLink RX7 34 "SnakeMeshModel" "goalAtWay" "[I" ∈ wAll := wAll_of (i := 791) (by decide +kernel) (by decide +kernel)
theorem qw792 : Cond.fieldLink RX7 37 "SnakeMeshModel" "letters" "[I" ∈ wAll := wAll_of (i := 792) (by decide +kernel) (by decide +kernel)
theorem qw793 : Cond.fieldLink RX7 40 "SnakeMeshModel" "numbers" "[I" ∈ wAll := wAll_of (i := 793) (by decide +kernel) (by decide +kernel)
theorem qw794 : Cond.fieldLink RX7 225 "SnakeMeshModel" "orders" "I" ∈ wAll := wAll_of (i := 794) (by decide +kernel) (by decide +kernel)
theorem qw795 : Cond.fieldLink RX7 206 "SnakeMeshModel" "spot" "I" ∈ wAll := wAll_of (i := 795) (by decide +kernel) (by decide +kernel)
theorem qw796 : Cond.fieldLink RX7 212 "SnakeMeshModel" "wrongAt" "I" ∈ wAll := wAll_of (i := 796) (by decide +kernel) (by decide +kernel)
theorem qw797 : Cond.fieldLink RX7 245 "SnakeMeshModel" "hash" "J" ∈ wAll := wAll_of (i := 797) (by decide +kernel) (by decide +kernel)
theorem qw837 : Cond.methodLink RX7 47 yX7_refuses ∈ wAll := wAll_of (i := 837) (by decide +kernel) (by decide +kernel)
theorem qw839 : Cond.instanceMethod yX7_refuses ∈ wAll := wAll_of (i := 839) (by decide +kernel) (by decide +kernel)
theorem qw840 : Cond.code yX7_refuses cX7_refuses 2 (some .int) ∈ wAll := wAll_of (i := 840) (by decide +kernel) (by decide +kernel)
theorem qw845 : Cond.methodLink RX7 139 yX7_laysAside ∈ wAll := wAll_of (i := 845) (by decide +kernel) (by decide +kernel)
theorem qw847 : Cond.instanceMethod yX7_laysAside ∈ wAll := wAll_of (i := 847) (by decide +kernel) (by decide +kernel)
theorem qw848 : Cond.code yX7_laysAside cX7_laysAside 2 none ∈ wAll := wAll_of (i := 848) (by decide +kernel) (by decide +kernel)
theorem qw849 : Cond.methodLink RX7 142 yX7_putMesh ∈ wAll := wAll_of (i := 849) (by decide +kernel) (by decide +kernel)
theorem qw851 : Cond.instanceMethod yX7_putMesh ∈ wAll := wAll_of (i := 851) (by decide +kernel) (by decide +kernel)
theorem qw852 : Cond.code yX7_putMesh cX7_putMesh 5 (some .int) ∈ wAll := wAll_of (i := 852) (by decide +kernel) (by decide +kernel)
theorem qw853 : Cond.methodLink RX7 54 yX7_in ∈ wAll := wAll_of (i := 853) (by decide +kernel) (by decide +kernel)
theorem qw854 : Cond.static yX7_in ∈ wAll := wAll_of (i := 854) (by decide +kernel) (by decide +kernel)
theorem qw855 : Cond.code yX7_in cX7_in 3 (some .boolean) ∈ wAll := wAll_of (i := 855) (by decide +kernel) (by decide +kernel)
theorem qw856 : Cond.methodLink RX7 145 yX7_finished ∈ wAll := wAll_of (i := 856) (by decide +kernel) (by decide +kernel)
theorem qw858 : Cond.instanceMethod yX7_finished ∈ wAll := wAll_of (i := 858) (by decide +kernel) (by decide +kernel)
theorem qw859 : Cond.code yX7_finished cX7_finished 2 (some .int) ∈ wAll := wAll_of (i := 859) (by decide +kernel) (by decide +kernel)
theorem qw860 : Cond.methodLink RX7 51 yX7_remembers ∈ wAll := wAll_of (i := 860) (by decide +kernel) (by decide +kernel)
theorem qw862 : Cond.instanceMethod yX7_remembers ∈ wAll := wAll_of (i := 862) (by decide +kernel) (by decide +kernel)
theorem qw863 : Cond.code yX7_remembers cX7_remembers 2 none ∈ wAll := wAll_of (i := 863) (by decide +kernel) (by decide +kernel)
theorem qw868 : Cond.methodLink RX7 148 yX7_putMessage ∈ wAll := wAll_of (i := 868) (by decide +kernel) (by decide +kernel)
theorem qw870 : Cond.instanceMethod yX7_putMessage ∈ wAll := wAll_of (i := 870) (by decide +kernel) (by decide +kernel)
theorem qw871 : Cond.code yX7_putMessage cX7_putMessage 6 (some .int) ∈ wAll := wAll_of (i := 871) (by decide +kernel) (by decide +kernel)
theorem qw872 : Cond.methodLink RX7 64 yX7_isPlace ∈ wAll := wAll_of (i := 872) (by decide +kernel) (by decide +kernel)
theorem qw874 : Cond.instanceMethod yX7_isPlace ∈ wAll := wAll_of (i := 874) (by decide +kernel) (by decide +kernel)
theorem qw875 : Cond.code yX7_isPlace cX7_isPlace 3 (some .boolean) ∈ wAll := wAll_of (i := 875) (by decide +kernel) (by decide +kernel)
theorem qw876 : Cond.methodLink RX7 109 yX7_spotOf ∈ wAll := wAll_of (i := 876) (by decide +kernel) (by decide +kernel)
theorem qw878 : Cond.instanceMethod yX7_spotOf ∈ wAll := wAll_of (i := 878) (by decide +kernel) (by decide +kernel)
theorem qw879 : Cond.code yX7_spotOf cX7_spotOf 3 (some .int) ∈ wAll := wAll_of (i := 879) (by decide +kernel) (by decide +kernel)
theorem qw880 : Cond.methodLink RX7 68 yX7_labelOf ∈ wAll := wAll_of (i := 880) (by decide +kernel) (by decide +kernel)
theorem qw882 : Cond.instanceMethod yX7_labelOf ∈ wAll := wAll_of (i := 882) (by decide +kernel) (by decide +kernel)
theorem qw883 : Cond.code yX7_labelOf cX7_labelOf 3 (some .int) ∈ wAll := wAll_of (i := 883) (by decide +kernel) (by decide +kernel)
theorem qw888 : Cond.methodLink RX7 152 yX7_putGoal ∈ wAll := wAll_of (i := 888) (by decide +kernel) (by decide +kernel)
theorem qw890 : Cond.instanceMethod yX7_putGoal ∈ wAll := wAll_of (i := 890) (by decide +kernel) (by decide +kernel)
theorem qw891 : Cond.code yX7_putGoal cX7_putGoal 5 (some .int) ∈ wAll := wAll_of (i := 891) (by decide +kernel) (by decide +kernel)
theorem qw892 : Cond.methodLink RX7 120 yX7_isMessage ∈ wAll := wAll_of (i := 892) (by decide +kernel) (by decide +kernel)
theorem qw894 : Cond.instanceMethod yX7_isMessage ∈ wAll := wAll_of (i := 894) (by decide +kernel) (by decide +kernel)
theorem qw895 : Cond.code yX7_isMessage cX7_isMessage 2 (some .boolean) ∈ wAll := wAll_of (i := 895) (by decide +kernel) (by decide +kernel)
theorem qw896 : Cond.methodLink RX7 78 yX7_of0 ∈ wAll := wAll_of (i := 896) (by decide +kernel) (by decide +kernel)
theorem qw898 : Cond.instanceMethod yX7_of0 ∈ wAll := wAll_of (i := 898) (by decide +kernel) (by decide +kernel)
theorem qw899 : Cond.code yX7_of0 cX7_of0 3 (some .int) ∈ wAll := wAll_of (i := 899) (by decide +kernel) (by decide +kernel)
theorem qw900 : Cond.methodLink RX7 123 yX7_goalsOf ∈ wAll := wAll_of (i := 900) (by decide +kernel) (by decide +kernel)
theorem qw902 : Cond.instanceMethod yX7_goalsOf ∈ wAll := wAll_of (i := 902) (by decide +kernel) (by decide +kernel)
theorem qw903 : Cond.code yX7_goalsOf cX7_goalsOf 4 (some .int) ∈ wAll := wAll_of (i := 903) (by decide +kernel) (by decide +kernel)
theorem qw904 : Cond.methodLink RX7 81 yX7_isGoal ∈ wAll := wAll_of (i := 904) (by decide +kernel) (by decide +kernel)
theorem qw906 : Cond.instanceMethod yX7_isGoal ∈ wAll := wAll_of (i := 906) (by decide +kernel) (by decide +kernel)
theorem qw907 : Cond.code yX7_isGoal cX7_isGoal 3 (some .boolean) ∈ wAll := wAll_of (i := 907) (by decide +kernel) (by decide +kernel)
theorem qw912 : Cond.methodLink RX7 155 yX7_putTurn ∈ wAll := wAll_of (i := 912) (by decide +kernel) (by decide +kernel)
theorem qw914 : Cond.instanceMethod yX7_putTurn ∈ wAll := wAll_of (i := 914) (by decide +kernel) (by decide +kernel)
theorem qw915 : Cond.code yX7_putTurn cX7_putTurn 4 (some .int) ∈ wAll := wAll_of (i := 915) (by decide +kernel) (by decide +kernel)
theorem qw916 : Cond.methodLink RX7 126 yX7_isChannel ∈ wAll := wAll_of (i := 916) (by decide +kernel) (by decide +kernel)
theorem qw918 : Cond.instanceMethod yX7_isChannel ∈ wAll := wAll_of (i := 918) (by decide +kernel) (by decide +kernel)
theorem qw919 : Cond.code yX7_isChannel cX7_isChannel 4 (some .boolean) ∈ wAll := wAll_of (i := 919) (by decide +kernel) (by decide +kernel)
theorem qw920 : Cond.methodLink RX7 72 yX7_beside ∈ wAll := wAll_of (i := 920) (by decide +kernel) (by decide +kernel)
theorem qw922 : Cond.instanceMethod yX7_beside ∈ wAll := wAll_of (i := 922) (by decide +kernel) (by decide +kernel)
theorem qw923 : Cond.code yX7_beside cX7_beside 5 (some .int) ∈ wAll := wAll_of (i := 923) (by decide +kernel) (by decide +kernel)
theorem qw924 : Cond.methodLink RX7 58 yX7_xOf ∈ wAll := wAll_of (i := 924) (by decide +kernel) (by decide +kernel)
theorem qw926 : Cond.instanceMethod yX7_xOf ∈ wAll := wAll_of (i := 926) (by decide +kernel) (by decide +kernel)
theorem qw927 : Cond.code yX7_xOf cX7_xOf 3 (some .int) ∈ wAll := wAll_of (i := 927) (by decide +kernel) (by decide +kernel)
theorem qw928 : Cond.methodLink RX7 61 yX7_yOf ∈ wAll := wAll_of (i := 928) (by decide +kernel) (by decide +kernel)
theorem qw930 : Cond.instanceMethod yX7_yOf ∈ wAll := wAll_of (i := 930) (by decide +kernel) (by decide +kernel)
theorem qw931 : Cond.code yX7_yOf cX7_yOf 2 (some .int) ∈ wAll := wAll_of (i := 931) (by decide +kernel) (by decide +kernel)
theorem qw932 : Cond.methodLink RX7 103 yX7_isDown ∈ wAll := wAll_of (i := 932) (by decide +kernel) (by decide +kernel)
theorem qw934 : Cond.instanceMethod yX7_isDown ∈ wAll := wAll_of (i := 934) (by decide +kernel) (by decide +kernel)
theorem qw935 : Cond.code yX7_isDown cX7_isDown 3 (some .boolean) ∈ wAll := wAll_of (i := 935) (by decide +kernel) (by decide +kernel)
theorem qw940 : Cond.methodLink RX7 158 yX7_putSteps ∈ wAll := wAll_of (i := 940) (by decide +kernel) (by decide +kernel)
theorem qw942 : Cond.instanceMethod yX7_putSteps ∈ wAll := wAll_of (i := 942) (by decide +kernel) (by decide +kernel)
theorem qw943 : Cond.code yX7_putSteps cX7_putSteps 3 (some .int) ∈ wAll := wAll_of (i := 943) (by decide +kernel) (by decide +kernel)
theorem qw944 : Cond.methodLink RX7 129 yX7_laysWays ∈ wAll := wAll_of (i := 944) (by decide +kernel) (by decide +kernel)
theorem qw946 : Cond.instanceMethod yX7_laysWays ∈ wAll := wAll_of (i := 946) (by decide +kernel) (by decide +kernel)
theorem qw947 : Cond.code yX7_laysWays cX7_laysWays 2 none ∈ wAll := wAll_of (i := 947) (by decide +kernel) (by decide +kernel)
theorem qw948 : Cond.methodLink RX7 84 yX7_laysWay ∈ wAll := wAll_of (i := 948) (by decide +kernel) (by decide +kernel)
theorem qw950 : Cond.instanceMethod yX7_laysWay ∈ wAll := wAll_of (i := 950) (by decide +kernel) (by decide +kernel)
theorem qw951 : Cond.code yX7_laysWay cX7_laysWay 9 none ∈ wAll := wAll_of (i := 951) (by decide +kernel) (by decide +kernel)
theorem qw952 : Cond.methodLink RX7 75 yX7_nextOf ∈ wAll := wAll_of (i := 952) (by decide +kernel) (by decide +kernel)
theorem qw954 : Cond.instanceMethod yX7_nextOf ∈ wAll := wAll_of (i := 954) (by decide +kernel) (by decide +kernel)
theorem qw955 : Cond.code yX7_nextOf cX7_nextOf 8 (some .int) ∈ wAll := wAll_of (i := 955) (by decide +kernel) (by decide +kernel)
theorem qw956 : Cond.methodLink RX7 132 yX7_step ∈ wAll := wAll_of (i := 956) (by decide +kernel) (by decide +kernel)
theorem qw958 : Cond.instanceMethod yX7_step ∈ wAll := wAll_of (i := 958) (by decide +kernel) (by decide +kernel)
theorem qw959 : Cond.code yX7_step cX7_step 2 none ∈ wAll := wAll_of (i := 959) (by decide +kernel) (by decide +kernel)
theorem qw960 : Cond.methodLink RX7 112 yX7_isDone ∈ wAll := wAll_of (i := 960) (by decide +kernel) (by decide +kernel)
theorem qw962 : Cond.instanceMethod yX7_isDone ∈ wAll := wAll_of (i := 962) (by decide +kernel) (by decide +kernel)
theorem qw963 : Cond.code yX7_isDone cX7_isDone 2 (some .boolean) ∈ wAll := wAll_of (i := 963) (by decide +kernel) (by decide +kernel)
theorem qw964 : Cond.methodLink RX7 88 yX7_moves ∈ wAll := wAll_of (i := 964) (by decide +kernel) (by decide +kernel)
theorem qw966 : Cond.instanceMethod yX7_moves ∈ wAll := wAll_of (i := 966) (by decide +kernel) (by decide +kernel)
theorem qw967 : Cond.code yX7_moves cX7_moves 2 (some .int) ∈ wAll := wAll_of (i := 967) (by decide +kernel) (by decide +kernel)
theorem qw968 : Cond.methodLink RX7 116 yX7_goes ∈ wAll := wAll_of (i := 968) (by decide +kernel) (by decide +kernel)
theorem qw970 : Cond.instanceMethod yX7_goes ∈ wAll := wAll_of (i := 970) (by decide +kernel) (by decide +kernel)
theorem qw971 : Cond.code yX7_goes cX7_goes 5 none ∈ wAll := wAll_of (i := 971) (by decide +kernel) (by decide +kernel)
theorem qw972 : Cond.methodLink RX7 100 yX7_wayTo ∈ wAll := wAll_of (i := 972) (by decide +kernel) (by decide +kernel)
theorem qw974 : Cond.instanceMethod yX7_wayTo ∈ wAll := wAll_of (i := 974) (by decide +kernel) (by decide +kernel)
theorem qw975 : Cond.code yX7_wayTo cX7_wayTo 4 (some .int) ∈ wAll := wAll_of (i := 975) (by decide +kernel) (by decide +kernel)
theorem qw976 : Cond.methodLink RX7 106 yX7_holder ∈ wAll := wAll_of (i := 976) (by decide +kernel) (by decide +kernel)
theorem qw978 : Cond.instanceMethod yX7_holder ∈ wAll := wAll_of (i := 978) (by decide +kernel) (by decide +kernel)
theorem qw979 : Cond.code yX7_holder cX7_holder 5 (some .int) ∈ wAll := wAll_of (i := 979) (by decide +kernel) (by decide +kernel)
theorem qw980 : Cond.methodLink RX7 97 yX7_isHeldBy ∈ wAll := wAll_of (i := 980) (by decide +kernel) (by decide +kernel)
theorem qw982 : Cond.instanceMethod yX7_isHeldBy ∈ wAll := wAll_of (i := 982) (by decide +kernel) (by decide +kernel)
theorem qw983 : Cond.code yX7_isHeldBy cX7_isHeldBy 6 (some .boolean) ∈ wAll := wAll_of (i := 983) (by decide +kernel) (by decide +kernel)
theorem qw984 : Cond.methodLink RX7 91 yX7_heldFrom ∈ wAll := wAll_of (i := 984) (by decide +kernel) (by decide +kernel)
theorem qw986 : Cond.instanceMethod yX7_heldFrom ∈ wAll := wAll_of (i := 986) (by decide +kernel) (by decide +kernel)
theorem qw987 : Cond.code yX7_heldFrom cX7_heldFrom 3 (some .int) ∈ wAll := wAll_of (i := 987) (by decide +kernel) (by decide +kernel)
theorem qw988 : Cond.methodLink RX7 94 yX7_heldTo ∈ wAll := wAll_of (i := 988) (by decide +kernel) (by decide +kernel)
theorem qw990 : Cond.instanceMethod yX7_heldTo ∈ wAll := wAll_of (i := 990) (by decide +kernel) (by decide +kernel)
theorem qw991 : Cond.code yX7_heldTo cX7_heldTo 2 (some .int) ∈ wAll := wAll_of (i := 991) (by decide +kernel) (by decide +kernel)
theorem qw992 : Cond.methodLink RX7 135 yX7_notDone ∈ wAll := wAll_of (i := 992) (by decide +kernel) (by decide +kernel)
theorem qw994 : Cond.instanceMethod yX7_notDone ∈ wAll := wAll_of (i := 994) (by decide +kernel) (by decide +kernel)
theorem qw995 : Cond.code yX7_notDone cX7_notDone 3 (some .int) ∈ wAll := wAll_of (i := 995) (by decide +kernel) (by decide +kernel)
theorem qw1000 : Cond.methodLink RX7 161 yX7_putAgain ∈ wAll := wAll_of (i := 1000) (by decide +kernel) (by decide +kernel)
theorem qw1002 : Cond.instanceMethod yX7_putAgain ∈ wAll := wAll_of (i := 1002) (by decide +kernel) (by decide +kernel)
theorem qw1003 : Cond.code yX7_putAgain cX7_putAgain 4 (some .int) ∈ wAll := wAll_of (i := 1003) (by decide +kernel) (by decide +kernel)
theorem qw1012 : Cond.methodLink RX7 164 yX7_isLabel ∈ wAll := wAll_of (i := 1012) (by decide +kernel) (by decide +kernel)
theorem qw1014 : Cond.instanceMethod yX7_isLabel ∈ wAll := wAll_of (i := 1014) (by decide +kernel) (by decide +kernel)
theorem qw1015 : Cond.code yX7_isLabel cX7_isLabel 2 (some .boolean) ∈ wAll := wAll_of (i := 1015) (by decide +kernel) (by decide +kernel)
theorem qw1016 : Cond.methodLink RX7 167 yX7_toldOf ∈ wAll := wAll_of (i := 1016) (by decide +kernel) (by decide +kernel)
theorem qw1018 : Cond.instanceMethod yX7_toldOf ∈ wAll := wAll_of (i := 1018) (by decide +kernel) (by decide +kernel)
theorem qw1019 : Cond.code yX7_toldOf cX7_toldOf 2 (some .int) ∈ wAll := wAll_of (i := 1019) (by decide +kernel) (by decide +kernel)
theorem qw1028 : Cond.methodLink RX7 170 yX7_farOf ∈ wAll := wAll_of (i := 1028) (by decide +kernel) (by decide +kernel)
theorem qw1030 : Cond.instanceMethod yX7_farOf ∈ wAll := wAll_of (i := 1030) (by decide +kernel) (by decide +kernel)
theorem qw1031 : Cond.code yX7_farOf cX7_farOf 5 (some .int) ∈ wAll := wAll_of (i := 1031) (by decide +kernel) (by decide +kernel)
theorem qw1040 : Cond.methodLink RX7 182 yX7_isWorm ∈ wAll := wAll_of (i := 1040) (by decide +kernel) (by decide +kernel)
theorem qw1042 : Cond.instanceMethod yX7_isWorm ∈ wAll := wAll_of (i := 1042) (by decide +kernel) (by decide +kernel)
theorem qw1043 : Cond.code yX7_isWorm cX7_isWorm 3 (some .boolean) ∈ wAll := wAll_of (i := 1043) (by decide +kernel) (by decide +kernel)
theorem qw1044 : Cond.methodLink RX7 185 yX7_wormTold ∈ wAll := wAll_of (i := 1044) (by decide +kernel) (by decide +kernel)
theorem qw1046 : Cond.instanceMethod yX7_wormTold ∈ wAll := wAll_of (i := 1046) (by decide +kernel) (by decide +kernel)
theorem qw1047 : Cond.code yX7_wormTold cX7_wormTold 3 (some .int) ∈ wAll := wAll_of (i := 1047) (by decide +kernel) (by decide +kernel)
theorem qw1048 : Cond.methodLink RX7 173 yX7_arrived ∈ wAll := wAll_of (i := 1048) (by decide +kernel) (by decide +kernel)
theorem qw1050 : Cond.instanceMethod yX7_arrived ∈ wAll := wAll_of (i := 1050) (by decide +kernel) (by decide +kernel)
theorem qw1051 : Cond.code yX7_arrived cX7_arrived 4 (some .int) ∈ wAll := wAll_of (i := 1051) (by decide +kernel) (by decide +kernel)
theorem qw1052 : Cond.methodLink RX7 176 yX7_heldMany ∈ wAll := wAll_of (i := 1052) (by decide +kernel) (by decide +kernel)
theorem qw1054 : Cond.instanceMethod yX7_heldMany ∈ wAll := wAll_of (i := 1054) (by decide +kernel) (by decide +kernel)
theorem qw1055 : Cond.code yX7_heldMany cX7_heldMany 3 (some .int) ∈ wAll := wAll_of (i := 1055) (by decide +kernel) (by decide +kernel)
theorem qw1056 : Cond.methodLink RX7 179 yX7_downOf ∈ wAll := wAll_of (i := 1056) (by decide +kernel) (by decide +kernel)
theorem qw1058 : Cond.instanceMethod yX7_downOf ∈ wAll := wAll_of (i := 1058) (by decide +kernel) (by decide +kernel)
theorem qw1059 : Cond.code yX7_downOf cX7_downOf 5 (some .int) ∈ wAll := wAll_of (i := 1059) (by decide +kernel) (by decide +kernel)
theorem qw1072 : Cond.methodLink RX7 188 yX7_messageTold ∈ wAll := wAll_of (i := 1072) (by decide +kernel) (by decide +kernel)
theorem qw1074 : Cond.instanceMethod yX7_messageTold ∈ wAll := wAll_of (i := 1074) (by decide +kernel) (by decide +kernel)
theorem qw1075 : Cond.code yX7_messageTold cX7_messageTold 6 (some .int) ∈ wAll := wAll_of (i := 1075) (by decide +kernel) (by decide +kernel)
theorem qw1080 : Cond.methodLink RX7 197 yX7_whenDone ∈ wAll := wAll_of (i := 1080) (by decide +kernel) (by decide +kernel)
theorem qw1082 : Cond.instanceMethod yX7_whenDone ∈ wAll := wAll_of (i := 1082) (by decide +kernel) (by decide +kernel)
theorem qw1083 : Cond.code yX7_whenDone cX7_whenDone 3 (some .int) ∈ wAll := wAll_of (i := 1083) (by decide +kernel) (by decide +kernel)
theorem qw1084 : Cond.methodLink RX7 191 yX7_areDone ∈ wAll := wAll_of (i := 1084) (by decide +kernel) (by decide +kernel)
theorem qw1086 : Cond.instanceMethod yX7_areDone ∈ wAll := wAll_of (i := 1086) (by decide +kernel) (by decide +kernel)
theorem qw1087 : Cond.code yX7_areDone cX7_areDone 4 (some .boolean) ∈ wAll := wAll_of (i := 1087) (by decide +kernel) (by decide +kernel)
theorem qw1088 : Cond.methodLink RX7 194 yX7_takesBack ∈ wAll := wAll_of (i := 1088) (by decide +kernel) (by decide +kernel)
theorem qw1090 : Cond.instanceMethod yX7_takesBack ∈ wAll := wAll_of (i := 1090) (by decide +kernel) (by decide +kernel)
theorem qw1091 : Cond.code yX7_takesBack cX7_takesBack 2 none ∈ wAll := wAll_of (i := 1091) (by decide +kernel) (by decide +kernel)
theorem qw1096 : Cond.methodLink RX7 200 yX7_countTold ∈ wAll := wAll_of (i := 1096) (by decide +kernel) (by decide +kernel)
theorem qw1098 : Cond.instanceMethod yX7_countTold ∈ wAll := wAll_of (i := 1098) (by decide +kernel) (by decide +kernel)
theorem qw1099 : Cond.code yX7_countTold cX7_countTold 8 (some .int) ∈ wAll := wAll_of (i := 1099) (by decide +kernel) (by decide +kernel)
theorem qw1112 : Cond.methodLink RX7 234 yX7_isRead ∈ wAll := wAll_of (i := 1112) (by decide +kernel) (by decide +kernel)
theorem qw1114 : Cond.instanceMethod yX7_isRead ∈ wAll := wAll_of (i := 1114) (by decide +kernel) (by decide +kernel)
theorem qw1115 : Cond.code yX7_isRead cX7_isRead 1 (some .boolean) ∈ wAll := wAll_of (i := 1115) (by decide +kernel) (by decide +kernel)
theorem qw1116 : Cond.methodLink RX7 215 yX7_blanks ∈ wAll := wAll_of (i := 1116) (by decide +kernel) (by decide +kernel)
theorem qw1118 : Cond.instanceMethod yX7_blanks ∈ wAll := wAll_of (i := 1118) (by decide +kernel) (by decide +kernel)
theorem qw1119 : Cond.code yX7_blanks cX7_blanks 1 none ∈ wAll := wAll_of (i := 1119) (by decide +kernel) (by decide +kernel)
theorem qw1120 : Cond.methodLink RX7 209 yX7_isAt ∈ wAll := wAll_of (i := 1120) (by decide +kernel) (by decide +kernel)
theorem qw1122 : Cond.instanceMethod yX7_isAt ∈ wAll := wAll_of (i := 1122) (by decide +kernel) (by decide +kernel)
theorem qw1123 : Cond.code yX7_isAt cX7_isAt 3 (some .boolean) ∈ wAll := wAll_of (i := 1123) (by decide +kernel) (by decide +kernel)
theorem qw1124 : Cond.methodLink RX7 231 yX7_takesOrder ∈ wAll := wAll_of (i := 1124) (by decide +kernel) (by decide +kernel)
theorem qw1126 : Cond.instanceMethod yX7_takesOrder ∈ wAll := wAll_of (i := 1126) (by decide +kernel) (by decide +kernel)
theorem qw1127 : Cond.code yX7_takesOrder cX7_takesOrder 3 (some .boolean) ∈ wAll := wAll_of (i := 1127) (by decide +kernel) (by decide +kernel)
theorem qw1128 : Cond.methodLink RX7 222 yX7_manyOf ∈ wAll := wAll_of (i := 1128) (by decide +kernel) (by decide +kernel)
theorem qw1129 : Cond.static yX7_manyOf ∈ wAll := wAll_of (i := 1129) (by decide +kernel) (by decide +kernel)
theorem qw1130 : Cond.code yX7_manyOf cX7_manyOf 1 (some .int) ∈ wAll := wAll_of (i := 1130) (by decide +kernel) (by decide +kernel)
theorem qw1131 : Cond.methodLink RX7 218 yX7_fails ∈ wAll := wAll_of (i := 1131) (by decide +kernel) (by decide +kernel)
theorem qw1133 : Cond.instanceMethod yX7_fails ∈ wAll := wAll_of (i := 1133) (by decide +kernel) (by decide +kernel)
theorem qw1134 : Cond.code yX7_fails cX7_fails 1 (some .boolean) ∈ wAll := wAll_of (i := 1134) (by decide +kernel) (by decide +kernel)
theorem qw1135 : Cond.methodLink RX7 228 yX7_takesNumber ∈ wAll := wAll_of (i := 1135) (by decide +kernel) (by decide +kernel)
theorem qw1137 : Cond.instanceMethod yX7_takesNumber ∈ wAll := wAll_of (i := 1137) (by decide +kernel) (by decide +kernel)
theorem qw1138 : Cond.code yX7_takesNumber cX7_takesNumber 4 (some .boolean) ∈ wAll := wAll_of (i := 1138) (by decide +kernel) (by decide +kernel)
theorem qw1139 : Cond.methodLink RX7 237 yX7_doneOne ∈ wAll := wAll_of (i := 1139) (by decide +kernel) (by decide +kernel)
theorem qw1141 : Cond.instanceMethod yX7_doneOne ∈ wAll := wAll_of (i := 1141) (by decide +kernel) (by decide +kernel)
theorem qw1142 : Cond.code yX7_doneOne cX7_doneOne 5 (some .int) ∈ wAll := wAll_of (i := 1142) (by decide +kernel) (by decide +kernel)
theorem qw1147 : Cond.methodLink RX7 240 yX7_toldAt ∈ wAll := wAll_of (i := 1147) (by decide +kernel) (by decide +kernel)
theorem qw1149 : Cond.instanceMethod yX7_toldAt ∈ wAll := wAll_of (i := 1149) (by decide +kernel) (by decide +kernel)
theorem qw1150 : Cond.code yX7_toldAt cX7_toldAt 2 (some .int) ∈ wAll := wAll_of (i := 1150) (by decide +kernel) (by decide +kernel)
theorem qw1155 : Cond.constantLong RX7 253 2806 ∈ wAll := wAll_of (i := 1155) (by decide +kernel) (by decide +kernel)
theorem qw1156 : Cond.methodLink RX7 249 yX7_mix ∈ wAll := wAll_of (i := 1156) (by decide +kernel) (by decide +kernel)
theorem qw1158 : Cond.instanceMethod yX7_mix ∈ wAll := wAll_of (i := 1158) (by decide +kernel) (by decide +kernel)
theorem qw1159 : Cond.code yX7_mix cX7_mix 3 none ∈ wAll := wAll_of (i := 1159) (by decide +kernel) (by decide +kernel)
theorem qw1160 : Cond.constantLong RX7 243 31 ∈ wAll := wAll_of (i := 1160) (by decide +kernel) (by decide +kernel)
theorem qw1161 : Cond.methodLink RX7 255 yX7_mixMessage ∈ wAll := wAll_of (i := 1161) (by decide +kernel) (by decide +kernel)
theorem qw1163 : Cond.instanceMethod yX7_mixMessage ∈ wAll := wAll_of (i := 1163) (by decide +kernel) (by decide +kernel)
theorem qw1164 : Cond.code yX7_mixMessage cX7_mixMessage 4 none ∈ wAll := wAll_of (i := 1164) (by decide +kernel) (by decide +kernel)
theorem wNat : Cond.native arraycopyName ∈ wAll := wAll_of (i := 335) (by decide +kernel) (by decide +kernel)
theorem wCpS : Cond.static arraycopyName ∈ wAll := wAll_of (i := 334) (by decide +kernel) (by decide +kernel)
end
section
theorem lt_use {α β : Type} {a y : α} {k : α → β} {z : β} (e : y = a) (h : lt_ a k = z) : k y = z := by subst e; exact h
section GF
variable {p : Program} {l : Launch} {e : Env} {R : Room} {s : State} {m : MethodId} {args : Array Value} {below : List Frame} {meth : Method} {c : Code} {H : Heap} {locs : List Loc} {cells slots : Nat} {Q : State → Prop} {cc : ByteArray} {pc : Nat} {ls : Array Slot} {rest : List Value} {D : va_G} {cy : Nat → ClassId} {tX tY : Nat} {ad : Nat → Nat} {A : Nat → Prop} {n nL : Nat} {ret : Option FieldType} {x : HT}
theorem gfX0_15 (hC : Cf p s m args meth c cc nL RX0 ret D cy tX tY ad A 93) (hP : va_P D vwCl (wG (eX cy ad) 93 ad x) H) (hdg : decode cc pc = .ok (.getfield 15, 3)) (kk : W p l e R s m args below meth c H locs cells slots Q (F0 m (pc + 3) ls (.ref (ad 61) :: rest))) : W p l e R s m args below meth c H locs cells slots Q (F0 m pc ls (.ref (ad 59) :: rest)) :=
  gGet hC hP 59 (by decide) (ci := 0) (N := 5) (C := RX0) (T := TX0) (eX_59 cy ad _ _) rfl iX0 3 (by decide) qw190 rfl hdg kk
theorem gfX0_18 (hC : Cf p s m args meth c cc nL RX0 ret D cy tX tY ad A 93) (hP : va_P D vwCl (wG (eX cy ad) 93 ad x) H) (hdg : decode cc pc = .ok (.getfield 18, 3)) (kk : W p l e R s m args below meth c H locs cells slots Q (F0 m (pc + 3) ls (.ref (ad 62) :: rest))) : W p l e R s m args below meth c H locs cells slots Q (F0 m pc ls (.ref (ad 59) :: rest)) :=
  gGet hC hP 59 (by decide) (ci := 0) (N := 5) (C := RX0) (T := TX0) (eX_59 cy ad _ _) rfl iX0 4 (by decide) qw191 rfl hdg kk
theorem gfX0_21 (hC : Cf p s m args meth c cc nL RX0 ret D cy tX tY ad A 93) (hP : va_P D vwCl (wG (eX cy ad) 93 ad x) H) (hdg : decode cc pc = .ok (.getfield 21, 3)) (kk : W p l e R s m args below meth c H locs cells slots Q (F0 m (pc + 3) ls (.int (x.1 59 0) :: rest))) : W p l e R s m args below meth c H locs cells slots Q (F0 m pc ls (.ref (ad 59) :: rest)) :=
  gGet hC hP 59 (by decide) (ci := 0) (N := 5) (C := RX0) (T := TX0) (eX_59 cy ad _ _) rfl iX0 0 (by decide) qw187 rfl hdg kk
theorem pfX0_21 (hC : Cf p s m args meth c cc nL RX0 ret D cy tX tY ad A 93) (hP : va_P D vwCl (wG (eX cy ad) 93 ad x) H) (hS : va_S A s.heap H locs) {v : Int32} (hdg : decode cc pc = .ok (.putfield 21, 3)) (kk : ∀ (H : Heap) (locs : List Loc), va_P D vwCl (wG (eX cy ad) 93 ad (sI x 59 0 v)) H → va_S A s.heap H locs → W p l e R s m args below meth c H locs cells slots Q (F0 m (pc + 3) ls rest)) : W p l e R s m args below meth c H locs cells slots Q (F0 m pc ls (.int v :: .ref (ad 59) :: rest)) :=
  gPut hC hP hS 59 (by decide) (ci := 0) (N := 5) (C := RX0) (T := TX0) (eX_59 cy ad _ _) rfl iX0 tyX0_ok nmX0 0 (by decide) qw187 rfl (by decide +kernel) (Nat.le_of_ble_eq_true rfl) rfl hdg kk
theorem gfX0_25 (hC : Cf p s m args meth c cc nL RX0 ret D cy tX tY ad A 93) (hP : va_P D vwCl (wG (eX cy ad) 93 ad x) H) (hdg : decode cc pc = .ok (.getfield 25, 3)) (kk : W p l e R s m args below meth c H locs cells slots Q (F0 m (pc + 3) ls (.int (x.1 59 1) :: rest))) : W p l e R s m args below meth c H locs cells slots Q (F0 m pc ls (.ref (ad 59) :: rest)) :=
  gGet hC hP 59 (by decide) (ci := 0) (N := 5) (C := RX0) (T := TX0) (eX_59 cy ad _ _) rfl iX0 1 (by decide) qw188 rfl hdg kk
theorem pfX0_25 (hC : Cf p s m args meth c cc nL RX0 ret D cy tX tY ad A 93) (hP : va_P D vwCl (wG (eX cy ad) 93 ad x) H) (hS : va_S A s.heap H locs) {v : Int32} (hdg : decode cc pc = .ok (.putfield 25, 3)) (kk : ∀ (H : Heap) (locs : List Loc), va_P D vwCl (wG (eX cy ad) 93 ad (sI x 59 1 v)) H → va_S A s.heap H locs → W p l e R s m args below meth c H locs cells slots Q (F0 m (pc + 3) ls rest)) : W p l e R s m args below meth c H locs cells slots Q (F0 m pc ls (.int v :: .ref (ad 59) :: rest)) :=
  gPut hC hP hS 59 (by decide) (ci := 0) (N := 5) (C := RX0) (T := TX0) (eX_59 cy ad _ _) rfl iX0 tyX0_ok nmX0 1 (by decide) qw188 rfl (by decide +kernel) (Nat.le_of_ble_eq_true rfl) rfl hdg kk
theorem gsX0_36 (hC : Cf p s m args meth c cc nL RX0 ret D cy tX tY ad A n) (hS : va_S A s.heap H locs) (hdg : decode cc pc = .ok (.getstatic 36, 3)) (kk : W p l e R s m args below meth c H locs cells slots Q (F0 m (pc + 3) ls (.ref tX :: rest))) : W p l e R s m args below meth c H locs cells slots Q (F0 m pc ls rest) := by
  obtain ⟨hx, hb, hml, hown, hts, hr, hK, hZ, hA, hlk⟩ := hC
  exact va_getsN (host := "SnakeMesh") hx hb hZ.1 hS hown (va_Nw.use rfl hZ.2.2.2.2.1) (fun _ h => h) hdg kk
theorem gsX0_39 (hC : Cf p s m args meth c cc nL RX0 ret D cy tX tY ad A n) (hS : va_S A s.heap H locs) (hdg : decode cc pc = .ok (.getstatic 39, 3)) (kk : W p l e R s m args below meth c H locs cells slots Q (F0 m (pc + 3) ls (.ref tY :: rest))) : W p l e R s m args below meth c H locs cells slots Q (F0 m pc ls rest) := by
  obtain ⟨hx, hb, hml, hown, hts, hr, hK, hZ, hA, hlk⟩ := hC
  exact va_getsN (host := "SnakeMesh") hx hb hZ.2.2.1 hS hown (va_Nw.use rfl hZ.2.2.2.2.2.1) (fun _ h => h) hdg kk
theorem gfX0_9 (hC : Cf p s m args meth c cc nL RX0 ret D cy tX tY ad A 93) (hP : va_P D vwCl (wG (eX cy ad) 93 ad x) H) (hdg : decode cc pc = .ok (.getfield 9, 3)) (kk : W p l e R s m args below meth c H locs cells slots Q (F0 m (pc + 3) ls (.ref (ad 60) :: rest))) : W p l e R s m args below meth c H locs cells slots Q (F0 m pc ls (.ref (ad 59) :: rest)) :=
  gGet hC hP 59 (by decide) (ci := 0) (N := 5) (C := RX0) (T := TX0) (eX_59 cy ad _ _) rfl iX0 2 (by decide) qw189 rfl hdg kk
theorem gfX1_11 (hC : Cf p s m args meth c cc nL RX1 ret D cy tX tY ad A 93) (hP : va_P D vwCl (wG (eX cy ad) 93 ad x) H) (hdg : decode cc pc = .ok (.getfield 11, 3)) (kk : W p l e R s m args below meth c H locs cells slots Q (F0 m (pc + 3) ls (.ref (ad 58) :: rest))) : W p l e R s m args below meth c H locs cells slots Q (F0 m pc ls (.ref (ad 57) :: rest)) :=
  gGet hC hP 57 (by decide) (ci := 1) (N := 3) (C := RX1) (T := TX1) (eX_57 cy ad _ _) rfl iX1 0 (by decide) qw171 rfl hdg kk
theorem gfX1_18 (hC : Cf p s m args meth c cc nL RX1 ret D cy tX tY ad A 93) (hP : va_P D vwCl (wG (eX cy ad) 93 ad x) H) (hdg : decode cc pc = .ok (.getfield 18, 3)) (kk : W p l e R s m args below meth c H locs cells slots Q (F0 m (pc + 3) ls (.int (x.1 57 2) :: rest))) : W p l e R s m args below meth c H locs cells slots Q (F0 m pc ls (.ref (ad 57) :: rest)) :=
  gGet hC hP 57 (by decide) (ci := 1) (N := 3) (C := RX1) (T := TX1) (eX_57 cy ad _ _) rfl iX1 2 (by decide) qw173 rfl hdg kk
theorem pfX1_18 (hC : Cf p s m args meth c cc nL RX1 ret D cy tX tY ad A 93) (hP : va_P D vwCl (wG (eX cy ad) 93 ad x) H) (hS : va_S A s.heap H locs) {v : Int32} (hdg : decode cc pc = .ok (.putfield 18, 3)) (kk : ∀ (H : Heap) (locs : List Loc), va_P D vwCl (wG (eX cy ad) 93 ad (sI x 57 2 v)) H → va_S A s.heap H locs → W p l e R s m args below meth c H locs cells slots Q (F0 m (pc + 3) ls rest)) : W p l e R s m args below meth c H locs cells slots Q (F0 m pc ls (.int v :: .ref (ad 57) :: rest)) :=
  gPut hC hP hS 57 (by decide) (ci := 1) (N := 3) (C := RX1) (T := TX1) (eX_57 cy ad _ _) rfl iX1 tyX1_ok nmX1 2 (by decide) qw173 rfl (by decide +kernel) (Nat.le_of_ble_eq_true rfl) rfl hdg kk
theorem gfX1_22 (hC : Cf p s m args meth c cc nL RX1 ret D cy tX tY ad A 93) (hP : va_P D vwCl (wG (eX cy ad) 93 ad x) H) (hdg : decode cc pc = .ok (.getfield 22, 3)) (kk : W p l e R s m args below meth c H locs cells slots Q (F0 m (pc + 3) ls (.int (x.1 57 1) :: rest))) : W p l e R s m args below meth c H locs cells slots Q (F0 m pc ls (.ref (ad 57) :: rest)) :=
  gGet hC hP 57 (by decide) (ci := 1) (N := 3) (C := RX1) (T := TX1) (eX_57 cy ad _ _) rfl iX1 1 (by decide) qw172 rfl hdg kk
theorem pfX1_22 (hC : Cf p s m args meth c cc nL RX1 ret D cy tX tY ad A 93) (hP : va_P D vwCl (wG (eX cy ad) 93 ad x) H) (hS : va_S A s.heap H locs) {v : Int32} (hdg : decode cc pc = .ok (.putfield 22, 3)) (kk : ∀ (H : Heap) (locs : List Loc), va_P D vwCl (wG (eX cy ad) 93 ad (sI x 57 1 v)) H → va_S A s.heap H locs → W p l e R s m args below meth c H locs cells slots Q (F0 m (pc + 3) ls rest)) : W p l e R s m args below meth c H locs cells slots Q (F0 m pc ls (.int v :: .ref (ad 57) :: rest)) :=
  gPut hC hP hS 57 (by decide) (ci := 1) (N := 3) (C := RX1) (T := TX1) (eX_57 cy ad _ _) rfl iX1 tyX1_ok nmX1 1 (by decide) qw172 rfl (by decide +kernel) (Nat.le_of_ble_eq_true rfl) rfl hdg kk
theorem gfX2_15 (hC : Cf p s m args meth c cc nL RX2 ret D cy tX tY ad A 93) (hP : va_P D vwCl (wG (eX cy ad) 93 ad x) H) {j : Nat} (hj : j < 8) (hdg : decode cc pc = .ok (.getfield 15, 3)) (kk : W p l e R s m args below meth c H locs cells slots Q (F0 m (pc + 3) ls (.ref (ad (7 * j + 3)) :: rest))) : W p l e R s m args below meth c H locs cells slots Q (F0 m pc ls (.ref (ad (7 * j + 1)) :: rest)) :=
  gGet hC hP (7 * j + 1) (by omega) (ci := 2) (N := 10) (C := RX2) (T := TX2) (eX_S hj cy ad _ _) rfl iX2 5 (by decide) qw126 rfl hdg kk
theorem gfX2_18 (hC : Cf p s m args meth c cc nL RX2 ret D cy tX tY ad A 93) (hP : va_P D vwCl (wG (eX cy ad) 93 ad x) H) {j : Nat} (hj : j < 8) (hdg : decode cc pc = .ok (.getfield 18, 3)) (kk : W p l e R s m args below meth c H locs cells slots Q (F0 m (pc + 3) ls (.ref (ad (7 * j + 4)) :: rest))) : W p l e R s m args below meth c H locs cells slots Q (F0 m pc ls (.ref (ad (7 * j + 1)) :: rest)) :=
  gGet hC hP (7 * j + 1) (by omega) (ci := 2) (N := 10) (C := RX2) (T := TX2) (eX_S hj cy ad _ _) rfl iX2 6 (by decide) qw128 rfl hdg kk
theorem gfX2_21 (hC : Cf p s m args meth c cc nL RX2 ret D cy tX tY ad A 93) (hP : va_P D vwCl (wG (eX cy ad) 93 ad x) H) {j : Nat} (hj : j < 8) (hdg : decode cc pc = .ok (.getfield 21, 3)) (kk : W p l e R s m args below meth c H locs cells slots Q (F0 m (pc + 3) ls (.ref (ad (7 * j + 5)) :: rest))) : W p l e R s m args below meth c H locs cells slots Q (F0 m pc ls (.ref (ad (7 * j + 1)) :: rest)) :=
  gGet hC hP (7 * j + 1) (by omega) (ci := 2) (N := 10) (C := RX2) (T := TX2) (eX_S hj cy ad _ _) rfl iX2 7 (by decide) qw130 rfl hdg kk
theorem gfX2_25 (hC : Cf p s m args meth c cc nL RX2 ret D cy tX tY ad A 93) (hP : va_P D vwCl (wG (eX cy ad) 93 ad x) H) {j : Nat} (hj : j < 8) (hdg : decode cc pc = .ok (.getfield 25, 3)) (kk : W p l e R s m args below meth c H locs cells slots Q (F0 m (pc + 3) ls (.ref (ad (7 * j + 6)) :: rest))) : W p l e R s m args below meth c H locs cells slots Q (F0 m pc ls (.ref (ad (7 * j + 1)) :: rest)) :=
  gGet hC hP (7 * j + 1) (by omega) (ci := 2) (N := 10) (C := RX2) (T := TX2) (eX_S hj cy ad _ _) rfl iX2 8 (by decide) qw132 rfl hdg kk
theorem gfX2_28 (hC : Cf p s m args meth c cc nL RX2 ret D cy tX tY ad A 93) (hP : va_P D vwCl (wG (eX cy ad) 93 ad x) H) {j : Nat} (hj : j < 8) (hdg : decode cc pc = .ok (.getfield 28, 3)) (kk : W p l e R s m args below meth c H locs cells slots Q (F0 m (pc + 3) ls (.ref (ad (7 * j + 7)) :: rest))) : W p l e R s m args below meth c H locs cells slots Q (F0 m pc ls (.ref (ad (7 * j + 1)) :: rest)) :=
  gGet hC hP (7 * j + 1) (by omega) (ci := 2) (N := 10) (C := RX2) (T := TX2) (eX_S hj cy ad _ _) rfl iX2 9 (by decide) qw136 rfl hdg kk
theorem gfX2_31 (hC : Cf p s m args meth c cc nL RX2 ret D cy tX tY ad A 93) (hP : va_P D vwCl (wG (eX cy ad) 93 ad x) H) {j : Nat} (hj : j < 8) (hdg : decode cc pc = .ok (.getfield 31, 3)) (kk : W p l e R s m args below meth c H locs cells slots Q (F0 m (pc + 3) ls (.int (x.1 (7 * j + 1) 0) :: rest))) : W p l e R s m args below meth c H locs cells slots Q (F0 m pc ls (.ref (ad (7 * j + 1)) :: rest)) :=
  gGet hC hP (7 * j + 1) (by omega) (ci := 2) (N := 10) (C := RX2) (T := TX2) (eX_S hj cy ad _ _) rfl iX2 0 (by decide) qw116 rfl hdg kk
theorem pfX2_31 (hC : Cf p s m args meth c cc nL RX2 ret D cy tX tY ad A 93) (hP : va_P D vwCl (wG (eX cy ad) 93 ad x) H) (hS : va_S A s.heap H locs) {j : Nat} (hj : j < 8) {v : Int32} (hdg : decode cc pc = .ok (.putfield 31, 3)) (kk : ∀ (H : Heap) (locs : List Loc), va_P D vwCl (wG (eX cy ad) 93 ad (sI x (7 * j + 1) 0 v)) H → va_S A s.heap H locs → W p l e R s m args below meth c H locs cells slots Q (F0 m (pc + 3) ls rest)) : W p l e R s m args below meth c H locs cells slots Q (F0 m pc ls (.int v :: .ref (ad (7 * j + 1)) :: rest)) :=
  gPut hC hP hS (7 * j + 1) (by omega) (ci := 2) (N := 10) (C := RX2) (T := TX2) (eX_S hj cy ad _ _) rfl iX2 tyX2_ok nmX2 0 (by decide) qw116 rfl (by decide +kernel) (Nat.le_of_ble_eq_true rfl) (eX_S hj cy ad _ _) hdg kk
theorem gfX2_35 (hC : Cf p s m args meth c cc nL RX2 ret D cy tX tY ad A 93) (hP : va_P D vwCl (wG (eX cy ad) 93 ad x) H) {j : Nat} (hj : j < 8) (hdg : decode cc pc = .ok (.getfield 35, 3)) (kk : W p l e R s m args below meth c H locs cells slots Q (F0 m (pc + 3) ls (.int (x.1 (7 * j + 1) 1) :: rest))) : W p l e R s m args below meth c H locs cells slots Q (F0 m pc ls (.ref (ad (7 * j + 1)) :: rest)) :=
  gGet hC hP (7 * j + 1) (by omega) (ci := 2) (N := 10) (C := RX2) (T := TX2) (eX_S hj cy ad _ _) rfl iX2 1 (by decide) qw118 rfl hdg kk
theorem pfX2_35 (hC : Cf p s m args meth c cc nL RX2 ret D cy tX tY ad A 93) (hP : va_P D vwCl (wG (eX cy ad) 93 ad x) H) (hS : va_S A s.heap H locs) {j : Nat} (hj : j < 8) {v : Int32} (hdg : decode cc pc = .ok (.putfield 35, 3)) (kk : ∀ (H : Heap) (locs : List Loc), va_P D vwCl (wG (eX cy ad) 93 ad (sI x (7 * j + 1) 1 v)) H → va_S A s.heap H locs → W p l e R s m args below meth c H locs cells slots Q (F0 m (pc + 3) ls rest)) : W p l e R s m args below meth c H locs cells slots Q (F0 m pc ls (.int v :: .ref (ad (7 * j + 1)) :: rest)) :=
  gPut hC hP hS (7 * j + 1) (by omega) (ci := 2) (N := 10) (C := RX2) (T := TX2) (eX_S hj cy ad _ _) rfl iX2 tyX2_ok nmX2 1 (by decide) qw118 rfl (by decide +kernel) (Nat.le_of_ble_eq_true rfl) (eX_S hj cy ad _ _) hdg kk
theorem gfX2_38 (hC : Cf p s m args meth c cc nL RX2 ret D cy tX tY ad A 93) (hP : va_P D vwCl (wG (eX cy ad) 93 ad x) H) {j : Nat} (hj : j < 8) (hdg : decode cc pc = .ok (.getfield 38, 3)) (kk : W p l e R s m args below meth c H locs cells slots Q (F0 m (pc + 3) ls (.int (x.1 (7 * j + 1) 3) :: rest))) : W p l e R s m args below meth c H locs cells slots Q (F0 m pc ls (.ref (ad (7 * j + 1)) :: rest)) :=
  gGet hC hP (7 * j + 1) (by omega) (ci := 2) (N := 10) (C := RX2) (T := TX2) (eX_S hj cy ad _ _) rfl iX2 3 (by decide) qw123 rfl hdg kk
theorem pfX2_38 (hC : Cf p s m args meth c cc nL RX2 ret D cy tX tY ad A 93) (hP : va_P D vwCl (wG (eX cy ad) 93 ad x) H) (hS : va_S A s.heap H locs) {j : Nat} (hj : j < 8) {v : Int32} (hdg : decode cc pc = .ok (.putfield 38, 3)) (kk : ∀ (H : Heap) (locs : List Loc), va_P D vwCl (wG (eX cy ad) 93 ad (sI x (7 * j + 1) 3 v)) H → va_S A s.heap H locs → W p l e R s m args below meth c H locs cells slots Q (F0 m (pc + 3) ls rest)) : W p l e R s m args below meth c H locs cells slots Q (F0 m pc ls (.int v :: .ref (ad (7 * j + 1)) :: rest)) :=
  gPut hC hP hS (7 * j + 1) (by omega) (ci := 2) (N := 10) (C := RX2) (T := TX2) (eX_S hj cy ad _ _) rfl iX2 tyX2_ok nmX2 3 (by decide) qw123 rfl (by decide +kernel) (Nat.le_of_ble_eq_true rfl) (eX_S hj cy ad _ _) hdg kk
theorem gfX2_50 (hC : Cf p s m args meth c cc nL RX2 ret D cy tX tY ad A 93) (hP : va_P D vwCl (wG (eX cy ad) 93 ad x) H) {j : Nat} (hj : j < 8) (hdg : decode cc pc = .ok (.getfield 50, 3)) (kk : W p l e R s m args below meth c H locs cells slots Q (F0 m (pc + 3) ls (.int (x.1 (7 * j + 1) 2) :: rest))) : W p l e R s m args below meth c H locs cells slots Q (F0 m pc ls (.ref (ad (7 * j + 1)) :: rest)) :=
  gGet hC hP (7 * j + 1) (by omega) (ci := 2) (N := 10) (C := RX2) (T := TX2) (eX_S hj cy ad _ _) rfl iX2 2 (by decide) qw120 rfl hdg kk
theorem pfX2_50 (hC : Cf p s m args meth c cc nL RX2 ret D cy tX tY ad A 93) (hP : va_P D vwCl (wG (eX cy ad) 93 ad x) H) (hS : va_S A s.heap H locs) {j : Nat} (hj : j < 8) {v : Int32} (hdg : decode cc pc = .ok (.putfield 50, 3)) (kk : ∀ (H : Heap) (locs : List Loc), va_P D vwCl (wG (eX cy ad) 93 ad (sI x (7 * j + 1) 2 v)) H → va_S A s.heap H locs → W p l e R s m args below meth c H locs cells slots Q (F0 m (pc + 3) ls rest)) : W p l e R s m args below meth c H locs cells slots Q (F0 m pc ls (.int v :: .ref (ad (7 * j + 1)) :: rest)) :=
  gPut hC hP hS (7 * j + 1) (by omega) (ci := 2) (N := 10) (C := RX2) (T := TX2) (eX_S hj cy ad _ _) rfl iX2 tyX2_ok nmX2 2 (by decide) qw120 rfl (by decide +kernel) (Nat.le_of_ble_eq_true rfl) (eX_S hj cy ad _ _) hdg kk
theorem gfX2_9 (hC : Cf p s m args meth c cc nL RX2 ret D cy tX tY ad A 93) (hP : va_P D vwCl (wG (eX cy ad) 93 ad x) H) {j : Nat} (hj : j < 8) (hdg : decode cc pc = .ok (.getfield 9, 3)) (kk : W p l e R s m args below meth c H locs cells slots Q (F0 m (pc + 3) ls (.ref (ad (7 * j + 2)) :: rest))) : W p l e R s m args below meth c H locs cells slots Q (F0 m pc ls (.ref (ad (7 * j + 1)) :: rest)) :=
  gGet hC hP (7 * j + 1) (by omega) (ci := 2) (N := 10) (C := RX2) (T := TX2) (eX_S hj cy ad _ _) rfl iX2 4 (by decide) qw125 rfl hdg kk
theorem gfX3_15 (hC : Cf p s m args meth c cc nL RX3 ret D cy tX tY ad A 93) (hP : va_P D vwCl (wG (eX cy ad) 93 ad x) H) (hdg : decode cc pc = .ok (.getfield 15, 3)) (kk : W p l e R s m args below meth c H locs cells slots Q (F0 m (pc + 3) ls (.ref (ad 91) :: rest))) : W p l e R s m args below meth c H locs cells slots Q (F0 m pc ls (.ref (ad 89) :: rest)) :=
  gGet hC hP 89 (by decide) (ci := 3) (N := 6) (C := RX3) (T := TX3) (eX_89 cy ad _ _) rfl iX3 2 (by decide) qw243 rfl hdg kk
theorem gfX3_18 (hC : Cf p s m args meth c cc nL RX3 ret D cy tX tY ad A 93) (hP : va_P D vwCl (wG (eX cy ad) 93 ad x) H) (hdg : decode cc pc = .ok (.getfield 18, 3)) (kk : W p l e R s m args below meth c H locs cells slots Q (F0 m (pc + 3) ls (.ref (ad 92) :: rest))) : W p l e R s m args below meth c H locs cells slots Q (F0 m pc ls (.ref (ad 89) :: rest)) :=
  gGet hC hP 89 (by decide) (ci := 3) (N := 6) (C := RX3) (T := TX3) (eX_89 cy ad _ _) rfl iX3 3 (by decide) qw244 rfl hdg kk
theorem gfX3_21 (hC : Cf p s m args meth c cc nL RX3 ret D cy tX tY ad A 93) (hP : va_P D vwCl (wG (eX cy ad) 93 ad x) H) (hdg : decode cc pc = .ok (.getfield 21, 3)) (kk : W p l e R s m args below meth c H locs cells slots Q (F0 m (pc + 3) ls (.int (x.1 89 1) :: rest))) : W p l e R s m args below meth c H locs cells slots Q (F0 m pc ls (.ref (ad 89) :: rest)) :=
  gGet hC hP 89 (by decide) (ci := 3) (N := 6) (C := RX3) (T := TX3) (eX_89 cy ad _ _) rfl iX3 1 (by decide) qw242 rfl hdg kk
theorem pfX3_21 (hC : Cf p s m args meth c cc nL RX3 ret D cy tX tY ad A 93) (hP : va_P D vwCl (wG (eX cy ad) 93 ad x) H) (hS : va_S A s.heap H locs) {v : Int32} (hdg : decode cc pc = .ok (.putfield 21, 3)) (kk : ∀ (H : Heap) (locs : List Loc), va_P D vwCl (wG (eX cy ad) 93 ad (sI x 89 1 v)) H → va_S A s.heap H locs → W p l e R s m args below meth c H locs cells slots Q (F0 m (pc + 3) ls rest)) : W p l e R s m args below meth c H locs cells slots Q (F0 m pc ls (.int v :: .ref (ad 89) :: rest)) :=
  gPut hC hP hS 89 (by decide) (ci := 3) (N := 6) (C := RX3) (T := TX3) (eX_89 cy ad _ _) rfl iX3 tyX3_ok nmX3 1 (by decide) qw242 rfl (by decide +kernel) (Nat.le_of_ble_eq_true rfl) rfl hdg kk
theorem gfX3_25 (hC : Cf p s m args meth c cc nL RX3 ret D cy tX tY ad A 93) (hP : va_P D vwCl (wG (eX cy ad) 93 ad x) H) (hdg : decode cc pc = .ok (.getfield 25, 3)) (kk : W p l e R s m args below meth c H locs cells slots Q (F0 m (pc + 3) ls (.int (x.1 89 4) :: rest))) : W p l e R s m args below meth c H locs cells slots Q (F0 m pc ls (.ref (ad 89) :: rest)) :=
  gGet hC hP 89 (by decide) (ci := 3) (N := 6) (C := RX3) (T := TX3) (eX_89 cy ad _ _) rfl iX3 4 (by decide) qw245 rfl hdg kk
theorem pfX3_25 (hC : Cf p s m args meth c cc nL RX3 ret D cy tX tY ad A 93) (hP : va_P D vwCl (wG (eX cy ad) 93 ad x) H) (hS : va_S A s.heap H locs) {v : Int32} (hdg : decode cc pc = .ok (.putfield 25, 3)) (kk : ∀ (H : Heap) (locs : List Loc), va_P D vwCl (wG (eX cy ad) 93 ad (sI x 89 4 v)) H → va_S A s.heap H locs → W p l e R s m args below meth c H locs cells slots Q (F0 m (pc + 3) ls rest)) : W p l e R s m args below meth c H locs cells slots Q (F0 m pc ls (.int v :: .ref (ad 89) :: rest)) :=
  gPut hC hP hS 89 (by decide) (ci := 3) (N := 6) (C := RX3) (T := TX3) (eX_89 cy ad _ _) rfl iX3 tyX3_ok nmX3 4 (by decide) qw245 rfl (by decide +kernel) (Nat.le_of_ble_eq_true rfl) rfl hdg kk
theorem gfX3_28 (hC : Cf p s m args meth c cc nL RX3 ret D cy tX tY ad A 93) (hP : va_P D vwCl (wG (eX cy ad) 93 ad x) H) (hdg : decode cc pc = .ok (.getfield 28, 3)) (kk : W p l e R s m args below meth c H locs cells slots Q (F0 m (pc + 3) ls (.int (x.1 89 5) :: rest))) : W p l e R s m args below meth c H locs cells slots Q (F0 m pc ls (.ref (ad 89) :: rest)) :=
  gGet hC hP 89 (by decide) (ci := 3) (N := 6) (C := RX3) (T := TX3) (eX_89 cy ad _ _) rfl iX3 5 (by decide) qw246 rfl hdg kk
theorem pfX3_28 (hC : Cf p s m args meth c cc nL RX3 ret D cy tX tY ad A 93) (hP : va_P D vwCl (wG (eX cy ad) 93 ad x) H) (hS : va_S A s.heap H locs) {v : Int32} (hdg : decode cc pc = .ok (.putfield 28, 3)) (kk : ∀ (H : Heap) (locs : List Loc), va_P D vwCl (wG (eX cy ad) 93 ad (sI x 89 5 v)) H → va_S A s.heap H locs → W p l e R s m args below meth c H locs cells slots Q (F0 m (pc + 3) ls rest)) : W p l e R s m args below meth c H locs cells slots Q (F0 m pc ls (.int v :: .ref (ad 89) :: rest)) :=
  gPut hC hP hS 89 (by decide) (ci := 3) (N := 6) (C := RX3) (T := TX3) (eX_89 cy ad _ _) rfl iX3 tyX3_ok nmX3 5 (by decide) qw246 rfl (by decide +kernel) (Nat.le_of_ble_eq_true rfl) rfl hdg kk
theorem gfX3_9 (hC : Cf p s m args meth c cc nL RX3 ret D cy tX tY ad A 93) (hP : va_P D vwCl (wG (eX cy ad) 93 ad x) H) (hdg : decode cc pc = .ok (.getfield 9, 3)) (kk : W p l e R s m args below meth c H locs cells slots Q (F0 m (pc + 3) ls (.ref (ad 90) :: rest))) : W p l e R s m args below meth c H locs cells slots Q (F0 m pc ls (.ref (ad 89) :: rest)) :=
  gGet hC hP 89 (by decide) (ci := 3) (N := 6) (C := RX3) (T := TX3) (eX_89 cy ad _ _) rfl iX3 0 (by decide) qw241 rfl hdg kk
theorem gfX4_15 (hC : Cf p s m args meth c cc nL RX4 ret D cy tX tY ad A 93) (hP : va_P D vwCl (wG (eX cy ad) 93 ad x) H) (hdg : decode cc pc = .ok (.getfield 15, 3)) (kk : W p l e R s m args below meth c H locs cells slots Q (F0 m (pc + 3) ls (.ref (ad 63) :: rest))) : W p l e R s m args below meth c H locs cells slots Q (F0 m pc ls (.ref (ad 87) :: rest)) :=
  gGet hC hP 87 (by decide) (ci := 4) (N := 2) (C := RX4) (T := TX4) (eX_87 cy ad _ _) rfl iX4 0 (by decide) qw227 rfl hdg kk
theorem gfX4_53 (hC : Cf p s m args meth c cc nL RX4 ret D cy tX tY ad A 93) (hP : va_P D vwCl (wG (eX cy ad) 93 ad x) H) {j : Nat} (hj : j < 8) (hdg : decode cc pc = .ok (.getfield 53, 3)) (kk : W p l e R s m args below meth c H locs cells slots Q (F0 m (pc + 3) ls (.ref (ad (7 * j + 7)) :: rest))) : W p l e R s m args below meth c H locs cells slots Q (F0 m pc ls (.ref (ad (7 * j + 1)) :: rest)) :=
  gGet hC hP (7 * j + 1) (by omega) (ci := 2) (N := 10) (C := RX2) (T := TX2) (eX_S hj cy ad _ _) rfl iX2 9 (by decide) qw137 rfl hdg kk
theorem gfX4_60 (hC : Cf p s m args meth c cc nL RX4 ret D cy tX tY ad A 93) (hP : va_P D vwCl (wG (eX cy ad) 93 ad x) H) {j : Nat} (hj : j < 8) (hdg : decode cc pc = .ok (.getfield 60, 3)) (kk : W p l e R s m args below meth c H locs cells slots Q (F0 m (pc + 3) ls (.int (x.1 (7 * j + 1) 2) :: rest))) : W p l e R s m args below meth c H locs cells slots Q (F0 m pc ls (.ref (ad (7 * j + 1)) :: rest)) :=
  gGet hC hP (7 * j + 1) (by omega) (ci := 2) (N := 10) (C := RX2) (T := TX2) (eX_S hj cy ad _ _) rfl iX2 2 (by decide) qw121 rfl hdg kk
theorem pfX4_60 (hC : Cf p s m args meth c cc nL RX4 ret D cy tX tY ad A 93) (hP : va_P D vwCl (wG (eX cy ad) 93 ad x) H) (hS : va_S A s.heap H locs) {j : Nat} (hj : j < 8) {v : Int32} (hdg : decode cc pc = .ok (.putfield 60, 3)) (kk : ∀ (H : Heap) (locs : List Loc), va_P D vwCl (wG (eX cy ad) 93 ad (sI x (7 * j + 1) 2 v)) H → va_S A s.heap H locs → W p l e R s m args below meth c H locs cells slots Q (F0 m (pc + 3) ls rest)) : W p l e R s m args below meth c H locs cells slots Q (F0 m pc ls (.int v :: .ref (ad (7 * j + 1)) :: rest)) :=
  gPut hC hP hS (7 * j + 1) (by omega) (ci := 2) (N := 10) (C := RX2) (T := TX2) (eX_S hj cy ad _ _) rfl iX2 tyX2_ok nmX2 2 (by decide) qw121 rfl (by decide +kernel) (Nat.le_of_ble_eq_true rfl) (eX_S hj cy ad _ _) hdg kk
theorem gfX4_64 (hC : Cf p s m args meth c cc nL RX4 ret D cy tX tY ad A 93) (hP : va_P D vwCl (wG (eX cy ad) 93 ad x) H) {j : Nat} (hj : j < 8) (hdg : decode cc pc = .ok (.getfield 64, 3)) (kk : W p l e R s m args below meth c H locs cells slots Q (F0 m (pc + 3) ls (.ref (ad (7 * j + 6)) :: rest))) : W p l e R s m args below meth c H locs cells slots Q (F0 m pc ls (.ref (ad (7 * j + 1)) :: rest)) :=
  gGet hC hP (7 * j + 1) (by omega) (ci := 2) (N := 10) (C := RX2) (T := TX2) (eX_S hj cy ad _ _) rfl iX2 8 (by decide) qw133 rfl hdg kk
theorem gfX4_9 (hC : Cf p s m args meth c cc nL RX4 ret D cy tX tY ad A 93) (hP : va_P D vwCl (wG (eX cy ad) 93 ad x) H) (hdg : decode cc pc = .ok (.getfield 9, 3)) (kk : W p l e R s m args below meth c H locs cells slots Q (F0 m (pc + 3) ls (.ref (ad 88) :: rest))) : W p l e R s m args below meth c H locs cells slots Q (F0 m pc ls (.ref (ad 87) :: rest)) :=
  gGet hC hP 87 (by decide) (ci := 4) (N := 2) (C := RX4) (T := TX4) (eX_87 cy ad _ _) rfl iX4 1 (by decide) qw228 rfl hdg kk
theorem gfX5_17 (hC : Cf p s m args meth c cc nL RX5 ret D cy tX tY ad A 93) (hP : va_P D vwCl (wG (eX cy ad) 93 ad x) H) (hdg : decode cc pc = .ok (.getfield 17, 3)) (kk : W p l e R s m args below meth c H locs cells slots Q (F0 m (pc + 3) ls (.ref (ad 65) :: rest))) : W p l e R s m args below meth c H locs cells slots Q (F0 m pc ls (.ref (ad 63) :: rest)) :=
  gGet hC hP 63 (by decide) (ci := 5) (N := 3) (C := RX5) (T := TX5) (eX_63 cy ad _ _) rfl iX5 1 (by decide) qw212 rfl hdg kk
theorem gfX5_20 (hC : Cf p s m args meth c cc nL RX5 ret D cy tX tY ad A 93) (hP : va_P D vwCl (wG (eX cy ad) 93 ad x) H) (hdg : decode cc pc = .ok (.getfield 20, 3)) (kk : W p l e R s m args below meth c H locs cells slots Q (F0 m (pc + 3) ls (.ref (ad 66) :: rest))) : W p l e R s m args below meth c H locs cells slots Q (F0 m pc ls (.ref (ad 63) :: rest)) :=
  gGet hC hP 63 (by decide) (ci := 5) (N := 3) (C := RX5) (T := TX5) (eX_63 cy ad _ _) rfl iX5 2 (by decide) qw213 rfl hdg kk
theorem gfX5_53 (hC : Cf p s m args meth c cc nL RX5 ret D cy tX tY ad A 93) (hP : va_P D vwCl (wG (eX cy ad) 93 ad x) H) {j : Nat} (hj : j < 8) (hdg : decode cc pc = .ok (.getfield 53, 3)) (kk : W p l e R s m args below meth c H locs cells slots Q (F0 m (pc + 3) ls (.ref (ad (7 * j + 6)) :: rest))) : W p l e R s m args below meth c H locs cells slots Q (F0 m pc ls (.ref (ad (7 * j + 1)) :: rest)) :=
  gGet hC hP (7 * j + 1) (by omega) (ci := 2) (N := 10) (C := RX2) (T := TX2) (eX_S hj cy ad _ _) rfl iX2 8 (by decide) qw134 rfl hdg kk
theorem gfX5_9 (hC : Cf p s m args meth c cc nL RX5 ret D cy tX tY ad A 93) (hP : va_P D vwCl (wG (eX cy ad) 93 ad x) H) (hdg : decode cc pc = .ok (.getfield 9, 3)) (kk : W p l e R s m args below meth c H locs cells slots Q (F0 m (pc + 3) ls (.ref (ad 64) :: rest))) : W p l e R s m args below meth c H locs cells slots Q (F0 m pc ls (.ref (ad 63) :: rest)) :=
  gGet hC hP 63 (by decide) (ci := 5) (N := 3) (C := RX5) (T := TX5) (eX_63 cy ad _ _) rfl iX5 0 (by decide) qw211 rfl hdg kk
theorem gfX6_12 (hC : Cf p s m args meth c cc nL RX6 ret D cy tX tY ad A 93) (hP : va_P D vwCl (wG (eX cy ad) 93 ad x) H) (hdg : decode cc pc = .ok (.getfield 12, 3)) (kk : W p l e R s m args below meth c H locs cells slots Q (F0 m (pc + 3) ls (.ref (ad (7 * 0 + 1)) :: rest))) : W p l e R s m args below meth c H locs cells slots Q (F0 m pc ls (.ref (ad 0) :: rest)) :=
  gGet hC hP 0 (by decide) (ci := 6) (N := 11) (C := RX6) (T := TX6) (eX_0 cy ad _ _) rfl iX6 0 (by decide) qw291 rfl hdg kk
theorem gfX6_16 (hC : Cf p s m args meth c cc nL RX6 ret D cy tX tY ad A 93) (hP : va_P D vwCl (wG (eX cy ad) 93 ad x) H) (hdg : decode cc pc = .ok (.getfield 16, 3)) (kk : W p l e R s m args below meth c H locs cells slots Q (F0 m (pc + 3) ls (.ref (ad (7 * 1 + 1)) :: rest))) : W p l e R s m args below meth c H locs cells slots Q (F0 m pc ls (.ref (ad 0) :: rest)) :=
  gGet hC hP 0 (by decide) (ci := 6) (N := 11) (C := RX6) (T := TX6) (eX_0 cy ad _ _) rfl iX6 1 (by decide) qw292 rfl hdg kk
theorem gfX6_19 (hC : Cf p s m args meth c cc nL RX6 ret D cy tX tY ad A 93) (hP : va_P D vwCl (wG (eX cy ad) 93 ad x) H) (hdg : decode cc pc = .ok (.getfield 19, 3)) (kk : W p l e R s m args below meth c H locs cells slots Q (F0 m (pc + 3) ls (.ref (ad (7 * 2 + 1)) :: rest))) : W p l e R s m args below meth c H locs cells slots Q (F0 m pc ls (.ref (ad 0) :: rest)) :=
  gGet hC hP 0 (by decide) (ci := 6) (N := 11) (C := RX6) (T := TX6) (eX_0 cy ad _ _) rfl iX6 2 (by decide) qw293 rfl hdg kk
theorem gfX6_205 (hC : Cf p s m args meth c cc nL RX6 ret D cy tX tY ad A 93) (hP : va_P D vwCl (wG (eX cy ad) 93 ad x) H) {j : Nat} (hj : j < 8) (hdg : decode cc pc = .ok (.getfield 205, 3)) (kk : W p l e R s m args below meth c H locs cells slots Q (F0 m (pc + 3) ls (.int (x.1 (7 * j + 1) 3) :: rest))) : W p l e R s m args below meth c H locs cells slots Q (F0 m pc ls (.ref (ad (7 * j + 1)) :: rest)) :=
  gGet hC hP (7 * j + 1) (by omega) (ci := 2) (N := 10) (C := RX2) (T := TX2) (eX_S hj cy ad _ _) rfl iX2 3 (by decide) qw124 rfl hdg kk
theorem gfX6_213 (hC : Cf p s m args meth c cc nL RX6 ret D cy tX tY ad A 93) (hP : va_P D vwCl (wG (eX cy ad) 93 ad x) H) (hdg : decode cc pc = .ok (.getfield 213, 3)) (kk : W p l e R s m args below meth c H locs cells slots Q (F0 m (pc + 3) ls (.int (x.1 0 8) :: rest))) : W p l e R s m args below meth c H locs cells slots Q (F0 m pc ls (.ref (ad 0) :: rest)) :=
  gGet hC hP 0 (by decide) (ci := 6) (N := 11) (C := RX6) (T := TX6) (eX_0 cy ad _ _) rfl iX6 8 (by decide) qw299 rfl hdg kk
theorem pfX6_213 (hC : Cf p s m args meth c cc nL RX6 ret D cy tX tY ad A 93) (hP : va_P D vwCl (wG (eX cy ad) 93 ad x) H) (hS : va_S A s.heap H locs) {v : Int32} (hdg : decode cc pc = .ok (.putfield 213, 3)) (kk : ∀ (H : Heap) (locs : List Loc), va_P D vwCl (wG (eX cy ad) 93 ad (sI x 0 8 v)) H → va_S A s.heap H locs → W p l e R s m args below meth c H locs cells slots Q (F0 m (pc + 3) ls rest)) : W p l e R s m args below meth c H locs cells slots Q (F0 m pc ls (.int v :: .ref (ad 0) :: rest)) :=
  gPut hC hP hS 0 (by decide) (ci := 6) (N := 11) (C := RX6) (T := TX6) (eX_0 cy ad _ _) rfl iX6 tyX6_ok nmX6 8 (by decide) qw299 rfl (by decide +kernel) (Nat.le_of_ble_eq_true rfl) rfl hdg kk
theorem gfX6_216 (hC : Cf p s m args meth c cc nL RX6 ret D cy tX tY ad A 93) (hP : va_P D vwCl (wG (eX cy ad) 93 ad x) H) (hdg : decode cc pc = .ok (.getfield 216, 3)) (kk : W p l e R s m args below meth c H locs cells slots Q (F0 m (pc + 3) ls (.int (x.1 0 9) :: rest))) : W p l e R s m args below meth c H locs cells slots Q (F0 m pc ls (.ref (ad 0) :: rest)) :=
  gGet hC hP 0 (by decide) (ci := 6) (N := 11) (C := RX6) (T := TX6) (eX_0 cy ad _ _) rfl iX6 9 (by decide) qw300 rfl hdg kk
theorem pfX6_216 (hC : Cf p s m args meth c cc nL RX6 ret D cy tX tY ad A 93) (hP : va_P D vwCl (wG (eX cy ad) 93 ad x) H) (hS : va_S A s.heap H locs) {v : Int32} (hdg : decode cc pc = .ok (.putfield 216, 3)) (kk : ∀ (H : Heap) (locs : List Loc), va_P D vwCl (wG (eX cy ad) 93 ad (sI x 0 9 v)) H → va_S A s.heap H locs → W p l e R s m args below meth c H locs cells slots Q (F0 m (pc + 3) ls rest)) : W p l e R s m args below meth c H locs cells slots Q (F0 m pc ls (.int v :: .ref (ad 0) :: rest)) :=
  gPut hC hP hS 0 (by decide) (ci := 6) (N := 11) (C := RX6) (T := TX6) (eX_0 cy ad _ _) rfl iX6 tyX6_ok nmX6 9 (by decide) qw300 rfl (by decide +kernel) (Nat.le_of_ble_eq_true rfl) rfl hdg kk
theorem gfX6_219 (hC : Cf p s m args meth c cc nL RX6 ret D cy tX tY ad A 93) (hP : va_P D vwCl (wG (eX cy ad) 93 ad x) H) (hdg : decode cc pc = .ok (.getfield 219, 3)) (kk : W p l e R s m args below meth c H locs cells slots Q (F0 m (pc + 3) ls (.int (x.1 0 10) :: rest))) : W p l e R s m args below meth c H locs cells slots Q (F0 m pc ls (.ref (ad 0) :: rest)) :=
  gGet hC hP 0 (by decide) (ci := 6) (N := 11) (C := RX6) (T := TX6) (eX_0 cy ad _ _) rfl iX6 10 (by decide) qw301 rfl hdg kk
theorem pfX6_219 (hC : Cf p s m args meth c cc nL RX6 ret D cy tX tY ad A 93) (hP : va_P D vwCl (wG (eX cy ad) 93 ad x) H) (hS : va_S A s.heap H locs) {v : Int32} (hdg : decode cc pc = .ok (.putfield 219, 3)) (kk : ∀ (H : Heap) (locs : List Loc), va_P D vwCl (wG (eX cy ad) 93 ad (sI x 0 10 v)) H → va_S A s.heap H locs → W p l e R s m args below meth c H locs cells slots Q (F0 m (pc + 3) ls rest)) : W p l e R s m args below meth c H locs cells slots Q (F0 m pc ls (.int v :: .ref (ad 0) :: rest)) :=
  gPut hC hP hS 0 (by decide) (ci := 6) (N := 11) (C := RX6) (T := TX6) (eX_0 cy ad _ _) rfl iX6 tyX6_ok nmX6 10 (by decide) qw301 rfl (by decide +kernel) (Nat.le_of_ble_eq_true rfl) rfl hdg kk
theorem gfX6_228 (hC : Cf p s m args meth c cc nL RX6 ret D cy tX tY ad A 93) (hP : va_P D vwCl (wG (eX cy ad) 93 ad x) H) {j : Nat} (hj : j < 8) (hdg : decode cc pc = .ok (.getfield 228, 3)) (kk : W p l e R s m args below meth c H locs cells slots Q (F0 m (pc + 3) ls (.ref (ad (7 * j + 3)) :: rest))) : W p l e R s m args below meth c H locs cells slots Q (F0 m pc ls (.ref (ad (7 * j + 1)) :: rest)) :=
  gGet hC hP (7 * j + 1) (by omega) (ci := 2) (N := 10) (C := RX2) (T := TX2) (eX_S hj cy ad _ _) rfl iX2 5 (by decide) qw127 rfl hdg kk
theorem gfX6_232 (hC : Cf p s m args meth c cc nL RX6 ret D cy tX tY ad A 93) (hP : va_P D vwCl (wG (eX cy ad) 93 ad x) H) {j : Nat} (hj : j < 8) (hdg : decode cc pc = .ok (.getfield 232, 3)) (kk : W p l e R s m args below meth c H locs cells slots Q (F0 m (pc + 3) ls (.ref (ad (7 * j + 6)) :: rest))) : W p l e R s m args below meth c H locs cells slots Q (F0 m pc ls (.ref (ad (7 * j + 1)) :: rest)) :=
  gGet hC hP (7 * j + 1) (by omega) (ci := 2) (N := 10) (C := RX2) (T := TX2) (eX_S hj cy ad _ _) rfl iX2 8 (by decide) qw135 rfl hdg kk
theorem gfX6_235 (hC : Cf p s m args meth c cc nL RX6 ret D cy tX tY ad A 93) (hP : va_P D vwCl (wG (eX cy ad) 93 ad x) H) {j : Nat} (hj : j < 8) (hdg : decode cc pc = .ok (.getfield 235, 3)) (kk : W p l e R s m args below meth c H locs cells slots Q (F0 m (pc + 3) ls (.ref (ad (7 * j + 5)) :: rest))) : W p l e R s m args below meth c H locs cells slots Q (F0 m pc ls (.ref (ad (7 * j + 1)) :: rest)) :=
  gGet hC hP (7 * j + 1) (by omega) (ci := 2) (N := 10) (C := RX2) (T := TX2) (eX_S hj cy ad _ _) rfl iX2 7 (by decide) qw131 rfl hdg kk
theorem gfX6_25 (hC : Cf p s m args meth c cc nL RX6 ret D cy tX tY ad A 93) (hP : va_P D vwCl (wG (eX cy ad) 93 ad x) H) (hdg : decode cc pc = .ok (.getfield 25, 3)) (kk : W p l e R s m args below meth c H locs cells slots Q (F0 m (pc + 3) ls (.ref (ad 57) :: rest))) : W p l e R s m args below meth c H locs cells slots Q (F0 m pc ls (.ref (ad 0) :: rest)) :=
  gGet hC hP 0 (by decide) (ci := 6) (N := 11) (C := RX6) (T := TX6) (eX_0 cy ad _ _) rfl iX6 3 (by decide) qw294 rfl hdg kk
theorem gfX6_258 (hC : Cf p s m args meth c cc nL RX6 ret D cy tX tY ad A 93) (hP : va_P D vwCl (wG (eX cy ad) 93 ad x) H) {j : Nat} (hj : j < 8) (hdg : decode cc pc = .ok (.getfield 258, 3)) (kk : W p l e R s m args below meth c H locs cells slots Q (F0 m (pc + 3) ls (.int (x.1 (7 * j + 1) 2) :: rest))) : W p l e R s m args below meth c H locs cells slots Q (F0 m pc ls (.ref (ad (7 * j + 1)) :: rest)) :=
  gGet hC hP (7 * j + 1) (by omega) (ci := 2) (N := 10) (C := RX2) (T := TX2) (eX_S hj cy ad _ _) rfl iX2 2 (by decide) qw122 rfl hdg kk
theorem gfX6_274 (hC : Cf p s m args meth c cc nL RX6 ret D cy tX tY ad A 93) (hP : va_P D vwCl (wG (eX cy ad) 93 ad x) H) {j : Nat} (hj : j < 8) (hdg : decode cc pc = .ok (.getfield 274, 3)) (kk : W p l e R s m args below meth c H locs cells slots Q (F0 m (pc + 3) ls (.ref (ad (7 * j + 7)) :: rest))) : W p l e R s m args below meth c H locs cells slots Q (F0 m pc ls (.ref (ad (7 * j + 1)) :: rest)) :=
  gGet hC hP (7 * j + 1) (by omega) (ci := 2) (N := 10) (C := RX2) (T := TX2) (eX_S hj cy ad _ _) rfl iX2 9 (by decide) qw138 rfl hdg kk
theorem gfX6_293 (hC : Cf p s m args meth c cc nL RX6 ret D cy tX tY ad A 93) (hP : va_P D vwCl (wG (eX cy ad) 93 ad x) H) {j : Nat} (hj : j < 8) (hdg : decode cc pc = .ok (.getfield 293, 3)) (kk : W p l e R s m args below meth c H locs cells slots Q (F0 m (pc + 3) ls (.ref (ad (7 * j + 4)) :: rest))) : W p l e R s m args below meth c H locs cells slots Q (F0 m pc ls (.ref (ad (7 * j + 1)) :: rest)) :=
  gGet hC hP (7 * j + 1) (by omega) (ci := 2) (N := 10) (C := RX2) (T := TX2) (eX_S hj cy ad _ _) rfl iX2 6 (by decide) qw129 rfl hdg kk
theorem gfX6_299 (hC : Cf p s m args meth c cc nL RX6 ret D cy tX tY ad A 93) (hP : va_P D vwCl (wG (eX cy ad) 93 ad x) H) {j : Nat} (hj : j < 8) (hdg : decode cc pc = .ok (.getfield 299, 3)) (kk : W p l e R s m args below meth c H locs cells slots Q (F0 m (pc + 3) ls (.int (x.1 (7 * j + 1) 0) :: rest))) : W p l e R s m args below meth c H locs cells slots Q (F0 m pc ls (.ref (ad (7 * j + 1)) :: rest)) :=
  gGet hC hP (7 * j + 1) (by omega) (ci := 2) (N := 10) (C := RX2) (T := TX2) (eX_S hj cy ad _ _) rfl iX2 0 (by decide) qw117 rfl hdg kk
theorem gfX6_302 (hC : Cf p s m args meth c cc nL RX6 ret D cy tX tY ad A 93) (hP : va_P D vwCl (wG (eX cy ad) 93 ad x) H) {j : Nat} (hj : j < 8) (hdg : decode cc pc = .ok (.getfield 302, 3)) (kk : W p l e R s m args below meth c H locs cells slots Q (F0 m (pc + 3) ls (.int (x.1 (7 * j + 1) 1) :: rest))) : W p l e R s m args below meth c H locs cells slots Q (F0 m pc ls (.ref (ad (7 * j + 1)) :: rest)) :=
  gGet hC hP (7 * j + 1) (by omega) (ci := 2) (N := 10) (C := RX2) (T := TX2) (eX_S hj cy ad _ _) rfl iX2 1 (by decide) qw119 rfl hdg kk
theorem gfX6_32 (hC : Cf p s m args meth c cc nL RX6 ret D cy tX tY ad A 93) (hP : va_P D vwCl (wG (eX cy ad) 93 ad x) H) (hdg : decode cc pc = .ok (.getfield 32, 3)) (kk : W p l e R s m args below meth c H locs cells slots Q (F0 m (pc + 3) ls (.ref (ad 59) :: rest))) : W p l e R s m args below meth c H locs cells slots Q (F0 m pc ls (.ref (ad 0) :: rest)) :=
  gGet hC hP 0 (by decide) (ci := 6) (N := 11) (C := RX6) (T := TX6) (eX_0 cy ad _ _) rfl iX6 4 (by decide) qw295 rfl hdg kk
theorem gfX6_39 (hC : Cf p s m args meth c cc nL RX6 ret D cy tX tY ad A 93) (hP : va_P D vwCl (wG (eX cy ad) 93 ad x) H) (hdg : decode cc pc = .ok (.getfield 39, 3)) (kk : W p l e R s m args below meth c H locs cells slots Q (F0 m (pc + 3) ls (.ref (ad 63) :: rest))) : W p l e R s m args below meth c H locs cells slots Q (F0 m pc ls (.ref (ad 0) :: rest)) :=
  gGet hC hP 0 (by decide) (ci := 6) (N := 11) (C := RX6) (T := TX6) (eX_0 cy ad _ _) rfl iX6 5 (by decide) qw296 rfl hdg kk
theorem gfX6_48 (hC : Cf p s m args meth c cc nL RX6 ret D cy tX tY ad A 93) (hP : va_P D vwCl (wG (eX cy ad) 93 ad x) H) (hdg : decode cc pc = .ok (.getfield 48, 3)) (kk : W p l e R s m args below meth c H locs cells slots Q (F0 m (pc + 3) ls (.ref (ad 87) :: rest))) : W p l e R s m args below meth c H locs cells slots Q (F0 m pc ls (.ref (ad 0) :: rest)) :=
  gGet hC hP 0 (by decide) (ci := 6) (N := 11) (C := RX6) (T := TX6) (eX_0 cy ad _ _) rfl iX6 6 (by decide) qw297 rfl hdg kk
theorem gfX6_55 (hC : Cf p s m args meth c cc nL RX6 ret D cy tX tY ad A 93) (hP : va_P D vwCl (wG (eX cy ad) 93 ad x) H) (hdg : decode cc pc = .ok (.getfield 55, 3)) (kk : W p l e R s m args below meth c H locs cells slots Q (F0 m (pc + 3) ls (.ref (ad 89) :: rest))) : W p l e R s m args below meth c H locs cells slots Q (F0 m pc ls (.ref (ad 0) :: rest)) :=
  gGet hC hP 0 (by decide) (ci := 6) (N := 11) (C := RX6) (T := TX6) (eX_0 cy ad _ _) rfl iX6 7 (by decide) qw298 rfl hdg kk
theorem gfX7_13 (hC : Cf p s m args meth c cc nL RX7 ret D cy tX tY ad A 12) (hP : va_P D vwCl (wG (eM cy ad) 12 ad x) H) (hdg : decode cc pc = .ok (.getfield 13, 3)) (kk : W p l e R s m args below meth c H locs cells slots Q (F0 m (pc + 3) ls (.ref (ad 2) :: rest))) : W p l e R s m args below meth c H locs cells slots Q (F0 m pc ls (.ref (ad 0) :: rest)) :=
  gGet hC hP 0 (by decide) (ci := 7) (N := 17) (C := RX7) (T := TX7) (eM_0 cy ad _ _) rfl iX7 1 (by decide) qw782 rfl hdg kk
theorem gfX7_16 (hC : Cf p s m args meth c cc nL RX7 ret D cy tX tY ad A 12) (hP : va_P D vwCl (wG (eM cy ad) 12 ad x) H) (hdg : decode cc pc = .ok (.getfield 16, 3)) (kk : W p l e R s m args below meth c H locs cells slots Q (F0 m (pc + 3) ls (.ref (ad 3) :: rest))) : W p l e R s m args below meth c H locs cells slots Q (F0 m pc ls (.ref (ad 0) :: rest)) :=
  gGet hC hP 0 (by decide) (ci := 7) (N := 17) (C := RX7) (T := TX7) (eM_0 cy ad _ _) rfl iX7 2 (by decide) qw783 rfl hdg kk
theorem gfX7_19 (hC : Cf p s m args meth c cc nL RX7 ret D cy tX tY ad A 12) (hP : va_P D vwCl (wG (eM cy ad) 12 ad x) H) (hdg : decode cc pc = .ok (.getfield 19, 3)) (kk : W p l e R s m args below meth c H locs cells slots Q (F0 m (pc + 3) ls (.ref (ad 4) :: rest))) : W p l e R s m args below meth c H locs cells slots Q (F0 m pc ls (.ref (ad 0) :: rest)) :=
  gGet hC hP 0 (by decide) (ci := 7) (N := 17) (C := RX7) (T := TX7) (eM_0 cy ad _ _) rfl iX7 4 (by decide) qw785 rfl hdg kk
theorem gfX7_203 (hC : Cf p s m args meth c cc nL RX7 ret D cy tX tY ad A 12) (hP : va_P D vwCl (wG (eM cy ad) 12 ad x) H) (hdg : decode cc pc = .ok (.getfield 203, 3)) (kk : W p l e R s m args below meth c H locs cells slots Q (F0 m (pc + 3) ls (.int (x.1 0 6) :: rest))) : W p l e R s m args below meth c H locs cells slots Q (F0 m pc ls (.ref (ad 0) :: rest)) :=
  gGet hC hP 0 (by decide) (ci := 7) (N := 17) (C := RX7) (T := TX7) (eM_0 cy ad _ _) rfl iX7 6 (by decide) qw787 rfl hdg kk
theorem pfX7_203 (hC : Cf p s m args meth c cc nL RX7 ret D cy tX tY ad A 12) (hP : va_P D vwCl (wG (eM cy ad) 12 ad x) H) (hS : va_S A s.heap H locs) {v : Int32} (hdg : decode cc pc = .ok (.putfield 203, 3)) (kk : ∀ (H : Heap) (locs : List Loc), va_P D vwCl (wG (eM cy ad) 12 ad (sI x 0 6 v)) H → va_S A s.heap H locs → W p l e R s m args below meth c H locs cells slots Q (F0 m (pc + 3) ls rest)) : W p l e R s m args below meth c H locs cells slots Q (F0 m pc ls (.int v :: .ref (ad 0) :: rest)) :=
  gPut hC hP hS 0 (by decide) (ci := 7) (N := 17) (C := RX7) (T := TX7) (eM_0 cy ad _ _) rfl iX7 tyX7_ok nmX7 6 (by decide) qw787 rfl (by decide +kernel) (Nat.le_of_ble_eq_true rfl) rfl hdg kk
theorem gfX7_206 (hC : Cf p s m args meth c cc nL RX7 ret D cy tX tY ad A 12) (hP : va_P D vwCl (wG (eM cy ad) 12 ad x) H) (hdg : decode cc pc = .ok (.getfield 206, 3)) (kk : W p l e R s m args below meth c H locs cells slots Q (F0 m (pc + 3) ls (.int (x.1 0 14) :: rest))) : W p l e R s m args below meth c H locs cells slots Q (F0 m pc ls (.ref (ad 0) :: rest)) :=
  gGet hC hP 0 (by decide) (ci := 7) (N := 17) (C := RX7) (T := TX7) (eM_0 cy ad _ _) rfl iX7 14 (by decide) qw795 rfl hdg kk
theorem pfX7_206 (hC : Cf p s m args meth c cc nL RX7 ret D cy tX tY ad A 12) (hP : va_P D vwCl (wG (eM cy ad) 12 ad x) H) (hS : va_S A s.heap H locs) {v : Int32} (hdg : decode cc pc = .ok (.putfield 206, 3)) (kk : ∀ (H : Heap) (locs : List Loc), va_P D vwCl (wG (eM cy ad) 12 ad (sI x 0 14 v)) H → va_S A s.heap H locs → W p l e R s m args below meth c H locs cells slots Q (F0 m (pc + 3) ls rest)) : W p l e R s m args below meth c H locs cells slots Q (F0 m pc ls (.int v :: .ref (ad 0) :: rest)) :=
  gPut hC hP hS 0 (by decide) (ci := 7) (N := 17) (C := RX7) (T := TX7) (eM_0 cy ad _ _) rfl iX7 tyX7_ok nmX7 14 (by decide) qw795 rfl (by decide +kernel) (Nat.le_of_ble_eq_true rfl) rfl hdg kk
theorem gfX7_212 (hC : Cf p s m args meth c cc nL RX7 ret D cy tX tY ad A 12) (hP : va_P D vwCl (wG (eM cy ad) 12 ad x) H) (hdg : decode cc pc = .ok (.getfield 212, 3)) (kk : W p l e R s m args below meth c H locs cells slots Q (F0 m (pc + 3) ls (.int (x.1 0 15) :: rest))) : W p l e R s m args below meth c H locs cells slots Q (F0 m pc ls (.ref (ad 0) :: rest)) :=
  gGet hC hP 0 (by decide) (ci := 7) (N := 17) (C := RX7) (T := TX7) (eM_0 cy ad _ _) rfl iX7 15 (by decide) qw796 rfl hdg kk
theorem pfX7_212 (hC : Cf p s m args meth c cc nL RX7 ret D cy tX tY ad A 12) (hP : va_P D vwCl (wG (eM cy ad) 12 ad x) H) (hS : va_S A s.heap H locs) {v : Int32} (hdg : decode cc pc = .ok (.putfield 212, 3)) (kk : ∀ (H : Heap) (locs : List Loc), va_P D vwCl (wG (eM cy ad) 12 ad (sI x 0 15 v)) H → va_S A s.heap H locs → W p l e R s m args below meth c H locs cells slots Q (F0 m (pc + 3) ls rest)) : W p l e R s m args below meth c H locs cells slots Q (F0 m pc ls (.int v :: .ref (ad 0) :: rest)) :=
  gPut hC hP hS 0 (by decide) (ci := 7) (N := 17) (C := RX7) (T := TX7) (eM_0 cy ad _ _) rfl iX7 tyX7_ok nmX7 15 (by decide) qw796 rfl (by decide +kernel) (Nat.le_of_ble_eq_true rfl) rfl hdg kk
theorem gfX7_22 (hC : Cf p s m args meth c cc nL RX7 ret D cy tX tY ad A 12) (hP : va_P D vwCl (wG (eM cy ad) 12 ad x) H) (hdg : decode cc pc = .ok (.getfield 22, 3)) (kk : W p l e R s m args below meth c H locs cells slots Q (F0 m (pc + 3) ls (.ref (ad 5) :: rest))) : W p l e R s m args below meth c H locs cells slots Q (F0 m pc ls (.ref (ad 0) :: rest)) :=
  gGet hC hP 0 (by decide) (ci := 7) (N := 17) (C := RX7) (T := TX7) (eM_0 cy ad _ _) rfl iX7 5 (by decide) qw786 rfl hdg kk
theorem gfX7_225 (hC : Cf p s m args meth c cc nL RX7 ret D cy tX tY ad A 12) (hP : va_P D vwCl (wG (eM cy ad) 12 ad x) H) (hdg : decode cc pc = .ok (.getfield 225, 3)) (kk : W p l e R s m args below meth c H locs cells slots Q (F0 m (pc + 3) ls (.int (x.1 0 13) :: rest))) : W p l e R s m args below meth c H locs cells slots Q (F0 m pc ls (.ref (ad 0) :: rest)) :=
  gGet hC hP 0 (by decide) (ci := 7) (N := 17) (C := RX7) (T := TX7) (eM_0 cy ad _ _) rfl iX7 13 (by decide) qw794 rfl hdg kk
theorem pfX7_225 (hC : Cf p s m args meth c cc nL RX7 ret D cy tX tY ad A 12) (hP : va_P D vwCl (wG (eM cy ad) 12 ad x) H) (hS : va_S A s.heap H locs) {v : Int32} (hdg : decode cc pc = .ok (.putfield 225, 3)) (kk : ∀ (H : Heap) (locs : List Loc), va_P D vwCl (wG (eM cy ad) 12 ad (sI x 0 13 v)) H → va_S A s.heap H locs → W p l e R s m args below meth c H locs cells slots Q (F0 m (pc + 3) ls rest)) : W p l e R s m args below meth c H locs cells slots Q (F0 m pc ls (.int v :: .ref (ad 0) :: rest)) :=
  gPut hC hP hS 0 (by decide) (ci := 7) (N := 17) (C := RX7) (T := TX7) (eM_0 cy ad _ _) rfl iX7 tyX7_ok nmX7 13 (by decide) qw794 rfl (by decide +kernel) (Nat.le_of_ble_eq_true rfl) rfl hdg kk
theorem gfX7_245 (hC : Cf p s m args meth c cc nL RX7 ret D cy tX tY ad A 12) (hP : va_P D vwCl (wG (eM cy ad) 12 ad x) H) (hdg : decode cc pc = .ok (.getfield 245, 3)) (kk : W p l e R s m args below meth c H locs cells slots Q (F0 m (pc + 3) ls (.long (x.2 0 16) :: rest))) : W p l e R s m args below meth c H locs cells slots Q (F0 m pc ls (.ref (ad 0) :: rest)) :=
  gGet hC hP 0 (by decide) (ci := 7) (N := 17) (C := RX7) (T := TX7) (eM_0 cy ad _ _) rfl iX7 16 (by decide) qw797 rfl hdg kk
theorem pfX7_245 (hC : Cf p s m args meth c cc nL RX7 ret D cy tX tY ad A 12) (hP : va_P D vwCl (wG (eM cy ad) 12 ad x) H) (hS : va_S A s.heap H locs) {v : Int64} (hdg : decode cc pc = .ok (.putfield 245, 3)) (kk : ∀ (H : Heap) (locs : List Loc), va_P D vwCl (wG (eM cy ad) 12 ad (sL x 0 16 v)) H → va_S A s.heap H locs → W p l e R s m args below meth c H locs cells slots Q (F0 m (pc + 3) ls rest)) : W p l e R s m args below meth c H locs cells slots Q (F0 m pc ls (.long v :: .ref (ad 0) :: rest)) :=
  gPutL hC hP hS 0 (by decide) (ci := 7) (N := 17) (C := RX7) (T := TX7) (eM_0 cy ad _ _) rfl iX7 tyX7_ok nmX7 16 (by decide) qw797 rfl (by decide +kernel) (Nat.le_of_ble_eq_true rfl) rfl hdg kk
theorem gfX7_25 (hC : Cf p s m args meth c cc nL RX7 ret D cy tX tY ad A 12) (hP : va_P D vwCl (wG (eM cy ad) 12 ad x) H) (hdg : decode cc pc = .ok (.getfield 25, 3)) (kk : W p l e R s m args below meth c H locs cells slots Q (F0 m (pc + 3) ls (.ref (ad 6) :: rest))) : W p l e R s m args below meth c H locs cells slots Q (F0 m pc ls (.ref (ad 0) :: rest)) :=
  gGet hC hP 0 (by decide) (ci := 7) (N := 17) (C := RX7) (T := TX7) (eM_0 cy ad _ _) rfl iX7 7 (by decide) qw788 rfl hdg kk
theorem gfX7_28 (hC : Cf p s m args meth c cc nL RX7 ret D cy tX tY ad A 12) (hP : va_P D vwCl (wG (eM cy ad) 12 ad x) H) (hdg : decode cc pc = .ok (.getfield 28, 3)) (kk : W p l e R s m args below meth c H locs cells slots Q (F0 m (pc + 3) ls (.ref (ad 7) :: rest))) : W p l e R s m args below meth c H locs cells slots Q (F0 m pc ls (.ref (ad 0) :: rest)) :=
  gGet hC hP 0 (by decide) (ci := 7) (N := 17) (C := RX7) (T := TX7) (eM_0 cy ad _ _) rfl iX7 8 (by decide) qw789 rfl hdg kk
theorem gfX7_31 (hC : Cf p s m args meth c cc nL RX7 ret D cy tX tY ad A 12) (hP : va_P D vwCl (wG (eM cy ad) 12 ad x) H) (hdg : decode cc pc = .ok (.getfield 31, 3)) (kk : W p l e R s m args below meth c H locs cells slots Q (F0 m (pc + 3) ls (.ref (ad 8) :: rest))) : W p l e R s m args below meth c H locs cells slots Q (F0 m pc ls (.ref (ad 0) :: rest)) :=
  gGet hC hP 0 (by decide) (ci := 7) (N := 17) (C := RX7) (T := TX7) (eM_0 cy ad _ _) rfl iX7 9 (by decide) qw790 rfl hdg kk
theorem gfX7_34 (hC : Cf p s m args meth c cc nL RX7 ret D cy tX tY ad A 12) (hP : va_P D vwCl (wG (eM cy ad) 12 ad x) H) (hdg : decode cc pc = .ok (.getfield 34, 3)) (kk : W p l e R s m args below meth c H locs cells slots Q (F0 m (pc + 3) ls (.ref (ad 9) :: rest))) : W p l e R s m args below meth c H locs cells slots Q (F0 m pc ls (.ref (ad 0) :: rest)) :=
  gGet hC hP 0 (by decide) (ci := 7) (N := 17) (C := RX7) (T := TX7) (eM_0 cy ad _ _) rfl iX7 10 (by decide) qw791 rfl hdg kk
theorem gfX7_37 (hC : Cf p s m args meth c cc nL RX7 ret D cy tX tY ad A 12) (hP : va_P D vwCl (wG (eM cy ad) 12 ad x) H) (hdg : decode cc pc = .ok (.getfield 37, 3)) (kk : W p l e R s m args below meth c H locs cells slots Q (F0 m (pc + 3) ls (.ref (ad 10) :: rest))) : W p l e R s m args below meth c H locs cells slots Q (F0 m pc ls (.ref (ad 0) :: rest)) :=
  gGet hC hP 0 (by decide) (ci := 7) (N := 17) (C := RX7) (T := TX7) (eM_0 cy ad _ _) rfl iX7 11 (by decide) qw792 rfl hdg kk
theorem gfX7_40 (hC : Cf p s m args meth c cc nL RX7 ret D cy tX tY ad A 12) (hP : va_P D vwCl (wG (eM cy ad) 12 ad x) H) (hdg : decode cc pc = .ok (.getfield 40, 3)) (kk : W p l e R s m args below meth c H locs cells slots Q (F0 m (pc + 3) ls (.ref (ad 11) :: rest))) : W p l e R s m args below meth c H locs cells slots Q (F0 m pc ls (.ref (ad 0) :: rest)) :=
  gGet hC hP 0 (by decide) (ci := 7) (N := 17) (C := RX7) (T := TX7) (eM_0 cy ad _ _) rfl iX7 12 (by decide) qw793 rfl hdg kk
theorem gfX7_43 (hC : Cf p s m args meth c cc nL RX7 ret D cy tX tY ad A 12) (hP : va_P D vwCl (wG (eM cy ad) 12 ad x) H) (hdg : decode cc pc = .ok (.getfield 43, 3)) (kk : W p l e R s m args below meth c H locs cells slots Q (F0 m (pc + 3) ls (.int (x.1 0 3) :: rest))) : W p l e R s m args below meth c H locs cells slots Q (F0 m pc ls (.ref (ad 0) :: rest)) :=
  gGet hC hP 0 (by decide) (ci := 7) (N := 17) (C := RX7) (T := TX7) (eM_0 cy ad _ _) rfl iX7 3 (by decide) qw784 rfl hdg kk
theorem pfX7_43 (hC : Cf p s m args meth c cc nL RX7 ret D cy tX tY ad A 12) (hP : va_P D vwCl (wG (eM cy ad) 12 ad x) H) (hS : va_S A s.heap H locs) {v : Int32} (hdg : decode cc pc = .ok (.putfield 43, 3)) (kk : ∀ (H : Heap) (locs : List Loc), va_P D vwCl (wG (eM cy ad) 12 ad (sI x 0 3 v)) H → va_S A s.heap H locs → W p l e R s m args below meth c H locs cells slots Q (F0 m (pc + 3) ls rest)) : W p l e R s m args below meth c H locs cells slots Q (F0 m pc ls (.int v :: .ref (ad 0) :: rest)) :=
  gPut hC hP hS 0 (by decide) (ci := 7) (N := 17) (C := RX7) (T := TX7) (eM_0 cy ad _ _) rfl iX7 tyX7_ok nmX7 3 (by decide) qw784 rfl (by decide +kernel) (Nat.le_of_ble_eq_true rfl) rfl hdg kk
theorem gfX7_7 (hC : Cf p s m args meth c cc nL RX7 ret D cy tX tY ad A 12) (hP : va_P D vwCl (wG (eM cy ad) 12 ad x) H) (hdg : decode cc pc = .ok (.getfield 7, 3)) (kk : W p l e R s m args below meth c H locs cells slots Q (F0 m (pc + 3) ls (.ref (ad 1) :: rest))) : W p l e R s m args below meth c H locs cells slots Q (F0 m pc ls (.ref (ad 0) :: rest)) :=
  gGet hC hP 0 (by decide) (ci := 7) (N := 17) (C := RX7) (T := TX7) (eM_0 cy ad _ _) rfl iX7 0 (by decide) qw781 rfl hdg kk
theorem gmX1_29 (hC : Cf p s m args meth c cc nL RX1 ret D cy tX tY ad A n) (hsz : ls.size = nL) (hframes : 1 ≤ R.frames) (hlocals : (rest.map fun v => v.category).sum + 13 ≤ R.locals) {x y : Int32} (hdg : decode cc pc = .ok (.invokestatic 29, 3)) (kk : W p l e R s m args below meth c H locs 0 0 Q (F0 m (pc + 3) ls (.int (if y < x then y else x) :: rest))) : W p l e R s m args below meth c H locs 0 0 Q (F0 m pc ls (.int y :: .int x :: rest)) := by
  obtain ⟨hx, hb, hml, hown, hts, hr, hK, hZ, hA, hlk⟩ := hC
  exact va_mmin hx hb (hml.trans hsz.symm) hown (hts _ qw357) (hts _ qw358) (hts _ qw99) (hts _ qw359) hframes hlocals (Nat.zero_le _) (Nat.zero_le _) hdg kk
theorem gcpX2_53 (hC : Cf p s m args meth c cc nL RX2 ret D cy tX tY ad A 93) (hP : va_P D vwCl (wG (eX cy ad) 93 ad x) H) (hS : va_S A s.heap H locs) (hsz : ls.size = nL) (k0 k1 : Nat) (h0 : k0 < 93) (h1 : k1 < 93) {N0 N1 : Nat} (he0 : eX cy ad k0 (x.1 k0) (x.2 k0) = .inl (cy 0, N0, .inl (x.1 k0))) (he1 : ∀ g, eX cy ad k1 g (x.2 k1) = .inl (cy 0, N1, .inl g)) {n9 : Int32} (hn : ¬ n9 < 0) (hn0 : n9.toNatClampNeg ≤ N0) (hn1 : n9.toNatClampNeg ≤ N1) (hframes : 1 ≤ R.frames) (hlocals : (rest.map fun v => v.category).sum + (nativeFrameWords "java/lang/System" "arraycopy" 5 + 11) ≤ R.locals) (hdg : decode cc pc = .ok (.invokestatic 53, 3))
    (kk : ∀ (H : Heap) (locs : List Loc), va_P D vwCl (wG (eX cy ad) 93 ad (sA x k1 (va_cpy (x.1 k0) (x.1 k1) 0 0 n9.toNatClampNeg))) H → va_S A s.heap H locs → W p l e R s m args below meth c H locs cells slots Q (F0 m (pc + 3) ls rest)) : W p l e R s m args below meth c H locs cells slots Q (F0 m pc ls (.int n9 :: .int 0 :: .ref (ad k1) :: .int 0 :: .ref (ad k0) :: rest)) := by
  obtain ⟨hx, hb, hml, hown, hts, hr, hK, hZ, hA, hlk⟩ := hC
  refine va_copyi (ty := .int) hx hb (hml.trans hsz.symm) hown (hts _ qw333) (hts _ wNat) (hts _ wCpS) (hts _ qw98) hK hP (wG_D hA) hS k0 k1 0 0 (by rw [wG_at h0, he0]) (by rw [wG_at h1, he1]) rfl rfl rfl (by decide) (by decide) hn (by simpa using hn0) (by simpa using hn1) (fun i _ => rfl) hframes hlocals hdg (fun H1 locs1 hP1 hD1 hS1 => ?_)
  rw [wG_set (x' := sA x k1 (va_cpy (x.1 k0) (x.1 k1) 0 0 n9.toNatClampNeg)) (by rw [sA_at.1, sA_at.2, he1]; rfl) sA_ne] at hP1
  exact kk H1 locs1 hP1 hS1
theorem gcpLX2_53 (hC : Cf p s m args meth c cc nL RX2 ret D cy tX tY ad A 93) (hP : va_P D vwCl (wG (eX cy ad) 93 ad x) H) (hS : va_S A s.heap H locs) (hsz : ls.size = nL) (k0 k1 : Nat) (h0 : k0 < 93) (h1 : k1 < 93) {N0 N1 : Nat} (he0 : eX cy ad k0 (x.1 k0) (x.2 k0) = .inl (cy 1, N0, .inr (.inl (x.2 k0)))) (he1 : ∀ g, eX cy ad k1 (x.1 k1) g = .inl (cy 1, N1, .inr (.inl g))) {n9 : Int32} (hn : ¬ n9 < 0) (hn0 : n9.toNatClampNeg ≤ N0) (hn1 : n9.toNatClampNeg ≤ N1) (hframes : 1 ≤ R.frames) (hlocals : (rest.map fun v => v.category).sum + (nativeFrameWords "java/lang/System" "arraycopy" 5 + 11) ≤ R.locals) (hdg : decode cc pc = .ok (.invokestatic 53, 3))
    (kk : ∀ (H : Heap) (locs : List Loc), va_P D vwCl (wG (eX cy ad) 93 ad (sB x k1 (va_cpy (x.2 k0) (x.2 k1) 0 0 n9.toNatClampNeg))) H → va_S A s.heap H locs → W p l e R s m args below meth c H locs cells slots Q (F0 m (pc + 3) ls rest)) : W p l e R s m args below meth c H locs cells slots Q (F0 m pc ls (.int n9 :: .int 0 :: .ref (ad k1) :: .int 0 :: .ref (ad k0) :: rest)) := by
  obtain ⟨hx, hb, hml, hown, hts, hr, hK, hZ, hA, hlk⟩ := hC
  refine va_copyl (ty := .long) hx hb (hml.trans hsz.symm) hown (hts _ qw333) (hts _ wNat) (hts _ wCpS) (hts _ qw98) hK hP (wG_D hA) hS k0 k1 1 1 (by rw [wG_at h0, he0]) (by rw [wG_at h1, he1]) rfl rfl rfl (by decide) (by decide) hn (by simpa using hn0) (by simpa using hn1) (fun i _ => rfl) hframes hlocals hdg (fun H1 locs1 hP1 hD1 hS1 => ?_)
  rw [wG_set (x' := sB x k1 (va_cpy (x.2 k0) (x.2 k1) 0 0 n9.toNatClampNeg)) (by rw [sB_at.1, sB_at.2, he1]; rfl) sB_ne] at hP1
  exact kk H1 locs1 hP1 hS1
theorem gmX5_56 (hC : Cf p s m args meth c cc nL RX5 ret D cy tX tY ad A n) (hsz : ls.size = nL) (hframes : 1 ≤ R.frames) (hlocals : (rest.map fun v => v.category).sum + 13 ≤ R.locals) {x y : Int32} (hdg : decode cc pc = .ok (.invokestatic 56, 3)) (kk : W p l e R s m args below meth c H locs 0 0 Q (F0 m (pc + 3) ls (.int (if y < x then y else x) :: rest))) : W p l e R s m args below meth c H locs 0 0 Q (F0 m pc ls (.int y :: .int x :: rest)) := by
  obtain ⟨hx, hb, hml, hown, hts, hr, hK, hZ, hA, hlk⟩ := hC
  exact va_mmin hx hb (hml.trans hsz.symm) hown (hts _ qw483) (hts _ qw358) (hts _ qw99) (hts _ qw359) hframes hlocals (Nat.zero_le _) (Nat.zero_le _) hdg kk
theorem gmX5_64 (hC : Cf p s m args meth c cc nL RX5 ret D cy tX tY ad A n) (hsz : ls.size = nL) (hframes : 1 ≤ R.frames) (hlocals : (rest.map fun v => v.category).sum + 13 ≤ R.locals) {x y : Int32} (hdg : decode cc pc = .ok (.invokestatic 64, 3)) (kk : W p l e R s m args below meth c H locs 0 0 Q (F0 m (pc + 3) ls (.int (if x < y then y else x) :: rest))) : W p l e R s m args below meth c H locs 0 0 Q (F0 m pc ls (.int y :: .int x :: rest)) := by
  obtain ⟨hx, hb, hml, hown, hts, hr, hK, hZ, hA, hlk⟩ := hC
  exact va_mmax hx hb (hml.trans hsz.symm) hown (hts _ qw476) (hts _ qw477) (hts _ qw99) (hts _ qw478) hframes hlocals (Nat.zero_le _) (Nat.zero_le _) hdg kk
end GF
theorem glX0_28 : GoodIn wAll (wsV RX0 28 RX0 yX0_layPlace (Cond.code yX0_layPlace cX0_layPlace 7 none :: wAll)) := gdV qw275 qw277 qw0 qw92 qw278
theorem glX0_32 : GoodIn wAll (wsV RX0 32 RX0 yX0_labelAt (Cond.code yX0_labelAt cX0_labelAt 3 (some .int) :: wAll)) := gdV qw279 qw280 qw281 qw92 qw282
theorem glX0_42 : GoodIn wAll (wsV RX0 42 RX0 yX0_has (Cond.code yX0_has cX0_has 3 (some .boolean) :: wAll)) := gdV qw287 qw288 qw289 qw92 qw290
theorem glX0_46 : GoodIn wAll (wsV RX0 46 RX0 yX0_places (Cond.code yX0_places cX0_places 1 (some .int) :: wAll)) := gdV qw401 qw341 qw342 qw92 qw343
theorem glX0_50 : GoodIn wAll (wsV RX0 50 RX0 yX0_hasLabel (Cond.code yX0_hasLabel cX0_hasLabel 2 (some .boolean) :: wAll)) := gdV qw546 qw398 qw399 qw92 qw400
theorem glX0_54 : GoodIn wAll (wsV RX0 54 RX0 yX0_channelTowards (Cond.code yX0_channelTowards cX0_channelTowards 8 (some .int) :: wAll)) := gdV qw561 qw407 qw408 qw92 qw409
theorem glX0_57 : GoodIn wAll (wsV RX0 57 RX0 yX0_endOf (Cond.code yX0_endOf cX0_endOf 2 (some .int) :: wAll)) := gdV qw562 qw411 qw412 qw92 qw413
theorem glX1_25 : GoodIn wAll (wsV RX1 25 RX2 yX2_copyFrom (Cond.code yX2_copyFrom cX2_copyFrom 2 none :: wAll)) := gdV qw356 qw330 qw331 qw90 qw332
theorem glX2_41 : GoodIn wAll (va_wsS RX2 41 yJ7_fill_53178 (Cond.code yJ7_fill_53178 cJ7_fill_53178 4 none :: wAll)) := gdSt qw264 qw265 qw96 qw266
theorem glX2_47 : GoodIn wAll (wsV RX2 47 RX2 yX2_standStill (Cond.code yX2_standStill cX2_standStill 1 none :: wAll)) := gdV qw267 qw268 qw269 qw90 qw270
theorem glX2_59 : GoodIn wAll (wsV RX2 59 RX2 yX2_sourceOf (Cond.code yX2_sourceOf cX2_sourceOf 2 (some .int) :: wAll)) := gdV qw386 qw387 qw388 qw90 qw389
theorem glX2_63 : GoodIn wAll (wsV RX2 63 RX2 yX2_rises (Cond.code yX2_rises cX2_rises 2 (some .boolean) :: wAll)) := gdV qw390 qw391 qw392 qw90 qw393
theorem glX2_69 : GoodIn wAll (va_wsS RX2 69 yJ6_bitCount_0f7a4 (Cond.code yJ6_bitCount_0f7a4 cJ6_bitCount_0f7a4 1 (some .int) :: wAll)) := gdSt qw656 qw657 qw101 qw658
theorem glX2_74 : GoodIn wAll (wsV RX2 74 RX2 yX2_worms (Cond.code yX2_worms cX2_worms 1 (some .int) :: wAll)) := gdV qw670 qw465 qw466 qw90 qw467
theorem glX3_31 : GoodIn wAll (wsV RX3 31 RX3 yX3_passBlanks (Cond.code yX3_passBlanks cX3_passBlanks 1 none :: wAll)) := gdV qw703 qw705 qw22 qw95 qw706
theorem glX3_34 : GoodIn wAll (wsV RX3 34 RX3 yX3_readOrder (Cond.code yX3_readOrder cX3_readOrder 4 (some .boolean) :: wAll)) := gdV qw707 qw709 qw23 qw95 qw710
theorem glX3_38 : GoodIn wAll (wsV RX3 38 RX3 yX3_byteHere (Cond.code yX3_byteHere cX3_byteHere 1 (some .int) :: wAll)) := gdV qw711 qw713 qw24 qw95 qw714
theorem glX3_42 : GoodIn wAll (va_wsS RX3 42 yX3_numbersDue (Cond.code yX3_numbersDue cX3_numbersDue 1 (some .int) :: wAll)) := gdSt qw715 qw716 qw95 qw717
theorem glX3_46 : GoodIn wAll (wsV RX3 46 RX3 yX3_readNumber (Cond.code yX3_readNumber cX3_readNumber 4 (some .boolean) :: wAll)) := gdV qw718 qw720 qw25 qw95 qw721
theorem glX3_50 : GoodIn wAll (va_wsS RX3 50 yX3_isFigure (Cond.code yX3_isFigure cX3_isFigure 1 (some .boolean) :: wAll)) := gdSt qw722 qw723 qw95 qw724
theorem glX4_19 : GoodIn wAll (wsV RX4 19 RX2 yX2_worms (Cond.code yX2_worms cX2_worms 1 (some .int) :: wAll)) := gdV qw464 qw465 qw466 qw90 qw467
theorem glX4_25 : GoodIn wAll (wsV RX4 25 RX5 yX5_tailOf (Cond.code yX5_tailOf cX5_tailOf 3 (some .int) :: wAll)) := gdV qw468 qw469 qw470 qw93 qw471
theorem glX4_31 : GoodIn wAll (wsV RX4 31 RX5 yX5_headOf (Cond.code yX5_headOf cX5_headOf 3 (some .int) :: wAll)) := gdV qw479 qw480 qw481 qw93 qw482
theorem glX4_34 : GoodIn wAll (wsV RX4 34 RX5 yX5_channelOf (Cond.code yX5_channelOf cX5_channelOf 3 (some .int) :: wAll)) := gdV qw484 qw485 qw486 qw93 qw487
theorem glX4_38 : GoodIn wAll (wsV RX4 38 RX4 yX4_stepOnce (Cond.code yX4_stepOnce cX4_stepOnce 4 (some .boolean) :: wAll)) := gdV qw492 qw493 qw494 qw94 qw495
theorem glX4_42 : GoodIn wAll (wsV RX4 42 RX4 yX4_waitFor (Cond.code yX4_waitFor cX4_waitFor 4 none :: wAll)) := gdV qw514 qw516 qw13 qw94 qw517
theorem glX4_46 : GoodIn wAll (wsV RX4 46 RX5 yX5_isDone (Cond.code yX5_isDone cX5_isDone 3 (some .boolean) :: wAll)) := gdV qw496 qw497 qw498 qw93 qw499
theorem glX4_50 : GoodIn wAll (wsV RX4 50 RX4 yX4_isStopped (Cond.code yX4_isStopped cX4_isStopped 5 (some .boolean) :: wAll)) := gdV qw500 qw502 qw11 qw94 qw503
theorem glX4_57 : GoodIn wAll (wsV RX4 57 RX4 yX4_moveOn (Cond.code yX4_moveOn cX4_moveOn 5 none :: wAll)) := gdV qw509 qw511 qw12 qw94 qw512
theorem glX4_67 : GoodIn wAll (wsV RX4 67 RX5 yX5_channelsOf (Cond.code yX5_channelsOf cX5_channelsOf 2 (some .int) :: wAll)) := gdV qw504 qw505 qw506 qw93 qw507
theorem glX4_71 : GoodIn wAll (wsV RX4 71 RX2 yX2_isDown (Cond.code yX2_isDown cX2_isDown 2 (some .boolean) :: wAll)) := gdV qw508 qw449 qw450 qw90 qw451
theorem glX4_75 : GoodIn wAll (wsV RX4 75 RX2 yX2_lengthOf (Cond.code yX2_lengthOf cX2_lengthOf 2 (some .int) :: wAll)) := gdV qw513 qw473 qw474 qw90 qw475
theorem glX5_23 : GoodIn wAll (wsV RX5 23 RX2 yX2_goalsOfWorm (Cond.code yX2_goalsOfWorm cX2_goalsOfWorm 4 (some .long) :: wAll)) := gdV qw382 qw383 qw384 qw90 qw385
theorem glX5_29 : GoodIn wAll (wsV RX5 29 RX2 yX2_rises (Cond.code yX2_rises cX2_rises 2 (some .boolean) :: wAll)) := gdV qw395 qw391 qw392 qw90 qw393
theorem glX5_33 : GoodIn wAll (wsV RX5 33 RX2 yX2_sourceOf (Cond.code yX2_sourceOf cX2_sourceOf 2 (some .int) :: wAll)) := gdV qw396 qw387 qw388 qw90 qw389
theorem glX5_37 : GoodIn wAll (wsV RX5 37 RX0 yX0_hasLabel (Cond.code yX0_hasLabel cX0_hasLabel 2 (some .boolean) :: wAll)) := gdV qw397 qw398 qw399 qw92 qw400
theorem glX5_42 : GoodIn wAll (wsV RX5 42 RX5 yX5_layTo (Cond.code yX5_layTo cX5_layTo 6 none :: wAll)) := gdV qw402 qw404 qw6 qw93 qw405
theorem glX5_46 : GoodIn wAll (wsV RX5 46 RX0 yX0_channelTowards (Cond.code yX0_channelTowards cX0_channelTowards 8 (some .int) :: wAll)) := gdV qw406 qw407 qw408 qw92 qw409
theorem glX5_50 : GoodIn wAll (wsV RX5 50 RX0 yX0_endOf (Cond.code yX0_endOf cX0_endOf 2 (some .int) :: wAll)) := gdV qw410 qw411 qw412 qw92 qw413
theorem glX5_61 : GoodIn wAll (wsV RX5 61 RX2 yX2_lengthOf (Cond.code yX2_lengthOf cX2_lengthOf 2 (some .int) :: wAll)) := gdV qw472 qw473 qw474 qw90 qw475
theorem glX5_67 : GoodIn wAll (wsV RX5 67 RX5 yX5_headOf (Cond.code yX5_headOf cX5_headOf 3 (some .int) :: wAll)) := gdV qw572 qw480 qw481 qw93 qw482
theorem glX5_71 : GoodIn wAll (wsV RX5 71 RX2 yX2_isDown (Cond.code yX2_isDown cX2_isDown 2 (some .boolean) :: wAll)) := gdV qw602 qw449 qw450 qw90 qw451
theorem glX5_74 : GoodIn wAll (wsV RX5 74 RX2 yX2_worms (Cond.code yX2_worms cX2_worms 1 (some .int) :: wAll)) := gdV qw522 qw465 qw466 qw90 qw467
theorem glX5_78 : GoodIn wAll (wsV RX5 78 RX5 yX5_isDone (Cond.code yX5_isDone cX5_isDone 3 (some .boolean) :: wAll)) := gdV qw523 qw497 qw498 qw93 qw499
theorem glX5_82 : GoodIn wAll (wsV RX5 82 RX5 yX5_tailOf (Cond.code yX5_tailOf cX5_tailOf 3 (some .int) :: wAll)) := gdV qw571 qw469 qw470 qw93 qw471
theorem glX6_102 : GoodIn wAll (wsV RX6 102 RX6 yX6_refuse (Cond.code yX6_refuse cX6_refuse 2 (some .int) :: wAll)) := gdV qw348 qw350 qw3 qw89 qw351
theorem glX6_105 : GoodIn wAll (wsV RX6 105 RX0 yX0_hasLabel (Cond.code yX0_hasLabel cX0_hasLabel 2 (some .boolean) :: wAll)) := gdV qw541 qw398 qw399 qw92 qw400
theorem glX6_109 : GoodIn wAll (wsV RX6 109 RX0 yX0_tell (Cond.code yX0_tell cX0_tell 2 (some .int) :: wAll)) := gdV qw542 qw543 qw544 qw92 qw545
theorem glX6_112 : GoodIn wAll (wsV RX6 112 RX0 yX0_channelTowards (Cond.code yX0_channelTowards cX0_channelTowards 8 (some .int) :: wAll)) := gdV qw551 qw407 qw408 qw92 qw409
theorem glX6_115 : GoodIn wAll (wsV RX6 115 RX0 yX0_endOf (Cond.code yX0_endOf cX0_endOf 2 (some .int) :: wAll)) := gdV qw552 qw411 qw412 qw92 qw413
theorem glX6_118 : GoodIn wAll (wsV RX6 118 RX0 yX0_distance (Cond.code yX0_distance cX0_distance 5 (some .int) :: wAll)) := gdV qw557 qw558 qw559 qw92 qw560
theorem glX6_121 : GoodIn wAll (wsV RX6 121 RX0 yX0_channelAt (Cond.code yX0_channelAt cX0_channelAt 5 (some .int) :: wAll)) := gdV qw440 qw441 qw442 qw92 qw443
theorem glX6_124 : GoodIn wAll (wsV RX6 124 RX5 yX5_holderOf (Cond.code yX5_holderOf cX5_holderOf 5 (some .int) :: wAll)) := gdV qw567 qw568 qw569 qw93 qw570
theorem glX6_128 : GoodIn wAll (wsV RX6 128 RX6 yX6_hasWorm (Cond.code yX6_hasWorm cX6_hasWorm 3 (some .boolean) :: wAll)) := gdV qw577 qw579 qw15 qw89 qw580
theorem glX6_131 : GoodIn wAll (wsV RX6 131 RX6 yX6_wormFact (Cond.code yX6_wormFact cX6_wormFact 3 (some .int) :: wAll)) := gdV qw581 qw583 qw16 qw89 qw584
theorem glX6_134 : GoodIn wAll (wsV RX6 134 RX5 yX5_channelsOf (Cond.code yX5_channelsOf cX5_channelsOf 2 (some .int) :: wAll)) := gdV qw586 qw505 qw506 qw93 qw507
theorem glX6_137 : GoodIn wAll (wsV RX6 137 RX5 yX5_placeOf (Cond.code yX5_placeOf cX5_placeOf 3 (some .int) :: wAll)) := gdV qw588 qw589 qw590 qw93 qw591
theorem glX6_140 : GoodIn wAll (wsV RX6 140 RX5 yX5_goalOf (Cond.code yX5_goalOf cX5_goalOf 9 (some .int) :: wAll)) := gdV qw611 qw612 qw613 qw93 qw614
theorem glX6_144 : GoodIn wAll (wsV RX6 144 RX6 yX6_hasMessage (Cond.code yX6_hasMessage cX6_hasMessage 2 (some .boolean) :: wAll)) := gdV qw422 qw424 qw8 qw89 qw425
theorem glX6_147 : GoodIn wAll (wsV RX6 147 RX6 yX6_messageFact (Cond.code yX6_messageFact cX6_messageFact 3 (some .int) :: wAll)) := gdV qw619 qw621 qw17 qw89 qw622
theorem glX6_150 : GoodIn wAll (wsV RX6 150 RX6 yX6_stepsUntilDone (Cond.code yX6_stepsUntilDone cX6_stepsUntilDone 3 (some .int) :: wAll)) := gdV qw639 qw641 qw19 qw89 qw642
theorem glX6_153 : GoodIn wAll (wsV RX6 153 RX6 yX6_countFact (Cond.code yX6_countFact cX6_countFact 2 (some .int) :: wAll)) := gdV qw648 qw650 qw20 qw89 qw651
theorem glX6_156 : GoodIn wAll (wsV RX6 156 RX3 yX3_add (Cond.code yX3_add cX3_add 2 (some .boolean) :: wAll)) := gdV qw679 qw680 qw681 qw95 qw682
theorem glX6_159 : GoodIn wAll (wsV RX6 159 RX3 yX3_size (Cond.code yX3_size cX3_size 1 (some .int) :: wAll)) := gdV qw683 qw684 qw685 qw95 qw686
theorem glX6_162 : GoodIn wAll (wsV RX6 162 RX3 yX3_empty (Cond.code yX3_empty cX3_empty 2 (some .int) :: wAll)) := gdV qw691 qw692 qw693 qw95 qw694
theorem glX6_165 : GoodIn wAll (wsV RX6 165 RX3 yX3_read (Cond.code yX3_read cX3_read 1 (some .int) :: wAll)) := gdV qw699 qw700 qw701 qw95 qw702
theorem glX6_168 : GoodIn wAll (wsV RX6 168 RX3 yX3_orders (Cond.code yX3_orders cX3_orders 1 (some .int) :: wAll)) := gdV qw725 qw726 qw727 qw95 qw728
theorem glX6_171 : GoodIn wAll (wsV RX6 171 RX3 yX3_letterOf (Cond.code yX3_letterOf cX3_letterOf 2 (some .int) :: wAll)) := gdV qw729 qw730 qw731 qw95 qw732
theorem glX6_174 : GoodIn wAll (wsV RX6 174 RX3 yX3_numberOf (Cond.code yX3_numberOf cX3_numberOf 3 (some .int) :: wAll)) := gdV qw733 qw734 qw735 qw95 qw736
theorem glX6_177 : GoodIn wAll (wsV RX6 177 RX6 yX6_perform (Cond.code yX6_perform cX6_perform 5 (some .int) :: wAll)) := gdV qw737 qw739 qw26 qw89 qw740
theorem glX6_181 : GoodIn wAll (wsV RX6 181 RX6 yX6_layAll (Cond.code yX6_layAll cX6_layAll 2 none :: wAll)) := gdV qw741 qw743 qw27 qw89 qw744
theorem glX6_184 : GoodIn wAll (wsV RX6 184 RX1 yX1_push (Cond.code yX1_push cX1_push 2 none :: wAll)) := gdV qw352 qw353 qw354 qw91 qw355
theorem glX6_187 : GoodIn wAll (wsV RX6 187 RX1 yX1_popInto (Cond.code yX1_popInto cX1_popInto 2 (some .boolean) :: wAll)) := gdV qw749 qw750 qw751 qw91 qw752
theorem glX6_191 : GoodIn wAll (wsV RX6 191 RX1 yX1_size (Cond.code yX1_size cX1_size 1 (some .int) :: wAll)) := gdV qw753 qw754 qw755 qw91 qw756
theorem glX6_192 : GoodIn wAll (wsV RX6 192 RX6 yX6_toldFact (Cond.code yX6_toldFact cX6_toldFact 2 (some .int) :: wAll)) := gdV qw761 qw763 qw28 qw89 qw764
theorem glX6_199 : GoodIn wAll (wsV RX6 199 RX0 yX0_places (Cond.code yX0_places cX0_places 1 (some .int) :: wAll)) := gdV qw340 qw341 qw342 qw92 qw343
theorem glX6_202 : GoodIn wAll (wsV RX6 202 RX2 yX2_isDown (Cond.code yX2_isDown cX2_isDown 2 (some .boolean) :: wAll)) := gdV qw448 qw449 qw450 qw90 qw451
theorem glX6_209 : GoodIn wAll (wsV RX6 209 RX6 yX6_digestMessage (Cond.code yX6_digestMessage cX6_digestMessage 8 (some .long) :: wAll)) := gdV qw771 qw773 qw29 qw89 qw774
theorem glX6_222 : GoodIn wAll (wsV RX6 222 RX2 yX2_addMessage (Cond.code yX2_addMessage cX2_addMessage 5 (some .int) :: wAll)) := gdV qw370 qw371 qw372 qw90 qw373
theorem glX6_224 : GoodIn wAll (wsV RX6 224 RX6 yX6_layMessage (Cond.code yX6_layMessage cX6_layMessage 2 none :: wAll)) := gdV qw374 qw376 qw5 qw89 qw377
theorem glX6_239 : GoodIn wAll (va_wsS RX6 239 yJ13_bitCount_95d88 (Cond.code yJ13_bitCount_95d88 cJ13_bitCount_95d88 2 (some .int) :: wAll)) := gdSt qw426 qw427 qw100 qw428
theorem glX6_245 : GoodIn wAll (wsV RX6 245 RX2 yX2_turn (Cond.code yX2_turn cX2_turn 2 none :: wAll)) := gdV qw444 qw445 qw446 qw90 qw447
theorem glX6_248 : GoodIn wAll (wsV RX6 248 RX4 yX4_enter (Cond.code yX4_enter cX4_enter 4 none :: wAll)) := gdV qw460 qw461 qw462 qw94 qw463
theorem glX6_251 : GoodIn wAll (wsV RX6 251 RX4 yX4_run (Cond.code yX4_run cX4_run 4 none :: wAll)) := gdV qw488 qw489 qw490 qw94 qw491
theorem glX6_255 : GoodIn wAll (wsV RX6 255 RX5 yX5_undone (Cond.code yX5_undone cX5_undone 7 (some .int) :: wAll)) := gdV qw518 qw519 qw520 qw93 qw521
theorem glX6_261 : GoodIn wAll (wsV RX6 261 RX2 yX2_standStill (Cond.code yX2_standStill cX2_standStill 1 none :: wAll)) := gdV qw532 qw268 qw269 qw90 qw270
theorem glX6_264 : GoodIn wAll (wsV RX6 264 RX2 yX2_goalsOfWorm (Cond.code yX2_goalsOfWorm cX2_goalsOfWorm 4 (some .long) :: wAll)) := gdV qw585 qw383 qw384 qw90 qw385
theorem glX6_268 : GoodIn wAll (wsV RX6 268 RX5 yX5_headOf (Cond.code yX5_headOf cX5_headOf 3 (some .int) :: wAll)) := gdV qw587 qw480 qw481 qw93 qw482
theorem glX6_271 : GoodIn wAll (wsV RX6 271 RX5 yX5_arrived (Cond.code yX5_arrived cX5_arrived 7 (some .int) :: wAll)) := gdV qw592 qw593 qw594 qw93 qw595
theorem glX6_277 : GoodIn wAll (wsV RX6 277 RX5 yX5_isDone (Cond.code yX5_isDone cX5_isDone 3 (some .boolean) :: wAll)) := gdV qw596 qw497 qw498 qw93 qw499
theorem glX6_281 : GoodIn wAll (wsV RX6 281 RX5 yX5_tailOf (Cond.code yX5_tailOf cX5_tailOf 3 (some .int) :: wAll)) := gdV qw597 qw469 qw470 qw93 qw471
theorem glX6_284 : GoodIn wAll (wsV RX6 284 RX5 yX5_channelsDown (Cond.code yX5_channelsDown cX5_channelsDown 5 (some .int) :: wAll)) := gdV qw598 qw599 qw600 qw93 qw601
theorem glX6_287 : GoodIn wAll (wsV RX6 287 RX0 yX0_xOf (Cond.code yX0_xOf cX0_xOf 2 (some .int) :: wAll)) := gdV qw623 qw624 qw625 qw92 qw626
theorem glX6_290 : GoodIn wAll (wsV RX6 290 RX0 yX0_yOf (Cond.code yX0_yOf cX0_yOf 2 (some .int) :: wAll)) := gdV qw627 qw628 qw629 qw92 qw630
theorem glX6_296 : GoodIn wAll (wsV RX6 296 RX6 yX6_straightWays (Cond.code yX6_straightWays cX6_straightWays 4 (some .int) :: wAll)) := gdV qw631 qw633 qw18 qw89 qw634
theorem glX6_305 : GoodIn wAll (wsV RX6 305 RX2 yX2_channelsDown (Cond.code yX2_channelsDown cX2_channelsDown 3 (some .int) :: wAll)) := gdV qw652 qw653 qw654 qw90 qw655
theorem glX6_307 : GoodIn wAll (wsV RX6 307 RX5 yX5_channelsHeld (Cond.code yX5_channelsHeld cX5_channelsHeld 4 (some .int) :: wAll)) := gdV qw662 qw663 qw664 qw93 qw665
theorem glX6_311 : GoodIn wAll (wsV RX6 311 RX2 yX2_waitedInAll (Cond.code yX2_waitedInAll cX2_waitedInAll 3 (some .int) :: wAll)) := gdV qw666 qw667 qw668 qw90 qw669
theorem glX6_314 : GoodIn wAll (wsV RX6 314 RX6 yX6_messagesDone (Cond.code yX6_messagesDone cX6_messagesDone 3 (some .int) :: wAll)) := gdV qw671 qw673 qw21 qw89 qw674
theorem glX6_317 : GoodIn wAll (wsV RX6 317 RX4 yX4_stepOnce (Cond.code yX4_stepOnce cX4_stepOnce 4 (some .boolean) :: wAll)) := gdV qw643 qw493 qw494 qw94 qw495
theorem glX6_320 : GoodIn wAll (wsV RX6 320 RX5 yX5_lay (Cond.code yX5_lay cX5_lay 8 none :: wAll)) := gdV qw378 qw379 qw380 qw93 qw381
theorem glX6_59 : GoodIn wAll (wsV RX6 59 RX2 yX2_begin (Cond.code yX2_begin cX2_begin 3 none :: wAll)) := gdV qw260 qw261 qw262 qw90 qw263
theorem glX6_63 : GoodIn wAll (wsV RX6 63 RX0 yX0_lay (Cond.code yX0_lay cX0_lay 5 none :: wAll)) := gdV qw271 qw272 qw273 qw92 qw274
theorem glX6_66 : GoodIn wAll (wsV RX6 66 RX2 yX2_copyFrom (Cond.code yX2_copyFrom cX2_copyFrom 2 none :: wAll)) := gdV qw329 qw330 qw331 qw90 qw332
theorem glX6_70 : GoodIn wAll (wsV RX6 70 RX6 yX6_makeMesh (Cond.code yX6_makeMesh cX6_makeMesh 4 (some .int) :: wAll)) := gdV qw336 qw338 qw1 qw89 qw339
theorem glX6_74 : GoodIn wAll (wsV RX6 74 RX6 yX6_settle (Cond.code yX6_settle cX6_settle 2 (some .int) :: wAll)) := gdV qw344 qw346 qw2 qw89 qw347
theorem glX6_78 : GoodIn wAll (wsV RX6 78 RX6 yX6_addMessage (Cond.code yX6_addMessage cX6_addMessage 5 (some .int) :: wAll)) := gdV qw364 qw366 qw4 qw89 qw367
theorem glX6_82 : GoodIn wAll (wsV RX6 82 RX6 yX6_turnGoal (Cond.code yX6_turnGoal cX6_turnGoal 5 (some .int) :: wAll)) := gdV qw418 qw420 qw7 qw89 qw421
theorem glX6_85 : GoodIn wAll (wsV RX6 85 RX6 yX6_turnChannel (Cond.code yX6_turnChannel cX6_turnChannel 5 (some .int) :: wAll)) := gdV qw436 qw438 qw9 qw89 qw439
theorem glX6_88 : GoodIn wAll (wsV RX6 88 RX6 yX6_goSteps (Cond.code yX6_goSteps cX6_goSteps 2 (some .int) :: wAll)) := gdV qw456 qw458 qw10 qw89 qw459
theorem glX6_91 : GoodIn wAll (wsV RX6 91 RX6 yX6_startAgain (Cond.code yX6_startAgain cX6_startAgain 2 (some .int) :: wAll)) := gdV qw528 qw530 qw14 qw89 qw531
theorem glX6_95 : GoodIn wAll (wsV RX6 95 RX0 yX0_has (Cond.code yX0_has cX0_has 3 (some .boolean) :: wAll)) := gdV qw368 qw288 qw289 qw92 qw290
theorem glX6_99 : GoodIn wAll (wsV RX6 99 RX0 yX0_labelAt (Cond.code yX0_labelAt cX0_labelAt 3 (some .int) :: wAll)) := gdV qw369 qw280 qw281 qw92 qw282
theorem glX7_100 : GoodIn wAll (wsV RX7 100 RX7 yX7_wayTo (Cond.code yX7_wayTo cX7_wayTo 4 (some .int) :: wAll)) := gdV qw972 qw974 qw58 qw97 qw975
theorem glX7_103 : GoodIn wAll (wsV RX7 103 RX7 yX7_isDown (Cond.code yX7_isDown cX7_isDown 3 (some .boolean) :: wAll)) := gdV qw932 qw934 qw49 qw97 qw935
theorem glX7_106 : GoodIn wAll (wsV RX7 106 RX7 yX7_holder (Cond.code yX7_holder cX7_holder 5 (some .int) :: wAll)) := gdV qw976 qw978 qw59 qw97 qw979
theorem glX7_109 : GoodIn wAll (wsV RX7 109 RX7 yX7_spotOf (Cond.code yX7_spotOf cX7_spotOf 3 (some .int) :: wAll)) := gdV qw876 qw878 qw37 qw97 qw879
theorem glX7_112 : GoodIn wAll (wsV RX7 112 RX7 yX7_isDone (Cond.code yX7_isDone cX7_isDone 2 (some .boolean) :: wAll)) := gdV qw960 qw962 qw55 qw97 qw963
theorem glX7_116 : GoodIn wAll (wsV RX7 116 RX7 yX7_goes (Cond.code yX7_goes cX7_goes 5 none :: wAll)) := gdV qw968 qw970 qw57 qw97 qw971
theorem glX7_120 : GoodIn wAll (wsV RX7 120 RX7 yX7_isMessage (Cond.code yX7_isMessage cX7_isMessage 2 (some .boolean) :: wAll)) := gdV qw892 qw894 qw40 qw97 qw895
theorem glX7_123 : GoodIn wAll (wsV RX7 123 RX7 yX7_goalsOf (Cond.code yX7_goalsOf cX7_goalsOf 4 (some .int) :: wAll)) := gdV qw900 qw902 qw42 qw97 qw903
theorem glX7_126 : GoodIn wAll (wsV RX7 126 RX7 yX7_isChannel (Cond.code yX7_isChannel cX7_isChannel 4 (some .boolean) :: wAll)) := gdV qw916 qw918 qw45 qw97 qw919
theorem glX7_129 : GoodIn wAll (wsV RX7 129 RX7 yX7_laysWays (Cond.code yX7_laysWays cX7_laysWays 2 none :: wAll)) := gdV qw944 qw946 qw51 qw97 qw947
theorem glX7_132 : GoodIn wAll (wsV RX7 132 RX7 yX7_step (Cond.code yX7_step cX7_step 2 none :: wAll)) := gdV qw956 qw958 qw54 qw97 qw959
theorem glX7_135 : GoodIn wAll (wsV RX7 135 RX7 yX7_notDone (Cond.code yX7_notDone cX7_notDone 3 (some .int) :: wAll)) := gdV qw992 qw994 qw63 qw97 qw995
theorem glX7_139 : GoodIn wAll (wsV RX7 139 RX7 yX7_laysAside (Cond.code yX7_laysAside cX7_laysAside 2 none :: wAll)) := gdV qw845 qw847 qw31 qw97 qw848
theorem glX7_142 : GoodIn wAll (wsV RX7 142 RX7 yX7_putMesh (Cond.code yX7_putMesh cX7_putMesh 5 (some .int) :: wAll)) := gdV qw849 qw851 qw32 qw97 qw852
theorem glX7_145 : GoodIn wAll (wsV RX7 145 RX7 yX7_finished (Cond.code yX7_finished cX7_finished 2 (some .int) :: wAll)) := gdV qw856 qw858 qw33 qw97 qw859
theorem glX7_148 : GoodIn wAll (wsV RX7 148 RX7 yX7_putMessage (Cond.code yX7_putMessage cX7_putMessage 6 (some .int) :: wAll)) := gdV qw868 qw870 qw35 qw97 qw871
theorem glX7_152 : GoodIn wAll (wsV RX7 152 RX7 yX7_putGoal (Cond.code yX7_putGoal cX7_putGoal 5 (some .int) :: wAll)) := gdV qw888 qw890 qw39 qw97 qw891
theorem glX7_155 : GoodIn wAll (wsV RX7 155 RX7 yX7_putTurn (Cond.code yX7_putTurn cX7_putTurn 4 (some .int) :: wAll)) := gdV qw912 qw914 qw44 qw97 qw915
theorem glX7_158 : GoodIn wAll (wsV RX7 158 RX7 yX7_putSteps (Cond.code yX7_putSteps cX7_putSteps 3 (some .int) :: wAll)) := gdV qw940 qw942 qw50 qw97 qw943
theorem glX7_161 : GoodIn wAll (wsV RX7 161 RX7 yX7_putAgain (Cond.code yX7_putAgain cX7_putAgain 4 (some .int) :: wAll)) := gdV qw1000 qw1002 qw64 qw97 qw1003
theorem glX7_164 : GoodIn wAll (wsV RX7 164 RX7 yX7_isLabel (Cond.code yX7_isLabel cX7_isLabel 2 (some .boolean) :: wAll)) := gdV qw1012 qw1014 qw65 qw97 qw1015
theorem glX7_167 : GoodIn wAll (wsV RX7 167 RX7 yX7_toldOf (Cond.code yX7_toldOf cX7_toldOf 2 (some .int) :: wAll)) := gdV qw1016 qw1018 qw66 qw97 qw1019
theorem glX7_170 : GoodIn wAll (wsV RX7 170 RX7 yX7_farOf (Cond.code yX7_farOf cX7_farOf 5 (some .int) :: wAll)) := gdV qw1028 qw1030 qw67 qw97 qw1031
theorem glX7_173 : GoodIn wAll (wsV RX7 173 RX7 yX7_arrived (Cond.code yX7_arrived cX7_arrived 4 (some .int) :: wAll)) := gdV qw1048 qw1050 qw70 qw97 qw1051
theorem glX7_176 : GoodIn wAll (wsV RX7 176 RX7 yX7_heldMany (Cond.code yX7_heldMany cX7_heldMany 3 (some .int) :: wAll)) := gdV qw1052 qw1054 qw71 qw97 qw1055
theorem glX7_179 : GoodIn wAll (wsV RX7 179 RX7 yX7_downOf (Cond.code yX7_downOf cX7_downOf 5 (some .int) :: wAll)) := gdV qw1056 qw1058 qw72 qw97 qw1059
theorem glX7_182 : GoodIn wAll (wsV RX7 182 RX7 yX7_isWorm (Cond.code yX7_isWorm cX7_isWorm 3 (some .boolean) :: wAll)) := gdV qw1040 qw1042 qw68 qw97 qw1043
theorem glX7_185 : GoodIn wAll (wsV RX7 185 RX7 yX7_wormTold (Cond.code yX7_wormTold cX7_wormTold 3 (some .int) :: wAll)) := gdV qw1044 qw1046 qw69 qw97 qw1047
theorem glX7_188 : GoodIn wAll (wsV RX7 188 RX7 yX7_messageTold (Cond.code yX7_messageTold cX7_messageTold 6 (some .int) :: wAll)) := gdV qw1072 qw1074 qw73 qw97 qw1075
theorem glX7_191 : GoodIn wAll (wsV RX7 191 RX7 yX7_areDone (Cond.code yX7_areDone cX7_areDone 4 (some .boolean) :: wAll)) := gdV qw1084 qw1086 qw75 qw97 qw1087
theorem glX7_194 : GoodIn wAll (wsV RX7 194 RX7 yX7_takesBack (Cond.code yX7_takesBack cX7_takesBack 2 none :: wAll)) := gdV qw1088 qw1090 qw76 qw97 qw1091
theorem glX7_197 : GoodIn wAll (wsV RX7 197 RX7 yX7_whenDone (Cond.code yX7_whenDone cX7_whenDone 3 (some .int) :: wAll)) := gdV qw1080 qw1082 qw74 qw97 qw1083
theorem glX7_200 : GoodIn wAll (wsV RX7 200 RX7 yX7_countTold (Cond.code yX7_countTold cX7_countTold 8 (some .int) :: wAll)) := gdV qw1096 qw1098 qw77 qw97 qw1099
theorem glX7_209 : GoodIn wAll (wsV RX7 209 RX7 yX7_isAt (Cond.code yX7_isAt cX7_isAt 3 (some .boolean) :: wAll)) := gdV qw1120 qw1122 qw80 qw97 qw1123
theorem glX7_215 : GoodIn wAll (wsV RX7 215 RX7 yX7_blanks (Cond.code yX7_blanks cX7_blanks 1 none :: wAll)) := gdV qw1116 qw1118 qw79 qw97 qw1119
theorem glX7_218 : GoodIn wAll (wsV RX7 218 RX7 yX7_fails (Cond.code yX7_fails cX7_fails 1 (some .boolean) :: wAll)) := gdV qw1131 qw1133 qw82 qw97 qw1134
theorem glX7_222 : GoodIn wAll (va_wsS RX7 222 yX7_manyOf (Cond.code yX7_manyOf cX7_manyOf 1 (some .int) :: wAll)) := gdSt qw1128 qw1129 qw97 qw1130
theorem glX7_228 : GoodIn wAll (wsV RX7 228 RX7 yX7_takesNumber (Cond.code yX7_takesNumber cX7_takesNumber 4 (some .boolean) :: wAll)) := gdV qw1135 qw1137 qw83 qw97 qw1138
theorem glX7_231 : GoodIn wAll (wsV RX7 231 RX7 yX7_takesOrder (Cond.code yX7_takesOrder cX7_takesOrder 3 (some .boolean) :: wAll)) := gdV qw1124 qw1126 qw81 qw97 qw1127
theorem glX7_234 : GoodIn wAll (wsV RX7 234 RX7 yX7_isRead (Cond.code yX7_isRead cX7_isRead 1 (some .boolean) :: wAll)) := gdV qw1112 qw1114 qw78 qw97 qw1115
theorem glX7_237 : GoodIn wAll (wsV RX7 237 RX7 yX7_doneOne (Cond.code yX7_doneOne cX7_doneOne 5 (some .int) :: wAll)) := gdV qw1139 qw1141 qw84 qw97 qw1142
theorem glX7_240 : GoodIn wAll (wsV RX7 240 RX7 yX7_toldAt (Cond.code yX7_toldAt cX7_toldAt 2 (some .int) :: wAll)) := gdV qw1147 qw1149 qw85 qw97 qw1150
theorem glX7_249 : GoodIn wAll (wsV RX7 249 RX7 yX7_mix (Cond.code yX7_mix cX7_mix 3 none :: wAll)) := gdV qw1156 qw1158 qw86 qw97 qw1159
theorem glX7_255 : GoodIn wAll (wsV RX7 255 RX7 yX7_mixMessage (Cond.code yX7_mixMessage cX7_mixMessage 4 none :: wAll)) := gdV qw1161 qw1163 qw87 qw97 qw1164
theorem glX7_47 : GoodIn wAll (wsV RX7 47 RX7 yX7_refuses (Cond.code yX7_refuses cX7_refuses 2 (some .int) :: wAll)) := gdV qw837 qw839 qw30 qw97 qw840
theorem glX7_51 : GoodIn wAll (wsV RX7 51 RX7 yX7_remembers (Cond.code yX7_remembers cX7_remembers 2 none :: wAll)) := gdV qw860 qw862 qw34 qw97 qw863
theorem glX7_54 : GoodIn wAll (va_wsS RX7 54 yX7_in (Cond.code yX7_in cX7_in 3 (some .boolean) :: wAll)) := gdSt qw853 qw854 qw97 qw855
theorem glX7_58 : GoodIn wAll (wsV RX7 58 RX7 yX7_xOf (Cond.code yX7_xOf cX7_xOf 3 (some .int) :: wAll)) := gdV qw924 qw926 qw47 qw97 qw927
theorem glX7_61 : GoodIn wAll (wsV RX7 61 RX7 yX7_yOf (Cond.code yX7_yOf cX7_yOf 2 (some .int) :: wAll)) := gdV qw928 qw930 qw48 qw97 qw931
theorem glX7_64 : GoodIn wAll (wsV RX7 64 RX7 yX7_isPlace (Cond.code yX7_isPlace cX7_isPlace 3 (some .boolean) :: wAll)) := gdV qw872 qw874 qw36 qw97 qw875
theorem glX7_68 : GoodIn wAll (wsV RX7 68 RX7 yX7_labelOf (Cond.code yX7_labelOf cX7_labelOf 3 (some .int) :: wAll)) := gdV qw880 qw882 qw38 qw97 qw883
theorem glX7_72 : GoodIn wAll (wsV RX7 72 RX7 yX7_beside (Cond.code yX7_beside cX7_beside 5 (some .int) :: wAll)) := gdV qw920 qw922 qw46 qw97 qw923
theorem glX7_75 : GoodIn wAll (wsV RX7 75 RX7 yX7_nextOf (Cond.code yX7_nextOf cX7_nextOf 8 (some .int) :: wAll)) := gdV qw952 qw954 qw53 qw97 qw955
theorem glX7_78 : GoodIn wAll (wsV RX7 78 RX7 yX7_of0 (Cond.code yX7_of0 cX7_of0 3 (some .int) :: wAll)) := gdV qw896 qw898 qw41 qw97 qw899
theorem glX7_81 : GoodIn wAll (wsV RX7 81 RX7 yX7_isGoal (Cond.code yX7_isGoal cX7_isGoal 3 (some .boolean) :: wAll)) := gdV qw904 qw906 qw43 qw97 qw907
theorem glX7_84 : GoodIn wAll (wsV RX7 84 RX7 yX7_laysWay (Cond.code yX7_laysWay cX7_laysWay 9 none :: wAll)) := gdV qw948 qw950 qw52 qw97 qw951
theorem glX7_88 : GoodIn wAll (wsV RX7 88 RX7 yX7_moves (Cond.code yX7_moves cX7_moves 2 (some .int) :: wAll)) := gdV qw964 qw966 qw56 qw97 qw967
theorem glX7_91 : GoodIn wAll (wsV RX7 91 RX7 yX7_heldFrom (Cond.code yX7_heldFrom cX7_heldFrom 3 (some .int) :: wAll)) := gdV qw984 qw986 qw61 qw97 qw987
theorem glX7_94 : GoodIn wAll (wsV RX7 94 RX7 yX7_heldTo (Cond.code yX7_heldTo cX7_heldTo 2 (some .int) :: wAll)) := gdV qw988 qw990 qw62 qw97 qw991
theorem glX7_97 : GoodIn wAll (wsV RX7 97 RX7 yX7_isHeldBy (Cond.code yX7_isHeldBy cX7_isHeldBy 6 (some .boolean) :: wAll)) := gdV qw980 qw982 qw60 qw97 qw983
theorem hdX7_refuses : yX7_refuses.cls = RX7 ∧ yX7_refuses.cls ≠ "java/lang/invoke/MethodHandle" ∧ yX7_refuses.cls ≠ "java/lang/invoke/VarHandle" ∧ (parseMethodDescriptor yX7_refuses.desc).map (fun d => d.parameters.length) = some 1 := by decide +kernel
theorem hdX7_in : yX7_in.cls ≠ "java/lang/invoke/MethodHandle" ∧ yX7_in.cls ≠ "java/lang/invoke/VarHandle" ∧ (parseMethodDescriptor yX7_in.desc).map (fun d => d.parameters.length) = some 3 := by decide +kernel
theorem hdX7_remembers : yX7_remembers.cls = RX7 ∧ yX7_remembers.cls ≠ "java/lang/invoke/MethodHandle" ∧ yX7_remembers.cls ≠ "java/lang/invoke/VarHandle" ∧ (parseMethodDescriptor yX7_remembers.desc).map (fun d => d.parameters.length) = some 0 := by decide +kernel
theorem hdX7_laysAside : yX7_laysAside.cls = RX7 ∧ yX7_laysAside.cls ≠ "java/lang/invoke/MethodHandle" ∧ yX7_laysAside.cls ≠ "java/lang/invoke/VarHandle" ∧ (parseMethodDescriptor yX7_laysAside.desc).map (fun d => d.parameters.length) = some 0 := by decide +kernel
theorem hdX7_putMesh : yX7_putMesh.cls = RX7 ∧ yX7_putMesh.cls ≠ "java/lang/invoke/MethodHandle" ∧ yX7_putMesh.cls ≠ "java/lang/invoke/VarHandle" ∧ (parseMethodDescriptor yX7_putMesh.desc).map (fun d => d.parameters.length) = some 2 := by decide +kernel
theorem hdX7_finished : yX7_finished.cls = RX7 ∧ yX7_finished.cls ≠ "java/lang/invoke/MethodHandle" ∧ yX7_finished.cls ≠ "java/lang/invoke/VarHandle" ∧ (parseMethodDescriptor yX7_finished.desc).map (fun d => d.parameters.length) = some 1 := by decide +kernel
theorem hdX7_isPlace : yX7_isPlace.cls = RX7 ∧ yX7_isPlace.cls ≠ "java/lang/invoke/MethodHandle" ∧ yX7_isPlace.cls ≠ "java/lang/invoke/VarHandle" ∧ (parseMethodDescriptor yX7_isPlace.desc).map (fun d => d.parameters.length) = some 2 := by decide +kernel
theorem hdX7_spotOf : yX7_spotOf.cls = RX7 ∧ yX7_spotOf.cls ≠ "java/lang/invoke/MethodHandle" ∧ yX7_spotOf.cls ≠ "java/lang/invoke/VarHandle" ∧ (parseMethodDescriptor yX7_spotOf.desc).map (fun d => d.parameters.length) = some 2 := by decide +kernel
theorem hdX7_labelOf : yX7_labelOf.cls = RX7 ∧ yX7_labelOf.cls ≠ "java/lang/invoke/MethodHandle" ∧ yX7_labelOf.cls ≠ "java/lang/invoke/VarHandle" ∧ (parseMethodDescriptor yX7_labelOf.desc).map (fun d => d.parameters.length) = some 2 := by decide +kernel
theorem hdX7_putMessage : yX7_putMessage.cls = RX7 ∧ yX7_putMessage.cls ≠ "java/lang/invoke/MethodHandle" ∧ yX7_putMessage.cls ≠ "java/lang/invoke/VarHandle" ∧ (parseMethodDescriptor yX7_putMessage.desc).map (fun d => d.parameters.length) = some 3 := by decide +kernel
theorem hdX7_of0 : yX7_of0.cls = RX7 ∧ yX7_of0.cls ≠ "java/lang/invoke/MethodHandle" ∧ yX7_of0.cls ≠ "java/lang/invoke/VarHandle" ∧ (parseMethodDescriptor yX7_of0.desc).map (fun d => d.parameters.length) = some 2 := by decide +kernel
theorem hdX7_isGoal : yX7_isGoal.cls = RX7 ∧ yX7_isGoal.cls ≠ "java/lang/invoke/MethodHandle" ∧ yX7_isGoal.cls ≠ "java/lang/invoke/VarHandle" ∧ (parseMethodDescriptor yX7_isGoal.desc).map (fun d => d.parameters.length) = some 2 := by decide +kernel
theorem hdX7_isMessage : yX7_isMessage.cls = RX7 ∧ yX7_isMessage.cls ≠ "java/lang/invoke/MethodHandle" ∧ yX7_isMessage.cls ≠ "java/lang/invoke/VarHandle" ∧ (parseMethodDescriptor yX7_isMessage.desc).map (fun d => d.parameters.length) = some 1 := by decide +kernel
theorem hdX7_goalsOf : yX7_goalsOf.cls = RX7 ∧ yX7_goalsOf.cls ≠ "java/lang/invoke/MethodHandle" ∧ yX7_goalsOf.cls ≠ "java/lang/invoke/VarHandle" ∧ (parseMethodDescriptor yX7_goalsOf.desc).map (fun d => d.parameters.length) = some 1 := by decide +kernel
theorem hdX7_putGoal : yX7_putGoal.cls = RX7 ∧ yX7_putGoal.cls ≠ "java/lang/invoke/MethodHandle" ∧ yX7_putGoal.cls ≠ "java/lang/invoke/VarHandle" ∧ (parseMethodDescriptor yX7_putGoal.desc).map (fun d => d.parameters.length) = some 3 := by decide +kernel
theorem hdX7_xOf : yX7_xOf.cls = RX7 ∧ yX7_xOf.cls ≠ "java/lang/invoke/MethodHandle" ∧ yX7_xOf.cls ≠ "java/lang/invoke/VarHandle" ∧ (parseMethodDescriptor yX7_xOf.desc).map (fun d => d.parameters.length) = some 1 := by decide +kernel
theorem hdX7_yOf : yX7_yOf.cls = RX7 ∧ yX7_yOf.cls ≠ "java/lang/invoke/MethodHandle" ∧ yX7_yOf.cls ≠ "java/lang/invoke/VarHandle" ∧ (parseMethodDescriptor yX7_yOf.desc).map (fun d => d.parameters.length) = some 1 := by decide +kernel
theorem hdX7_beside : yX7_beside.cls = RX7 ∧ yX7_beside.cls ≠ "java/lang/invoke/MethodHandle" ∧ yX7_beside.cls ≠ "java/lang/invoke/VarHandle" ∧ (parseMethodDescriptor yX7_beside.desc).map (fun d => d.parameters.length) = some 2 := by decide +kernel
theorem hdX7_isChannel : yX7_isChannel.cls = RX7 ∧ yX7_isChannel.cls ≠ "java/lang/invoke/MethodHandle" ∧ yX7_isChannel.cls ≠ "java/lang/invoke/VarHandle" ∧ (parseMethodDescriptor yX7_isChannel.desc).map (fun d => d.parameters.length) = some 3 := by decide +kernel
theorem hdX7_isDown : yX7_isDown.cls = RX7 ∧ yX7_isDown.cls ≠ "java/lang/invoke/MethodHandle" ∧ yX7_isDown.cls ≠ "java/lang/invoke/VarHandle" ∧ (parseMethodDescriptor yX7_isDown.desc).map (fun d => d.parameters.length) = some 2 := by decide +kernel
theorem hdX7_putTurn : yX7_putTurn.cls = RX7 ∧ yX7_putTurn.cls ≠ "java/lang/invoke/MethodHandle" ∧ yX7_putTurn.cls ≠ "java/lang/invoke/VarHandle" ∧ (parseMethodDescriptor yX7_putTurn.desc).map (fun d => d.parameters.length) = some 3 := by decide +kernel
theorem hdX7_nextOf : yX7_nextOf.cls = RX7 ∧ yX7_nextOf.cls ≠ "java/lang/invoke/MethodHandle" ∧ yX7_nextOf.cls ≠ "java/lang/invoke/VarHandle" ∧ (parseMethodDescriptor yX7_nextOf.desc).map (fun d => d.parameters.length) = some 2 := by decide +kernel
theorem hdX7_laysWay : yX7_laysWay.cls = RX7 ∧ yX7_laysWay.cls ≠ "java/lang/invoke/MethodHandle" ∧ yX7_laysWay.cls ≠ "java/lang/invoke/VarHandle" ∧ (parseMethodDescriptor yX7_laysWay.desc).map (fun d => d.parameters.length) = some 2 := by decide +kernel
theorem hdX7_moves : yX7_moves.cls = RX7 ∧ yX7_moves.cls ≠ "java/lang/invoke/MethodHandle" ∧ yX7_moves.cls ≠ "java/lang/invoke/VarHandle" ∧ (parseMethodDescriptor yX7_moves.desc).map (fun d => d.parameters.length) = some 1 := by decide +kernel
theorem hdX7_heldFrom : yX7_heldFrom.cls = RX7 ∧ yX7_heldFrom.cls ≠ "java/lang/invoke/MethodHandle" ∧ yX7_heldFrom.cls ≠ "java/lang/invoke/VarHandle" ∧ (parseMethodDescriptor yX7_heldFrom.desc).map (fun d => d.parameters.length) = some 1 := by decide +kernel
theorem hdX7_heldTo : yX7_heldTo.cls = RX7 ∧ yX7_heldTo.cls ≠ "java/lang/invoke/MethodHandle" ∧ yX7_heldTo.cls ≠ "java/lang/invoke/VarHandle" ∧ (parseMethodDescriptor yX7_heldTo.desc).map (fun d => d.parameters.length) = some 1 := by decide +kernel
theorem hdX7_isHeldBy : yX7_isHeldBy.cls = RX7 ∧ yX7_isHeldBy.cls ≠ "java/lang/invoke/MethodHandle" ∧ yX7_isHeldBy.cls ≠ "java/lang/invoke/VarHandle" ∧ (parseMethodDescriptor yX7_isHeldBy.desc).map (fun d => d.parameters.length) = some 3 := by decide +kernel
theorem hdX7_wayTo : yX7_wayTo.cls = RX7 ∧ yX7_wayTo.cls ≠ "java/lang/invoke/MethodHandle" ∧ yX7_wayTo.cls ≠ "java/lang/invoke/VarHandle" ∧ (parseMethodDescriptor yX7_wayTo.desc).map (fun d => d.parameters.length) = some 2 := by decide +kernel
theorem hdX7_holder : yX7_holder.cls = RX7 ∧ yX7_holder.cls ≠ "java/lang/invoke/MethodHandle" ∧ yX7_holder.cls ≠ "java/lang/invoke/VarHandle" ∧ (parseMethodDescriptor yX7_holder.desc).map (fun d => d.parameters.length) = some 2 := by decide +kernel
theorem hdX7_isDone : yX7_isDone.cls = RX7 ∧ yX7_isDone.cls ≠ "java/lang/invoke/MethodHandle" ∧ yX7_isDone.cls ≠ "java/lang/invoke/VarHandle" ∧ (parseMethodDescriptor yX7_isDone.desc).map (fun d => d.parameters.length) = some 1 := by decide +kernel
theorem hdX7_goes : yX7_goes.cls = RX7 ∧ yX7_goes.cls ≠ "java/lang/invoke/MethodHandle" ∧ yX7_goes.cls ≠ "java/lang/invoke/VarHandle" ∧ (parseMethodDescriptor yX7_goes.desc).map (fun d => d.parameters.length) = some 1 := by decide +kernel
theorem hdX7_laysWays : yX7_laysWays.cls = RX7 ∧ yX7_laysWays.cls ≠ "java/lang/invoke/MethodHandle" ∧ yX7_laysWays.cls ≠ "java/lang/invoke/VarHandle" ∧ (parseMethodDescriptor yX7_laysWays.desc).map (fun d => d.parameters.length) = some 0 := by decide +kernel
theorem hdX7_notDone : yX7_notDone.cls = RX7 ∧ yX7_notDone.cls ≠ "java/lang/invoke/MethodHandle" ∧ yX7_notDone.cls ≠ "java/lang/invoke/VarHandle" ∧ (parseMethodDescriptor yX7_notDone.desc).map (fun d => d.parameters.length) = some 0 := by decide +kernel
theorem hdX7_step : yX7_step.cls = RX7 ∧ yX7_step.cls ≠ "java/lang/invoke/MethodHandle" ∧ yX7_step.cls ≠ "java/lang/invoke/VarHandle" ∧ (parseMethodDescriptor yX7_step.desc).map (fun d => d.parameters.length) = some 0 := by decide +kernel
theorem hdX7_putSteps : yX7_putSteps.cls = RX7 ∧ yX7_putSteps.cls ≠ "java/lang/invoke/MethodHandle" ∧ yX7_putSteps.cls ≠ "java/lang/invoke/VarHandle" ∧ (parseMethodDescriptor yX7_putSteps.desc).map (fun d => d.parameters.length) = some 1 := by decide +kernel
theorem hdX7_putAgain : yX7_putAgain.cls = RX7 ∧ yX7_putAgain.cls ≠ "java/lang/invoke/MethodHandle" ∧ yX7_putAgain.cls ≠ "java/lang/invoke/VarHandle" ∧ (parseMethodDescriptor yX7_putAgain.desc).map (fun d => d.parameters.length) = some 0 := by decide +kernel
theorem hdX7_isLabel : yX7_isLabel.cls = RX7 ∧ yX7_isLabel.cls ≠ "java/lang/invoke/MethodHandle" ∧ yX7_isLabel.cls ≠ "java/lang/invoke/VarHandle" ∧ (parseMethodDescriptor yX7_isLabel.desc).map (fun d => d.parameters.length) = some 1 := by decide +kernel
theorem hdX7_toldOf : yX7_toldOf.cls = RX7 ∧ yX7_toldOf.cls ≠ "java/lang/invoke/MethodHandle" ∧ yX7_toldOf.cls ≠ "java/lang/invoke/VarHandle" ∧ (parseMethodDescriptor yX7_toldOf.desc).map (fun d => d.parameters.length) = some 1 := by decide +kernel
theorem hdX7_farOf : yX7_farOf.cls = RX7 ∧ yX7_farOf.cls ≠ "java/lang/invoke/MethodHandle" ∧ yX7_farOf.cls ≠ "java/lang/invoke/VarHandle" ∧ (parseMethodDescriptor yX7_farOf.desc).map (fun d => d.parameters.length) = some 2 := by decide +kernel
theorem hdX7_arrived : yX7_arrived.cls = RX7 ∧ yX7_arrived.cls ≠ "java/lang/invoke/MethodHandle" ∧ yX7_arrived.cls ≠ "java/lang/invoke/VarHandle" ∧ (parseMethodDescriptor yX7_arrived.desc).map (fun d => d.parameters.length) = some 1 := by decide +kernel
theorem hdX7_heldMany : yX7_heldMany.cls = RX7 ∧ yX7_heldMany.cls ≠ "java/lang/invoke/MethodHandle" ∧ yX7_heldMany.cls ≠ "java/lang/invoke/VarHandle" ∧ (parseMethodDescriptor yX7_heldMany.desc).map (fun d => d.parameters.length) = some 1 := by decide +kernel
theorem hdX7_downOf : yX7_downOf.cls = RX7 ∧ yX7_downOf.cls ≠ "java/lang/invoke/MethodHandle" ∧ yX7_downOf.cls ≠ "java/lang/invoke/VarHandle" ∧ (parseMethodDescriptor yX7_downOf.desc).map (fun d => d.parameters.length) = some 1 := by decide +kernel
theorem hdX7_isWorm : yX7_isWorm.cls = RX7 ∧ yX7_isWorm.cls ≠ "java/lang/invoke/MethodHandle" ∧ yX7_isWorm.cls ≠ "java/lang/invoke/VarHandle" ∧ (parseMethodDescriptor yX7_isWorm.desc).map (fun d => d.parameters.length) = some 2 := by decide +kernel
theorem hdX7_wormTold : yX7_wormTold.cls = RX7 ∧ yX7_wormTold.cls ≠ "java/lang/invoke/MethodHandle" ∧ yX7_wormTold.cls ≠ "java/lang/invoke/VarHandle" ∧ (parseMethodDescriptor yX7_wormTold.desc).map (fun d => d.parameters.length) = some 2 := by decide +kernel
theorem hdX7_messageTold : yX7_messageTold.cls = RX7 ∧ yX7_messageTold.cls ≠ "java/lang/invoke/MethodHandle" ∧ yX7_messageTold.cls ≠ "java/lang/invoke/VarHandle" ∧ (parseMethodDescriptor yX7_messageTold.desc).map (fun d => d.parameters.length) = some 2 := by decide +kernel
theorem hdX7_areDone : yX7_areDone.cls = RX7 ∧ yX7_areDone.cls ≠ "java/lang/invoke/MethodHandle" ∧ yX7_areDone.cls ≠ "java/lang/invoke/VarHandle" ∧ (parseMethodDescriptor yX7_areDone.desc).map (fun d => d.parameters.length) = some 1 := by decide +kernel
theorem hdX7_takesBack : yX7_takesBack.cls = RX7 ∧ yX7_takesBack.cls ≠ "java/lang/invoke/MethodHandle" ∧ yX7_takesBack.cls ≠ "java/lang/invoke/VarHandle" ∧ (parseMethodDescriptor yX7_takesBack.desc).map (fun d => d.parameters.length) = some 0 := by decide +kernel
theorem hdX7_whenDone : yX7_whenDone.cls = RX7 ∧ yX7_whenDone.cls ≠ "java/lang/invoke/MethodHandle" ∧ yX7_whenDone.cls ≠ "java/lang/invoke/VarHandle" ∧ (parseMethodDescriptor yX7_whenDone.desc).map (fun d => d.parameters.length) = some 1 := by decide +kernel
theorem hdX7_countTold : yX7_countTold.cls = RX7 ∧ yX7_countTold.cls ≠ "java/lang/invoke/MethodHandle" ∧ yX7_countTold.cls ≠ "java/lang/invoke/VarHandle" ∧ (parseMethodDescriptor yX7_countTold.desc).map (fun d => d.parameters.length) = some 1 := by decide +kernel
theorem hdX7_isAt : yX7_isAt.cls = RX7 ∧ yX7_isAt.cls ≠ "java/lang/invoke/MethodHandle" ∧ yX7_isAt.cls ≠ "java/lang/invoke/VarHandle" ∧ (parseMethodDescriptor yX7_isAt.desc).map (fun d => d.parameters.length) = some 2 := by decide +kernel
theorem hdX7_blanks : yX7_blanks.cls = RX7 ∧ yX7_blanks.cls ≠ "java/lang/invoke/MethodHandle" ∧ yX7_blanks.cls ≠ "java/lang/invoke/VarHandle" ∧ (parseMethodDescriptor yX7_blanks.desc).map (fun d => d.parameters.length) = some 0 := by decide +kernel
theorem hdX7_fails : yX7_fails.cls = RX7 ∧ yX7_fails.cls ≠ "java/lang/invoke/MethodHandle" ∧ yX7_fails.cls ≠ "java/lang/invoke/VarHandle" ∧ (parseMethodDescriptor yX7_fails.desc).map (fun d => d.parameters.length) = some 0 := by decide +kernel
theorem hdX7_manyOf : yX7_manyOf.cls ≠ "java/lang/invoke/MethodHandle" ∧ yX7_manyOf.cls ≠ "java/lang/invoke/VarHandle" ∧ (parseMethodDescriptor yX7_manyOf.desc).map (fun d => d.parameters.length) = some 1 := by decide +kernel
theorem hdX7_takesNumber : yX7_takesNumber.cls = RX7 ∧ yX7_takesNumber.cls ≠ "java/lang/invoke/MethodHandle" ∧ yX7_takesNumber.cls ≠ "java/lang/invoke/VarHandle" ∧ (parseMethodDescriptor yX7_takesNumber.desc).map (fun d => d.parameters.length) = some 1 := by decide +kernel
theorem hdX7_takesOrder : yX7_takesOrder.cls = RX7 ∧ yX7_takesOrder.cls ≠ "java/lang/invoke/MethodHandle" ∧ yX7_takesOrder.cls ≠ "java/lang/invoke/VarHandle" ∧ (parseMethodDescriptor yX7_takesOrder.desc).map (fun d => d.parameters.length) = some 0 := by decide +kernel
theorem hdX7_isRead : yX7_isRead.cls = RX7 ∧ yX7_isRead.cls ≠ "java/lang/invoke/MethodHandle" ∧ yX7_isRead.cls ≠ "java/lang/invoke/VarHandle" ∧ (parseMethodDescriptor yX7_isRead.desc).map (fun d => d.parameters.length) = some 0 := by decide +kernel
theorem hdX7_doneOne : yX7_doneOne.cls = RX7 ∧ yX7_doneOne.cls ≠ "java/lang/invoke/MethodHandle" ∧ yX7_doneOne.cls ≠ "java/lang/invoke/VarHandle" ∧ (parseMethodDescriptor yX7_doneOne.desc).map (fun d => d.parameters.length) = some 1 := by decide +kernel
theorem hdX7_toldAt : yX7_toldAt.cls = RX7 ∧ yX7_toldAt.cls ≠ "java/lang/invoke/MethodHandle" ∧ yX7_toldAt.cls ≠ "java/lang/invoke/VarHandle" ∧ (parseMethodDescriptor yX7_toldAt.desc).map (fun d => d.parameters.length) = some 1 := by decide +kernel
theorem hdX7_mix : yX7_mix.cls = RX7 ∧ yX7_mix.cls ≠ "java/lang/invoke/MethodHandle" ∧ yX7_mix.cls ≠ "java/lang/invoke/VarHandle" ∧ (parseMethodDescriptor yX7_mix.desc).map (fun d => d.parameters.length) = some 1 := by decide +kernel
theorem hdX7_mixMessage : yX7_mixMessage.cls = RX7 ∧ yX7_mixMessage.cls ≠ "java/lang/invoke/MethodHandle" ∧ yX7_mixMessage.cls ≠ "java/lang/invoke/VarHandle" ∧ (parseMethodDescriptor yX7_mixMessage.desc).map (fun d => d.parameters.length) = some 1 := by decide +kernel
theorem hdJ7_fill_53178 : yJ7_fill_53178.cls ≠ "java/lang/invoke/MethodHandle" ∧ yJ7_fill_53178.cls ≠ "java/lang/invoke/VarHandle" ∧ (parseMethodDescriptor yJ7_fill_53178.desc).map (fun d => d.parameters.length) = some 2 := by decide +kernel
theorem hdX2_standStill : yX2_standStill.cls = RX2 ∧ yX2_standStill.cls ≠ "java/lang/invoke/MethodHandle" ∧ yX2_standStill.cls ≠ "java/lang/invoke/VarHandle" ∧ (parseMethodDescriptor yX2_standStill.desc).map (fun d => d.parameters.length) = some 0 := by decide +kernel
theorem hdX0_labelAt : yX0_labelAt.cls = RX0 ∧ yX0_labelAt.cls ≠ "java/lang/invoke/MethodHandle" ∧ yX0_labelAt.cls ≠ "java/lang/invoke/VarHandle" ∧ (parseMethodDescriptor yX0_labelAt.desc).map (fun d => d.parameters.length) = some 2 := by decide +kernel
theorem hdX0_has : yX0_has.cls = RX0 ∧ yX0_has.cls ≠ "java/lang/invoke/MethodHandle" ∧ yX0_has.cls ≠ "java/lang/invoke/VarHandle" ∧ (parseMethodDescriptor yX0_has.desc).map (fun d => d.parameters.length) = some 2 := by decide +kernel
theorem hdX0_layPlace : yX0_layPlace.cls = RX0 ∧ yX0_layPlace.cls ≠ "java/lang/invoke/MethodHandle" ∧ yX0_layPlace.cls ≠ "java/lang/invoke/VarHandle" ∧ (parseMethodDescriptor yX0_layPlace.desc).map (fun d => d.parameters.length) = some 2 := by decide +kernel
theorem hdX0_places : yX0_places.cls = RX0 ∧ yX0_places.cls ≠ "java/lang/invoke/MethodHandle" ∧ yX0_places.cls ≠ "java/lang/invoke/VarHandle" ∧ (parseMethodDescriptor yX0_places.desc).map (fun d => d.parameters.length) = some 0 := by decide +kernel
theorem hdX2_begin : yX2_begin.cls = RX2 ∧ yX2_begin.cls ≠ "java/lang/invoke/MethodHandle" ∧ yX2_begin.cls ≠ "java/lang/invoke/VarHandle" ∧ (parseMethodDescriptor yX2_begin.desc).map (fun d => d.parameters.length) = some 2 := by decide +kernel
theorem hdX0_lay : yX0_lay.cls = RX0 ∧ yX0_lay.cls ≠ "java/lang/invoke/MethodHandle" ∧ yX0_lay.cls ≠ "java/lang/invoke/VarHandle" ∧ (parseMethodDescriptor yX0_lay.desc).map (fun d => d.parameters.length) = some 2 := by decide +kernel
theorem hdX2_copyFrom : yX2_copyFrom.cls = RX2 ∧ yX2_copyFrom.cls ≠ "java/lang/invoke/MethodHandle" ∧ yX2_copyFrom.cls ≠ "java/lang/invoke/VarHandle" ∧ (parseMethodDescriptor yX2_copyFrom.desc).map (fun d => d.parameters.length) = some 1 := by decide +kernel
theorem hdX1_push : yX1_push.cls = RX1 ∧ yX1_push.cls ≠ "java/lang/invoke/MethodHandle" ∧ yX1_push.cls ≠ "java/lang/invoke/VarHandle" ∧ (parseMethodDescriptor yX1_push.desc).map (fun d => d.parameters.length) = some 1 := by decide +kernel
theorem hdX6_refuse : yX6_refuse.cls = RX6 ∧ yX6_refuse.cls ≠ "java/lang/invoke/MethodHandle" ∧ yX6_refuse.cls ≠ "java/lang/invoke/VarHandle" ∧ (parseMethodDescriptor yX6_refuse.desc).map (fun d => d.parameters.length) = some 1 := by decide +kernel
theorem hdX6_makeMesh : yX6_makeMesh.cls = RX6 ∧ yX6_makeMesh.cls ≠ "java/lang/invoke/MethodHandle" ∧ yX6_makeMesh.cls ≠ "java/lang/invoke/VarHandle" ∧ (parseMethodDescriptor yX6_makeMesh.desc).map (fun d => d.parameters.length) = some 2 := by decide +kernel
theorem hdX6_settle : yX6_settle.cls = RX6 ∧ yX6_settle.cls ≠ "java/lang/invoke/MethodHandle" ∧ yX6_settle.cls ≠ "java/lang/invoke/VarHandle" ∧ (parseMethodDescriptor yX6_settle.desc).map (fun d => d.parameters.length) = some 1 := by decide +kernel
theorem hdX2_sourceOf : yX2_sourceOf.cls = RX2 ∧ yX2_sourceOf.cls ≠ "java/lang/invoke/MethodHandle" ∧ yX2_sourceOf.cls ≠ "java/lang/invoke/VarHandle" ∧ (parseMethodDescriptor yX2_sourceOf.desc).map (fun d => d.parameters.length) = some 1 := by decide +kernel
theorem hdX2_rises : yX2_rises.cls = RX2 ∧ yX2_rises.cls ≠ "java/lang/invoke/MethodHandle" ∧ yX2_rises.cls ≠ "java/lang/invoke/VarHandle" ∧ (parseMethodDescriptor yX2_rises.desc).map (fun d => d.parameters.length) = some 1 := by decide +kernel
theorem hdX0_channelTowards : yX0_channelTowards.cls = RX0 ∧ yX0_channelTowards.cls ≠ "java/lang/invoke/MethodHandle" ∧ yX0_channelTowards.cls ≠ "java/lang/invoke/VarHandle" ∧ (parseMethodDescriptor yX0_channelTowards.desc).map (fun d => d.parameters.length) = some 2 := by decide +kernel
theorem hdX0_endOf : yX0_endOf.cls = RX0 ∧ yX0_endOf.cls ≠ "java/lang/invoke/MethodHandle" ∧ yX0_endOf.cls ≠ "java/lang/invoke/VarHandle" ∧ (parseMethodDescriptor yX0_endOf.desc).map (fun d => d.parameters.length) = some 1 := by decide +kernel
theorem hdX2_goalsOfWorm : yX2_goalsOfWorm.cls = RX2 ∧ yX2_goalsOfWorm.cls ≠ "java/lang/invoke/MethodHandle" ∧ yX2_goalsOfWorm.cls ≠ "java/lang/invoke/VarHandle" ∧ (parseMethodDescriptor yX2_goalsOfWorm.desc).map (fun d => d.parameters.length) = some 1 := by decide +kernel
theorem hdX0_hasLabel : yX0_hasLabel.cls = RX0 ∧ yX0_hasLabel.cls ≠ "java/lang/invoke/MethodHandle" ∧ yX0_hasLabel.cls ≠ "java/lang/invoke/VarHandle" ∧ (parseMethodDescriptor yX0_hasLabel.desc).map (fun d => d.parameters.length) = some 1 := by decide +kernel
theorem hdX5_layTo : yX5_layTo.cls = RX5 ∧ yX5_layTo.cls ≠ "java/lang/invoke/MethodHandle" ∧ yX5_layTo.cls ≠ "java/lang/invoke/VarHandle" ∧ (parseMethodDescriptor yX5_layTo.desc).map (fun d => d.parameters.length) = some 3 := by decide +kernel
theorem hdX5_lay : yX5_lay.cls = RX5 ∧ yX5_lay.cls ≠ "java/lang/invoke/MethodHandle" ∧ yX5_lay.cls ≠ "java/lang/invoke/VarHandle" ∧ (parseMethodDescriptor yX5_lay.desc).map (fun d => d.parameters.length) = some 3 := by decide +kernel
theorem hdX2_addMessage : yX2_addMessage.cls = RX2 ∧ yX2_addMessage.cls ≠ "java/lang/invoke/MethodHandle" ∧ yX2_addMessage.cls ≠ "java/lang/invoke/VarHandle" ∧ (parseMethodDescriptor yX2_addMessage.desc).map (fun d => d.parameters.length) = some 2 := by decide +kernel
theorem hdX6_layMessage : yX6_layMessage.cls = RX6 ∧ yX6_layMessage.cls ≠ "java/lang/invoke/MethodHandle" ∧ yX6_layMessage.cls ≠ "java/lang/invoke/VarHandle" ∧ (parseMethodDescriptor yX6_layMessage.desc).map (fun d => d.parameters.length) = some 1 := by decide +kernel
theorem hdX6_addMessage : yX6_addMessage.cls = RX6 ∧ yX6_addMessage.cls ≠ "java/lang/invoke/MethodHandle" ∧ yX6_addMessage.cls ≠ "java/lang/invoke/VarHandle" ∧ (parseMethodDescriptor yX6_addMessage.desc).map (fun d => d.parameters.length) = some 3 := by decide +kernel
theorem hdX6_hasMessage : yX6_hasMessage.cls = RX6 ∧ yX6_hasMessage.cls ≠ "java/lang/invoke/MethodHandle" ∧ yX6_hasMessage.cls ≠ "java/lang/invoke/VarHandle" ∧ (parseMethodDescriptor yX6_hasMessage.desc).map (fun d => d.parameters.length) = some 1 := by decide +kernel
theorem hdJ13_bitCount_95d88 : yJ13_bitCount_95d88.cls ≠ "java/lang/invoke/MethodHandle" ∧ yJ13_bitCount_95d88.cls ≠ "java/lang/invoke/VarHandle" ∧ (parseMethodDescriptor yJ13_bitCount_95d88.desc).map (fun d => d.parameters.length) = some 1 := by decide +kernel
theorem hdX6_turnGoal : yX6_turnGoal.cls = RX6 ∧ yX6_turnGoal.cls ≠ "java/lang/invoke/MethodHandle" ∧ yX6_turnGoal.cls ≠ "java/lang/invoke/VarHandle" ∧ (parseMethodDescriptor yX6_turnGoal.desc).map (fun d => d.parameters.length) = some 3 := by decide +kernel
theorem hdX0_channelAt : yX0_channelAt.cls = RX0 ∧ yX0_channelAt.cls ≠ "java/lang/invoke/MethodHandle" ∧ yX0_channelAt.cls ≠ "java/lang/invoke/VarHandle" ∧ (parseMethodDescriptor yX0_channelAt.desc).map (fun d => d.parameters.length) = some 3 := by decide +kernel
theorem hdX2_turn : yX2_turn.cls = RX2 ∧ yX2_turn.cls ≠ "java/lang/invoke/MethodHandle" ∧ yX2_turn.cls ≠ "java/lang/invoke/VarHandle" ∧ (parseMethodDescriptor yX2_turn.desc).map (fun d => d.parameters.length) = some 1 := by decide +kernel
theorem hdX2_isDown : yX2_isDown.cls = RX2 ∧ yX2_isDown.cls ≠ "java/lang/invoke/MethodHandle" ∧ yX2_isDown.cls ≠ "java/lang/invoke/VarHandle" ∧ (parseMethodDescriptor yX2_isDown.desc).map (fun d => d.parameters.length) = some 1 := by decide +kernel
theorem hdX6_turnChannel : yX6_turnChannel.cls = RX6 ∧ yX6_turnChannel.cls ≠ "java/lang/invoke/MethodHandle" ∧ yX6_turnChannel.cls ≠ "java/lang/invoke/VarHandle" ∧ (parseMethodDescriptor yX6_turnChannel.desc).map (fun d => d.parameters.length) = some 3 := by decide +kernel
theorem hdX2_lengthOf : yX2_lengthOf.cls = RX2 ∧ yX2_lengthOf.cls ≠ "java/lang/invoke/MethodHandle" ∧ yX2_lengthOf.cls ≠ "java/lang/invoke/VarHandle" ∧ (parseMethodDescriptor yX2_lengthOf.desc).map (fun d => d.parameters.length) = some 1 := by decide +kernel
theorem hdX2_worms : yX2_worms.cls = RX2 ∧ yX2_worms.cls ≠ "java/lang/invoke/MethodHandle" ∧ yX2_worms.cls ≠ "java/lang/invoke/VarHandle" ∧ (parseMethodDescriptor yX2_worms.desc).map (fun d => d.parameters.length) = some 0 := by decide +kernel
theorem hdX5_tailOf : yX5_tailOf.cls = RX5 ∧ yX5_tailOf.cls ≠ "java/lang/invoke/MethodHandle" ∧ yX5_tailOf.cls ≠ "java/lang/invoke/VarHandle" ∧ (parseMethodDescriptor yX5_tailOf.desc).map (fun d => d.parameters.length) = some 2 := by decide +kernel
theorem hdX5_headOf : yX5_headOf.cls = RX5 ∧ yX5_headOf.cls ≠ "java/lang/invoke/MethodHandle" ∧ yX5_headOf.cls ≠ "java/lang/invoke/VarHandle" ∧ (parseMethodDescriptor yX5_headOf.desc).map (fun d => d.parameters.length) = some 2 := by decide +kernel
theorem hdX5_channelOf : yX5_channelOf.cls = RX5 ∧ yX5_channelOf.cls ≠ "java/lang/invoke/MethodHandle" ∧ yX5_channelOf.cls ≠ "java/lang/invoke/VarHandle" ∧ (parseMethodDescriptor yX5_channelOf.desc).map (fun d => d.parameters.length) = some 2 := by decide +kernel
theorem hdX5_channelsOf : yX5_channelsOf.cls = RX5 ∧ yX5_channelsOf.cls ≠ "java/lang/invoke/MethodHandle" ∧ yX5_channelsOf.cls ≠ "java/lang/invoke/VarHandle" ∧ (parseMethodDescriptor yX5_channelsOf.desc).map (fun d => d.parameters.length) = some 1 := by decide +kernel
theorem hdX5_isDone : yX5_isDone.cls = RX5 ∧ yX5_isDone.cls ≠ "java/lang/invoke/MethodHandle" ∧ yX5_isDone.cls ≠ "java/lang/invoke/VarHandle" ∧ (parseMethodDescriptor yX5_isDone.desc).map (fun d => d.parameters.length) = some 2 := by decide +kernel
theorem hdX4_isStopped : yX4_isStopped.cls = RX4 ∧ yX4_isStopped.cls ≠ "java/lang/invoke/MethodHandle" ∧ yX4_isStopped.cls ≠ "java/lang/invoke/VarHandle" ∧ (parseMethodDescriptor yX4_isStopped.desc).map (fun d => d.parameters.length) = some 2 := by decide +kernel
theorem hdX4_moveOn : yX4_moveOn.cls = RX4 ∧ yX4_moveOn.cls ≠ "java/lang/invoke/MethodHandle" ∧ yX4_moveOn.cls ≠ "java/lang/invoke/VarHandle" ∧ (parseMethodDescriptor yX4_moveOn.desc).map (fun d => d.parameters.length) = some 2 := by decide +kernel
theorem hdX4_stepOnce : yX4_stepOnce.cls = RX4 ∧ yX4_stepOnce.cls ≠ "java/lang/invoke/MethodHandle" ∧ yX4_stepOnce.cls ≠ "java/lang/invoke/VarHandle" ∧ (parseMethodDescriptor yX4_stepOnce.desc).map (fun d => d.parameters.length) = some 1 := by decide +kernel
theorem hdX4_waitFor : yX4_waitFor.cls = RX4 ∧ yX4_waitFor.cls ≠ "java/lang/invoke/MethodHandle" ∧ yX4_waitFor.cls ≠ "java/lang/invoke/VarHandle" ∧ (parseMethodDescriptor yX4_waitFor.desc).map (fun d => d.parameters.length) = some 2 := by decide +kernel
theorem hdX4_enter : yX4_enter.cls = RX4 ∧ yX4_enter.cls ≠ "java/lang/invoke/MethodHandle" ∧ yX4_enter.cls ≠ "java/lang/invoke/VarHandle" ∧ (parseMethodDescriptor yX4_enter.desc).map (fun d => d.parameters.length) = some 1 := by decide +kernel
theorem hdX4_run : yX4_run.cls = RX4 ∧ yX4_run.cls ≠ "java/lang/invoke/MethodHandle" ∧ yX4_run.cls ≠ "java/lang/invoke/VarHandle" ∧ (parseMethodDescriptor yX4_run.desc).map (fun d => d.parameters.length) = some 2 := by decide +kernel
theorem hdX5_undone : yX5_undone.cls = RX5 ∧ yX5_undone.cls ≠ "java/lang/invoke/MethodHandle" ∧ yX5_undone.cls ≠ "java/lang/invoke/VarHandle" ∧ (parseMethodDescriptor yX5_undone.desc).map (fun d => d.parameters.length) = some 2 := by decide +kernel
theorem hdX6_goSteps : yX6_goSteps.cls = RX6 ∧ yX6_goSteps.cls ≠ "java/lang/invoke/MethodHandle" ∧ yX6_goSteps.cls ≠ "java/lang/invoke/VarHandle" ∧ (parseMethodDescriptor yX6_goSteps.desc).map (fun d => d.parameters.length) = some 1 := by decide +kernel
theorem hdX6_startAgain : yX6_startAgain.cls = RX6 ∧ yX6_startAgain.cls ≠ "java/lang/invoke/MethodHandle" ∧ yX6_startAgain.cls ≠ "java/lang/invoke/VarHandle" ∧ (parseMethodDescriptor yX6_startAgain.desc).map (fun d => d.parameters.length) = some 0 := by decide +kernel
theorem hdX0_tell : yX0_tell.cls = RX0 ∧ yX0_tell.cls ≠ "java/lang/invoke/MethodHandle" ∧ yX0_tell.cls ≠ "java/lang/invoke/VarHandle" ∧ (parseMethodDescriptor yX0_tell.desc).map (fun d => d.parameters.length) = some 1 := by decide +kernel
theorem hdX0_distance : yX0_distance.cls = RX0 ∧ yX0_distance.cls ≠ "java/lang/invoke/MethodHandle" ∧ yX0_distance.cls ≠ "java/lang/invoke/VarHandle" ∧ (parseMethodDescriptor yX0_distance.desc).map (fun d => d.parameters.length) = some 2 := by decide +kernel
theorem hdX5_holderOf : yX5_holderOf.cls = RX5 ∧ yX5_holderOf.cls ≠ "java/lang/invoke/MethodHandle" ∧ yX5_holderOf.cls ≠ "java/lang/invoke/VarHandle" ∧ (parseMethodDescriptor yX5_holderOf.desc).map (fun d => d.parameters.length) = some 2 := by decide +kernel
theorem hdX5_placeOf : yX5_placeOf.cls = RX5 ∧ yX5_placeOf.cls ≠ "java/lang/invoke/MethodHandle" ∧ yX5_placeOf.cls ≠ "java/lang/invoke/VarHandle" ∧ (parseMethodDescriptor yX5_placeOf.desc).map (fun d => d.parameters.length) = some 2 := by decide +kernel
theorem hdX5_arrived : yX5_arrived.cls = RX5 ∧ yX5_arrived.cls ≠ "java/lang/invoke/MethodHandle" ∧ yX5_arrived.cls ≠ "java/lang/invoke/VarHandle" ∧ (parseMethodDescriptor yX5_arrived.desc).map (fun d => d.parameters.length) = some 2 := by decide +kernel
theorem hdX5_channelsDown : yX5_channelsDown.cls = RX5 ∧ yX5_channelsDown.cls ≠ "java/lang/invoke/MethodHandle" ∧ yX5_channelsDown.cls ≠ "java/lang/invoke/VarHandle" ∧ (parseMethodDescriptor yX5_channelsDown.desc).map (fun d => d.parameters.length) = some 2 := by decide +kernel
theorem hdX6_hasWorm : yX6_hasWorm.cls = RX6 ∧ yX6_hasWorm.cls ≠ "java/lang/invoke/MethodHandle" ∧ yX6_hasWorm.cls ≠ "java/lang/invoke/VarHandle" ∧ (parseMethodDescriptor yX6_hasWorm.desc).map (fun d => d.parameters.length) = some 2 := by decide +kernel
theorem hdX6_wormFact : yX6_wormFact.cls = RX6 ∧ yX6_wormFact.cls ≠ "java/lang/invoke/MethodHandle" ∧ yX6_wormFact.cls ≠ "java/lang/invoke/VarHandle" ∧ (parseMethodDescriptor yX6_wormFact.desc).map (fun d => d.parameters.length) = some 2 := by decide +kernel
theorem hdX5_goalOf : yX5_goalOf.cls = RX5 ∧ yX5_goalOf.cls ≠ "java/lang/invoke/MethodHandle" ∧ yX5_goalOf.cls ≠ "java/lang/invoke/VarHandle" ∧ (parseMethodDescriptor yX5_goalOf.desc).map (fun d => d.parameters.length) = some 3 := by decide +kernel
theorem hdX0_xOf : yX0_xOf.cls = RX0 ∧ yX0_xOf.cls ≠ "java/lang/invoke/MethodHandle" ∧ yX0_xOf.cls ≠ "java/lang/invoke/VarHandle" ∧ (parseMethodDescriptor yX0_xOf.desc).map (fun d => d.parameters.length) = some 1 := by decide +kernel
theorem hdX0_yOf : yX0_yOf.cls = RX0 ∧ yX0_yOf.cls ≠ "java/lang/invoke/MethodHandle" ∧ yX0_yOf.cls ≠ "java/lang/invoke/VarHandle" ∧ (parseMethodDescriptor yX0_yOf.desc).map (fun d => d.parameters.length) = some 1 := by decide +kernel
theorem hdX6_straightWays : yX6_straightWays.cls = RX6 ∧ yX6_straightWays.cls ≠ "java/lang/invoke/MethodHandle" ∧ yX6_straightWays.cls ≠ "java/lang/invoke/VarHandle" ∧ (parseMethodDescriptor yX6_straightWays.desc).map (fun d => d.parameters.length) = some 1 := by decide +kernel
theorem hdX6_messageFact : yX6_messageFact.cls = RX6 ∧ yX6_messageFact.cls ≠ "java/lang/invoke/MethodHandle" ∧ yX6_messageFact.cls ≠ "java/lang/invoke/VarHandle" ∧ (parseMethodDescriptor yX6_messageFact.desc).map (fun d => d.parameters.length) = some 2 := by decide +kernel
theorem hdX6_stepsUntilDone : yX6_stepsUntilDone.cls = RX6 ∧ yX6_stepsUntilDone.cls ≠ "java/lang/invoke/MethodHandle" ∧ yX6_stepsUntilDone.cls ≠ "java/lang/invoke/VarHandle" ∧ (parseMethodDescriptor yX6_stepsUntilDone.desc).map (fun d => d.parameters.length) = some 1 := by decide +kernel
theorem hdJ6_bitCount_0f7a4 : yJ6_bitCount_0f7a4.cls ≠ "java/lang/invoke/MethodHandle" ∧ yJ6_bitCount_0f7a4.cls ≠ "java/lang/invoke/VarHandle" ∧ (parseMethodDescriptor yJ6_bitCount_0f7a4.desc).map (fun d => d.parameters.length) = some 1 := by decide +kernel
theorem hdX2_channelsDown : yX2_channelsDown.cls = RX2 ∧ yX2_channelsDown.cls ≠ "java/lang/invoke/MethodHandle" ∧ yX2_channelsDown.cls ≠ "java/lang/invoke/VarHandle" ∧ (parseMethodDescriptor yX2_channelsDown.desc).map (fun d => d.parameters.length) = some 0 := by decide +kernel
theorem hdX5_channelsHeld : yX5_channelsHeld.cls = RX5 ∧ yX5_channelsHeld.cls ≠ "java/lang/invoke/MethodHandle" ∧ yX5_channelsHeld.cls ≠ "java/lang/invoke/VarHandle" ∧ (parseMethodDescriptor yX5_channelsHeld.desc).map (fun d => d.parameters.length) = some 1 := by decide +kernel
theorem hdX2_waitedInAll : yX2_waitedInAll.cls = RX2 ∧ yX2_waitedInAll.cls ≠ "java/lang/invoke/MethodHandle" ∧ yX2_waitedInAll.cls ≠ "java/lang/invoke/VarHandle" ∧ (parseMethodDescriptor yX2_waitedInAll.desc).map (fun d => d.parameters.length) = some 0 := by decide +kernel
theorem hdX6_messagesDone : yX6_messagesDone.cls = RX6 ∧ yX6_messagesDone.cls ≠ "java/lang/invoke/MethodHandle" ∧ yX6_messagesDone.cls ≠ "java/lang/invoke/VarHandle" ∧ (parseMethodDescriptor yX6_messagesDone.desc).map (fun d => d.parameters.length) = some 0 := by decide +kernel
theorem hdX6_countFact : yX6_countFact.cls = RX6 ∧ yX6_countFact.cls ≠ "java/lang/invoke/MethodHandle" ∧ yX6_countFact.cls ≠ "java/lang/invoke/VarHandle" ∧ (parseMethodDescriptor yX6_countFact.desc).map (fun d => d.parameters.length) = some 1 := by decide +kernel
theorem hdX3_add : yX3_add.cls = RX3 ∧ yX3_add.cls ≠ "java/lang/invoke/MethodHandle" ∧ yX3_add.cls ≠ "java/lang/invoke/VarHandle" ∧ (parseMethodDescriptor yX3_add.desc).map (fun d => d.parameters.length) = some 1 := by decide +kernel
theorem hdX3_size : yX3_size.cls = RX3 ∧ yX3_size.cls ≠ "java/lang/invoke/MethodHandle" ∧ yX3_size.cls ≠ "java/lang/invoke/VarHandle" ∧ (parseMethodDescriptor yX3_size.desc).map (fun d => d.parameters.length) = some 0 := by decide +kernel
theorem hdX3_empty : yX3_empty.cls = RX3 ∧ yX3_empty.cls ≠ "java/lang/invoke/MethodHandle" ∧ yX3_empty.cls ≠ "java/lang/invoke/VarHandle" ∧ (parseMethodDescriptor yX3_empty.desc).map (fun d => d.parameters.length) = some 0 := by decide +kernel
theorem hdX3_byteHere : yX3_byteHere.cls = RX3 ∧ yX3_byteHere.cls ≠ "java/lang/invoke/MethodHandle" ∧ yX3_byteHere.cls ≠ "java/lang/invoke/VarHandle" ∧ (parseMethodDescriptor yX3_byteHere.desc).map (fun d => d.parameters.length) = some 0 := by decide +kernel
theorem hdX3_isFigure : yX3_isFigure.cls ≠ "java/lang/invoke/MethodHandle" ∧ yX3_isFigure.cls ≠ "java/lang/invoke/VarHandle" ∧ (parseMethodDescriptor yX3_isFigure.desc).map (fun d => d.parameters.length) = some 1 := by decide +kernel
theorem hdX3_numbersDue : yX3_numbersDue.cls ≠ "java/lang/invoke/MethodHandle" ∧ yX3_numbersDue.cls ≠ "java/lang/invoke/VarHandle" ∧ (parseMethodDescriptor yX3_numbersDue.desc).map (fun d => d.parameters.length) = some 1 := by decide +kernel
theorem hdX3_passBlanks : yX3_passBlanks.cls = RX3 ∧ yX3_passBlanks.cls ≠ "java/lang/invoke/MethodHandle" ∧ yX3_passBlanks.cls ≠ "java/lang/invoke/VarHandle" ∧ (parseMethodDescriptor yX3_passBlanks.desc).map (fun d => d.parameters.length) = some 0 := by decide +kernel
theorem hdX3_readNumber : yX3_readNumber.cls = RX3 ∧ yX3_readNumber.cls ≠ "java/lang/invoke/MethodHandle" ∧ yX3_readNumber.cls ≠ "java/lang/invoke/VarHandle" ∧ (parseMethodDescriptor yX3_readNumber.desc).map (fun d => d.parameters.length) = some 1 := by decide +kernel
theorem hdX3_readOrder : yX3_readOrder.cls = RX3 ∧ yX3_readOrder.cls ≠ "java/lang/invoke/MethodHandle" ∧ yX3_readOrder.cls ≠ "java/lang/invoke/VarHandle" ∧ (parseMethodDescriptor yX3_readOrder.desc).map (fun d => d.parameters.length) = some 0 := by decide +kernel
theorem hdX3_read : yX3_read.cls = RX3 ∧ yX3_read.cls ≠ "java/lang/invoke/MethodHandle" ∧ yX3_read.cls ≠ "java/lang/invoke/VarHandle" ∧ (parseMethodDescriptor yX3_read.desc).map (fun d => d.parameters.length) = some 0 := by decide +kernel
theorem hdX3_orders : yX3_orders.cls = RX3 ∧ yX3_orders.cls ≠ "java/lang/invoke/MethodHandle" ∧ yX3_orders.cls ≠ "java/lang/invoke/VarHandle" ∧ (parseMethodDescriptor yX3_orders.desc).map (fun d => d.parameters.length) = some 0 := by decide +kernel
theorem hdX3_letterOf : yX3_letterOf.cls = RX3 ∧ yX3_letterOf.cls ≠ "java/lang/invoke/MethodHandle" ∧ yX3_letterOf.cls ≠ "java/lang/invoke/VarHandle" ∧ (parseMethodDescriptor yX3_letterOf.desc).map (fun d => d.parameters.length) = some 1 := by decide +kernel
theorem hdX3_numberOf : yX3_numberOf.cls = RX3 ∧ yX3_numberOf.cls ≠ "java/lang/invoke/MethodHandle" ∧ yX3_numberOf.cls ≠ "java/lang/invoke/VarHandle" ∧ (parseMethodDescriptor yX3_numberOf.desc).map (fun d => d.parameters.length) = some 2 := by decide +kernel
theorem hdX6_perform : yX6_perform.cls = RX6 ∧ yX6_perform.cls ≠ "java/lang/invoke/MethodHandle" ∧ yX6_perform.cls ≠ "java/lang/invoke/VarHandle" ∧ (parseMethodDescriptor yX6_perform.desc).map (fun d => d.parameters.length) = some 4 := by decide +kernel
theorem hdX6_layAll : yX6_layAll.cls = RX6 ∧ yX6_layAll.cls ≠ "java/lang/invoke/MethodHandle" ∧ yX6_layAll.cls ≠ "java/lang/invoke/VarHandle" ∧ (parseMethodDescriptor yX6_layAll.desc).map (fun d => d.parameters.length) = some 0 := by decide +kernel
theorem hdX1_popInto : yX1_popInto.cls = RX1 ∧ yX1_popInto.cls ≠ "java/lang/invoke/MethodHandle" ∧ yX1_popInto.cls ≠ "java/lang/invoke/VarHandle" ∧ (parseMethodDescriptor yX1_popInto.desc).map (fun d => d.parameters.length) = some 1 := by decide +kernel
theorem hdX1_size : yX1_size.cls = RX1 ∧ yX1_size.cls ≠ "java/lang/invoke/MethodHandle" ∧ yX1_size.cls ≠ "java/lang/invoke/VarHandle" ∧ (parseMethodDescriptor yX1_size.desc).map (fun d => d.parameters.length) = some 0 := by decide +kernel
theorem hdX6_toldFact : yX6_toldFact.cls = RX6 ∧ yX6_toldFact.cls ≠ "java/lang/invoke/MethodHandle" ∧ yX6_toldFact.cls ≠ "java/lang/invoke/VarHandle" ∧ (parseMethodDescriptor yX6_toldFact.desc).map (fun d => d.parameters.length) = some 1 := by decide +kernel
theorem hdX6_digestMessage : yX6_digestMessage.cls = RX6 ∧ yX6_digestMessage.cls ≠ "java/lang/invoke/MethodHandle" ∧ yX6_digestMessage.cls ≠ "java/lang/invoke/VarHandle" ∧ (parseMethodDescriptor yX6_digestMessage.desc).map (fun d => d.parameters.length) = some 2 := by decide +kernel
end
