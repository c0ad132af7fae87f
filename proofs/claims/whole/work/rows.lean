section
-- ===== PART A: goes FIRST, ahead of the names: the tables' words, and 'selects' of the private methods out of them =====
/-- a private method of a class that the tables say can be made, by its rows of tables_1 -/
def lw_okq (q : MethodName × Nat) : Prop := (q.1.cls ≠ "java/lang/invoke/MethodHandle" ∧ q.1.cls ≠ "java/lang/invoke/VarHandle") ∧ Cond.instantiable q.1.cls q.2 ∈ tables_1 ∧ Cond.privateMethod q.1 ∈ tables_1 ∧ Cond.instanceMethod q.1 ∈ tables_1
theorem lw_p0 : lw_okq (⟨"RunCuts$Page", "countProcesses", "()I"⟩, 2) := ⟨⟨by decide +kernel, by decide +kernel⟩, List.mem_of_getElem? (i := 24) (by decide +kernel), List.mem_of_getElem? (i := 352) (by decide +kernel), List.mem_of_getElem? (i := 353) (by decide +kernel)⟩
theorem lw_p1 : lw_okq (⟨"RunCuts$Events", "pairMessages", "()Z"⟩, 10) := ⟨⟨by decide +kernel, by decide +kernel⟩, List.mem_of_getElem? (i := 40) (by decide +kernel), List.mem_of_getElem? (i := 380) (by decide +kernel), List.mem_of_getElem? (i := 381) (by decide +kernel)⟩
theorem lw_p2 : lw_okq (⟨"RunCuts$Events", "pairReceive", "(II)Z"⟩, 10) := ⟨⟨by decide +kernel, by decide +kernel⟩, List.mem_of_getElem? (i := 40) (by decide +kernel), List.mem_of_getElem? (i := 384) (by decide +kernel), List.mem_of_getElem? (i := 385) (by decide +kernel)⟩
theorem lw_p3 : lw_okq (⟨"RunCuts$Events", "findVectors", "()Z"⟩, 10) := ⟨⟨by decide +kernel, by decide +kernel⟩, List.mem_of_getElem? (i := 40) (by decide +kernel), List.mem_of_getElem? (i := 388) (by decide +kernel), List.mem_of_getElem? (i := 389) (by decide +kernel)⟩
theorem lw_p4 : lw_okq (⟨"RunCuts$Events", "findVector", "(II)V"⟩, 10) := ⟨⟨by decide +kernel, by decide +kernel⟩, List.mem_of_getElem? (i := 40) (by decide +kernel), List.mem_of_getElem? (i := 409) (by decide +kernel), List.mem_of_getElem? (i := 410) (by decide +kernel)⟩
theorem lw_p5 : lw_okq (⟨"RunCuts$Events", "followProcess", "(I)V"⟩, 10) := ⟨⟨by decide +kernel, by decide +kernel⟩, List.mem_of_getElem? (i := 40) (by decide +kernel), List.mem_of_getElem? (i := 420) (by decide +kernel), List.mem_of_getElem? (i := 421) (by decide +kernel)⟩
theorem lw_p6 : lw_okq (⟨"RunCuts", "forgetResults", "()V"⟩, 12) := ⟨⟨by decide +kernel, by decide +kernel⟩, List.mem_of_getElem? (i := 16) (by decide +kernel), List.mem_of_getElem? (i := 429) (by decide +kernel), List.mem_of_getElem? (i := 430) (by decide +kernel)⟩
theorem lw_p7 : lw_okq (⟨"RunCuts", "forgetSearches", "()V"⟩, 12) := ⟨⟨by decide +kernel, by decide +kernel⟩, List.mem_of_getElem? (i := 16) (by decide +kernel), List.mem_of_getElem? (i := 433) (by decide +kernel), List.mem_of_getElem? (i := 434) (by decide +kernel)⟩
theorem lw_p8 : lw_okq (⟨"RunCuts", "grow", "(III)I"⟩, 12) := ⟨⟨by decide +kernel, by decide +kernel⟩, List.mem_of_getElem? (i := 16) (by decide +kernel), List.mem_of_getElem? (i := 450) (by decide +kernel), List.mem_of_getElem? (i := 451) (by decide +kernel)⟩
theorem lw_p9 : lw_okq (⟨"RunCuts", "hasComputation", "()Z"⟩, 12) := ⟨⟨by decide +kernel, by decide +kernel⟩, List.mem_of_getElem? (i := 16) (by decide +kernel), List.mem_of_getElem? (i := 504) (by decide +kernel), List.mem_of_getElem? (i := 505) (by decide +kernel)⟩
theorem lw_p10 : lw_okq (⟨"RunCuts$Events", "hasPastIn", "(II)Z"⟩, 10) := ⟨⟨by decide +kernel, by decide +kernel⟩, List.mem_of_getElem? (i := 40) (by decide +kernel), List.mem_of_getElem? (i := 516) (by decide +kernel), List.mem_of_getElem? (i := 517) (by decide +kernel)⟩
theorem lw_p11 : lw_okq (⟨"RunCuts$Lattice", "numberPlaces", "(LRunCuts$Events;)V"⟩, 10) := ⟨⟨by decide +kernel, by decide +kernel⟩, List.mem_of_getElem? (i := 93) (by decide +kernel), List.mem_of_getElem? (i := 527) (by decide +kernel), List.mem_of_getElem? (i := 528) (by decide +kernel)⟩
theorem lw_p12 : lw_okq (⟨"RunCuts$Lattice", "countPathsTo", "(LRunCuts$Events;)V"⟩, 10) := ⟨⟨by decide +kernel, by decide +kernel⟩, List.mem_of_getElem? (i := 93) (by decide +kernel), List.mem_of_getElem? (i := 532) (by decide +kernel), List.mem_of_getElem? (i := 533) (by decide +kernel)⟩
theorem lw_p13 : lw_okq (⟨"RunCuts$Lattice", "countPathsFrom", "(LRunCuts$Events;)V"⟩, 10) := ⟨⟨by decide +kernel, by decide +kernel⟩, List.mem_of_getElem? (i := 93) (by decide +kernel), List.mem_of_getElem? (i := 538) (by decide +kernel), List.mem_of_getElem? (i := 539) (by decide +kernel)⟩
theorem lw_p14 : lw_okq (⟨"RunCuts$Lattice", "sortByLevel", "()V"⟩, 10) := ⟨⟨by decide +kernel, by decide +kernel⟩, List.mem_of_getElem? (i := 93) (by decide +kernel), List.mem_of_getElem? (i := 542) (by decide +kernel), List.mem_of_getElem? (i := 543) (by decide +kernel)⟩
theorem lw_p15 : lw_okq (⟨"RunCuts", "cutProperty", "(II)I"⟩, 12) := ⟨⟨by decide +kernel, by decide +kernel⟩, List.mem_of_getElem? (i := 16) (by decide +kernel), List.mem_of_getElem? (i := 547) (by decide +kernel), List.mem_of_getElem? (i := 548) (by decide +kernel)⟩
def lw_privs_1 : List (MethodName × Nat) := [(⟨"RunCuts$Page", "countProcesses", "()I"⟩, 2), (⟨"RunCuts$Events", "pairMessages", "()Z"⟩, 10), (⟨"RunCuts$Events", "pairReceive", "(II)Z"⟩, 10), (⟨"RunCuts$Events", "findVectors", "()Z"⟩, 10), (⟨"RunCuts$Events", "findVector", "(II)V"⟩, 10), (⟨"RunCuts$Events", "followProcess", "(I)V"⟩, 10), (⟨"RunCuts", "forgetResults", "()V"⟩, 12), (⟨"RunCuts", "forgetSearches", "()V"⟩, 12), (⟨"RunCuts", "grow", "(III)I"⟩, 12), (⟨"RunCuts", "hasComputation", "()Z"⟩, 12), (⟨"RunCuts$Events", "hasPastIn", "(II)Z"⟩, 10), (⟨"RunCuts$Lattice", "numberPlaces", "(LRunCuts$Events;)V"⟩, 10), (⟨"RunCuts$Lattice", "countPathsTo", "(LRunCuts$Events;)V"⟩, 10), (⟨"RunCuts$Lattice", "countPathsFrom", "(LRunCuts$Events;)V"⟩, 10), (⟨"RunCuts$Lattice", "sortByLevel", "()V"⟩, 10), (⟨"RunCuts", "cutProperty", "(II)I"⟩, 12)]
theorem lw_r1 : ∀ q ∈ lw_privs_1, lw_okq q := List.forall_mem_cons.mpr ⟨lw_p0, List.forall_mem_cons.mpr ⟨lw_p1, List.forall_mem_cons.mpr ⟨lw_p2, List.forall_mem_cons.mpr ⟨lw_p3, List.forall_mem_cons.mpr ⟨lw_p4, List.forall_mem_cons.mpr ⟨lw_p5, List.forall_mem_cons.mpr ⟨lw_p6, List.forall_mem_cons.mpr ⟨lw_p7, List.forall_mem_cons.mpr ⟨lw_p8, List.forall_mem_cons.mpr ⟨lw_p9, List.forall_mem_cons.mpr ⟨lw_p10, List.forall_mem_cons.mpr ⟨lw_p11, List.forall_mem_cons.mpr ⟨lw_p12, List.forall_mem_cons.mpr ⟨lw_p13, List.forall_mem_cons.mpr ⟨lw_p14, List.forall_mem_cons.mpr ⟨lw_p15, fun _ h => absurd h List.not_mem_nil⟩⟩⟩⟩⟩⟩⟩⟩⟩⟩⟩⟩⟩⟩⟩⟩
theorem lw_p16 : lw_okq (⟨"RunCuts$Predicate", "allowsAll", "(LRunCuts$Events;I)Z"⟩, 3) := ⟨⟨by decide +kernel, by decide +kernel⟩, List.mem_of_getElem? (i := 140) (by decide +kernel), List.mem_of_getElem? (i := 555) (by decide +kernel), List.mem_of_getElem? (i := 556) (by decide +kernel)⟩
theorem lw_p17 : lw_okq (⟨"RunCuts", "refusePair", "(II)I"⟩, 12) := ⟨⟨by decide +kernel, by decide +kernel⟩, List.mem_of_getElem? (i := 16) (by decide +kernel), List.mem_of_getElem? (i := 605) (by decide +kernel), List.mem_of_getElem? (i := 606) (by decide +kernel)⟩
theorem lw_p18 : lw_okq (⟨"RunCuts$Lattice", "widestLevel", "()I"⟩, 10) := ⟨⟨by decide +kernel, by decide +kernel⟩, List.mem_of_getElem? (i := 93) (by decide +kernel), List.mem_of_getElem? (i := 626) (by decide +kernel), List.mem_of_getElem? (i := 627) (by decide +kernel)⟩
theorem lw_p19 : lw_okq (⟨"RunCuts", "settleSearch", "()V"⟩, 12) := ⟨⟨by decide +kernel, by decide +kernel⟩, List.mem_of_getElem? (i := 16) (by decide +kernel), List.mem_of_getElem? (i := 655) (by decide +kernel), List.mem_of_getElem? (i := 656) (by decide +kernel)⟩
theorem lw_p20 : lw_okq (⟨"RunCuts$Search", "avoidingStep", "(LRunCuts$Events;LRunCuts$Lattice;I)I"⟩, 6) := ⟨⟨by decide +kernel, by decide +kernel⟩, List.mem_of_getElem? (i := 159) (by decide +kernel), List.mem_of_getElem? (i := 664) (by decide +kernel), List.mem_of_getElem? (i := 665) (by decide +kernel)⟩
theorem lw_p21 : lw_okq (⟨"RunCuts$Search", "findPath", "(LRunCuts$Events;LRunCuts$Lattice;)V"⟩, 6) := ⟨⟨by decide +kernel, by decide +kernel⟩, List.mem_of_getElem? (i := 159) (by decide +kernel), List.mem_of_getElem? (i := 669) (by decide +kernel), List.mem_of_getElem? (i := 670) (by decide +kernel)⟩
theorem lw_p22 : lw_okq (⟨"RunCuts", "hasConjunction", "()Z"⟩, 12) := ⟨⟨by decide +kernel, by decide +kernel⟩, List.mem_of_getElem? (i := 16) (by decide +kernel), List.mem_of_getElem? (i := 685) (by decide +kernel), List.mem_of_getElem? (i := 686) (by decide +kernel)⟩
theorem lw_p23 : lw_okq (⟨"RunCuts$Intervals", "begin", "(II)V"⟩, 4) := ⟨⟨by decide +kernel, by decide +kernel⟩, List.mem_of_getElem? (i := 189) (by decide +kernel), List.mem_of_getElem? (i := 707) (by decide +kernel), List.mem_of_getElem? (i := 708) (by decide +kernel)⟩
theorem lw_p24 : lw_okq (⟨"RunCuts$Intervals", "isStrongChoice", "(LRunCuts$Events;)Z"⟩, 4) := ⟨⟨by decide +kernel, by decide +kernel⟩, List.mem_of_getElem? (i := 189) (by decide +kernel), List.mem_of_getElem? (i := 715) (by decide +kernel), List.mem_of_getElem? (i := 716) (by decide +kernel)⟩
theorem lw_p25 : lw_okq (⟨"RunCuts$Intervals", "beginsBeforeEnd", "(LRunCuts$Events;II)Z"⟩, 4) := ⟨⟨by decide +kernel, by decide +kernel⟩, List.mem_of_getElem? (i := 189) (by decide +kernel), List.mem_of_getElem? (i := 719) (by decide +kernel), List.mem_of_getElem? (i := 720) (by decide +kernel)⟩
theorem lw_p26 : lw_okq (⟨"RunCuts$Intervals", "chooseNext", "(I)V"⟩, 4) := ⟨⟨by decide +kernel, by decide +kernel⟩, List.mem_of_getElem? (i := 189) (by decide +kernel), List.mem_of_getElem? (i := 732) (by decide +kernel), List.mem_of_getElem? (i := 733) (by decide +kernel)⟩
theorem lw_p27 : lw_okq (⟨"RunCuts$Snapshot", "clear", "()V"⟩, 9) := ⟨⟨by decide +kernel, by decide +kernel⟩, List.mem_of_getElem? (i := 248) (by decide +kernel), List.mem_of_getElem? (i := 808) (by decide +kernel), List.mem_of_getElem? (i := 809) (by decide +kernel)⟩
theorem lw_p28 : lw_okq (⟨"RunCuts$Snapshot", "pass", "(LRunCuts$Events;I)V"⟩, 9) := ⟨⟨by decide +kernel, by decide +kernel⟩, List.mem_of_getElem? (i := 248) (by decide +kernel), List.mem_of_getElem? (i := 813) (by decide +kernel), List.mem_of_getElem? (i := 814) (by decide +kernel)⟩
theorem lw_p29 : lw_okq (⟨"RunCuts$Snapshot", "note", "(LRunCuts$Events;I)V"⟩, 9) := ⟨⟨by decide +kernel, by decide +kernel⟩, List.mem_of_getElem? (i := 248) (by decide +kernel), List.mem_of_getElem? (i := 821) (by decide +kernel), List.mem_of_getElem? (i := 822) (by decide +kernel)⟩
theorem lw_p30 : lw_okq (⟨"RunCuts$Snapshot", "deliver", "(LRunCuts$Events;)V"⟩, 9) := ⟨⟨by decide +kernel, by decide +kernel⟩, List.mem_of_getElem? (i := 248) (by decide +kernel), List.mem_of_getElem? (i := 826) (by decide +kernel), List.mem_of_getElem? (i := 827) (by decide +kernel)⟩
theorem lw_p31 : lw_okq (⟨"RunCuts$Snapshot", "firstMarker", "(Z)I"⟩, 9) := ⟨⟨by decide +kernel, by decide +kernel⟩, List.mem_of_getElem? (i := 248) (by decide +kernel), List.mem_of_getElem? (i := 830) (by decide +kernel), List.mem_of_getElem? (i := 831) (by decide +kernel)⟩
def lw_privs_2 : List (MethodName × Nat) := [(⟨"RunCuts$Predicate", "allowsAll", "(LRunCuts$Events;I)Z"⟩, 3), (⟨"RunCuts", "refusePair", "(II)I"⟩, 12), (⟨"RunCuts$Lattice", "widestLevel", "()I"⟩, 10), (⟨"RunCuts", "settleSearch", "()V"⟩, 12), (⟨"RunCuts$Search", "avoidingStep", "(LRunCuts$Events;LRunCuts$Lattice;I)I"⟩, 6), (⟨"RunCuts$Search", "findPath", "(LRunCuts$Events;LRunCuts$Lattice;)V"⟩, 6), (⟨"RunCuts", "hasConjunction", "()Z"⟩, 12), (⟨"RunCuts$Intervals", "begin", "(II)V"⟩, 4), (⟨"RunCuts$Intervals", "isStrongChoice", "(LRunCuts$Events;)Z"⟩, 4), (⟨"RunCuts$Intervals", "beginsBeforeEnd", "(LRunCuts$Events;II)Z"⟩, 4), (⟨"RunCuts$Intervals", "chooseNext", "(I)V"⟩, 4), (⟨"RunCuts$Snapshot", "clear", "()V"⟩, 9), (⟨"RunCuts$Snapshot", "pass", "(LRunCuts$Events;I)V"⟩, 9), (⟨"RunCuts$Snapshot", "note", "(LRunCuts$Events;I)V"⟩, 9), (⟨"RunCuts$Snapshot", "deliver", "(LRunCuts$Events;)V"⟩, 9), (⟨"RunCuts$Snapshot", "firstMarker", "(Z)I"⟩, 9)]
theorem lw_r2 : ∀ q ∈ lw_privs_2, lw_okq q := List.forall_mem_cons.mpr ⟨lw_p16, List.forall_mem_cons.mpr ⟨lw_p17, List.forall_mem_cons.mpr ⟨lw_p18, List.forall_mem_cons.mpr ⟨lw_p19, List.forall_mem_cons.mpr ⟨lw_p20, List.forall_mem_cons.mpr ⟨lw_p21, List.forall_mem_cons.mpr ⟨lw_p22, List.forall_mem_cons.mpr ⟨lw_p23, List.forall_mem_cons.mpr ⟨lw_p24, List.forall_mem_cons.mpr ⟨lw_p25, List.forall_mem_cons.mpr ⟨lw_p26, List.forall_mem_cons.mpr ⟨lw_p27, List.forall_mem_cons.mpr ⟨lw_p28, List.forall_mem_cons.mpr ⟨lw_p29, List.forall_mem_cons.mpr ⟨lw_p30, List.forall_mem_cons.mpr ⟨lw_p31, fun _ h => absurd h List.not_mem_nil⟩⟩⟩⟩⟩⟩⟩⟩⟩⟩⟩⟩⟩⟩⟩⟩
theorem lw_p32 : lw_okq (⟨"RunCuts$Snapshot", "arrive", "(LRunCuts$Events;I)V"⟩, 9) := ⟨⟨by decide +kernel, by decide +kernel⟩, List.mem_of_getElem? (i := 248) (by decide +kernel), List.mem_of_getElem? (i := 834) (by decide +kernel), List.mem_of_getElem? (i := 835) (by decide +kernel)⟩
theorem lw_p33 : lw_okq (⟨"RunCuts$Snapshot", "forceLeft", "(LRunCuts$Events;)V"⟩, 9) := ⟨⟨by decide +kernel, by decide +kernel⟩, List.mem_of_getElem? (i := 248) (by decide +kernel), List.mem_of_getElem? (i := 838) (by decide +kernel), List.mem_of_getElem? (i := 839) (by decide +kernel)⟩
theorem lw_p34 : lw_okq (⟨"RunCuts", "mixEvents", "(J)J"⟩, 12) := ⟨⟨by decide +kernel, by decide +kernel⟩, List.mem_of_getElem? (i := 16) (by decide +kernel), List.mem_of_getElem? (i := 863) (by decide +kernel), List.mem_of_getElem? (i := 864) (by decide +kernel)⟩
theorem lw_p35 : lw_okq (⟨"RunCuts", "mixCuts", "(J)J"⟩, 12) := ⟨⟨by decide +kernel, by decide +kernel⟩, List.mem_of_getElem? (i := 16) (by decide +kernel), List.mem_of_getElem? (i := 871) (by decide +kernel), List.mem_of_getElem? (i := 872) (by decide +kernel)⟩
theorem lw_p36 : lw_okq (⟨"RunCuts", "mixSearch", "(J)J"⟩, 12) := ⟨⟨by decide +kernel, by decide +kernel⟩, List.mem_of_getElem? (i := 16) (by decide +kernel), List.mem_of_getElem? (i := 875) (by decide +kernel), List.mem_of_getElem? (i := 876) (by decide +kernel)⟩
theorem lw_p37 : lw_okq (⟨"RunCuts", "mixConjunction", "(J)J"⟩, 12) := ⟨⟨by decide +kernel, by decide +kernel⟩, List.mem_of_getElem? (i := 16) (by decide +kernel), List.mem_of_getElem? (i := 879) (by decide +kernel), List.mem_of_getElem? (i := 880) (by decide +kernel)⟩
theorem lw_p38 : lw_okq (⟨"RunCutsModel", "read", "()I"⟩, 45) := ⟨⟨by decide +kernel, by decide +kernel⟩, List.mem_of_getElem? (i := 884) (by decide +kernel), List.mem_of_getElem? (i := 1041) (by decide +kernel), List.mem_of_getElem? (i := 1042) (by decide +kernel)⟩
theorem lw_p39 : lw_okq (⟨"RunCutsModel", "takes", "(I)Z"⟩, 45) := ⟨⟨by decide +kernel, by decide +kernel⟩, List.mem_of_getElem? (i := 884) (by decide +kernel), List.mem_of_getElem? (i := 1045) (by decide +kernel), List.mem_of_getElem? (i := 1046) (by decide +kernel)⟩
theorem lw_p40 : lw_okq (⟨"RunCutsModel", "takesEvent", "(II)Z"⟩, 45) := ⟨⟨by decide +kernel, by decide +kernel⟩, List.mem_of_getElem? (i := 884) (by decide +kernel), List.mem_of_getElem? (i := 1049) (by decide +kernel), List.mem_of_getElem? (i := 1050) (by decide +kernel)⟩
theorem lw_p41 : lw_okq (⟨"RunCutsModel", "areOthers", "()Z"⟩, 45) := ⟨⟨by decide +kernel, by decide +kernel⟩, List.mem_of_getElem? (i := 884) (by decide +kernel), List.mem_of_getElem? (i := 1057) (by decide +kernel), List.mem_of_getElem? (i := 1058) (by decide +kernel)⟩
theorem lw_p42 : lw_okq (⟨"RunCutsModel", "isOrdered", "()Z"⟩, 45) := ⟨⟨by decide +kernel, by decide +kernel⟩, List.mem_of_getElem? (i := 884) (by decide +kernel), List.mem_of_getElem? (i := 1061) (by decide +kernel), List.mem_of_getElem? (i := 1062) (by decide +kernel)⟩
theorem lw_p43 : lw_okq (⟨"RunCutsModel", "canComeNew", "(I)Z"⟩, 45) := ⟨⟨by decide +kernel, by decide +kernel⟩, List.mem_of_getElem? (i := 884) (by decide +kernel), List.mem_of_getElem? (i := 1065) (by decide +kernel), List.mem_of_getElem? (i := 1066) (by decide +kernel)⟩
theorem lw_p44 : lw_okq (⟨"RunCutsModel", "newOf", "(IIII)I"⟩, 45) := ⟨⟨by decide +kernel, by decide +kernel⟩, List.mem_of_getElem? (i := 884) (by decide +kernel), List.mem_of_getElem? (i := 1069) (by decide +kernel), List.mem_of_getElem? (i := 1070) (by decide +kernel)⟩
theorem lw_p45 : lw_okq (⟨"RunCutsModel", "changes", "()V"⟩, 45) := ⟨⟨by decide +kernel, by decide +kernel⟩, List.mem_of_getElem? (i := 884) (by decide +kernel), List.mem_of_getElem? (i := 1073) (by decide +kernel), List.mem_of_getElem? (i := 1074) (by decide +kernel)⟩
theorem lw_p46 : lw_okq (⟨"RunCutsModel", "layPartners", "()V"⟩, 45) := ⟨⟨by decide +kernel, by decide +kernel⟩, List.mem_of_getElem? (i := 884) (by decide +kernel), List.mem_of_getElem? (i := 1077) (by decide +kernel), List.mem_of_getElem? (i := 1078) (by decide +kernel)⟩
theorem lw_p47 : lw_okq (⟨"RunCutsModel", "of", "(IIII)I"⟩, 45) := ⟨⟨by decide +kernel, by decide +kernel⟩, List.mem_of_getElem? (i := 884) (by decide +kernel), List.mem_of_getElem? (i := 1081) (by decide +kernel), List.mem_of_getElem? (i := 1082) (by decide +kernel)⟩
def lw_privs_3 : List (MethodName × Nat) := [(⟨"RunCuts$Snapshot", "arrive", "(LRunCuts$Events;I)V"⟩, 9), (⟨"RunCuts$Snapshot", "forceLeft", "(LRunCuts$Events;)V"⟩, 9), (⟨"RunCuts", "mixEvents", "(J)J"⟩, 12), (⟨"RunCuts", "mixCuts", "(J)J"⟩, 12), (⟨"RunCuts", "mixSearch", "(J)J"⟩, 12), (⟨"RunCuts", "mixConjunction", "(J)J"⟩, 12), (⟨"RunCutsModel", "read", "()I"⟩, 45), (⟨"RunCutsModel", "takes", "(I)Z"⟩, 45), (⟨"RunCutsModel", "takesEvent", "(II)Z"⟩, 45), (⟨"RunCutsModel", "areOthers", "()Z"⟩, 45), (⟨"RunCutsModel", "isOrdered", "()Z"⟩, 45), (⟨"RunCutsModel", "canComeNew", "(I)Z"⟩, 45), (⟨"RunCutsModel", "newOf", "(IIII)I"⟩, 45), (⟨"RunCutsModel", "changes", "()V"⟩, 45), (⟨"RunCutsModel", "layPartners", "()V"⟩, 45), (⟨"RunCutsModel", "of", "(IIII)I"⟩, 45)]
theorem lw_r3 : ∀ q ∈ lw_privs_3, lw_okq q := List.forall_mem_cons.mpr ⟨lw_p32, List.forall_mem_cons.mpr ⟨lw_p33, List.forall_mem_cons.mpr ⟨lw_p34, List.forall_mem_cons.mpr ⟨lw_p35, List.forall_mem_cons.mpr ⟨lw_p36, List.forall_mem_cons.mpr ⟨lw_p37, List.forall_mem_cons.mpr ⟨lw_p38, List.forall_mem_cons.mpr ⟨lw_p39, List.forall_mem_cons.mpr ⟨lw_p40, List.forall_mem_cons.mpr ⟨lw_p41, List.forall_mem_cons.mpr ⟨lw_p42, List.forall_mem_cons.mpr ⟨lw_p43, List.forall_mem_cons.mpr ⟨lw_p44, List.forall_mem_cons.mpr ⟨lw_p45, List.forall_mem_cons.mpr ⟨lw_p46, List.forall_mem_cons.mpr ⟨lw_p47, fun _ h => absurd h List.not_mem_nil⟩⟩⟩⟩⟩⟩⟩⟩⟩⟩⟩⟩⟩⟩⟩⟩
theorem lw_p48 : lw_okq (⟨"RunCutsModel", "nthOf", "(IIII)I"⟩, 45) := ⟨⟨by decide +kernel, by decide +kernel⟩, List.mem_of_getElem? (i := 884) (by decide +kernel), List.mem_of_getElem? (i := 1085) (by decide +kernel), List.mem_of_getElem? (i := 1086) (by decide +kernel)⟩
theorem lw_p49 : lw_okq (⟨"RunCutsModel", "layVectors", "()V"⟩, 45) := ⟨⟨by decide +kernel, by decide +kernel⟩, List.mem_of_getElem? (i := 884) (by decide +kernel), List.mem_of_getElem? (i := 1089) (by decide +kernel), List.mem_of_getElem? (i := 1090) (by decide +kernel)⟩
theorem lw_p50 : lw_okq (⟨"RunCutsModel", "layVector", "(II)V"⟩, 45) := ⟨⟨by decide +kernel, by decide +kernel⟩, List.mem_of_getElem? (i := 884) (by decide +kernel), List.mem_of_getElem? (i := 1093) (by decide +kernel), List.mem_of_getElem? (i := 1094) (by decide +kernel)⟩
theorem lw_p51 : lw_okq (⟨"RunCutsModel", "isProcess", "(I)Z"⟩, 45) := ⟨⟨by decide +kernel, by decide +kernel⟩, List.mem_of_getElem? (i := 884) (by decide +kernel), List.mem_of_getElem? (i := 1101) (by decide +kernel), List.mem_of_getElem? (i := 1102) (by decide +kernel)⟩
theorem lw_p52 : lw_okq (⟨"RunCutsModel", "isFull", "(I)Z"⟩, 45) := ⟨⟨by decide +kernel, by decide +kernel⟩, List.mem_of_getElem? (i := 884) (by decide +kernel), List.mem_of_getElem? (i := 1105) (by decide +kernel), List.mem_of_getElem? (i := 1106) (by decide +kernel)⟩
theorem lw_p53 : lw_okq (⟨"RunCutsModel", "eventsAll", "()I"⟩, 45) := ⟨⟨by decide +kernel, by decide +kernel⟩, List.mem_of_getElem? (i := 884) (by decide +kernel), List.mem_of_getElem? (i := 1109) (by decide +kernel), List.mem_of_getElem? (i := 1110) (by decide +kernel)⟩
theorem lw_p54 : lw_okq (⟨"RunCutsModel", "comes", "(III)I"⟩, 45) := ⟨⟨by decide +kernel, by decide +kernel⟩, List.mem_of_getElem? (i := 884) (by decide +kernel), List.mem_of_getElem? (i := 1113) (by decide +kernel), List.mem_of_getElem? (i := 1114) (by decide +kernel)⟩
theorem lw_p55 : lw_okq (⟨"RunCutsModel", "isEvent", "(II)Z"⟩, 45) := ⟨⟨by decide +kernel, by decide +kernel⟩, List.mem_of_getElem? (i := 884) (by decide +kernel), List.mem_of_getElem? (i := 1133) (by decide +kernel), List.mem_of_getElem? (i := 1134) (by decide +kernel)⟩
theorem lw_p56 : lw_okq (⟨"RunCutsModel", "eventNow", "(III)I"⟩, 45) := ⟨⟨by decide +kernel, by decide +kernel⟩, List.mem_of_getElem? (i := 884) (by decide +kernel), List.mem_of_getElem? (i := 1137) (by decide +kernel), List.mem_of_getElem? (i := 1138) (by decide +kernel)⟩
theorem lw_p57 : lw_okq (⟨"RunCutsModel", "orderNow", "(IIII)I"⟩, 45) := ⟨⟨by decide +kernel, by decide +kernel⟩, List.mem_of_getElem? (i := 884) (by decide +kernel), List.mem_of_getElem? (i := 1145) (by decide +kernel), List.mem_of_getElem? (i := 1146) (by decide +kernel)⟩
theorem lw_p58 : lw_okq (⟨"RunCutsModel", "isAhead", "(IIII)Z"⟩, 45) := ⟨⟨by decide +kernel, by decide +kernel⟩, List.mem_of_getElem? (i := 884) (by decide +kernel), List.mem_of_getElem? (i := 1149) (by decide +kernel), List.mem_of_getElem? (i := 1150) (by decide +kernel)⟩
theorem lw_p59 : lw_okq (⟨"RunCutsModel", "isRun", "()Z"⟩, 45) := ⟨⟨by decide +kernel, by decide +kernel⟩, List.mem_of_getElem? (i := 884) (by decide +kernel), List.mem_of_getElem? (i := 1157) (by decide +kernel), List.mem_of_getElem? (i := 1158) (by decide +kernel)⟩
theorem lw_p60 : lw_okq (⟨"RunCutsModel", "takesTold", "(I)Z"⟩, 45) := ⟨⟨by decide +kernel, by decide +kernel⟩, List.mem_of_getElem? (i := 884) (by decide +kernel), List.mem_of_getElem? (i := 1161) (by decide +kernel), List.mem_of_getElem? (i := 1162) (by decide +kernel)⟩
theorem lw_p61 : lw_okq (⟨"RunCutsModel", "isConsistent", "()Z"⟩, 45) := ⟨⟨by decide +kernel, by decide +kernel⟩, List.mem_of_getElem? (i := 884) (by decide +kernel), List.mem_of_getElem? (i := 1165) (by decide +kernel), List.mem_of_getElem? (i := 1166) (by decide +kernel)⟩
theorem lw_p62 : lw_okq (⟨"RunCutsModel", "cutNow", "(I)I"⟩, 45) := ⟨⟨by decide +kernel, by decide +kernel⟩, List.mem_of_getElem? (i := 884) (by decide +kernel), List.mem_of_getElem? (i := 1169) (by decide +kernel), List.mem_of_getElem? (i := 1170) (by decide +kernel)⟩
theorem lw_p63 : lw_okq (⟨"RunCutsModel", "indexNow", "()I"⟩, 45) := ⟨⟨by decide +kernel, by decide +kernel⟩, List.mem_of_getElem? (i := 884) (by decide +kernel), List.mem_of_getElem? (i := 1173) (by decide +kernel), List.mem_of_getElem? (i := 1174) (by decide +kernel)⟩
def lw_privs_4 : List (MethodName × Nat) := [(⟨"RunCutsModel", "nthOf", "(IIII)I"⟩, 45), (⟨"RunCutsModel", "layVectors", "()V"⟩, 45), (⟨"RunCutsModel", "layVector", "(II)V"⟩, 45), (⟨"RunCutsModel", "isProcess", "(I)Z"⟩, 45), (⟨"RunCutsModel", "isFull", "(I)Z"⟩, 45), (⟨"RunCutsModel", "eventsAll", "()I"⟩, 45), (⟨"RunCutsModel", "comes", "(III)I"⟩, 45), (⟨"RunCutsModel", "isEvent", "(II)Z"⟩, 45), (⟨"RunCutsModel", "eventNow", "(III)I"⟩, 45), (⟨"RunCutsModel", "orderNow", "(IIII)I"⟩, 45), (⟨"RunCutsModel", "isAhead", "(IIII)Z"⟩, 45), (⟨"RunCutsModel", "isRun", "()Z"⟩, 45), (⟨"RunCutsModel", "takesTold", "(I)Z"⟩, 45), (⟨"RunCutsModel", "isConsistent", "()Z"⟩, 45), (⟨"RunCutsModel", "cutNow", "(I)I"⟩, 45), (⟨"RunCutsModel", "indexNow", "()I"⟩, 45)]
theorem lw_r4 : ∀ q ∈ lw_privs_4, lw_okq q := List.forall_mem_cons.mpr ⟨lw_p48, List.forall_mem_cons.mpr ⟨lw_p49, List.forall_mem_cons.mpr ⟨lw_p50, List.forall_mem_cons.mpr ⟨lw_p51, List.forall_mem_cons.mpr ⟨lw_p52, List.forall_mem_cons.mpr ⟨lw_p53, List.forall_mem_cons.mpr ⟨lw_p54, List.forall_mem_cons.mpr ⟨lw_p55, List.forall_mem_cons.mpr ⟨lw_p56, List.forall_mem_cons.mpr ⟨lw_p57, List.forall_mem_cons.mpr ⟨lw_p58, List.forall_mem_cons.mpr ⟨lw_p59, List.forall_mem_cons.mpr ⟨lw_p60, List.forall_mem_cons.mpr ⟨lw_p61, List.forall_mem_cons.mpr ⟨lw_p62, List.forall_mem_cons.mpr ⟨lw_p63, fun _ h => absurd h List.not_mem_nil⟩⟩⟩⟩⟩⟩⟩⟩⟩⟩⟩⟩⟩⟩⟩⟩
theorem lw_p64 : lw_okq (⟨"RunCutsModel", "levelNow", "()I"⟩, 45) := ⟨⟨by decide +kernel, by decide +kernel⟩, List.mem_of_getElem? (i := 884) (by decide +kernel), List.mem_of_getElem? (i := 1177) (by decide +kernel), List.mem_of_getElem? (i := 1178) (by decide +kernel)⟩
theorem lw_p65 : lw_okq (⟨"RunCutsModel", "holds", "()Z"⟩, 45) := ⟨⟨by decide +kernel, by decide +kernel⟩, List.mem_of_getElem? (i := 884) (by decide +kernel), List.mem_of_getElem? (i := 1181) (by decide +kernel), List.mem_of_getElem? (i := 1182) (by decide +kernel)⟩
theorem lw_p66 : lw_okq (⟨"RunCutsModel", "areAllowed", "()Z"⟩, 45) := ⟨⟨by decide +kernel, by decide +kernel⟩, List.mem_of_getElem? (i := 884) (by decide +kernel), List.mem_of_getElem? (i := 1185) (by decide +kernel), List.mem_of_getElem? (i := 1186) (by decide +kernel)⟩
theorem lw_p67 : lw_okq (⟨"RunCutsModel", "isAllowed", "(II)Z"⟩, 45) := ⟨⟨by decide +kernel, by decide +kernel⟩, List.mem_of_getElem? (i := 884) (by decide +kernel), List.mem_of_getElem? (i := 1189) (by decide +kernel), List.mem_of_getElem? (i := 1190) (by decide +kernel)⟩
theorem lw_p68 : lw_okq (⟨"RunCutsModel", "valueOf", "(II)I"⟩, 45) := ⟨⟨by decide +kernel, by decide +kernel⟩, List.mem_of_getElem? (i := 884) (by decide +kernel), List.mem_of_getElem? (i := 1193) (by decide +kernel), List.mem_of_getElem? (i := 1194) (by decide +kernel)⟩
theorem lw_p69 : lw_okq (⟨"RunCutsModel", "sumOfValues", "()I"⟩, 45) := ⟨⟨by decide +kernel, by decide +kernel⟩, List.mem_of_getElem? (i := 884) (by decide +kernel), List.mem_of_getElem? (i := 1197) (by decide +kernel), List.mem_of_getElem? (i := 1198) (by decide +kernel)⟩
theorem lw_p70 : lw_okq (⟨"RunCutsModel", "underAll", "()I"⟩, 45) := ⟨⟨by decide +kernel, by decide +kernel⟩, List.mem_of_getElem? (i := 884) (by decide +kernel), List.mem_of_getElem? (i := 1201) (by decide +kernel), List.mem_of_getElem? (i := 1202) (by decide +kernel)⟩
theorem lw_p71 : lw_okq (⟨"RunCutsModel", "underOf", "(II)I"⟩, 45) := ⟨⟨by decide +kernel, by decide +kernel⟩, List.mem_of_getElem? (i := 884) (by decide +kernel), List.mem_of_getElem? (i := 1205) (by decide +kernel), List.mem_of_getElem? (i := 1206) (by decide +kernel)⟩
theorem lw_p72 : lw_okq (⟨"RunCutsModel", "spreadNow", "()I"⟩, 45) := ⟨⟨by decide +kernel, by decide +kernel⟩, List.mem_of_getElem? (i := 884) (by decide +kernel), List.mem_of_getElem? (i := 1209) (by decide +kernel), List.mem_of_getElem? (i := 1210) (by decide +kernel)⟩
theorem lw_p73 : lw_okq (⟨"RunCutsModel", "wayPart", "(II)I"⟩, 45) := ⟨⟨by decide +kernel, by decide +kernel⟩, List.mem_of_getElem? (i := 884) (by decide +kernel), List.mem_of_getElem? (i := 1213) (by decide +kernel), List.mem_of_getElem? (i := 1214) (by decide +kernel)⟩
theorem lw_p74 : lw_okq (⟨"RunCutsModel", "layCuts", "()V"⟩, 45) := ⟨⟨by decide +kernel, by decide +kernel⟩, List.mem_of_getElem? (i := 884) (by decide +kernel), List.mem_of_getElem? (i := 1217) (by decide +kernel), List.mem_of_getElem? (i := 1218) (by decide +kernel)⟩
theorem lw_p75 : lw_okq (⟨"RunCutsModel", "cutsAll", "()I"⟩, 45) := ⟨⟨by decide +kernel, by decide +kernel⟩, List.mem_of_getElem? (i := 884) (by decide +kernel), List.mem_of_getElem? (i := 1221) (by decide +kernel), List.mem_of_getElem? (i := 1222) (by decide +kernel)⟩
theorem lw_p76 : lw_okq (⟨"RunCutsModel", "take", "(I)V"⟩, 45) := ⟨⟨by decide +kernel, by decide +kernel⟩, List.mem_of_getElem? (i := 884) (by decide +kernel), List.mem_of_getElem? (i := 1225) (by decide +kernel), List.mem_of_getElem? (i := 1226) (by decide +kernel)⟩
theorem lw_p77 : lw_okq (⟨"RunCutsModel", "canGoOn", "(II)Z"⟩, 45) := ⟨⟨by decide +kernel, by decide +kernel⟩, List.mem_of_getElem? (i := 884) (by decide +kernel), List.mem_of_getElem? (i := 1229) (by decide +kernel), List.mem_of_getElem? (i := 1230) (by decide +kernel)⟩
theorem lw_p78 : lw_okq (⟨"RunCutsModel", "stride", "(I)I"⟩, 45) := ⟨⟨by decide +kernel, by decide +kernel⟩, List.mem_of_getElem? (i := 884) (by decide +kernel), List.mem_of_getElem? (i := 1233) (by decide +kernel), List.mem_of_getElem? (i := 1234) (by decide +kernel)⟩
theorem lw_p79 : lw_okq (⟨"RunCutsModel", "nextBits", "(I)I"⟩, 45) := ⟨⟨by decide +kernel, by decide +kernel⟩, List.mem_of_getElem? (i := 884) (by decide +kernel), List.mem_of_getElem? (i := 1237) (by decide +kernel), List.mem_of_getElem? (i := 1238) (by decide +kernel)⟩
def lw_privs_5 : List (MethodName × Nat) := [(⟨"RunCutsModel", "levelNow", "()I"⟩, 45), (⟨"RunCutsModel", "holds", "()Z"⟩, 45), (⟨"RunCutsModel", "areAllowed", "()Z"⟩, 45), (⟨"RunCutsModel", "isAllowed", "(II)Z"⟩, 45), (⟨"RunCutsModel", "valueOf", "(II)I"⟩, 45), (⟨"RunCutsModel", "sumOfValues", "()I"⟩, 45), (⟨"RunCutsModel", "underAll", "()I"⟩, 45), (⟨"RunCutsModel", "underOf", "(II)I"⟩, 45), (⟨"RunCutsModel", "spreadNow", "()I"⟩, 45), (⟨"RunCutsModel", "wayPart", "(II)I"⟩, 45), (⟨"RunCutsModel", "layCuts", "()V"⟩, 45), (⟨"RunCutsModel", "cutsAll", "()I"⟩, 45), (⟨"RunCutsModel", "take", "(I)V"⟩, 45), (⟨"RunCutsModel", "canGoOn", "(II)Z"⟩, 45), (⟨"RunCutsModel", "stride", "(I)I"⟩, 45), (⟨"RunCutsModel", "nextBits", "(I)I"⟩, 45)]
theorem lw_r5 : ∀ q ∈ lw_privs_5, lw_okq q := List.forall_mem_cons.mpr ⟨lw_p64, List.forall_mem_cons.mpr ⟨lw_p65, List.forall_mem_cons.mpr ⟨lw_p66, List.forall_mem_cons.mpr ⟨lw_p67, List.forall_mem_cons.mpr ⟨lw_p68, List.forall_mem_cons.mpr ⟨lw_p69, List.forall_mem_cons.mpr ⟨lw_p70, List.forall_mem_cons.mpr ⟨lw_p71, List.forall_mem_cons.mpr ⟨lw_p72, List.forall_mem_cons.mpr ⟨lw_p73, List.forall_mem_cons.mpr ⟨lw_p74, List.forall_mem_cons.mpr ⟨lw_p75, List.forall_mem_cons.mpr ⟨lw_p76, List.forall_mem_cons.mpr ⟨lw_p77, List.forall_mem_cons.mpr ⟨lw_p78, List.forall_mem_cons.mpr ⟨lw_p79, fun _ h => absurd h List.not_mem_nil⟩⟩⟩⟩⟩⟩⟩⟩⟩⟩⟩⟩⟩⟩⟩⟩
theorem lw_p80 : lw_okq (⟨"RunCutsModel", "mixed", "(IIZ)I"⟩, 45) := ⟨⟨by decide +kernel, by decide +kernel⟩, List.mem_of_getElem? (i := 884) (by decide +kernel), List.mem_of_getElem? (i := 1253) (by decide +kernel), List.mem_of_getElem? (i := 1254) (by decide +kernel)⟩
theorem lw_p81 : lw_okq (⟨"RunCutsModel", "toldNow", "()I"⟩, 45) := ⟨⟨by decide +kernel, by decide +kernel⟩, List.mem_of_getElem? (i := 884) (by decide +kernel), List.mem_of_getElem? (i := 1257) (by decide +kernel), List.mem_of_getElem? (i := 1258) (by decide +kernel)⟩
theorem lw_p82 : lw_okq (⟨"RunCutsModel", "latticeNow", "(I)I"⟩, 45) := ⟨⟨by decide +kernel, by decide +kernel⟩, List.mem_of_getElem? (i := 884) (by decide +kernel), List.mem_of_getElem? (i := 1269) (by decide +kernel), List.mem_of_getElem? (i := 1270) (by decide +kernel)⟩
theorem lw_p83 : lw_okq (⟨"RunCutsModel", "cutsMany", "()I"⟩, 45) := ⟨⟨by decide +kernel, by decide +kernel⟩, List.mem_of_getElem? (i := 884) (by decide +kernel), List.mem_of_getElem? (i := 1273) (by decide +kernel), List.mem_of_getElem? (i := 1274) (by decide +kernel)⟩
theorem lw_p84 : lw_okq (⟨"RunCutsModel", "widest", "()I"⟩, 45) := ⟨⟨by decide +kernel, by decide +kernel⟩, List.mem_of_getElem? (i := 884) (by decide +kernel), List.mem_of_getElem? (i := 1277) (by decide +kernel), List.mem_of_getElem? (i := 1278) (by decide +kernel)⟩
theorem lw_p85 : lw_okq (⟨"RunCutsModel", "cutsOf", "(I)I"⟩, 45) := ⟨⟨by decide +kernel, by decide +kernel⟩, List.mem_of_getElem? (i := 884) (by decide +kernel), List.mem_of_getElem? (i := 1281) (by decide +kernel), List.mem_of_getElem? (i := 1282) (by decide +kernel)⟩
theorem lw_p86 : lw_okq (⟨"RunCutsModel", "levelAt", "(II)I"⟩, 45) := ⟨⟨by decide +kernel, by decide +kernel⟩, List.mem_of_getElem? (i := 884) (by decide +kernel), List.mem_of_getElem? (i := 1289) (by decide +kernel), List.mem_of_getElem? (i := 1290) (by decide +kernel)⟩
theorem lw_p87 : lw_okq (⟨"RunCutsModel", "cutAt", "(II)I"⟩, 45) := ⟨⟨by decide +kernel, by decide +kernel⟩, List.mem_of_getElem? (i := 884) (by decide +kernel), List.mem_of_getElem? (i := 1293) (by decide +kernel), List.mem_of_getElem? (i := 1294) (by decide +kernel)⟩
theorem lw_p88 : lw_okq (⟨"RunCutsModel", "tellCut", "(I)I"⟩, 45) := ⟨⟨by decide +kernel, by decide +kernel⟩, List.mem_of_getElem? (i := 884) (by decide +kernel), List.mem_of_getElem? (i := 1297) (by decide +kernel), List.mem_of_getElem? (i := 1298) (by decide +kernel)⟩
theorem lw_p89 : lw_okq (⟨"RunCutsModel", "wishedNow", "(I)I"⟩, 45) := ⟨⟨by decide +kernel, by decide +kernel⟩, List.mem_of_getElem? (i := 884) (by decide +kernel), List.mem_of_getElem? (i := 1313) (by decide +kernel), List.mem_of_getElem? (i := 1314) (by decide +kernel)⟩
theorem lw_p90 : lw_okq (⟨"RunCutsModel", "heldMany", "()I"⟩, 45) := ⟨⟨by decide +kernel, by decide +kernel⟩, List.mem_of_getElem? (i := 884) (by decide +kernel), List.mem_of_getElem? (i := 1317) (by decide +kernel), List.mem_of_getElem? (i := 1318) (by decide +kernel)⟩
theorem lw_p91 : lw_okq (⟨"RunCutsModel", "heldFirst", "()I"⟩, 45) := ⟨⟨by decide +kernel, by decide +kernel⟩, List.mem_of_getElem? (i := 884) (by decide +kernel), List.mem_of_getElem? (i := 1321) (by decide +kernel), List.mem_of_getElem? (i := 1322) (by decide +kernel)⟩
theorem lw_p92 : lw_okq (⟨"RunCutsModel", "aroundNow", "(I)I"⟩, 45) := ⟨⟨by decide +kernel, by decide +kernel⟩, List.mem_of_getElem? (i := 884) (by decide +kernel), List.mem_of_getElem? (i := 1329) (by decide +kernel), List.mem_of_getElem? (i := 1330) (by decide +kernel)⟩
theorem lw_p93 : lw_okq (⟨"RunCutsModel", "isAll", "()Z"⟩, 45) := ⟨⟨by decide +kernel, by decide +kernel⟩, List.mem_of_getElem? (i := 884) (by decide +kernel), List.mem_of_getElem? (i := 1337) (by decide +kernel), List.mem_of_getElem? (i := 1338) (by decide +kernel)⟩
theorem lw_p94 : lw_okq (⟨"RunCutsModel", "leastNow", "()I"⟩, 45) := ⟨⟨by decide +kernel, by decide +kernel⟩, List.mem_of_getElem? (i := 884) (by decide +kernel), List.mem_of_getElem? (i := 1341) (by decide +kernel), List.mem_of_getElem? (i := 1342) (by decide +kernel)⟩
theorem lw_p95 : lw_okq (⟨"RunCutsModel", "beginOf", "(II)I"⟩, 45) := ⟨⟨by decide +kernel, by decide +kernel⟩, List.mem_of_getElem? (i := 884) (by decide +kernel), List.mem_of_getElem? (i := 1349) (by decide +kernel), List.mem_of_getElem? (i := 1350) (by decide +kernel)⟩
def lw_privs_6 : List (MethodName × Nat) := [(⟨"RunCutsModel", "mixed", "(IIZ)I"⟩, 45), (⟨"RunCutsModel", "toldNow", "()I"⟩, 45), (⟨"RunCutsModel", "latticeNow", "(I)I"⟩, 45), (⟨"RunCutsModel", "cutsMany", "()I"⟩, 45), (⟨"RunCutsModel", "widest", "()I"⟩, 45), (⟨"RunCutsModel", "cutsOf", "(I)I"⟩, 45), (⟨"RunCutsModel", "levelAt", "(II)I"⟩, 45), (⟨"RunCutsModel", "cutAt", "(II)I"⟩, 45), (⟨"RunCutsModel", "tellCut", "(I)I"⟩, 45), (⟨"RunCutsModel", "wishedNow", "(I)I"⟩, 45), (⟨"RunCutsModel", "heldMany", "()I"⟩, 45), (⟨"RunCutsModel", "heldFirst", "()I"⟩, 45), (⟨"RunCutsModel", "aroundNow", "(I)I"⟩, 45), (⟨"RunCutsModel", "isAll", "()Z"⟩, 45), (⟨"RunCutsModel", "leastNow", "()I"⟩, 45), (⟨"RunCutsModel", "beginOf", "(II)I"⟩, 45)]
theorem lw_r6 : ∀ q ∈ lw_privs_6, lw_okq q := List.forall_mem_cons.mpr ⟨lw_p80, List.forall_mem_cons.mpr ⟨lw_p81, List.forall_mem_cons.mpr ⟨lw_p82, List.forall_mem_cons.mpr ⟨lw_p83, List.forall_mem_cons.mpr ⟨lw_p84, List.forall_mem_cons.mpr ⟨lw_p85, List.forall_mem_cons.mpr ⟨lw_p86, List.forall_mem_cons.mpr ⟨lw_p87, List.forall_mem_cons.mpr ⟨lw_p88, List.forall_mem_cons.mpr ⟨lw_p89, List.forall_mem_cons.mpr ⟨lw_p90, List.forall_mem_cons.mpr ⟨lw_p91, List.forall_mem_cons.mpr ⟨lw_p92, List.forall_mem_cons.mpr ⟨lw_p93, List.forall_mem_cons.mpr ⟨lw_p94, List.forall_mem_cons.mpr ⟨lw_p95, fun _ h => absurd h List.not_mem_nil⟩⟩⟩⟩⟩⟩⟩⟩⟩⟩⟩⟩⟩⟩⟩⟩
theorem lw_p96 : lw_okq (⟨"RunCutsModel", "endOf", "(II)I"⟩, 45) := ⟨⟨by decide +kernel, by decide +kernel⟩, List.mem_of_getElem? (i := 884) (by decide +kernel), List.mem_of_getElem? (i := 1353) (by decide +kernel), List.mem_of_getElem? (i := 1354) (by decide +kernel)⟩
theorem lw_p97 : lw_okq (⟨"RunCutsModel", "strongNow", "()I"⟩, 45) := ⟨⟨by decide +kernel, by decide +kernel⟩, List.mem_of_getElem? (i := 884) (by decide +kernel), List.mem_of_getElem? (i := 1361) (by decide +kernel), List.mem_of_getElem? (i := 1362) (by decide +kernel)⟩
theorem lw_p98 : lw_okq (⟨"RunCutsModel", "intervals", "(I)I"⟩, 45) := ⟨⟨by decide +kernel, by decide +kernel⟩, List.mem_of_getElem? (i := 884) (by decide +kernel), List.mem_of_getElem? (i := 1365) (by decide +kernel), List.mem_of_getElem? (i := 1366) (by decide +kernel)⟩
theorem lw_p99 : lw_okq (⟨"RunCutsModel", "isOverlap", "()Z"⟩, 45) := ⟨⟨by decide +kernel, by decide +kernel⟩, List.mem_of_getElem? (i := 884) (by decide +kernel), List.mem_of_getElem? (i := 1369) (by decide +kernel), List.mem_of_getElem? (i := 1370) (by decide +kernel)⟩
theorem lw_p100 : lw_okq (⟨"RunCutsModel", "leanNow", "(I)I"⟩, 45) := ⟨⟨by decide +kernel, by decide +kernel⟩, List.mem_of_getElem? (i := 884) (by decide +kernel), List.mem_of_getElem? (i := 1377) (by decide +kernel), List.mem_of_getElem? (i := 1378) (by decide +kernel)⟩
theorem lw_p101 : lw_okq (⟨"RunCutsModel", "keep", "()V"⟩, 45) := ⟨⟨by decide +kernel, by decide +kernel⟩, List.mem_of_getElem? (i := 884) (by decide +kernel), List.mem_of_getElem? (i := 1381) (by decide +kernel), List.mem_of_getElem? (i := 1382) (by decide +kernel)⟩
theorem lw_p102 : lw_okq (⟨"RunCutsModel", "makeLean", "()V"⟩, 45) := ⟨⟨by decide +kernel, by decide +kernel⟩, List.mem_of_getElem? (i := 884) (by decide +kernel), List.mem_of_getElem? (i := 1385) (by decide +kernel), List.mem_of_getElem? (i := 1386) (by decide +kernel)⟩
theorem lw_p103 : lw_okq (⟨"RunCutsModel", "giveBack", "()V"⟩, 45) := ⟨⟨by decide +kernel, by decide +kernel⟩, List.mem_of_getElem? (i := 884) (by decide +kernel), List.mem_of_getElem? (i := 1389) (by decide +kernel), List.mem_of_getElem? (i := 1390) (by decide +kernel)⟩
theorem lw_p104 : lw_okq (⟨"RunCutsModel", "comesNext", "(Z)I"⟩, 45) := ⟨⟨by decide +kernel, by decide +kernel⟩, List.mem_of_getElem? (i := 884) (by decide +kernel), List.mem_of_getElem? (i := 1397) (by decide +kernel), List.mem_of_getElem? (i := 1398) (by decide +kernel)⟩
theorem lw_p105 : lw_okq (⟨"RunCutsModel", "canCome", "(I)Z"⟩, 45) := ⟨⟨by decide +kernel, by decide +kernel⟩, List.mem_of_getElem? (i := 884) (by decide +kernel), List.mem_of_getElem? (i := 1401) (by decide +kernel), List.mem_of_getElem? (i := 1402) (by decide +kernel)⟩
theorem lw_p106 : lw_okq (⟨"RunCutsModel", "drawOf", "(I)I"⟩, 45) := ⟨⟨by decide +kernel, by decide +kernel⟩, List.mem_of_getElem? (i := 884) (by decide +kernel), List.mem_of_getElem? (i := 1405) (by decide +kernel), List.mem_of_getElem? (i := 1406) (by decide +kernel)⟩
theorem lw_p107 : lw_okq (⟨"RunCutsModel", "shotNow", "(II)I"⟩, 45) := ⟨⟨by decide +kernel, by decide +kernel⟩, List.mem_of_getElem? (i := 884) (by decide +kernel), List.mem_of_getElem? (i := 1421) (by decide +kernel), List.mem_of_getElem? (i := 1422) (by decide +kernel)⟩
theorem lw_p108 : lw_okq (⟨"RunCutsModel", "notes", "(II)V"⟩, 45) := ⟨⟨by decide +kernel, by decide +kernel⟩, List.mem_of_getElem? (i := 884) (by decide +kernel), List.mem_of_getElem? (i := 1425) (by decide +kernel), List.mem_of_getElem? (i := 1426) (by decide +kernel)⟩
theorem lw_p109 : lw_okq (⟨"RunCutsModel", "markersCome", "(I)V"⟩, 45) := ⟨⟨by decide +kernel, by decide +kernel⟩, List.mem_of_getElem? (i := 884) (by decide +kernel), List.mem_of_getElem? (i := 1429) (by decide +kernel), List.mem_of_getElem? (i := 1430) (by decide +kernel)⟩
theorem lw_p110 : lw_okq (⟨"RunCutsModel", "nextMarker", "(Z)I"⟩, 45) := ⟨⟨by decide +kernel, by decide +kernel⟩, List.mem_of_getElem? (i := 884) (by decide +kernel), List.mem_of_getElem? (i := 1433) (by decide +kernel), List.mem_of_getElem? (i := 1434) (by decide +kernel)⟩
theorem lw_p111 : lw_okq (⟨"RunCutsModel", "markerComes", "(II)V"⟩, 45) := ⟨⟨by decide +kernel, by decide +kernel⟩, List.mem_of_getElem? (i := 884) (by decide +kernel), List.mem_of_getElem? (i := 1437) (by decide +kernel), List.mem_of_getElem? (i := 1438) (by decide +kernel)⟩
def lw_privs_7 : List (MethodName × Nat) := [(⟨"RunCutsModel", "endOf", "(II)I"⟩, 45), (⟨"RunCutsModel", "strongNow", "()I"⟩, 45), (⟨"RunCutsModel", "intervals", "(I)I"⟩, 45), (⟨"RunCutsModel", "isOverlap", "()Z"⟩, 45), (⟨"RunCutsModel", "leanNow", "(I)I"⟩, 45), (⟨"RunCutsModel", "keep", "()V"⟩, 45), (⟨"RunCutsModel", "makeLean", "()V"⟩, 45), (⟨"RunCutsModel", "giveBack", "()V"⟩, 45), (⟨"RunCutsModel", "comesNext", "(Z)I"⟩, 45), (⟨"RunCutsModel", "canCome", "(I)Z"⟩, 45), (⟨"RunCutsModel", "drawOf", "(I)I"⟩, 45), (⟨"RunCutsModel", "shotNow", "(II)I"⟩, 45), (⟨"RunCutsModel", "notes", "(II)V"⟩, 45), (⟨"RunCutsModel", "markersCome", "(I)V"⟩, 45), (⟨"RunCutsModel", "nextMarker", "(Z)I"⟩, 45), (⟨"RunCutsModel", "markerComes", "(II)V"⟩, 45)]
theorem lw_r7 : ∀ q ∈ lw_privs_7, lw_okq q := List.forall_mem_cons.mpr ⟨lw_p96, List.forall_mem_cons.mpr ⟨lw_p97, List.forall_mem_cons.mpr ⟨lw_p98, List.forall_mem_cons.mpr ⟨lw_p99, List.forall_mem_cons.mpr ⟨lw_p100, List.forall_mem_cons.mpr ⟨lw_p101, List.forall_mem_cons.mpr ⟨lw_p102, List.forall_mem_cons.mpr ⟨lw_p103, List.forall_mem_cons.mpr ⟨lw_p104, List.forall_mem_cons.mpr ⟨lw_p105, List.forall_mem_cons.mpr ⟨lw_p106, List.forall_mem_cons.mpr ⟨lw_p107, List.forall_mem_cons.mpr ⟨lw_p108, List.forall_mem_cons.mpr ⟨lw_p109, List.forall_mem_cons.mpr ⟨lw_p110, List.forall_mem_cons.mpr ⟨lw_p111, fun _ h => absurd h List.not_mem_nil⟩⟩⟩⟩⟩⟩⟩⟩⟩⟩⟩⟩⟩⟩⟩⟩
theorem lw_p112 : lw_okq (⟨"RunCutsModel", "shotsNow", "(I)I"⟩, 45) := ⟨⟨by decide +kernel, by decide +kernel⟩, List.mem_of_getElem? (i := 884) (by decide +kernel), List.mem_of_getElem? (i := 1445) (by decide +kernel), List.mem_of_getElem? (i := 1446) (by decide +kernel)⟩
theorem lw_p113 : lw_okq (⟨"RunCutsModel", "howMany", "(I)I"⟩, 45) := ⟨⟨by decide +kernel, by decide +kernel⟩, List.mem_of_getElem? (i := 884) (by decide +kernel), List.mem_of_getElem? (i := 1453) (by decide +kernel), List.mem_of_getElem? (i := 1454) (by decide +kernel)⟩
theorem lw_p114 : lw_okq (⟨"RunCutsModel", "eventsOf", "(I)I"⟩, 45) := ⟨⟨by decide +kernel, by decide +kernel⟩, List.mem_of_getElem? (i := 884) (by decide +kernel), List.mem_of_getElem? (i := 1457) (by decide +kernel), List.mem_of_getElem? (i := 1458) (by decide +kernel)⟩
theorem lw_p115 : lw_okq (⟨"RunCutsModel", "mixEvents", "()V"⟩, 45) := ⟨⟨by decide +kernel, by decide +kernel⟩, List.mem_of_getElem? (i := 884) (by decide +kernel), List.mem_of_getElem? (i := 1466) (by decide +kernel), List.mem_of_getElem? (i := 1467) (by decide +kernel)⟩
theorem lw_p116 : lw_okq (⟨"RunCutsModel", "mix", "(J)V"⟩, 45) := ⟨⟨by decide +kernel, by decide +kernel⟩, List.mem_of_getElem? (i := 884) (by decide +kernel), List.mem_of_getElem? (i := 1470) (by decide +kernel), List.mem_of_getElem? (i := 1471) (by decide +kernel)⟩
theorem lw_p117 : lw_okq (⟨"RunCutsModel", "mixCuts", "()V"⟩, 45) := ⟨⟨by decide +kernel, by decide +kernel⟩, List.mem_of_getElem? (i := 884) (by decide +kernel), List.mem_of_getElem? (i := 1475) (by decide +kernel), List.mem_of_getElem? (i := 1476) (by decide +kernel)⟩
theorem lw_p118 : lw_okq (⟨"RunCutsModel", "mixCut", "(I)V"⟩, 45) := ⟨⟨by decide +kernel, by decide +kernel⟩, List.mem_of_getElem? (i := 884) (by decide +kernel), List.mem_of_getElem? (i := 1479) (by decide +kernel), List.mem_of_getElem? (i := 1480) (by decide +kernel)⟩
theorem lw_p119 : lw_okq (⟨"RunCutsModel", "mixAll", "()V"⟩, 45) := ⟨⟨by decide +kernel, by decide +kernel⟩, List.mem_of_getElem? (i := 884) (by decide +kernel), List.mem_of_getElem? (i := 1483) (by decide +kernel), List.mem_of_getElem? (i := 1484) (by decide +kernel)⟩
theorem lw_p120 : lw_okq (⟨"RunCutsModel", "mixPlayed", "()V"⟩, 45) := ⟨⟨by decide +kernel, by decide +kernel⟩, List.mem_of_getElem? (i := 884) (by decide +kernel), List.mem_of_getElem? (i := 1487) (by decide +kernel), List.mem_of_getElem? (i := 1488) (by decide +kernel)⟩
def lw_privs_8 : List (MethodName × Nat) := [(⟨"RunCutsModel", "shotsNow", "(I)I"⟩, 45), (⟨"RunCutsModel", "howMany", "(I)I"⟩, 45), (⟨"RunCutsModel", "eventsOf", "(I)I"⟩, 45), (⟨"RunCutsModel", "mixEvents", "()V"⟩, 45), (⟨"RunCutsModel", "mix", "(J)V"⟩, 45), (⟨"RunCutsModel", "mixCuts", "()V"⟩, 45), (⟨"RunCutsModel", "mixCut", "(I)V"⟩, 45), (⟨"RunCutsModel", "mixAll", "()V"⟩, 45), (⟨"RunCutsModel", "mixPlayed", "()V"⟩, 45)]
theorem lw_r8 : ∀ q ∈ lw_privs_8, lw_okq q := List.forall_mem_cons.mpr ⟨lw_p112, List.forall_mem_cons.mpr ⟨lw_p113, List.forall_mem_cons.mpr ⟨lw_p114, List.forall_mem_cons.mpr ⟨lw_p115, List.forall_mem_cons.mpr ⟨lw_p116, List.forall_mem_cons.mpr ⟨lw_p117, List.forall_mem_cons.mpr ⟨lw_p118, List.forall_mem_cons.mpr ⟨lw_p119, List.forall_mem_cons.mpr ⟨lw_p120, fun _ h => absurd h List.not_mem_nil⟩⟩⟩⟩⟩⟩⟩⟩⟩
def lw_privs : List (MethodName × Nat) := lw_privs_1 ++ (lw_privs_2 ++ (lw_privs_3 ++ (lw_privs_4 ++ (lw_privs_5 ++ (lw_privs_6 ++ (lw_privs_7 ++ (lw_privs_8)))))))
def lw_tbl : List Cond := k2_sels lw_privs ++ tables_1
theorem lw_privs_ok : ∀ q ∈ lw_privs, lw_okq q := by
  show ∀ q ∈ lw_privs_1 ++ (lw_privs_2 ++ (lw_privs_3 ++ (lw_privs_4 ++ (lw_privs_5 ++ (lw_privs_6 ++ (lw_privs_7 ++ (lw_privs_8))))))), lw_okq q
  exact List.forall_mem_append.mpr ⟨lw_r1, List.forall_mem_append.mpr ⟨lw_r2, List.forall_mem_append.mpr ⟨lw_r3, List.forall_mem_append.mpr ⟨lw_r4, List.forall_mem_append.mpr ⟨lw_r5, List.forall_mem_append.mpr ⟨lw_r6, List.forall_mem_append.mpr ⟨lw_r7, lw_r8⟩⟩⟩⟩⟩⟩⟩
end
section
/-! the mini machine's data: classes, fields, methods, links, layout (by program out of what TURN printed of the program) -/
def mvCnl : List String := ["RunCuts", "RunCuts$Page", "RunCuts$Events", "RunCuts$Lattice", "RunCuts$Predicate", "RunCuts$Search", "RunCuts$Intervals", "RunCuts$Lean", "RunCuts$Play", "RunCuts$Snapshot", "RunCutsModel", "RunCutsLaw", "java/lang/Object", "java/util/Arrays", "java/lang/Math", "java/lang/Integer"]
def mvCn (c : Nat) : String := (mvCnl[c]?).getD ""
def mvT0 : u_T := fun k => match k with
  | 0 => ("RunCuts", "page", "LRunCuts$Page;", true)
  | 1 => ("RunCuts", "events", "LRunCuts$Events;", false)
  | 2 => ("RunCuts", "draft", "LRunCuts$Events;", false)
  | 3 => ("RunCuts", "cuts", "LRunCuts$Lattice;", true)
  | 4 => ("RunCuts", "predicate", "LRunCuts$Predicate;", true)
  | 5 => ("RunCuts", "search", "LRunCuts$Search;", true)
  | 6 => ("RunCuts", "intervals", "LRunCuts$Intervals;", true)
  | 7 => ("RunCuts", "thinned", "LRunCuts$Lean;", true)
  | 8 => ("RunCuts", "turns", "LRunCuts$Play;", true)
  | 9 => ("RunCuts", "snapshot", "LRunCuts$Snapshot;", true)
  | 10 => ("RunCuts", "timesRead", "I", false)
  | _ => ("RunCuts", "timesShot", "I", false)
def mvTy0 : Nat → FieldType := fun k => match k with
  | 0 => .object "RunCuts$Page"
  | 1 => .object "RunCuts$Events"
  | 2 => .object "RunCuts$Events"
  | 3 => .object "RunCuts$Lattice"
  | 4 => .object "RunCuts$Predicate"
  | 5 => .object "RunCuts$Search"
  | 6 => .object "RunCuts$Intervals"
  | 7 => .object "RunCuts$Lean"
  | 8 => .object "RunCuts$Play"
  | 9 => .object "RunCuts$Snapshot"
  | 10 => .int
  | _ => .int
theorem mvN0 : ∀ a, a < 12 → ∀ b, b < 12 → a ≠ b → (mvT0 a).2.1 ≠ (mvT0 b).2.1 := by decide +kernel
theorem mvTyOk0 : ∀ k, k < 12 → parseFieldDescriptor (mvT0 k).2.2.1 = some (mvTy0 k) := by decide +kernel
def mvT1 : u_T := fun k => match k with
  | 0 => ("RunCuts$Page", "codes", "[I", true)
  | _ => ("RunCuts$Page", "length", "I", false)
def mvTy1 : Nat → FieldType := fun k => match k with
  | 0 => .array .int
  | _ => .int
theorem mvN1 : ∀ a, a < 2 → ∀ b, b < 2 → a ≠ b → (mvT1 a).2.1 ≠ (mvT1 b).2.1 := by decide +kernel
theorem mvTyOk1 : ∀ k, k < 2 → parseFieldDescriptor (mvT1 k).2.2.1 = some (mvTy1 k) := by decide +kernel
def mvT2 : u_T := fun k => match k with
  | 0 => ("RunCuts$Events", "processes", "I", false)
  | 1 => ("RunCuts$Events", "total", "I", false)
  | 2 => ("RunCuts$Events", "sizes", "[I", true)
  | 3 => ("RunCuts$Events", "kinds", "[I", true)
  | 4 => ("RunCuts$Events", "details", "[I", true)
  | 5 => ("RunCuts$Events", "partners", "[I", true)
  | 6 => ("RunCuts$Events", "vectors", "[I", true)
  | 7 => ("RunCuts$Events", "values", "[I", true)
  | 8 => ("RunCuts$Events", "surpluses", "[I", true)
  | _ => ("RunCuts$Events", "taken", "[I", true)
def mvTy2 : Nat → FieldType := fun k => match k with
  | 0 => .int
  | 1 => .int
  | 2 => .array .int
  | 3 => .array .int
  | 4 => .array .int
  | 5 => .array .int
  | 6 => .array .int
  | 7 => .array .int
  | 8 => .array .int
  | _ => .array .int
theorem mvN2 : ∀ a, a < 10 → ∀ b, b < 10 → a ≠ b → (mvT2 a).2.1 ≠ (mvT2 b).2.1 := by decide +kernel
theorem mvTyOk2 : ∀ k, k < 10 → parseFieldDescriptor (mvT2 k).2.2.1 = some (mvTy2 k) := by decide +kernel
def mvT3 : u_T := fun k => match k with
  | 0 => ("RunCuts$Lattice", "stands", "Z", false)
  | 1 => ("RunCuts$Lattice", "size", "I", false)
  | 2 => ("RunCuts$Lattice", "places", "I", false)
  | 3 => ("RunCuts$Lattice", "top", "I", false)
  | 4 => ("RunCuts$Lattice", "starts", "[I", true)
  | 5 => ("RunCuts$Lattice", "strides", "[I", true)
  | 6 => ("RunCuts$Lattice", "numbers", "[I", true)
  | 7 => ("RunCuts$Lattice", "sorted", "[I", true)
  | 8 => ("RunCuts$Lattice", "pathsTo", "[I", true)
  | _ => ("RunCuts$Lattice", "pathsFrom", "[I", true)
def mvTy3 : Nat → FieldType := fun k => match k with
  | 0 => .boolean
  | 1 => .int
  | 2 => .int
  | 3 => .int
  | 4 => .array .int
  | 5 => .array .int
  | 6 => .array .int
  | 7 => .array .int
  | 8 => .array .int
  | _ => .array .int
theorem mvN3 : ∀ a, a < 10 → ∀ b, b < 10 → a ≠ b → (mvT3 a).2.1 ≠ (mvT3 b).2.1 := by decide +kernel
theorem mvTyOk3 : ∀ k, k < 10 → parseFieldDescriptor (mvT3 k).2.2.1 = some (mvTy3 k) := by decide +kernel
def mvT4 : u_T := fun k => match k with
  | 0 => ("RunCuts$Predicate", "kind", "I", false)
  | 1 => ("RunCuts$Predicate", "v", "I", false)
  | _ => ("RunCuts$Predicate", "allowed", "[I", true)
def mvTy4 : Nat → FieldType := fun k => match k with
  | 0 => .int
  | 1 => .int
  | _ => .array .int
theorem mvN4 : ∀ a, a < 3 → ∀ b, b < 3 → a ≠ b → (mvT4 a).2.1 ≠ (mvT4 b).2.1 := by decide +kernel
theorem mvTyOk4 : ∀ k, k < 3 → parseFieldDescriptor (mvT4 k).2.2.1 = some (mvTy4 k) := by decide +kernel
def mvT5 : u_T := fun k => match k with
  | 0 => ("RunCuts$Search", "stands", "Z", false)
  | 1 => ("RunCuts$Search", "steps", "I", false)
  | 2 => ("RunCuts$Search", "path", "[I", true)
  | 3 => ("RunCuts$Search", "holding", "I", false)
  | 4 => ("RunCuts$Search", "lowest", "I", false)
  | _ => ("RunCuts$Search", "avoidable", "[Z", true)
def mvTy5 : Nat → FieldType := fun k => match k with
  | 0 => .boolean
  | 1 => .int
  | 2 => .array .int
  | 3 => .int
  | 4 => .int
  | _ => .array .boolean
theorem mvN5 : ∀ a, a < 6 → ∀ b, b < 6 → a ≠ b → (mvT5 a).2.1 ≠ (mvT5 b).2.1 := by decide +kernel
theorem mvTyOk5 : ∀ k, k < 6 → parseFieldDescriptor (mvT5 k).2.2.1 = some (mvTy5 k) := by decide +kernel
def mvT6 : u_T := fun k => match k with
  | 0 => ("RunCuts$Intervals", "counts", "[I", true)
  | 1 => ("RunCuts$Intervals", "firsts", "[I", true)
  | 2 => ("RunCuts$Intervals", "lasts", "[I", true)
  | _ => ("RunCuts$Intervals", "chosen", "[I", true)
def mvTy6 : Nat → FieldType := fun k => match k with
  | 0 => .array .int
  | 1 => .array .int
  | 2 => .array .int
  | _ => .array .int
theorem mvN6 : ∀ a, a < 4 → ∀ b, b < 4 → a ≠ b → (mvT6 a).2.1 ≠ (mvT6 b).2.1 := by decide +kernel
theorem mvTyOk6 : ∀ k, k < 4 → parseFieldDescriptor (mvT6 k).2.2.1 = some (mvTy6 k) := by decide +kernel
def mvT7 : u_T := fun k => match k with
  | 0 => ("RunCuts$Lean", "kept", "LRunCuts$Events;", true)
  | 1 => ("RunCuts$Lean", "cuts", "LRunCuts$Lattice;", true)
  | _ => ("RunCuts$Lean", "search", "LRunCuts$Search;", true)
def mvTy7 : Nat → FieldType := fun k => match k with
  | 0 => .object "RunCuts$Events"
  | 1 => .object "RunCuts$Lattice"
  | _ => .object "RunCuts$Search"
theorem mvN7 : ∀ a, a < 3 → ∀ b, b < 3 → a ≠ b → (mvT7 a).2.1 ≠ (mvT7 b).2.1 := by decide +kernel
theorem mvTyOk7 : ∀ k, k < 3 → parseFieldDescriptor (mvT7 k).2.2.1 = some (mvTy7 k) := by decide +kernel
def mvT8 : u_T := fun k => match k with
  | 0 => ("RunCuts$Play", "size", "I", false)
  | _ => ("RunCuts$Play", "steps", "[I", true)
def mvTy8 : Nat → FieldType := fun k => match k with
  | 0 => .int
  | _ => .array .int
theorem mvN8 : ∀ a, a < 2 → ∀ b, b < 2 → a ≠ b → (mvT8 a).2.1 ≠ (mvT8 b).2.1 := by decide +kernel
theorem mvTyOk8 : ∀ k, k < 2 → parseFieldDescriptor (mvT8 k).2.2.1 = some (mvTy8 k) := by decide +kernel
def mvT9 : u_T := fun k => match k with
  | 0 => ("RunCuts$Snapshot", "taken", "Z", false)
  | 1 => ("RunCuts$Snapshot", "cut", "I", false)
  | 2 => ("RunCuts$Snapshot", "forced", "I", false)
  | 3 => ("RunCuts$Snapshot", "lastNoted", "I", false)
  | 4 => ("RunCuts$Snapshot", "come", "I", false)
  | 5 => ("RunCuts$Snapshot", "sent", "[I", true)
  | 6 => ("RunCuts$Snapshot", "received", "[I", true)
  | 7 => ("RunCuts$Snapshot", "markers", "[I", true)
  | _ => ("RunCuts$Snapshot", "noted", "[I", true)
def mvTy9 : Nat → FieldType := fun k => match k with
  | 0 => .boolean
  | 1 => .int
  | 2 => .int
  | 3 => .int
  | 4 => .int
  | 5 => .array .int
  | 6 => .array .int
  | 7 => .array .int
  | _ => .array .int
theorem mvN9 : ∀ a, a < 9 → ∀ b, b < 9 → a ≠ b → (mvT9 a).2.1 ≠ (mvT9 b).2.1 := by decide +kernel
theorem mvTyOk9 : ∀ k, k < 9 → parseFieldDescriptor (mvT9 k).2.2.1 = some (mvTy9 k) := by decide +kernel
def mvT10 : u_T := fun k => match k with
  | 0 => ("RunCutsModel", "processes", "I", false)
  | 1 => ("RunCutsModel", "many", "[I", true)
  | 2 => ("RunCutsModel", "kind", "[I", true)
  | 3 => ("RunCutsModel", "number", "[I", true)
  | 4 => ("RunCutsModel", "partner", "[I", true)
  | 5 => ("RunCutsModel", "vector", "[I", true)
  | 6 => ("RunCutsModel", "allowed", "[I", true)
  | 7 => ("RunCutsModel", "wishKind", "I", false)
  | 8 => ("RunCutsModel", "wishV", "I", false)
  | 9 => ("RunCutsModel", "runs", "I", false)
  | 10 => ("RunCutsModel", "isPlayed", "Z", false)
  | 11 => ("RunCutsModel", "playedAt", "[I", true)
  | 12 => ("RunCutsModel", "isShot", "Z", false)
  | 13 => ("RunCutsModel", "shotCut", "I", false)
  | 14 => ("RunCutsModel", "shotForced", "I", false)
  | 15 => ("RunCutsModel", "shotLast", "I", false)
  | 16 => ("RunCutsModel", "shotsEver", "I", false)
  | 17 => ("RunCutsModel", "pageLength", "I", false)
  | 18 => ("RunCutsModel", "page", "[I", true)
  | 19 => ("RunCutsModel", "newProcesses", "I", false)
  | 20 => ("RunCutsModel", "newAll", "I", false)
  | 21 => ("RunCutsModel", "begun", "I", false)
  | 22 => ("RunCutsModel", "newMany", "[I", true)
  | 23 => ("RunCutsModel", "newKind", "[I", true)
  | 24 => ("RunCutsModel", "newNumber", "[I", true)
  | 25 => ("RunCutsModel", "gone", "[I", true)
  | 26 => ("RunCutsModel", "at", "[I", true)
  | 27 => ("RunCutsModel", "isCut", "[Z", true)
  | 28 => ("RunCutsModel", "isHeld", "[Z", true)
  | 29 => ("RunCutsModel", "waysTo", "[I", true)
  | 30 => ("RunCutsModel", "waysFrom", "[I", true)
  | 31 => ("RunCutsModel", "isFree", "[Z", true)
  | 32 => ("RunCutsModel", "levelOf", "[I", true)
  | 33 => ("RunCutsModel", "other", "[I", true)
  | 34 => ("RunCutsModel", "begins", "[I", true)
  | 35 => ("RunCutsModel", "ends", "[I", true)
  | 36 => ("RunCutsModel", "keptMany", "[I", true)
  | 37 => ("RunCutsModel", "keptKind", "[I", true)
  | 38 => ("RunCutsModel", "keptNumber", "[I", true)
  | 39 => ("RunCutsModel", "isIdle", "[Z", true)
  | 40 => ("RunCutsModel", "seedNow", "J", false)
  | 41 => ("RunCutsModel", "noted", "[I", true)
  | 42 => ("RunCutsModel", "mark", "[I", true)
  | 43 => ("RunCutsModel", "noteMany", "I", false)
  | _ => ("RunCutsModel", "h", "J", false)
def mvTy10 : Nat → FieldType := fun k => match k with
  | 0 => .int
  | 1 => .array .int
  | 2 => .array .int
  | 3 => .array .int
  | 4 => .array .int
  | 5 => .array .int
  | 6 => .array .int
  | 7 => .int
  | 8 => .int
  | 9 => .int
  | 10 => .boolean
  | 11 => .array .int
  | 12 => .boolean
  | 13 => .int
  | 14 => .int
  | 15 => .int
  | 16 => .int
  | 17 => .int
  | 18 => .array .int
  | 19 => .int
  | 20 => .int
  | 21 => .int
  | 22 => .array .int
  | 23 => .array .int
  | 24 => .array .int
  | 25 => .array .int
  | 26 => .array .int
  | 27 => .array .boolean
  | 28 => .array .boolean
  | 29 => .array .int
  | 30 => .array .int
  | 31 => .array .boolean
  | 32 => .array .int
  | 33 => .array .int
  | 34 => .array .int
  | 35 => .array .int
  | 36 => .array .int
  | 37 => .array .int
  | 38 => .array .int
  | 39 => .array .boolean
  | 40 => .long
  | 41 => .array .int
  | 42 => .array .int
  | 43 => .int
  | _ => .long
theorem mvN10 : ∀ a, a < 45 → ∀ b, b < 45 → a ≠ b → (mvT10 a).2.1 ≠ (mvT10 b).2.1 := by decide +kernel
theorem mvTyOk10 : ∀ k, k < 45 → parseFieldDescriptor (mvT10 k).2.2.1 = some (mvTy10 k) := by decide +kernel
def mvTab : List vw_C := [("RunCuts", mvT0, 12), ("RunCuts$Page", mvT1, 2), ("RunCuts$Events", mvT2, 10), ("RunCuts$Lattice", mvT3, 10), ("RunCuts$Predicate", mvT4, 3), ("RunCuts$Search", mvT5, 6), ("RunCuts$Intervals", mvT6, 4), ("RunCuts$Lean", mvT7, 3), ("RunCuts$Play", mvT8, 2), ("RunCuts$Snapshot", mvT9, 9), ("RunCutsModel", mvT10, 45)]
def mvTyl : List (Nat → FieldType) := [mvTy0, mvTy1, mvTy2, mvTy3, mvTy4, mvTy5, mvTy6, mvTy7, mvTy8, mvTy9, mvTy10]
/-- the kinds of the fields: 0 int, 1 long, 2 a reference, 3 boolean -/
def mvFTl : List (List Nat) := [[2, 2, 2, 2, 2, 2, 2, 2, 2, 2, 0, 0], [2, 0], [0, 0, 2, 2, 2, 2, 2, 2, 2, 2], [3, 0, 0, 0, 2, 2, 2, 2, 2, 2], [0, 0, 2], [3, 0, 2, 0, 0, 2], [2, 2, 2, 2], [2, 2, 2], [0, 2], [3, 0, 0, 0, 0, 2, 2, 2, 2], [0, 2, 2, 2, 2, 2, 2, 0, 0, 0, 3, 2, 3, 0, 0, 0, 0, 0, 2, 0, 0, 0, 2, 2, 2, 2, 2, 2, 2, 2, 2, 2, 2, 2, 2, 2, 2, 2, 2, 2, 1, 2, 2, 0, 1]]
def mvFin : List (List Bool) := [[true, false, false, true, true, true, true, true, true, true, false, false], [true, false], [false, false, true, true, true, true, true, true, true, true], [false, false, false, false, true, true, true, true, true, true], [false, false, true], [false, false, true, false, false, true], [true, true, true, true], [true, true, true], [false, true], [false, false, false, false, false, true, true, true, true], [false, true, true, true, true, true, true, false, false, false, false, true, false, false, false, false, false, false, true, false, false, false, true, true, true, true, true, true, true, true, true, true, true, true, true, true, true, true, true, true, false, true, true, false, false]]
/-- what each cell is: (0, class, 0), (1, int 0 or boolean 1, length); 1 is TENS, 2 the script -/
def mvSHl : List (Nat × Nat × Nat) := [(2, 0, 0), (1, 0, 4), (2, 0, 0), (0, 0, 0), (0, 1, 0), (1, 0, 36), (0, 2, 0), (1, 0, 4), (1, 0, 36), (1, 0, 36), (1, 0, 36), (1, 0, 144), (1, 0, 40), (1, 0, 40), (1, 0, 4), (0, 2, 0), (1, 0, 4), (1, 0, 36), (1, 0, 36), (1, 0, 36), (1, 0, 144), (1, 0, 40), (1, 0, 40), (1, 0, 4), (0, 3, 0), (1, 0, 18), (1, 0, 4), (1, 0, 625), (1, 0, 625), (1, 0, 625), (1, 0, 625), (0, 4, 0), (1, 0, 4), (0, 5, 0), (1, 0, 16), (1, 1, 625), (0, 6, 0), (1, 0, 4), (1, 0, 20), (1, 0, 20), (1, 0, 4), (0, 7, 0), (0, 2, 0), (1, 0, 4), (1, 0, 36), (1, 0, 36), (1, 0, 36), (1, 0, 144), (1, 0, 40), (1, 0, 40), (1, 0, 4), (0, 3, 0), (1, 0, 18), (1, 0, 4), (1, 0, 625), (1, 0, 625), (1, 0, 625), (1, 0, 625), (0, 5, 0), (1, 0, 16), (1, 1, 625), (0, 8, 0), (1, 0, 16), (0, 9, 0), (1, 0, 16), (1, 0, 16), (1, 0, 16), (1, 0, 4), (0, 10, 0), (1, 0, 4), (1, 0, 36), (1, 0, 36), (1, 0, 36), (1, 0, 144), (1, 0, 4), (1, 0, 16), (1, 0, 36), (1, 0, 4), (1, 0, 36), (1, 0, 36), (1, 0, 4), (1, 0, 4), (1, 1, 640), (1, 1, 640), (1, 0, 640), (1, 0, 640), (1, 1, 640), (1, 0, 640), (1, 0, 4), (1, 0, 4), (1, 0, 4), (1, 0, 4), (1, 0, 36), (1, 0, 36), (1, 1, 36), (1, 0, 4), (1, 0, 16)]
def mvSH (k : Nat) : Nat × Nat × Nat := (mvSHl[k]?).getD (2, 0, 0)
/-- the methods: name, code, locals, what it returns, own class, rank, (0 of an object, 1 static, 2 a constructor), how many arguments -/
abbrev mvMt : Type := MethodName × ByteArray × Nat × Option FieldType × Nat × Nat × Nat × Nat
def mvMd0 : List mvMt := [({ cls := "RunCuts", name := "blank", desc := "()I" }, prog_1_method_3_code, 2, (Option.some FieldType.int), 0, 0, 0, 0),
  ({ cls := "RunCuts", name := "played", desc := "(I)I" }, prog_1_method_28_code, 2, (Option.some FieldType.int), 0, 0, 0, 1),
  ({ cls := "RunCuts", name := "mix", desc := "(JI)J" }, prog_1_method_33_code, 3, (Option.some FieldType.long), 0, 0, 1, 2),
  ({ cls := "RunCuts", name := "hasComputation", desc := "()Z" }, prog_1_method_38_code, 1, (Option.some FieldType.boolean), 0, 0, 0, 0),
  ({ cls := "RunCuts", name := "levelOf", desc := "(I)I" }, prog_1_method_46_code, 1, (Option.some FieldType.int), 0, 0, 1, 1),
  ({ cls := "RunCuts$Page", name := "append", desc := "(I)V" }, prog_6_method_2_code, 2, (Option.none : Option FieldType), 1, 0, 0, 1),
  ({ cls := "RunCuts$Page", name := "countProcesses", desc := "()I" }, prog_6_method_5_code, 3, (Option.some FieldType.int), 1, 0, 0, 0),
  ({ cls := "RunCuts$Page", name := "isDigit", desc := "(I)Z" }, prog_6_method_6_code, 1, (Option.some FieldType.boolean), 1, 0, 1, 1),
  ({ cls := "RunCuts$Events", name := "hasProcess", desc := "(I)Z" }, prog_2_method_3_code, 2, (Option.some FieldType.boolean), 2, 0, 0, 1),
  ({ cls := "RunCuts$Events", name := "hasRoom", desc := "(I)Z" }, prog_2_method_6_code, 2, (Option.some FieldType.boolean), 2, 0, 0, 1),
  ({ cls := "RunCuts$Events", name := "append", desc := "(III)V" }, prog_2_method_7_code, 5, (Option.none : Option FieldType), 2, 0, 0, 3),
  ({ cls := "RunCuts$Events", name := "canDropLast", desc := "(I)Z" }, prog_2_method_8_code, 3, (Option.some FieldType.boolean), 2, 0, 0, 1),
  ({ cls := "RunCuts$Events", name := "dropLast", desc := "(I)V" }, prog_2_method_9_code, 2, (Option.none : Option FieldType), 2, 0, 0, 1),
  ({ cls := "RunCuts$Events", name := "pairReceive", desc := "(II)Z" }, prog_2_method_12_code, 6, (Option.some FieldType.boolean), 2, 0, 0, 2),
  ({ cls := "RunCuts$Events", name := "firstOf", desc := "(I)I" }, prog_2_method_15_code, 2, (Option.some FieldType.int), 2, 0, 1, 1),
  ({ cls := "RunCuts$Events", name := "followProcess", desc := "(I)V" }, prog_2_method_16_code, 6, (Option.none : Option FieldType), 2, 0, 0, 1),
  ({ cls := "RunCuts$Events", name := "kindOf", desc := "(II)I" }, prog_2_method_17_code, 3, (Option.some FieldType.int), 2, 0, 0, 2),
  ({ cls := "RunCuts$Events", name := "detailOf", desc := "(II)I" }, prog_2_method_18_code, 3, (Option.some FieldType.int), 2, 0, 0, 2),
  ({ cls := "RunCuts$Events", name := "valueAfter", desc := "(II)I" }, prog_2_method_19_code, 3, (Option.some FieldType.int), 2, 0, 0, 2),
  ({ cls := "RunCuts$Events", name := "isBefore", desc := "(IIII)Z" }, prog_2_method_21_code, 5, (Option.some FieldType.boolean), 2, 0, 0, 4),
  ({ cls := "RunCuts$Events", name := "hasFreeSend", desc := "(II)Z" }, prog_2_method_22_code, 5, (Option.some FieldType.boolean), 2, 0, 0, 2),
  ({ cls := "RunCuts$Events", name := "countKind", desc := "(I)I" }, prog_2_method_23_code, 5, (Option.some FieldType.int), 2, 0, 0, 1),
  ({ cls := "RunCuts$Events", name := "isCut", desc := "(I)Z" }, prog_2_method_24_code, 4, (Option.some FieldType.boolean), 2, 0, 0, 1),
  ({ cls := "RunCuts$Events", name := "countIn", desc := "(II)I" }, prog_2_method_25_code, 3, (Option.some FieldType.int), 2, 0, 0, 2),
  ({ cls := "RunCuts$Events", name := "with", desc := "(II)I" }, prog_2_method_26_code, 3, (Option.some FieldType.int), 2, 0, 0, 2),
  ({ cls := "RunCuts$Events", name := "valueIn", desc := "(II)I" }, prog_2_method_31_code, 3, (Option.some FieldType.int), 2, 0, 0, 2),
  ({ cls := "RunCuts$Lattice", name := "sizeOfLevel", desc := "(I)I" }, prog_4_method_8_code, 2, (Option.some FieldType.int), 3, 0, 0, 1),
  ({ cls := "RunCuts$Lattice", name := "inOrder", desc := "(I)I" }, prog_4_method_10_code, 2, (Option.some FieldType.int), 3, 0, 0, 1),
  ({ cls := "RunCuts$Predicate", name := "allows", desc := "(II)Z" }, prog_8_method_3_code, 3, (Option.some FieldType.boolean), 4, 0, 0, 2),
  ({ cls := "RunCuts$Search", name := "property", desc := "(I)I" }, prog_9_method_5_code, 2, (Option.some FieldType.int), 5, 0, 0, 1),
  ({ cls := "RunCuts$Search", name := "leastCut", desc := "()I" }, prog_9_method_6_code, 1, (Option.some FieldType.int), 5, 0, 0, 0),
  ({ cls := "RunCuts$Intervals", name := "begin", desc := "(II)V" }, prog_3_method_3_code, 3, (Option.none : Option FieldType), 6, 0, 0, 2),
  ({ cls := "RunCuts$Intervals", name := "firstOf", desc := "(II)I" }, prog_3_method_4_code, 3, (Option.some FieldType.int), 6, 0, 0, 2),
  ({ cls := "RunCuts$Intervals", name := "lastOf", desc := "(II)I" }, prog_3_method_5_code, 3, (Option.some FieldType.int), 6, 0, 0, 2),
  ({ cls := "RunCuts$Intervals", name := "chooseNext", desc := "(I)V" }, prog_3_method_7_code, 3, (Option.none : Option FieldType), 6, 0, 0, 1),
  ({ cls := "RunCuts$Lean", name := "forget", desc := "()V" }, prog_5_method_2_code, 1, (Option.none : Option FieldType), 7, 0, 0, 0),
  ({ cls := "RunCuts$Snapshot", name := "firstMarker", desc := "(Z)I" }, prog_10_method_8_code, 3, (Option.some FieldType.int), 9, 0, 0, 1),
  ({ cls := "RunCuts$Snapshot", name := "property", desc := "(I)I" }, prog_10_method_10_code, 2, (Option.some FieldType.int), 9, 0, 0, 1),
  ({ cls := "RunCutsModel", name := "within", desc := "(III)Z" }, prog_12_method_3_code, 3, (Option.some FieldType.boolean), 10, 0, 1, 3),
  ({ cls := "RunCutsModel", name := "blank", desc := "()I" }, prog_12_method_5_code, 2, (Option.some FieldType.int), 10, 0, 0, 0)]
def mvMd1 : List mvMt := [({ cls := "RunCutsModel", name := "takesEvent", desc := "(II)Z" }, prog_12_method_6_code, 4, (Option.some FieldType.boolean), 10, 0, 0, 2),
  ({ cls := "RunCutsModel", name := "areOthers", desc := "()Z" }, prog_12_method_10_code, 5, (Option.some FieldType.boolean), 10, 0, 0, 0),
  ({ cls := "RunCutsModel", name := "newOf", desc := "(IIII)I" }, prog_12_method_11_code, 8, (Option.some FieldType.int), 10, 0, 0, 4),
  ({ cls := "RunCutsModel", name := "isRun", desc := "()Z" }, prog_12_method_15_code, 1, (Option.some FieldType.boolean), 10, 0, 0, 0),
  ({ cls := "RunCutsModel", name := "of", desc := "(IIII)I" }, prog_12_method_17_code, 8, (Option.some FieldType.int), 10, 0, 0, 4),
  ({ cls := "RunCutsModel", name := "layVector", desc := "(II)V" }, prog_12_method_21_code, 8, (Option.none : Option FieldType), 10, 0, 0, 2),
  ({ cls := "RunCutsModel", name := "eventsAll", desc := "()I" }, prog_12_method_24_code, 3, (Option.some FieldType.int), 10, 0, 0, 0),
  ({ cls := "RunCutsModel", name := "eventNow", desc := "(III)I" }, prog_12_method_31_code, 5, (Option.some FieldType.int), 10, 0, 0, 3),
  ({ cls := "RunCutsModel", name := "isAhead", desc := "(IIII)Z" }, prog_12_method_33_code, 5, (Option.some FieldType.boolean), 10, 0, 0, 4),
  ({ cls := "RunCutsModel", name := "cutsAll", desc := "()I" }, prog_12_method_36_code, 3, (Option.some FieldType.int), 10, 0, 0, 0),
  ({ cls := "RunCutsModel", name := "take", desc := "(I)V" }, prog_12_method_37_code, 4, (Option.none : Option FieldType), 10, 0, 0, 1),
  ({ cls := "RunCutsModel", name := "stride", desc := "(I)I" }, prog_12_method_38_code, 4, (Option.some FieldType.int), 10, 0, 0, 1),
  ({ cls := "RunCutsModel", name := "indexNow", desc := "()I" }, prog_12_method_39_code, 3, (Option.some FieldType.int), 10, 0, 0, 0),
  ({ cls := "RunCutsModel", name := "toldNow", desc := "()I" }, prog_12_method_40_code, 3, (Option.some FieldType.int), 10, 0, 0, 0),
  ({ cls := "RunCutsModel", name := "takesTold", desc := "(I)Z" }, prog_12_method_42_code, 5, (Option.some FieldType.boolean), 10, 0, 0, 1),
  ({ cls := "RunCutsModel", name := "isConsistent", desc := "()Z" }, prog_12_method_43_code, 4, (Option.some FieldType.boolean), 10, 0, 0, 0),
  ({ cls := "RunCutsModel", name := "levelNow", desc := "()I" }, prog_12_method_44_code, 3, (Option.some FieldType.int), 10, 0, 0, 0),
  ({ cls := "RunCutsModel", name := "valueOf", desc := "(II)I" }, prog_12_method_45_code, 6, (Option.some FieldType.int), 10, 0, 0, 2),
  ({ cls := "RunCutsModel", name := "underOf", desc := "(II)I" }, prog_12_method_46_code, 7, (Option.some FieldType.int), 10, 0, 0, 2),
  ({ cls := "RunCutsModel", name := "keep", desc := "()V" }, prog_12_method_90_code, 2, (Option.none : Option FieldType), 10, 0, 0, 0),
  ({ cls := "RunCutsModel", name := "drawOf", desc := "(I)I" }, prog_12_method_95_code, 2, (Option.some FieldType.int), 10, 0, 0, 1),
  ({ cls := "RunCutsModel", name := "canCome", desc := "(I)Z" }, prog_12_method_96_code, 3, (Option.some FieldType.boolean), 10, 0, 0, 1),
  ({ cls := "RunCutsModel", name := "shotsNow", desc := "(I)I" }, prog_12_method_106_code, 2, (Option.some FieldType.int), 10, 0, 0, 1),
  ({ cls := "RunCutsModel", name := "eventsOf", desc := "(I)I" }, prog_12_method_108_code, 5, (Option.some FieldType.int), 10, 0, 0, 1),
  ({ cls := "RunCutsModel", name := "mix", desc := "(J)V" }, prog_12_method_111_code, 3, (Option.none : Option FieldType), 10, 0, 0, 1),
  ({ cls := "java/util/Arrays", name := "fill", desc := "([II)V" }, prog_15_method_103_code, 4, (Option.none : Option FieldType), 13, 0, 1, 2),
  ({ cls := "java/lang/Integer", name := "bitCount", desc := "(I)I" }, prog_13_method_49_code, 1, (Option.some FieldType.int), 15, 0, 1, 1),
  ({ cls := "RunCuts", name := "letter", desc := "(I)I" }, prog_1_method_2_code, 2, (Option.some FieldType.int), 0, 1, 0, 1),
  ({ cls := "RunCuts", name := "value", desc := "(II)I" }, prog_1_method_13_code, 3, (Option.some FieldType.int), 0, 1, 0, 2),
  ({ cls := "RunCuts", name := "shots", desc := "(I)I" }, prog_1_method_30_code, 2, (Option.some FieldType.int), 0, 1, 0, 1),
  ({ cls := "RunCuts", name := "count", desc := "(I)I" }, prog_1_method_31_code, 2, (Option.some FieldType.int), 0, 1, 0, 1),
  ({ cls := "RunCuts", name := "mixSearch", desc := "(J)J" }, prog_1_method_36_code, 4, (Option.some FieldType.long), 0, 1, 0, 1),
  ({ cls := "RunCuts", name := "hasConjunction", desc := "()Z" }, prog_1_method_39_code, 1, (Option.some FieldType.boolean), 0, 1, 0, 0),
  ({ cls := "RunCuts", name := "forgetSearches", desc := "()V" }, prog_1_method_42_code, 1, (Option.none : Option FieldType), 0, 1, 0, 0),
  ({ cls := "RunCuts$Page", name := "<init>", desc := "()V" }, prog_6_method_1_code, 1, (Option.none : Option FieldType), 1, 1, 2, 0),
  ({ cls := "RunCuts$Page", name := "firstFault", desc := "()I" }, prog_6_method_3_code, 7, (Option.some FieldType.int), 1, 1, 0, 0),
  ({ cls := "RunCuts$Events", name := "<init>", desc := "()V" }, prog_2_method_1_code, 1, (Option.none : Option FieldType), 2, 1, 2, 0),
  ({ cls := "RunCuts$Events", name := "begin", desc := "(I)V" }, prog_2_method_2_code, 2, (Option.none : Option FieldType), 2, 1, 0, 1),
  ({ cls := "RunCuts$Events", name := "hasChannel", desc := "(II)Z" }, prog_2_method_4_code, 3, (Option.some FieldType.boolean), 2, 1, 0, 2),
  ({ cls := "RunCuts$Events", name := "hasEvent", desc := "(II)Z" }, prog_2_method_5_code, 3, (Option.some FieldType.boolean), 2, 1, 0, 2)]
def mvMd2 : List mvMt := [({ cls := "RunCuts$Events", name := "pairMessages", desc := "()Z" }, prog_2_method_11_code, 3, (Option.some FieldType.boolean), 2, 1, 0, 0),
  ({ cls := "RunCuts$Events", name := "findVector", desc := "(II)V" }, prog_2_method_14_code, 7, (Option.none : Option FieldType), 2, 1, 0, 2),
  ({ cls := "RunCuts$Events", name := "property", desc := "(III)I" }, prog_2_method_20_code, 6, (Option.some FieldType.int), 2, 1, 0, 3),
  ({ cls := "RunCuts$Events", name := "hasPastIn", desc := "(II)Z" }, prog_2_method_28_code, 4, (Option.some FieldType.boolean), 2, 1, 0, 2),
  ({ cls := "RunCuts$Events", name := "canFollow", desc := "(II)Z" }, prog_2_method_29_code, 5, (Option.some FieldType.boolean), 2, 1, 0, 2),
  ({ cls := "RunCuts$Events", name := "underWay", desc := "(I)I" }, prog_2_method_32_code, 4, (Option.some FieldType.int), 2, 1, 0, 1),
  ({ cls := "RunCuts$Events", name := "underWayBetween", desc := "(III)I" }, prog_2_method_33_code, 8, (Option.some FieldType.int), 2, 1, 0, 3),
  ({ cls := "RunCuts$Events", name := "combine", desc := "(IIZ)I" }, prog_2_method_34_code, 8, (Option.some FieldType.int), 2, 1, 0, 3),
  ({ cls := "RunCuts$Lattice", name := "<init>", desc := "()V" }, prog_4_method_1_code, 1, (Option.none : Option FieldType), 3, 1, 2, 0),
  ({ cls := "RunCuts$Lattice", name := "numberPlaces", desc := "(LRunCuts$Events;)V" }, prog_4_method_3_code, 4, (Option.none : Option FieldType), 3, 1, 0, 1),
  ({ cls := "RunCuts$Lattice", name := "sortByLevel", desc := "()V" }, prog_4_method_6_code, 3, (Option.none : Option FieldType), 3, 1, 0, 0),
  ({ cls := "RunCuts$Lattice", name := "widestLevel", desc := "()I" }, prog_4_method_9_code, 3, (Option.some FieldType.int), 3, 1, 0, 0),
  ({ cls := "RunCuts$Lattice", name := "pathsThrough", desc := "(LRunCuts$Events;I)I" }, prog_4_method_11_code, 5, (Option.some FieldType.int), 3, 1, 0, 2),
  ({ cls := "RunCuts$Predicate", name := "<init>", desc := "()V" }, prog_8_method_1_code, 1, (Option.none : Option FieldType), 4, 1, 2, 0),
  ({ cls := "RunCuts$Predicate", name := "allowAll", desc := "()V" }, prog_8_method_2_code, 1, (Option.none : Option FieldType), 4, 1, 0, 0),
  ({ cls := "RunCuts$Predicate", name := "allowsAll", desc := "(LRunCuts$Events;I)Z" }, prog_8_method_5_code, 4, (Option.some FieldType.boolean), 4, 1, 0, 2),
  ({ cls := "RunCuts$Predicate", name := "sumIn", desc := "(LRunCuts$Events;I)I" }, prog_8_method_6_code, 4, (Option.some FieldType.int), 4, 1, 1, 2),
  ({ cls := "RunCuts$Predicate", name := "spreadIn", desc := "(LRunCuts$Events;I)I" }, prog_8_method_7_code, 6, (Option.some FieldType.int), 4, 1, 1, 2),
  ({ cls := "RunCuts$Search", name := "<init>", desc := "()V" }, prog_9_method_1_code, 1, (Option.none : Option FieldType), 5, 1, 2, 0),
  ({ cls := "RunCuts$Intervals", name := "<init>", desc := "()V" }, prog_3_method_1_code, 1, (Option.none : Option FieldType), 6, 1, 2, 0),
  ({ cls := "RunCuts$Intervals", name := "find", desc := "(LRunCuts$Events;LRunCuts$Predicate;)V" }, prog_3_method_2_code, 7, (Option.none : Option FieldType), 6, 1, 0, 2),
  ({ cls := "RunCuts$Intervals", name := "beginsBeforeEnd", desc := "(LRunCuts$Events;II)Z" }, prog_3_method_9_code, 6, (Option.some FieldType.boolean), 6, 1, 0, 3),
  ({ cls := "RunCuts$Lean", name := "matters", desc := "(LRunCuts$Events;LRunCuts$Predicate;II)Z" }, prog_5_method_4_code, 5, (Option.some FieldType.boolean), 7, 1, 1, 4),
  ({ cls := "RunCuts$Lean", name := "property", desc := "(I)I" }, prog_5_method_5_code, 2, (Option.some FieldType.int), 7, 1, 0, 1),
  ({ cls := "RunCuts$Play", name := "<init>", desc := "()V" }, prog_7_method_1_code, 1, (Option.none : Option FieldType), 8, 1, 2, 0),
  ({ cls := "RunCuts$Play", name := "choose", desc := "(IJ)I" }, prog_7_method_3_code, 7, (Option.some FieldType.int), 8, 1, 1, 2),
  ({ cls := "RunCuts$Snapshot", name := "<init>", desc := "()V" }, prog_10_method_1_code, 1, (Option.none : Option FieldType), 9, 1, 2, 0),
  ({ cls := "RunCuts$Snapshot", name := "clear", desc := "()V" }, prog_10_method_3_code, 1, (Option.none : Option FieldType), 9, 1, 0, 0),
  ({ cls := "RunCuts$Snapshot", name := "pass", desc := "(LRunCuts$Events;I)V" }, prog_10_method_4_code, 6, (Option.none : Option FieldType), 9, 1, 0, 2),
  ({ cls := "RunCuts$Snapshot", name := "note", desc := "(LRunCuts$Events;I)V" }, prog_10_method_5_code, 5, (Option.none : Option FieldType), 9, 1, 0, 2),
  ({ cls := "RunCutsModel", name := "<init>", desc := "()V" }, prog_12_method_1_code, 1, (Option.none : Option FieldType), 10, 1, 2, 0),
  ({ cls := "RunCutsModel", name := "letter", desc := "(I)I" }, prog_12_method_4_code, 2, (Option.some FieldType.int), 10, 1, 0, 1),
  ({ cls := "RunCutsModel", name := "takes", desc := "(I)Z" }, prog_12_method_7_code, 3, (Option.some FieldType.boolean), 10, 1, 0, 1),
  ({ cls := "RunCutsModel", name := "canComeNew", desc := "(I)Z" }, prog_12_method_12_code, 4, (Option.some FieldType.boolean), 10, 1, 0, 1),
  ({ cls := "RunCutsModel", name := "nthOf", desc := "(IIII)I" }, prog_12_method_18_code, 7, (Option.some FieldType.int), 10, 1, 0, 4),
  ({ cls := "RunCutsModel", name := "layVectors", desc := "()V" }, prog_12_method_20_code, 4, (Option.none : Option FieldType), 10, 1, 0, 0),
  ({ cls := "RunCutsModel", name := "isProcess", desc := "(I)Z" }, prog_12_method_22_code, 2, (Option.some FieldType.boolean), 10, 1, 0, 1),
  ({ cls := "RunCutsModel", name := "isFull", desc := "(I)Z" }, prog_12_method_25_code, 2, (Option.some FieldType.boolean), 10, 1, 0, 1),
  ({ cls := "RunCutsModel", name := "orderNow", desc := "(IIII)I" }, prog_12_method_34_code, 5, (Option.some FieldType.int), 10, 1, 0, 4),
  ({ cls := "RunCutsModel", name := "tellCut", desc := "(I)I" }, prog_12_method_41_code, 2, (Option.some FieldType.int), 10, 1, 0, 1)]
def mvMd3 : List mvMt := [({ cls := "RunCutsModel", name := "underAll", desc := "()I" }, prog_12_method_47_code, 5, (Option.some FieldType.int), 10, 1, 0, 0),
  ({ cls := "RunCutsModel", name := "isAllowed", desc := "(II)Z" }, prog_12_method_48_code, 3, (Option.some FieldType.boolean), 10, 1, 0, 2),
  ({ cls := "RunCutsModel", name := "sumOfValues", desc := "()I" }, prog_12_method_50_code, 3, (Option.some FieldType.int), 10, 1, 0, 0),
  ({ cls := "RunCutsModel", name := "spreadNow", desc := "()I" }, prog_12_method_51_code, 5, (Option.some FieldType.int), 10, 1, 0, 0),
  ({ cls := "RunCutsModel", name := "canGoOn", desc := "(II)Z" }, prog_12_method_54_code, 3, (Option.some FieldType.boolean), 10, 1, 0, 2),
  ({ cls := "RunCutsModel", name := "mixed", desc := "(IIZ)I" }, prog_12_method_61_code, 7, (Option.some FieldType.int), 10, 1, 0, 3),
  ({ cls := "RunCutsModel", name := "cutsOf", desc := "(I)I" }, prog_12_method_64_code, 4, (Option.some FieldType.int), 10, 1, 0, 1),
  ({ cls := "RunCutsModel", name := "cutsMany", desc := "()I" }, prog_12_method_66_code, 3, (Option.some FieldType.int), 10, 1, 0, 0),
  ({ cls := "RunCutsModel", name := "cutAt", desc := "(II)I" }, prog_12_method_69_code, 5, (Option.some FieldType.int), 10, 1, 0, 2),
  ({ cls := "RunCutsModel", name := "wish", desc := "(II)I" }, prog_12_method_72_code, 4, (Option.some FieldType.int), 10, 1, 0, 2),
  ({ cls := "RunCutsModel", name := "heldMany", desc := "()I" }, prog_12_method_74_code, 3, (Option.some FieldType.int), 10, 1, 0, 0),
  ({ cls := "RunCutsModel", name := "isAll", desc := "()Z" }, prog_12_method_80_code, 1, (Option.some FieldType.boolean), 10, 1, 0, 0),
  ({ cls := "RunCutsModel", name := "isOverlap", desc := "()Z" }, prog_12_method_87_code, 6, (Option.some FieldType.boolean), 10, 1, 0, 0),
  ({ cls := "RunCutsModel", name := "comesNext", desc := "(Z)I" }, prog_12_method_97_code, 5, (Option.some FieldType.int), 10, 1, 0, 1),
  ({ cls := "RunCutsModel", name := "played", desc := "(I)I" }, prog_12_method_99_code, 2, (Option.some FieldType.int), 10, 1, 0, 1),
  ({ cls := "RunCutsModel", name := "notes", desc := "(II)V" }, prog_12_method_100_code, 4, (Option.none : Option FieldType), 10, 1, 0, 2),
  ({ cls := "RunCutsModel", name := "nextMarker", desc := "(Z)I" }, prog_12_method_102_code, 5, (Option.some FieldType.int), 10, 1, 0, 1),
  ({ cls := "RunCutsModel", name := "shots", desc := "(I)I" }, prog_12_method_107_code, 2, (Option.some FieldType.int), 10, 1, 0, 1),
  ({ cls := "RunCutsModel", name := "howMany", desc := "(I)I" }, prog_12_method_109_code, 2, (Option.some FieldType.int), 10, 1, 0, 1),
  ({ cls := "RunCutsModel", name := "mixPlayed", desc := "()V" }, prog_12_method_116_code, 2, (Option.none : Option FieldType), 10, 1, 0, 0),
  ({ cls := "RunCuts", name := "fault", desc := "()I" }, prog_1_method_4_code, 1, (Option.some FieldType.int), 0, 2, 0, 0),
  ({ cls := "RunCuts", name := "event", desc := "(III)I" }, prog_1_method_10_code, 4, (Option.some FieldType.int), 0, 2, 0, 3),
  ({ cls := "RunCuts", name := "order", desc := "(IIII)I" }, prog_1_method_11_code, 5, (Option.some FieldType.int), 0, 2, 0, 4),
  ({ cls := "RunCuts", name := "wish", desc := "(II)I" }, prog_1_method_19_code, 4, (Option.some FieldType.int), 0, 2, 0, 2),
  ({ cls := "RunCuts", name := "allow", desc := "(II)I" }, prog_1_method_20_code, 4, (Option.some FieldType.int), 0, 2, 0, 2),
  ({ cls := "RunCuts", name := "interval", desc := "(III)I" }, prog_1_method_25_code, 4, (Option.some FieldType.int), 0, 2, 0, 3),
  ({ cls := "RunCuts", name := "mixEvents", desc := "(J)J" }, prog_1_method_34_code, 6, (Option.some FieldType.long), 0, 2, 0, 1),
  ({ cls := "RunCuts", name := "forgetResults", desc := "()V" }, prog_1_method_41_code, 1, (Option.none : Option FieldType), 0, 2, 0, 0),
  ({ cls := "RunCuts$Page", name := "readInto", desc := "(LRunCuts$Events;)Z" }, prog_6_method_4_code, 7, (Option.some FieldType.boolean), 1, 2, 0, 1),
  ({ cls := "RunCuts$Events", name := "isConsistent", desc := "(I)Z" }, prog_2_method_27_code, 4, (Option.some FieldType.boolean), 2, 2, 0, 1),
  ({ cls := "RunCuts$Events", name := "followers", desc := "(I)I" }, prog_2_method_30_code, 4, (Option.some FieldType.int), 2, 2, 0, 1),
  ({ cls := "RunCuts$Lattice", name := "countPathsTo", desc := "(LRunCuts$Events;)V" }, prog_4_method_4_code, 4, (Option.none : Option FieldType), 3, 2, 0, 1),
  ({ cls := "RunCuts$Lattice", name := "countPathsFrom", desc := "(LRunCuts$Events;)V" }, prog_4_method_5_code, 4, (Option.none : Option FieldType), 3, 2, 0, 1),
  ({ cls := "RunCuts$Lattice", name := "property", desc := "(I)I" }, prog_4_method_7_code, 2, (Option.some FieldType.int), 3, 2, 0, 1),
  ({ cls := "RunCuts$Predicate", name := "holdsIn", desc := "(LRunCuts$Events;I)Z" }, prog_8_method_4_code, 3, (Option.some FieldType.boolean), 4, 2, 0, 2),
  ({ cls := "RunCuts$Search", name := "avoidingStep", desc := "(LRunCuts$Events;LRunCuts$Lattice;I)I" }, prog_9_method_3_code, 6, (Option.some FieldType.int), 5, 2, 0, 3),
  ({ cls := "RunCuts$Intervals", name := "isStrongChoice", desc := "(LRunCuts$Events;)Z" }, prog_3_method_8_code, 4, (Option.some FieldType.boolean), 6, 2, 0, 1),
  ({ cls := "RunCuts$Lean", name := "<init>", desc := "()V" }, prog_5_method_1_code, 1, (Option.none : Option FieldType), 7, 2, 2, 0),
  ({ cls := "RunCuts$Snapshot", name := "arrive", desc := "(LRunCuts$Events;I)V" }, prog_10_method_9_code, 3, (Option.none : Option FieldType), 9, 2, 0, 2),
  ({ cls := "RunCutsModel", name := "read", desc := "()I" }, prog_12_method_8_code, 2, (Option.some FieldType.int), 10, 2, 0, 0)]
def mvMd4 : List mvMt := [({ cls := "RunCutsModel", name := "isOrdered", desc := "()Z" }, prog_12_method_13_code, 4, (Option.some FieldType.boolean), 10, 2, 0, 0),
  ({ cls := "RunCutsModel", name := "layPartners", desc := "()V" }, prog_12_method_19_code, 5, (Option.none : Option FieldType), 10, 2, 0, 0),
  ({ cls := "RunCutsModel", name := "isEvent", desc := "(II)Z" }, prog_12_method_23_code, 3, (Option.some FieldType.boolean), 10, 2, 0, 2),
  ({ cls := "RunCutsModel", name := "areAllowed", desc := "()Z" }, prog_12_method_49_code, 3, (Option.some FieldType.boolean), 10, 2, 0, 0),
  ({ cls := "RunCutsModel", name := "nextBits", desc := "(I)I" }, prog_12_method_55_code, 4, (Option.some FieldType.int), 10, 2, 0, 1),
  ({ cls := "RunCutsModel", name := "value", desc := "(II)I" }, prog_12_method_59_code, 3, (Option.some FieldType.int), 10, 2, 0, 2),
  ({ cls := "RunCutsModel", name := "under", desc := "(III)I" }, prog_12_method_60_code, 4, (Option.some FieldType.int), 10, 2, 0, 3),
  ({ cls := "RunCutsModel", name := "meet", desc := "(II)I" }, prog_12_method_62_code, 3, (Option.some FieldType.int), 10, 2, 0, 2),
  ({ cls := "RunCutsModel", name := "join", desc := "(II)I" }, prog_12_method_63_code, 3, (Option.some FieldType.int), 10, 2, 0, 2),
  ({ cls := "RunCutsModel", name := "widest", desc := "()I" }, prog_12_method_65_code, 3, (Option.some FieldType.int), 10, 2, 0, 0),
  ({ cls := "RunCutsModel", name := "allow", desc := "(II)I" }, prog_12_method_73_code, 4, (Option.some FieldType.int), 10, 2, 0, 2),
  ({ cls := "RunCutsModel", name := "heldFirst", desc := "()I" }, prog_12_method_75_code, 4, (Option.some FieldType.int), 10, 2, 0, 0),
  ({ cls := "RunCutsModel", name := "aroundNow", desc := "(I)I" }, prog_12_method_78_code, 5, (Option.some FieldType.int), 10, 2, 0, 1),
  ({ cls := "RunCutsModel", name := "beginOf", desc := "(II)I" }, prog_12_method_83_code, 6, (Option.some FieldType.int), 10, 2, 0, 2),
  ({ cls := "RunCutsModel", name := "endOf", desc := "(II)I" }, prog_12_method_84_code, 4, (Option.some FieldType.int), 10, 2, 0, 2),
  ({ cls := "RunCutsModel", name := "play", desc := "(I)I" }, prog_12_method_98_code, 4, (Option.some FieldType.int), 10, 2, 0, 1),
  ({ cls := "RunCutsModel", name := "markerComes", desc := "(II)V" }, prog_12_method_101_code, 3, (Option.none : Option FieldType), 10, 2, 0, 2),
  ({ cls := "RunCutsModel", name := "count", desc := "(I)I" }, prog_12_method_110_code, 2, (Option.some FieldType.int), 10, 2, 0, 1),
  ({ cls := "RunCuts", name := "<init>", desc := "()V" }, prog_1_method_1_code, 1, (Option.none : Option FieldType), 0, 3, 2, 0),
  ({ cls := "RunCuts", name := "under", desc := "(III)I" }, prog_1_method_14_code, 4, (Option.some FieldType.int), 0, 3, 0, 3),
  ({ cls := "RunCuts", name := "cutProperty", desc := "(II)I" }, prog_1_method_44_code, 3, (Option.some FieldType.int), 0, 3, 0, 2),
  ({ cls := "RunCuts", name := "refusePair", desc := "(II)I" }, prog_1_method_45_code, 3, (Option.some FieldType.int), 0, 3, 0, 2),
  ({ cls := "RunCuts$Events", name := "findVectors", desc := "()Z" }, prog_2_method_13_code, 4, (Option.some FieldType.boolean), 2, 3, 0, 0),
  ({ cls := "RunCuts$Lattice", name := "build", desc := "(LRunCuts$Events;)V" }, prog_4_method_2_code, 2, (Option.none : Option FieldType), 3, 3, 0, 1),
  ({ cls := "RunCuts$Search", name := "findPath", desc := "(LRunCuts$Events;LRunCuts$Lattice;)V" }, prog_9_method_4_code, 6, (Option.none : Option FieldType), 5, 3, 0, 2),
  ({ cls := "RunCuts$Intervals", name := "areStrong", desc := "(LRunCuts$Events;)Z" }, prog_3_method_6_code, 4, (Option.some FieldType.boolean), 6, 3, 0, 1),
  ({ cls := "RunCuts$Play", name := "perform", desc := "(LRunCuts$Events;I)V" }, prog_7_method_2_code, 8, (Option.none : Option FieldType), 8, 3, 0, 2),
  ({ cls := "RunCuts$Snapshot", name := "deliver", desc := "(LRunCuts$Events;)V" }, prog_10_method_6_code, 4, (Option.none : Option FieldType), 9, 3, 0, 1),
  ({ cls := "RunCutsModel", name := "fault", desc := "()I" }, prog_12_method_9_code, 1, (Option.some FieldType.int), 10, 3, 0, 0),
  ({ cls := "RunCutsModel", name := "changes", desc := "()V" }, prog_12_method_16_code, 1, (Option.none : Option FieldType), 10, 3, 0, 0),
  ({ cls := "RunCutsModel", name := "event", desc := "(III)I" }, prog_12_method_32_code, 4, (Option.some FieldType.int), 10, 3, 0, 3),
  ({ cls := "RunCutsModel", name := "order", desc := "(IIII)I" }, prog_12_method_35_code, 5, (Option.some FieldType.int), 10, 3, 0, 4),
  ({ cls := "RunCutsModel", name := "holds", desc := "()Z" }, prog_12_method_52_code, 1, (Option.some FieldType.boolean), 10, 3, 0, 0),
  ({ cls := "RunCutsModel", name := "intervals", desc := "(I)I" }, prog_12_method_85_code, 3, (Option.some FieldType.int), 10, 3, 0, 1),
  ({ cls := "RunCutsModel", name := "interval", desc := "(III)I" }, prog_12_method_86_code, 5, (Option.some FieldType.int), 10, 3, 0, 3),
  ({ cls := "RunCutsModel", name := "giveBack", desc := "()V" }, prog_12_method_91_code, 2, (Option.none : Option FieldType), 10, 3, 0, 0),
  ({ cls := "RunCutsModel", name := "makeLean", desc := "()V" }, prog_12_method_92_code, 5, (Option.none : Option FieldType), 10, 3, 0, 0),
  ({ cls := "RunCutsModel", name := "markersCome", desc := "(I)V" }, prog_12_method_103_code, 3, (Option.none : Option FieldType), 10, 3, 0, 1),
  ({ cls := "RunCutsModel", name := "mixCut", desc := "(I)V" }, prog_12_method_113_code, 2, (Option.none : Option FieldType), 10, 3, 0, 1),
  ({ cls := "RunCuts", name := "cut", desc := "(II)I" }, prog_1_method_12_code, 3, (Option.some FieldType.int), 0, 4, 0, 2)]
def mvMd5 : List mvMt := [({ cls := "RunCuts", name := "meet", desc := "(II)I" }, prog_1_method_15_code, 4, (Option.some FieldType.int), 0, 4, 0, 2),
  ({ cls := "RunCuts", name := "join", desc := "(II)I" }, prog_1_method_16_code, 4, (Option.some FieldType.int), 0, 4, 0, 2),
  ({ cls := "RunCuts", name := "lattice", desc := "(I)I" }, prog_1_method_17_code, 2, (Option.some FieldType.int), 0, 4, 0, 1),
  ({ cls := "RunCuts", name := "level", desc := "(II)I" }, prog_1_method_18_code, 3, (Option.some FieldType.int), 0, 4, 0, 2),
  ({ cls := "RunCuts", name := "strong", desc := "()I" }, prog_1_method_24_code, 1, (Option.some FieldType.int), 0, 4, 0, 0),
  ({ cls := "RunCuts", name := "play", desc := "(I)I" }, prog_1_method_27_code, 2, (Option.some FieldType.int), 0, 4, 0, 1),
  ({ cls := "RunCuts", name := "mixCuts", desc := "(J)J" }, prog_1_method_35_code, 6, (Option.some FieldType.long), 0, 4, 0, 1),
  ({ cls := "RunCuts$Events", name := "link", desc := "()Z" }, prog_2_method_10_code, 2, (Option.some FieldType.boolean), 2, 4, 0, 0),
  ({ cls := "RunCuts$Search", name := "build", desc := "(LRunCuts$Events;LRunCuts$Lattice;LRunCuts$Predicate;)V" }, prog_9_method_2_code, 8, (Option.none : Option FieldType), 5, 4, 0, 3),
  ({ cls := "RunCuts$Snapshot", name := "forceLeft", desc := "(LRunCuts$Events;)V" }, prog_10_method_7_code, 4, (Option.none : Option FieldType), 9, 4, 0, 1),
  ({ cls := "RunCutsModel", name := "run", desc := "()I" }, prog_12_method_14_code, 3, (Option.some FieldType.int), 10, 4, 0, 0),
  ({ cls := "RunCutsModel", name := "comes", desc := "(III)I" }, prog_12_method_26_code, 4, (Option.some FieldType.int), 10, 4, 0, 3),
  ({ cls := "RunCutsModel", name := "back", desc := "(I)I" }, prog_12_method_30_code, 3, (Option.some FieldType.int), 10, 4, 0, 1),
  ({ cls := "RunCutsModel", name := "layCuts", desc := "()V" }, prog_12_method_53_code, 4, (Option.none : Option FieldType), 10, 4, 0, 0),
  ({ cls := "RunCutsModel", name := "strongNow", desc := "()I" }, prog_12_method_88_code, 6, (Option.some FieldType.int), 10, 4, 0, 0),
  ({ cls := "RunCutsModel", name := "shotNow", desc := "(II)I" }, prog_12_method_104_code, 5, (Option.some FieldType.int), 10, 4, 0, 2),
  ({ cls := "RunCuts", name := "run", desc := "()I" }, prog_1_method_5_code, 2, (Option.some FieldType.int), 0, 5, 0, 0),
  ({ cls := "RunCuts", name := "back", desc := "(I)I" }, prog_1_method_9_code, 2, (Option.some FieldType.int), 0, 5, 0, 1),
  ({ cls := "RunCuts", name := "grow", desc := "(III)I" }, prog_1_method_40_code, 4, (Option.some FieldType.int), 0, 5, 0, 3),
  ({ cls := "RunCuts", name := "settleSearch", desc := "()V" }, prog_1_method_43_code, 1, (Option.none : Option FieldType), 0, 5, 0, 0),
  ({ cls := "RunCuts$Lean", name := "build", desc := "(LRunCuts$Events;LRunCuts$Predicate;)V" }, prog_5_method_3_code, 5, (Option.none : Option FieldType), 7, 5, 0, 2),
  ({ cls := "RunCuts$Snapshot", name := "take", desc := "(LRunCuts$Events;LRunCuts$Play;II)V" }, prog_10_method_2_code, 6, (Option.none : Option FieldType), 9, 5, 0, 4),
  ({ cls := "RunCutsModel", name := "local", desc := "(II)I" }, prog_12_method_27_code, 3, (Option.some FieldType.int), 10, 5, 0, 2),
  ({ cls := "RunCutsModel", name := "send", desc := "(II)I" }, prog_12_method_28_code, 3, (Option.some FieldType.int), 10, 5, 0, 2),
  ({ cls := "RunCutsModel", name := "receive", desc := "(II)I" }, prog_12_method_29_code, 3, (Option.some FieldType.int), 10, 5, 0, 2),
  ({ cls := "RunCutsModel", name := "wayPart", desc := "(II)I" }, prog_12_method_57_code, 3, (Option.some FieldType.int), 10, 5, 0, 2),
  ({ cls := "RunCutsModel", name := "latticeNow", desc := "(I)I" }, prog_12_method_67_code, 2, (Option.some FieldType.int), 10, 5, 0, 1),
  ({ cls := "RunCutsModel", name := "levelAt", desc := "(II)I" }, prog_12_method_70_code, 4, (Option.some FieldType.int), 10, 5, 0, 2),
  ({ cls := "RunCutsModel", name := "wishedNow", desc := "(I)I" }, prog_12_method_76_code, 2, (Option.some FieldType.int), 10, 5, 0, 1),
  ({ cls := "RunCutsModel", name := "around", desc := "(I)I" }, prog_12_method_79_code, 2, (Option.some FieldType.int), 10, 5, 0, 1),
  ({ cls := "RunCutsModel", name := "leastNow", desc := "()I" }, prog_12_method_81_code, 3, (Option.some FieldType.int), 10, 5, 0, 0),
  ({ cls := "RunCutsModel", name := "strong", desc := "()I" }, prog_12_method_89_code, 1, (Option.some FieldType.int), 10, 5, 0, 0),
  ({ cls := "RunCutsModel", name := "leanNow", desc := "(I)I" }, prog_12_method_93_code, 3, (Option.some FieldType.int), 10, 5, 0, 1),
  ({ cls := "RunCutsModel", name := "shot", desc := "(II)I" }, prog_12_method_105_code, 3, (Option.some FieldType.int), 10, 5, 0, 2),
  ({ cls := "RunCuts", name := "local", desc := "(II)I" }, prog_1_method_6_code, 3, (Option.some FieldType.int), 0, 6, 0, 2),
  ({ cls := "RunCuts", name := "send", desc := "(II)I" }, prog_1_method_7_code, 3, (Option.some FieldType.int), 0, 6, 0, 2),
  ({ cls := "RunCuts", name := "receive", desc := "(II)I" }, prog_1_method_8_code, 3, (Option.some FieldType.int), 0, 6, 0, 2),
  ({ cls := "RunCuts", name := "wished", desc := "(I)I" }, prog_1_method_21_code, 2, (Option.some FieldType.int), 0, 6, 0, 1),
  ({ cls := "RunCuts", name := "around", desc := "(I)I" }, prog_1_method_22_code, 2, (Option.some FieldType.int), 0, 6, 0, 1),
  ({ cls := "RunCuts", name := "least", desc := "()I" }, prog_1_method_23_code, 1, (Option.some FieldType.int), 0, 6, 0, 0)]
def mvMd6 : List mvMt := [({ cls := "RunCuts", name := "lean", desc := "(I)I" }, prog_1_method_26_code, 2, (Option.some FieldType.int), 0, 6, 0, 1),
  ({ cls := "RunCuts", name := "shot", desc := "(II)I" }, prog_1_method_29_code, 3, (Option.some FieldType.int), 0, 6, 0, 2),
  ({ cls := "RunCuts", name := "mixConjunction", desc := "(J)J" }, prog_1_method_37_code, 5, (Option.some FieldType.long), 0, 6, 0, 1),
  ({ cls := "RunCutsModel", name := "cutNow", desc := "(I)I" }, prog_12_method_56_code, 3, (Option.some FieldType.int), 10, 6, 0, 1),
  ({ cls := "RunCutsModel", name := "lattice", desc := "(I)I" }, prog_12_method_68_code, 2, (Option.some FieldType.int), 10, 6, 0, 1),
  ({ cls := "RunCutsModel", name := "level", desc := "(II)I" }, prog_12_method_71_code, 3, (Option.some FieldType.int), 10, 6, 0, 2),
  ({ cls := "RunCutsModel", name := "wished", desc := "(I)I" }, prog_12_method_77_code, 2, (Option.some FieldType.int), 10, 6, 0, 1),
  ({ cls := "RunCutsModel", name := "least", desc := "()I" }, prog_12_method_82_code, 1, (Option.some FieldType.int), 10, 6, 0, 0),
  ({ cls := "RunCutsModel", name := "lean", desc := "(I)I" }, prog_12_method_94_code, 2, (Option.some FieldType.int), 10, 6, 0, 1),
  ({ cls := "RunCutsModel", name := "mixEvents", desc := "()V" }, prog_12_method_112_code, 3, (Option.none : Option FieldType), 10, 6, 0, 0),
  ({ cls := "RunCutsModel", name := "mixCuts", desc := "()V" }, prog_12_method_114_code, 4, (Option.none : Option FieldType), 10, 6, 0, 0),
  ({ cls := "RunCutsModel", name := "mixAll", desc := "()V" }, prog_12_method_115_code, 4, (Option.none : Option FieldType), 10, 6, 0, 0),
  ({ cls := "RunCuts", name := "digest", desc := "()J" }, prog_1_method_32_code, 4, (Option.some FieldType.long), 0, 7, 0, 0),
  ({ cls := "RunCutsModel", name := "cut", desc := "(II)I" }, prog_12_method_58_code, 3, (Option.some FieldType.int), 10, 7, 0, 2),
  ({ cls := "RunCutsModel", name := "digest", desc := "()J" }, prog_12_method_117_code, 2, (Option.some FieldType.long), 10, 7, 0, 0),
  ({ cls := "RunCutsLaw", name := "law", desc := "([I)Z" }, code, 4, ret, 11, 8, 1, 1)]
def mvMd : List mvMt := mvMd0 ++ (mvMd1 ++ (mvMd2 ++ (mvMd3 ++ (mvMd4 ++ (mvMd5 ++ (mvMd6))))))
def mvC0 : List (Nat × Instr × Nat) := [(0, .aload_n 0, 1), (1, .getfield 12, 3), (4, .getfield 75, 3), (7, .istore_n 1, 1), (8, .aload_n 0, 1), (9, .getfield 12, 3), (12, .iconst 0, 1), (13, .putfield 75, 3), (16, .iload_n 1, 1), (17, .ireturn, 1)]
def mvC1 : List (Nat × Instr × Nat) := [(0, .iload_n 1, 1), (1, .ifCond .lt 14, 3), (4, .iload_n 1, 1), (5, .aload_n 0, 1), (6, .getfield 64, 3), (9, .getfield 248, 3), (12, .if_icmp .lt 6, 3), (15, .bipush (-101), 2), (17, .ireturn, 1), (18, .aload_n 0, 1), (19, .getfield 64, 3), (22, .getfield 251, 3), (25, .iload_n 1, 1), (26, .iaload, 1), (27, .ireturn, 1)]
def mvC2 : List (Nat × Instr × Nat) := [(0, .ldc2_w 292, 3), (3, .lload_n 0, 1), (4, .lmul, 1), (5, .iload_n 2, 1), (6, .i2l, 1), (7, .ladd, 1), (8, .lreturn, 1)]
def mvC3 : List (Nat × Instr × Nat) := [(0, .aload_n 0, 1), (1, .getfield 19, 3), (4, .getfield 104, 3), (7, .ifCond .le 7, 3), (10, .iconst 1, 1), (11, .goto 4, 3), (14, .iconst 0, 1), (15, .ireturn, 1)]
def mvC4 : List (Nat × Instr × Nat) := [(0, .iload_n 0, 1), (1, .sipush 1000, 3), (4, .idiv, 1), (5, .iload_n 0, 1), (6, .bipush 100, 2), (8, .idiv, 1), (9, .bipush 10, 2), (11, .irem, 1), (12, .iadd, 1), (13, .iload_n 0, 1), (14, .bipush 10, 2), (16, .idiv, 1), (17, .bipush 10, 2), (19, .irem, 1), (20, .iadd, 1), (21, .iload_n 0, 1), (22, .bipush 10, 2), (24, .irem, 1), (25, .iadd, 1), (26, .ireturn, 1)]
def mvC5 : List (Nat × Instr × Nat) := [(0, .aload_n 0, 1), (1, .getfield 9, 3), (4, .aload_n 0, 1), (5, .getfield 15, 3), (8, .iload_n 1, 1), (9, .iastore, 1), (10, .aload_n 0, 1), (11, .dup, 1), (12, .getfield 15, 3), (15, .iconst 1, 1), (16, .iadd, 1), (17, .putfield 15, 3), (20, .return_, 1)]
def mvC6 : List (Nat × Instr × Nat) := [(0, .iconst 1, 1), (1, .istore_n 1, 1), (2, .iconst 0, 1), (3, .istore_n 2, 1), (4, .iload_n 2, 1), (5, .aload_n 0, 1), (6, .getfield 15, 3), (9, .if_icmp .ge 23, 3), (12, .aload_n 0, 1), (13, .getfield 9, 3), (16, .iload_n 2, 1), (17, .iaload, 1), (18, .bipush 59, 2), (20, .if_icmp .ne 6, 3), (23, .iinc 1 1, 3), (26, .iinc 2 1, 3), (29, .goto (-25), 3), (32, .iload_n 1, 1), (33, .ireturn, 1)]
def mvC7 : List (Nat × Instr × Nat) := [(0, .iload_n 0, 1), (1, .bipush 48, 2), (3, .if_icmp .lt 13, 3), (6, .iload_n 0, 1), (7, .bipush 57, 2), (9, .if_icmp .gt 7, 3), (12, .iconst 1, 1), (13, .goto 4, 3), (16, .iconst 0, 1), (17, .ireturn, 1)]
def mvC8 : List (Nat × Instr × Nat) := [(0, .iload_n 1, 1), (1, .ifCond .lt 15, 3), (4, .iload_n 1, 1), (5, .aload_n 0, 1), (6, .getfield 36, 3), (9, .if_icmp .ge 7, 3), (12, .iconst 1, 1), (13, .goto 4, 3), (16, .iconst 0, 1), (17, .ireturn, 1)]
def mvC9 : List (Nat × Instr × Nat) := [(0, .aload_n 0, 1), (1, .getfield 9, 3), (4, .iload_n 1, 1), (5, .iaload, 1), (6, .bipush 9, 2), (8, .if_icmp .ge 16, 3), (11, .aload_n 0, 1), (12, .getfield 40, 3), (15, .bipush 16, 2), (17, .if_icmp .ge 7, 3), (20, .iconst 1, 1), (21, .goto 4, 3), (24, .iconst 0, 1), (25, .ireturn, 1)]
def mvC10 : List (Nat × Instr × Nat) := [(0, .iload_n 1, 1), (1, .bipush 9, 2), (3, .imul, 1), (4, .aload_n 0, 1), (5, .getfield 9, 3), (8, .iload_n 1, 1), (9, .iaload, 1), (10, .iadd, 1), (11, .istore 4, 2), (13, .aload_n 0, 1), (14, .getfield 15, 3), (17, .iload 4, 2), (19, .iload_n 2, 1), (20, .iastore, 1), (21, .aload_n 0, 1), (22, .getfield 18, 3), (25, .iload 4, 2), (27, .iload_n 3, 1), (28, .iastore, 1), (29, .aload_n 0, 1), (30, .getfield 9, 3), (33, .iload_n 1, 1), (34, .dup2, 1), (35, .iaload, 1), (36, .iconst 1, 1), (37, .iadd, 1), (38, .iastore, 1), (39, .aload_n 0, 1), (40, .dup, 1), (41, .getfield 40, 3), (44, .iconst 1, 1), (45, .iadd, 1), (46, .putfield 40, 3), (49, .return_, 1)]
def mvC11 : List (Nat × Instr × Nat) := [(0, .aload_n 0, 1), (1, .getfield 9, 3), (4, .iload_n 1, 1), (5, .iaload, 1), (6, .ifCond .ne 5, 3), (9, .iconst 0, 1), (10, .ireturn, 1), (11, .iload_n 1, 1), (12, .bipush 9, 2), (14, .imul, 1), (15, .aload_n 0, 1), (16, .getfield 9, 3), (19, .iload_n 1, 1), (20, .iaload, 1), (21, .iadd, 1), (22, .iconst 1, 1), (23, .isub, 1), (24, .istore_n 2, 1), (25, .aload_n 0, 1), (26, .getfield 15, 3), (29, .iload_n 2, 1), (30, .iaload, 1), (31, .iconst 1, 1), (32, .if_icmp .ne 13, 3), (35, .aload_n 0, 1), (36, .getfield 21, 3), (39, .iload_n 2, 1), (40, .iaload, 1), (41, .iconst (-1), 1), (42, .if_icmp .ne 7, 3), (45, .iconst 1, 1), (46, .goto 4, 3), (49, .iconst 0, 1), (50, .ireturn, 1)]
def mvC12 : List (Nat × Instr × Nat) := [(0, .aload_n 0, 1), (1, .getfield 9, 3), (4, .iload_n 1, 1), (5, .dup2, 1), (6, .iaload, 1), (7, .iconst 1, 1), (8, .isub, 1), (9, .iastore, 1), (10, .aload_n 0, 1), (11, .dup, 1), (12, .getfield 40, 3), (15, .iconst 1, 1), (16, .isub, 1), (17, .putfield 40, 3), (20, .return_, 1)]
def mvC13 : List (Nat × Instr × Nat) := [(0, .aload_n 0, 1), (1, .getfield 18, 3), (4, .iload_n 1, 1), (5, .bipush 9, 2), (7, .imul, 1), (8, .iload_n 2, 1), (9, .iadd, 1), (10, .iaload, 1), (11, .istore_n 3, 1), (12, .aload_n 0, 1), (13, .getfield 33, 3), (16, .iload_n 3, 1), (17, .iaload, 1), (18, .istore 4, 2), (20, .iload 4, 2), (22, .aload_n 0, 1), (23, .getfield 9, 3), (26, .iload_n 3, 1), (27, .iaload, 1), (28, .if_icmp .ge 73, 3), (31, .iload_n 3, 1), (32, .bipush 9, 2), (34, .imul, 1), (35, .iload 4, 2), (37, .iadd, 1), (38, .istore 5, 2), (40, .aload_n 0, 1), (41, .getfield 15, 3), (44, .iload 5, 2), (46, .iaload, 1), (47, .iconst 1, 1), (48, .if_icmp .ne 47, 3), (51, .aload_n 0, 1), (52, .getfield 18, 3), (55, .iload 5, 2), (57, .iaload, 1), (58, .iload_n 1, 1), (59, .if_icmp .ne 36, 3), (62, .aload_n 0, 1), (63, .getfield 21, 3), (66, .iload 5, 2), (68, .iload_n 2, 1), (69, .iastore, 1), (70, .aload_n 0, 1), (71, .getfield 21, 3), (74, .iload_n 1, 1), (75, .bipush 9, 2), (77, .imul, 1), (78, .iload_n 2, 1), (79, .iadd, 1), (80, .iload 4, 2), (82, .iastore, 1), (83, .aload_n 0, 1), (84, .getfield 33, 3), (87, .iload_n 3, 1), (88, .iload 4, 2), (90, .iconst 1, 1), (91, .iadd, 1), (92, .iastore, 1), (93, .iconst 1, 1), (94, .ireturn, 1), (95, .iinc 4 1, 3), (98, .goto (-78), 3), (101, .iconst 0, 1), (102, .ireturn, 1)]
def mvC14 : List (Nat × Instr × Nat) := [(0, .iconst 0, 1), (1, .istore_n 1, 1), (2, .iload_n 1, 1), (3, .iconst 4, 1), (4, .if_icmp .ge 19, 3), (7, .iload_n 0, 1), (8, .iload_n 1, 1), (9, .ishr, 1), (10, .iconst 1, 1), (11, .iand, 1), (12, .ifCond .eq 5, 3), (15, .iload_n 1, 1), (16, .ireturn, 1), (17, .iinc 1 1, 3), (20, .goto (-18), 3), (23, .iconst (-1), 1), (24, .ireturn, 1)]
def mvC15 : List (Nat × Instr × Nat) := [(0, .iconst 0, 1), (1, .istore_n 2, 1), (2, .iconst 0, 1), (3, .istore_n 3, 1), (4, .iconst 0, 1), (5, .istore 4, 2), (7, .iload 4, 2), (9, .aload_n 0, 1), (10, .getfield 9, 3), (13, .iload_n 1, 1), (14, .iaload, 1), (15, .if_icmp .ge 90, 3), (18, .aload_n 0, 1), (19, .getfield 27, 3), (22, .iload_n 1, 1), (23, .bipush 10, 2), (25, .imul, 1), (26, .iload 4, 2), (28, .iadd, 1), (29, .iload_n 2, 1), (30, .iastore, 1), (31, .aload_n 0, 1), (32, .getfield 30, 3), (35, .iload_n 1, 1), (36, .bipush 10, 2), (38, .imul, 1), (39, .iload 4, 2), (41, .iadd, 1), (42, .iload_n 3, 1), (43, .iastore, 1), (44, .iload_n 1, 1), (45, .bipush 9, 2), (47, .imul, 1), (48, .iload 4, 2), (50, .iadd, 1), (51, .istore 5, 2), (53, .aload_n 0, 1), (54, .getfield 15, 3), (57, .iload 5, 2), (59, .iaload, 1), (60, .ifCond .ne 11, 3), (63, .aload_n 0, 1), (64, .getfield 18, 3), (67, .iload 5, 2), (69, .iaload, 1), (70, .istore_n 2, 1), (71, .aload_n 0, 1), (72, .getfield 15, 3), (75, .iload 5, 2), (77, .iaload, 1), (78, .iconst 1, 1), (79, .if_icmp .ne 6, 3), (82, .iinc 3 1, 3), (85, .aload_n 0, 1), (86, .getfield 15, 3), (89, .iload 5, 2), (91, .iaload, 1), (92, .iconst 2, 1), (93, .if_icmp .ne 6, 3), (96, .iinc 3 (-1), 3), (99, .iinc 4 1, 3), (102, .goto (-95), 3), (105, .aload_n 0, 1), (106, .getfield 27, 3), (109, .iload_n 1, 1), (110, .bipush 10, 2), (112, .imul, 1), (113, .aload_n 0, 1), (114, .getfield 9, 3), (117, .iload_n 1, 1), (118, .iaload, 1), (119, .iadd, 1), (120, .iload_n 2, 1), (121, .iastore, 1), (122, .aload_n 0, 1), (123, .getfield 30, 3), (126, .iload_n 1, 1), (127, .bipush 10, 2), (129, .imul, 1), (130, .aload_n 0, 1), (131, .getfield 9, 3), (134, .iload_n 1, 1), (135, .iaload, 1), (136, .iadd, 1), (137, .iload_n 3, 1), (138, .iastore, 1), (139, .return_, 1)]
def mvC16 : List (Nat × Instr × Nat) := [(0, .aload_n 0, 1), (1, .getfield 15, 3), (4, .iload_n 1, 1), (5, .bipush 9, 2), (7, .imul, 1), (8, .iload_n 2, 1), (9, .iadd, 1), (10, .iaload, 1), (11, .ireturn, 1)]
def mvC17 : List (Nat × Instr × Nat) := [(0, .aload_n 0, 1), (1, .getfield 18, 3), (4, .iload_n 1, 1), (5, .bipush 9, 2), (7, .imul, 1), (8, .iload_n 2, 1), (9, .iadd, 1), (10, .iaload, 1), (11, .ireturn, 1)]
def mvC18 : List (Nat × Instr × Nat) := [(0, .aload_n 0, 1), (1, .getfield 27, 3), (4, .iload_n 1, 1), (5, .bipush 10, 2), (7, .imul, 1), (8, .iload_n 2, 1), (9, .iadd, 1), (10, .iaload, 1), (11, .ireturn, 1)]
def mvC19 : List (Nat × Instr × Nat) := [(0, .iload_n 1, 1), (1, .iload_n 3, 1), (2, .if_icmp .ne 15, 3), (5, .iload_n 2, 1), (6, .iload 4, 2), (8, .if_icmp .ge 7, 3), (11, .iconst 1, 1), (12, .goto 4, 3), (15, .iconst 0, 1), (16, .ireturn, 1), (17, .aload_n 0, 1), (18, .getfield 24, 3), (21, .iload_n 3, 1), (22, .bipush 9, 2), (24, .imul, 1), (25, .iload 4, 2), (27, .iadd, 1), (28, .iconst 4, 1), (29, .imul, 1), (30, .iload_n 1, 1), (31, .iadd, 1), (32, .iaload, 1), (33, .iload_n 2, 1), (34, .if_icmp .le 7, 3), (37, .iconst 1, 1), (38, .goto 4, 3), (41, .iconst 0, 1), (42, .ireturn, 1)]
def mvC20 : List (Nat × Instr × Nat) := [(0, .iconst 0, 1), (1, .istore_n 3, 1), (2, .iload_n 3, 1), (3, .aload_n 0, 1), (4, .getfield 9, 3), (7, .iload_n 1, 1), (8, .iaload, 1), (9, .if_icmp .ge 52, 3), (12, .iload_n 1, 1), (13, .bipush 9, 2), (15, .imul, 1), (16, .iload_n 3, 1), (17, .iadd, 1), (18, .istore 4, 2), (20, .aload_n 0, 1), (21, .getfield 15, 3), (24, .iload 4, 2), (26, .iaload, 1), (27, .iconst 1, 1), (28, .if_icmp .ne 27, 3), (31, .aload_n 0, 1), (32, .getfield 18, 3), (35, .iload 4, 2), (37, .iaload, 1), (38, .iload_n 2, 1), (39, .if_icmp .ne 16, 3), (42, .aload_n 0, 1), (43, .getfield 21, 3), (46, .iload 4, 2), (48, .iaload, 1), (49, .iconst (-1), 1), (50, .if_icmp .ne 5, 3), (53, .iconst 1, 1), (54, .ireturn, 1), (55, .iinc 3 1, 3), (58, .goto (-56), 3), (61, .iconst 0, 1), (62, .ireturn, 1)]
def mvC21 : List (Nat × Instr × Nat) := [(0, .iconst 0, 1), (1, .istore_n 2, 1), (2, .iconst 0, 1), (3, .istore_n 3, 1), (4, .iload_n 3, 1), (5, .aload_n 0, 1), (6, .getfield 36, 3), (9, .if_icmp .ge 48, 3), (12, .iconst 0, 1), (13, .istore 4, 2), (15, .iload 4, 2), (17, .aload_n 0, 1), (18, .getfield 9, 3), (21, .iload_n 3, 1), (22, .iaload, 1), (23, .if_icmp .ge 28, 3), (26, .aload_n 0, 1), (27, .getfield 15, 3), (30, .iload_n 3, 1), (31, .bipush 9, 2), (33, .imul, 1), (34, .iload 4, 2), (36, .iadd, 1), (37, .iaload, 1), (38, .iload_n 1, 1), (39, .if_icmp .ne 6, 3), (42, .iinc 2 1, 3), (45, .iinc 4 1, 3), (48, .goto (-33), 3), (51, .iinc 3 1, 3), (54, .goto (-50), 3), (57, .iload_n 2, 1), (58, .ireturn, 1)]
def mvC22 : List (Nat × Instr × Nat) := [(0, .iload_n 1, 1), (1, .ifCond .ge 5, 3), (4, .iconst 0, 1), (5, .ireturn, 1), (6, .iload_n 1, 1), (7, .istore_n 2, 1), (8, .aload_n 0, 1), (9, .getfield 36, 3), (12, .iconst 1, 1), (13, .isub, 1), (14, .istore_n 3, 1), (15, .iload_n 3, 1), (16, .ifCond .lt 29, 3), (19, .iload_n 2, 1), (20, .bipush 10, 2), (22, .irem, 1), (23, .aload_n 0, 1), (24, .getfield 9, 3), (27, .iload_n 3, 1), (28, .iaload, 1), (29, .if_icmp .le 5, 3), (32, .iconst 0, 1), (33, .ireturn, 1), (34, .iload_n 2, 1), (35, .bipush 10, 2), (37, .idiv, 1), (38, .istore_n 2, 1), (39, .iinc 3 (-1), 3), (42, .goto (-27), 3), (45, .iload_n 2, 1), (46, .ifCond .ne 7, 3), (49, .iconst 1, 1), (50, .goto 4, 3), (53, .iconst 0, 1), (54, .ireturn, 1)]
def mvC23 : List (Nat × Instr × Nat) := [(0, .iload_n 1, 1), (1, .getstatic 91, 3), (4, .aload_n 0, 1), (5, .getfield 36, 3), (8, .iconst 1, 1), (9, .isub, 1), (10, .iload_n 2, 1), (11, .isub, 1), (12, .iaload, 1), (13, .idiv, 1), (14, .bipush 10, 2), (16, .irem, 1), (17, .ireturn, 1)]
def mvC24 : List (Nat × Instr × Nat) := [(0, .iload_n 1, 1), (1, .getstatic 91, 3), (4, .aload_n 0, 1), (5, .getfield 36, 3), (8, .iconst 1, 1), (9, .isub, 1), (10, .iload_n 2, 1), (11, .isub, 1), (12, .iaload, 1), (13, .iadd, 1), (14, .ireturn, 1)]
def mvC25 : List (Nat × Instr × Nat) := [(0, .aload_n 0, 1), (1, .getfield 27, 3), (4, .iload_n 2, 1), (5, .bipush 10, 2), (7, .imul, 1), (8, .iload_n 1, 1), (9, .getstatic 91, 3), (12, .aload_n 0, 1), (13, .getfield 36, 3), (16, .iconst 1, 1), (17, .isub, 1), (18, .iload_n 2, 1), (19, .isub, 1), (20, .iaload, 1), (21, .idiv, 1), (22, .bipush 10, 2), (24, .irem, 1), (25, .iadd, 1), (26, .iaload, 1), (27, .ireturn, 1)]
def mvC26 : List (Nat × Instr × Nat) := [(0, .aload_n 0, 1), (1, .getfield 9, 3), (4, .iload_n 1, 1), (5, .iconst 1, 1), (6, .iadd, 1), (7, .iaload, 1), (8, .aload_n 0, 1), (9, .getfield 9, 3), (12, .iload_n 1, 1), (13, .iaload, 1), (14, .isub, 1), (15, .ireturn, 1)]
def mvC27 : List (Nat × Instr × Nat) := [(0, .aload_n 0, 1), (1, .getfield 18, 3), (4, .aload_n 0, 1), (5, .getfield 21, 3), (8, .iload_n 1, 1), (9, .iaload, 1), (10, .iaload, 1), (11, .ireturn, 1)]
def mvC28 : List (Nat × Instr × Nat) := [(0, .aload_n 0, 1), (1, .getfield 9, 3), (4, .iload_n 1, 1), (5, .iaload, 1), (6, .iload_n 2, 1), (7, .ishr, 1), (8, .iconst 1, 1), (9, .iand, 1), (10, .ifCond .eq 7, 3), (13, .iconst 1, 1), (14, .goto 4, 3), (17, .iconst 0, 1), (18, .ireturn, 1)]
def mvC29 : List (Nat × Instr × Nat) := [(0, .iload_n 1, 1), (1, .tableswitch 50 0 2 #[27, 40, 45], 27), (28, .aload_n 0, 1), (29, .getfield 23, 3), (32, .ifCond .le 7, 3), (35, .iconst 1, 1), (36, .goto 4, 3), (39, .iconst 0, 1), (40, .ireturn, 1), (41, .aload_n 0, 1), (42, .getfield 23, 3), (45, .ireturn, 1), (46, .aload_n 0, 1), (47, .getfield 27, 3), (50, .ireturn, 1), (51, .aload_n 0, 1), (52, .getfield 15, 3), (55, .iconst 0, 1), (56, .baload, 1), (57, .ifCond .eq 7, 3), (60, .iconst 0, 1), (61, .goto 4, 3), (64, .iconst 1, 1), (65, .ireturn, 1)]
def mvC30 : List (Nat × Instr × Nat) := [(0, .aload_n 0, 1), (1, .getfield 27, 3), (4, .ireturn, 1)]
def mvC31 : List (Nat × Instr × Nat) := [(0, .aload_n 0, 1), (1, .getfield 15, 3), (4, .iload_n 1, 1), (5, .iconst 5, 1), (6, .imul, 1), (7, .aload_n 0, 1), (8, .getfield 9, 3), (11, .iload_n 1, 1), (12, .iaload, 1), (13, .iadd, 1), (14, .iload_n 2, 1), (15, .iastore, 1), (16, .aload_n 0, 1), (17, .getfield 9, 3), (20, .iload_n 1, 1), (21, .dup2, 1), (22, .iaload, 1), (23, .iconst 1, 1), (24, .iadd, 1), (25, .iastore, 1), (26, .return_, 1)]
def mvC32 : List (Nat × Instr × Nat) := [(0, .aload_n 0, 1), (1, .getfield 15, 3), (4, .iload_n 1, 1), (5, .iconst 5, 1), (6, .imul, 1), (7, .iload_n 2, 1), (8, .iadd, 1), (9, .iaload, 1), (10, .ireturn, 1)]
def mvC33 : List (Nat × Instr × Nat) := [(0, .aload_n 0, 1), (1, .getfield 18, 3), (4, .iload_n 1, 1), (5, .iconst 5, 1), (6, .imul, 1), (7, .iload_n 2, 1), (8, .iadd, 1), (9, .iaload, 1), (10, .ireturn, 1)]
def mvC34 : List (Nat × Instr × Nat) := [(0, .iconst 0, 1), (1, .istore_n 2, 1), (2, .iload_n 2, 1), (3, .iload_n 1, 1), (4, .if_icmp .ge 42, 3), (7, .aload_n 0, 1), (8, .getfield 21, 3), (11, .iload_n 2, 1), (12, .dup2, 1), (13, .iaload, 1), (14, .iconst 1, 1), (15, .iadd, 1), (16, .iastore, 1), (17, .aload_n 0, 1), (18, .getfield 21, 3), (21, .iload_n 2, 1), (22, .iaload, 1), (23, .aload_n 0, 1), (24, .getfield 9, 3), (27, .iload_n 2, 1), (28, .iaload, 1), (29, .if_icmp .ge 4, 3), (32, .return_, 1), (33, .aload_n 0, 1), (34, .getfield 21, 3), (37, .iload_n 2, 1), (38, .iconst 0, 1), (39, .iastore, 1), (40, .iinc 2 1, 3), (43, .goto (-41), 3), (46, .return_, 1)]
def mvC35 : List (Nat × Instr × Nat) := [(0, .aload_n 0, 1), (1, .getfield 21, 3), (4, .iconst 0, 1), (5, .putfield 32, 3), (8, .aload_n 0, 1), (9, .getfield 28, 3), (12, .iconst 0, 1), (13, .putfield 36, 3), (16, .return_, 1)]
def mvC36 : List (Nat × Instr × Nat) := [(0, .iconst 0, 1), (1, .istore_n 2, 1), (2, .iload_n 2, 1), (3, .bipush 16, 2), (5, .if_icmp .ge 40, 3), (8, .aload_n 0, 1), (9, .getfield 18, 3), (12, .iload_n 2, 1), (13, .iaload, 1), (14, .iconst (-1), 1), (15, .if_icmp .eq 24, 3), (18, .iload_n 1, 1), (19, .ifCond .ne 18, 3), (22, .aload_n 0, 1), (23, .getfield 15, 3), (26, .iload_n 2, 1), (27, .iaload, 1), (28, .aload_n 0, 1), (29, .getfield 18, 3), (32, .iload_n 2, 1), (33, .iaload, 1), (34, .if_icmp .lt 5, 3), (37, .iload_n 2, 1), (38, .ireturn, 1), (39, .iinc 2 1, 3), (42, .goto (-40), 3), (45, .iconst (-1), 1), (46, .ireturn, 1)]
def mvC37 : List (Nat × Instr × Nat) := [(0, .iload_n 1, 1), (1, .ifCond .ne 8, 3), (4, .aload_n 0, 1), (5, .getfield 50, 3), (8, .ireturn, 1), (9, .iload_n 1, 1), (10, .iconst 1, 1), (11, .if_icmp .ne 10, 3), (14, .aload_n 0, 1), (15, .getfield 65, 3), (18, .goto 7, 3), (21, .aload_n 0, 1), (22, .getfield 68, 3), (25, .ireturn, 1)]
def mvC38 : List (Nat × Instr × Nat) := [(0, .iload_n 0, 1), (1, .iload_n 1, 1), (2, .if_icmp .lt 12, 3), (5, .iload_n 0, 1), (6, .iload_n 2, 1), (7, .if_icmp .gt 7, 3), (10, .iconst 1, 1), (11, .goto 4, 3), (14, .iconst 0, 1), (15, .ireturn, 1)]
def mvC39 : List (Nat × Instr × Nat) := [(0, .aload_n 0, 1), (1, .getfield 99, 3), (4, .istore_n 1, 1), (5, .aload_n 0, 1), (6, .iconst 0, 1), (7, .putfield 99, 3), (10, .iload_n 1, 1), (11, .ireturn, 1)]
def mvC40 : List (Nat × Instr × Nat) := [(0, .aload_n 0, 1), (1, .getfield 103, 3), (4, .iconst 1, 1), (5, .isub, 1), (6, .istore_n 3, 1), (7, .aload_n 0, 1), (8, .getfield 37, 3), (11, .bipush 9, 2), (13, .iload_n 3, 1), (14, .imul, 1), (15, .aload_n 0, 1), (16, .getfield 34, 3), (19, .iload_n 3, 1), (20, .iaload, 1), (21, .iadd, 1), (22, .iload_n 1, 1), (23, .iastore, 1), (24, .aload_n 0, 1), (25, .getfield 40, 3), (28, .bipush 9, 2), (30, .iload_n 3, 1), (31, .imul, 1), (32, .aload_n 0, 1), (33, .getfield 34, 3), (36, .iload_n 3, 1), (37, .iaload, 1), (38, .iadd, 1), (39, .iload_n 2, 1), (40, .iastore, 1), (41, .aload_n 0, 1), (42, .getfield 34, 3), (45, .iload_n 3, 1), (46, .dup2, 1), (47, .iaload, 1), (48, .iconst 1, 1), (49, .iadd, 1), (50, .iastore, 1), (51, .aload_n 0, 1), (52, .dup, 1), (53, .getfield 106, 3), (56, .iconst 1, 1), (57, .iadd, 1), (58, .putfield 106, 3), (61, .aload_n 0, 1), (62, .iconst (-1), 1), (63, .putfield 109, 3), (66, .iconst 1, 1), (67, .ireturn, 1)]
def mvC41 : List (Nat × Instr × Nat) := [(0, .iconst 1, 1), (1, .istore_n 1, 1), (2, .iconst 0, 1), (3, .istore_n 2, 1), (4, .iload_n 2, 1), (5, .aload_n 0, 1), (6, .getfield 103, 3), (9, .if_icmp .ge 80, 3), (12, .iconst 0, 1), (13, .istore_n 3, 1), (14, .iload_n 3, 1), (15, .aload_n 0, 1), (16, .getfield 34, 3), (19, .iload_n 2, 1), (20, .iaload, 1), (21, .if_icmp .ge 62, 3), (24, .bipush 9, 2), (26, .iload_n 2, 1), (27, .imul, 1), (28, .iload_n 3, 1), (29, .iadd, 1), (30, .istore 4, 2), (32, .iload_n 1, 1), (33, .ifCond .eq 42, 3), (36, .aload_n 0, 1), (37, .getfield 37, 3), (40, .iload 4, 2), (42, .iaload, 1), (43, .ifCond .eq 28, 3), (46, .aload_n 0, 1), (47, .getfield 40, 3), (50, .iload 4, 2), (52, .iaload, 1), (53, .iload_n 2, 1), (54, .if_icmp .eq 21, 3), (57, .aload_n 0, 1), (58, .getfield 40, 3), (61, .iload 4, 2), (63, .iaload, 1), (64, .aload_n 0, 1), (65, .getfield 103, 3), (68, .if_icmp .ge 7, 3), (71, .iconst 1, 1), (72, .goto 4, 3), (75, .iconst 0, 1), (76, .istore_n 1, 1), (77, .iinc 3 1, 3), (80, .goto (-66), 3), (83, .iinc 2 1, 3), (86, .goto (-82), 3), (89, .iload_n 1, 1), (90, .ireturn, 1)]
def mvC42 : List (Nat × Instr × Nat) := [(0, .iconst 0, 1), (1, .istore 5, 2), (3, .iconst 0, 1), (4, .istore 6, 2), (6, .iload 6, 2), (8, .iload 4, 2), (10, .if_icmp .ge 50, 3), (13, .bipush 9, 2), (15, .iload_n 1, 1), (16, .imul, 1), (17, .iload 6, 2), (19, .iadd, 1), (20, .istore 7, 2), (22, .iload 5, 2), (24, .aload_n 0, 1), (25, .getfield 37, 3), (28, .iload 7, 2), (30, .iaload, 1), (31, .iload_n 2, 1), (32, .if_icmp .ne 18, 3), (35, .aload_n 0, 1), (36, .getfield 40, 3), (39, .iload 7, 2), (41, .iaload, 1), (42, .iload_n 3, 1), (43, .if_icmp .ne 7, 3), (46, .iconst 1, 1), (47, .goto 4, 3), (50, .iconst 0, 1), (51, .iadd, 1), (52, .istore 5, 2), (54, .iinc 6 1, 3), (57, .goto (-51), 3), (60, .iload 5, 2), (62, .ireturn, 1)]
def mvC43 : List (Nat × Instr × Nat) := [(0, .aload_n 0, 1), (1, .getfield 138, 3), (4, .ifCond .le 7, 3), (7, .iconst 1, 1), (8, .goto 4, 3), (11, .iconst 0, 1), (12, .ireturn, 1)]
def mvC44 : List (Nat × Instr × Nat) := [(0, .iconst 0, 1), (1, .istore 5, 2), (3, .iconst 0, 1), (4, .istore 6, 2), (6, .iload 6, 2), (8, .iload 4, 2), (10, .if_icmp .ge 50, 3), (13, .bipush 9, 2), (15, .iload_n 1, 1), (16, .imul, 1), (17, .iload 6, 2), (19, .iadd, 1), (20, .istore 7, 2), (22, .iload 5, 2), (24, .aload_n 0, 1), (25, .getfield 13, 3), (28, .iload 7, 2), (30, .iaload, 1), (31, .iload_n 2, 1), (32, .if_icmp .ne 18, 3), (35, .aload_n 0, 1), (36, .getfield 16, 3), (39, .iload 7, 2), (41, .iaload, 1), (42, .iload_n 3, 1), (43, .if_icmp .ne 7, 3), (46, .iconst 1, 1), (47, .goto 4, 3), (50, .iconst 0, 1), (51, .iadd, 1), (52, .istore 5, 2), (54, .iinc 6 1, 3), (57, .goto (-51), 3), (60, .iload 5, 2), (62, .ireturn, 1)]
def mvC45 : List (Nat × Instr × Nat) := [(0, .bipush 9, 2), (2, .iload_n 1, 1), (3, .imul, 1), (4, .iload_n 2, 1), (5, .iadd, 1), (6, .istore_n 3, 1), (7, .aload_n 0, 1), (8, .getfield 22, 3), (11, .iconst 4, 1), (12, .iload_n 3, 1), (13, .imul, 1), (14, .iload_n 1, 1), (15, .iadd, 1), (16, .iload_n 2, 1), (17, .iconst 1, 1), (18, .iadd, 1), (19, .iastore, 1), (20, .iconst 0, 1), (21, .istore 4, 2), (23, .iload 4, 2), (25, .aload_n 0, 1), (26, .getfield 138, 3), (29, .if_icmp .ge 128, 3), (32, .aload_n 0, 1), (33, .getfield 22, 3), (36, .iconst 4, 1), (37, .iload_n 3, 1), (38, .imul, 1), (39, .iload 4, 2), (41, .iadd, 1), (42, .iaload, 1), (43, .istore 5, 2), (45, .iload_n 2, 1), (46, .ifCond .le 19, 3), (49, .aload_n 0, 1), (50, .getfield 22, 3), (53, .iconst 4, 1), (54, .iload_n 3, 1), (55, .iconst 1, 1), (56, .isub, 1), (57, .imul, 1), (58, .iload 4, 2), (60, .iadd, 1), (61, .iaload, 1), (62, .goto 4, 3), (65, .iconst 0, 1), (66, .istore 6, 2), (68, .aload_n 0, 1), (69, .getfield 13, 3), (72, .iload_n 3, 1), (73, .iaload, 1), (74, .iconst 2, 1), (75, .if_icmp .ne 32, 3), (78, .aload_n 0, 1), (79, .getfield 22, 3), (82, .iconst 4, 1), (83, .bipush 9, 2), (85, .aload_n 0, 1), (86, .getfield 16, 3), (89, .iload_n 3, 1), (90, .iaload, 1), (91, .imul, 1), (92, .aload_n 0, 1), (93, .getfield 19, 3), (96, .iload_n 3, 1), (97, .iaload, 1), (98, .iadd, 1), (99, .imul, 1), (100, .iload 4, 2), (102, .iadd, 1), (103, .iaload, 1), (104, .goto 4, 3), (107, .iconst 0, 1), (108, .istore 7, 2), (110, .iload 6, 2), (112, .iload 5, 2), (114, .if_icmp .le 8, 3), (117, .iload 6, 2), (119, .goto 5, 3), (122, .iload 5, 2), (124, .istore 5, 2), (126, .aload_n 0, 1), (127, .getfield 22, 3), (130, .iconst 4, 1), (131, .iload_n 3, 1), (132, .imul, 1), (133, .iload 4, 2), (135, .iadd, 1), (136, .iload 7, 2), (138, .iload 5, 2), (140, .if_icmp .le 8, 3), (143, .iload 7, 2), (145, .goto 5, 3), (148, .iload 5, 2), (150, .iastore, 1), (151, .iinc 4 1, 3), (154, .goto (-131), 3), (157, .return_, 1)]
def mvC46 : List (Nat × Instr × Nat) := [(0, .iconst 0, 1), (1, .istore_n 1, 1), (2, .iconst 0, 1), (3, .istore_n 2, 1), (4, .iload_n 2, 1), (5, .aload_n 0, 1), (6, .getfield 138, 3), (9, .if_icmp .ge 18, 3), (12, .iload_n 1, 1), (13, .aload_n 0, 1), (14, .getfield 7, 3), (17, .iload_n 2, 1), (18, .iaload, 1), (19, .iadd, 1), (20, .istore_n 1, 1), (21, .iinc 2 1, 3), (24, .goto (-20), 3), (27, .iload_n 1, 1), (28, .ireturn, 1)]
def mvC47 : List (Nat × Instr × Nat) := [(0, .bipush 9, 2), (2, .iload_n 1, 1), (3, .imul, 1), (4, .iload_n 2, 1), (5, .iadd, 1), (6, .istore 4, 2), (8, .iload_n 3, 1), (9, .tableswitch 51 0 2 #[27, 35, 43], 27), (36, .aload_n 0, 1), (37, .getfield 13, 3), (40, .iload 4, 2), (42, .iaload, 1), (43, .ireturn, 1), (44, .aload_n 0, 1), (45, .getfield 16, 3), (48, .iload 4, 2), (50, .iaload, 1), (51, .ireturn, 1), (52, .aload_n 0, 1), (53, .getfield 19, 3), (56, .iload 4, 2), (58, .iaload, 1), (59, .ireturn, 1), (60, .iload_n 3, 1), (61, .iconst 3, 1), (62, .isub, 1), (63, .aload_n 0, 1), (64, .getfield 138, 3), (67, .if_icmp .ge 19, 3), (70, .aload_n 0, 1), (71, .getfield 22, 3), (74, .iconst 4, 1), (75, .iload 4, 2), (77, .imul, 1), (78, .iload_n 3, 1), (79, .iadd, 1), (80, .iconst 3, 1), (81, .isub, 1), (82, .iaload, 1), (83, .goto 4, 3), (86, .iconst (-1), 1), (87, .ireturn, 1)]
def mvC48 : List (Nat × Instr × Nat) := [(0, .aload_n 0, 1), (1, .getfield 22, 3), (4, .iconst 4, 1), (5, .bipush 9, 2), (7, .iload_n 3, 1), (8, .imul, 1), (9, .iload 4, 2), (11, .iadd, 1), (12, .imul, 1), (13, .iload_n 1, 1), (14, .iadd, 1), (15, .iaload, 1), (16, .iload_n 2, 1), (17, .if_icmp .le 18, 3), (20, .iload_n 1, 1), (21, .iload_n 3, 1), (22, .if_icmp .ne 9, 3), (25, .iload_n 2, 1), (26, .iload 4, 2), (28, .if_icmp .eq 7, 3), (31, .iconst 1, 1), (32, .goto 4, 3), (35, .iconst 0, 1), (36, .ireturn, 1)]
def mvC49 : List (Nat × Instr × Nat) := [(0, .iconst 1, 1), (1, .istore_n 1, 1), (2, .iconst 0, 1), (3, .istore_n 2, 1), (4, .iload_n 2, 1), (5, .aload_n 0, 1), (6, .getfield 138, 3), (9, .if_icmp .ge 20, 3), (12, .iload_n 1, 1), (13, .aload_n 0, 1), (14, .getfield 7, 3), (17, .iload_n 2, 1), (18, .iaload, 1), (19, .iconst 1, 1), (20, .iadd, 1), (21, .imul, 1), (22, .istore_n 1, 1), (23, .iinc 2 1, 3), (26, .goto (-22), 3), (29, .iload_n 1, 1), (30, .ireturn, 1)]
def mvC50 : List (Nat × Instr × Nat) := [(0, .iload_n 1, 1), (1, .istore_n 2, 1), (2, .aload_n 0, 1), (3, .getfield 138, 3), (6, .iconst 1, 1), (7, .isub, 1), (8, .istore_n 3, 1), (9, .iload_n 3, 1), (10, .ifCond .lt 36, 3), (13, .aload_n 0, 1), (14, .getfield 46, 3), (17, .iload_n 3, 1), (18, .iload_n 2, 1), (19, .aload_n 0, 1), (20, .getfield 7, 3), (23, .iload_n 3, 1), (24, .iaload, 1), (25, .iconst 1, 1), (26, .iadd, 1), (27, .irem, 1), (28, .iastore, 1), (29, .iload_n 2, 1), (30, .aload_n 0, 1), (31, .getfield 7, 3), (34, .iload_n 3, 1), (35, .iaload, 1), (36, .iconst 1, 1), (37, .iadd, 1), (38, .idiv, 1), (39, .istore_n 2, 1), (40, .iinc 3 (-1), 3), (43, .goto (-34), 3), (46, .return_, 1)]
def mvC51 : List (Nat × Instr × Nat) := [(0, .iconst 1, 1), (1, .istore_n 2, 1), (2, .iload_n 1, 1), (3, .iconst 1, 1), (4, .iadd, 1), (5, .istore_n 3, 1), (6, .iload_n 3, 1), (7, .aload_n 0, 1), (8, .getfield 138, 3), (11, .if_icmp .ge 20, 3), (14, .iload_n 2, 1), (15, .aload_n 0, 1), (16, .getfield 7, 3), (19, .iload_n 3, 1), (20, .iaload, 1), (21, .iconst 1, 1), (22, .iadd, 1), (23, .imul, 1), (24, .istore_n 2, 1), (25, .iinc 3 1, 3), (28, .goto (-22), 3), (31, .iload_n 2, 1), (32, .ireturn, 1)]
def mvC52 : List (Nat × Instr × Nat) := [(0, .iconst 0, 1), (1, .istore_n 1, 1), (2, .iconst 0, 1), (3, .istore_n 2, 1), (4, .iload_n 2, 1), (5, .aload_n 0, 1), (6, .getfield 138, 3), (9, .if_icmp .ge 27, 3), (12, .iload_n 1, 1), (13, .aload_n 0, 1), (14, .getfield 7, 3), (17, .iload_n 2, 1), (18, .iaload, 1), (19, .iconst 1, 1), (20, .iadd, 1), (21, .imul, 1), (22, .aload_n 0, 1), (23, .getfield 46, 3), (26, .iload_n 2, 1), (27, .iaload, 1), (28, .iadd, 1), (29, .istore_n 1, 1), (30, .iinc 2 1, 3), (33, .goto (-29), 3), (36, .iload_n 1, 1), (37, .ireturn, 1)]
def mvC53 : List (Nat × Instr × Nat) := [(0, .iconst 0, 1), (1, .istore_n 1, 1), (2, .iconst 0, 1), (3, .istore_n 2, 1), (4, .iload_n 2, 1), (5, .aload_n 0, 1), (6, .getfield 138, 3), (9, .if_icmp .ge 21, 3), (12, .iload_n 1, 1), (13, .bipush 10, 2), (15, .imul, 1), (16, .aload_n 0, 1), (17, .getfield 46, 3), (20, .iload_n 2, 1), (21, .iaload, 1), (22, .iadd, 1), (23, .istore_n 1, 1), (24, .iinc 2 1, 3), (27, .goto (-23), 3), (30, .iload_n 1, 1), (31, .ireturn, 1)]
def mvC54 : List (Nat × Instr × Nat) := [(0, .iload_n 1, 1), (1, .istore_n 2, 1), (2, .iload_n 1, 1), (3, .ifCond .lt 7, 3), (6, .iconst 1, 1), (7, .goto 4, 3), (10, .iconst 0, 1), (11, .istore_n 3, 1), (12, .aload_n 0, 1), (13, .getfield 138, 3), (16, .iconst 1, 1), (17, .isub, 1), (18, .istore 4, 2), (20, .iload 4, 2), (22, .ifCond .lt 52, 3), (25, .aload_n 0, 1), (26, .getfield 46, 3), (29, .iload 4, 2), (31, .iload_n 2, 1), (32, .bipush 10, 2), (34, .irem, 1), (35, .iastore, 1), (36, .iload_n 2, 1), (37, .bipush 10, 2), (39, .idiv, 1), (40, .istore_n 2, 1), (41, .iload_n 3, 1), (42, .ifCond .eq 24, 3), (45, .aload_n 0, 1), (46, .getfield 46, 3), (49, .iload 4, 2), (51, .iaload, 1), (52, .aload_n 0, 1), (53, .getfield 7, 3), (56, .iload 4, 2), (58, .iaload, 1), (59, .if_icmp .gt 7, 3), (62, .iconst 1, 1), (63, .goto 4, 3), (66, .iconst 0, 1), (67, .istore_n 3, 1), (68, .iinc 4 (-1), 3), (71, .goto (-51), 3), (74, .iload_n 3, 1), (75, .ifCond .eq 11, 3), (78, .iload_n 2, 1), (79, .ifCond .ne 7, 3), (82, .iconst 1, 1), (83, .goto 4, 3), (86, .iconst 0, 1), (87, .ireturn, 1)]
def mvC55 : List (Nat × Instr × Nat) := [(0, .iconst 1, 1), (1, .istore_n 1, 1), (2, .iconst 0, 1), (3, .istore_n 2, 1), (4, .iload_n 2, 1), (5, .aload_n 0, 1), (6, .getfield 138, 3), (9, .if_icmp .ge 75, 3), (12, .iconst 0, 1), (13, .istore_n 3, 1), (14, .iload_n 3, 1), (15, .aload_n 0, 1), (16, .getfield 138, 3), (19, .if_icmp .ge 59, 3), (22, .aload_n 0, 1), (23, .getfield 46, 3), (26, .iload_n 2, 1), (27, .iaload, 1), (28, .ifCond .le 50, 3), (31, .iload_n 1, 1), (32, .ifCond .eq 38, 3), (35, .aload_n 0, 1), (36, .getfield 22, 3), (39, .iconst 4, 1), (40, .bipush 9, 2), (42, .iload_n 2, 1), (43, .imul, 1), (44, .aload_n 0, 1), (45, .getfield 46, 3), (48, .iload_n 2, 1), (49, .iaload, 1), (50, .iadd, 1), (51, .iconst 1, 1), (52, .isub, 1), (53, .imul, 1), (54, .iload_n 3, 1), (55, .iadd, 1), (56, .iaload, 1), (57, .aload_n 0, 1), (58, .getfield 46, 3), (61, .iload_n 3, 1), (62, .iaload, 1), (63, .if_icmp .gt 7, 3), (66, .iconst 1, 1), (67, .goto 4, 3), (70, .iconst 0, 1), (71, .istore_n 1, 1), (72, .iinc 3 1, 3), (75, .goto (-61), 3), (78, .iinc 2 1, 3), (81, .goto (-77), 3), (84, .iload_n 1, 1), (85, .ireturn, 1)]
def mvC56 : List (Nat × Instr × Nat) := [(0, .iconst 0, 1), (1, .istore_n 1, 1), (2, .iconst 0, 1), (3, .istore_n 2, 1), (4, .iload_n 2, 1), (5, .aload_n 0, 1), (6, .getfield 138, 3), (9, .if_icmp .ge 18, 3), (12, .iload_n 1, 1), (13, .aload_n 0, 1), (14, .getfield 46, 3), (17, .iload_n 2, 1), (18, .iaload, 1), (19, .iadd, 1), (20, .istore_n 1, 1), (21, .iinc 2 1, 3), (24, .goto (-20), 3), (27, .iload_n 1, 1), (28, .ireturn, 1)]
def mvC57 : List (Nat × Instr × Nat) := [(0, .iconst 0, 1), (1, .istore_n 3, 1), (2, .iconst 0, 1), (3, .istore 4, 2), (5, .iload 4, 2), (7, .iload_n 2, 1), (8, .if_icmp .ge 40, 3), (11, .bipush 9, 2), (13, .iload_n 1, 1), (14, .imul, 1), (15, .iload 4, 2), (17, .iadd, 1), (18, .istore 5, 2), (20, .aload_n 0, 1), (21, .getfield 13, 3), (24, .iload 5, 2), (26, .iaload, 1), (27, .ifCond .ne 13, 3), (30, .aload_n 0, 1), (31, .getfield 16, 3), (34, .iload 5, 2), (36, .iaload, 1), (37, .goto 4, 3), (40, .iload_n 3, 1), (41, .istore_n 3, 1), (42, .iinc 4 1, 3), (45, .goto (-40), 3), (48, .iload_n 3, 1), (49, .ireturn, 1)]
def mvC58 : List (Nat × Instr × Nat) := [(0, .iconst 0, 1), (1, .istore_n 3, 1), (2, .iconst 0, 1), (3, .istore 4, 2), (5, .iload 4, 2), (7, .aload_n 0, 1), (8, .getfield 46, 3), (11, .iload_n 1, 1), (12, .iaload, 1), (13, .if_icmp .ge 87, 3), (16, .bipush 9, 2), (18, .iload_n 1, 1), (19, .imul, 1), (20, .iload 4, 2), (22, .iadd, 1), (23, .istore 5, 2), (25, .aload_n 0, 1), (26, .getfield 13, 3), (29, .iload 5, 2), (31, .iaload, 1), (32, .iconst 1, 1), (33, .if_icmp .ne 18, 3), (36, .aload_n 0, 1), (37, .getfield 16, 3), (40, .iload 5, 2), (42, .iaload, 1), (43, .iload_n 2, 1), (44, .if_icmp .ne 7, 3), (47, .iconst 1, 1), (48, .goto 4, 3), (51, .iconst 0, 1), (52, .istore 6, 2), (54, .iload_n 3, 1), (55, .iload 6, 2), (57, .ifCond .eq 34, 3), (60, .aload_n 0, 1), (61, .getfield 19, 3), (64, .iload 5, 2), (66, .iaload, 1), (67, .iconst (-1), 1), (68, .if_icmp .eq 19, 3), (71, .aload_n 0, 1), (72, .getfield 19, 3), (75, .iload 5, 2), (77, .iaload, 1), (78, .aload_n 0, 1), (79, .getfield 46, 3), (82, .iload_n 2, 1), (83, .iaload, 1), (84, .if_icmp .lt 7, 3), (87, .iconst 1, 1), (88, .goto 4, 3), (91, .iconst 0, 1), (92, .iadd, 1), (93, .istore_n 3, 1), (94, .iinc 4 1, 3), (97, .goto (-92), 3), (100, .iload_n 3, 1), (101, .ireturn, 1)]
def mvC59 : List (Nat × Instr × Nat) := [(0, .iconst 0, 1), (1, .istore_n 1, 1), (2, .iload_n 1, 1), (3, .iconst 4, 1), (4, .if_icmp .ge 21, 3), (7, .aload_n 0, 1), (8, .getfield 77, 3), (11, .iload_n 1, 1), (12, .aload_n 0, 1), (13, .getfield 7, 3), (16, .iload_n 1, 1), (17, .iaload, 1), (18, .iastore, 1), (19, .iinc 1 1, 3), (22, .goto (-20), 3), (25, .iconst 0, 1), (26, .istore_n 1, 1), (27, .iload_n 1, 1), (28, .bipush 36, 2), (30, .if_icmp .ge 33, 3), (33, .aload_n 0, 1), (34, .getfield 80, 3), (37, .iload_n 1, 1), (38, .aload_n 0, 1), (39, .getfield 13, 3), (42, .iload_n 1, 1), (43, .iaload, 1), (44, .iastore, 1), (45, .aload_n 0, 1), (46, .getfield 83, 3), (49, .iload_n 1, 1), (50, .aload_n 0, 1), (51, .getfield 16, 3), (54, .iload_n 1, 1), (55, .iaload, 1), (56, .iastore, 1), (57, .iinc 1 1, 3), (60, .goto (-33), 3), (63, .return_, 1)]
def mvC60 : List (Nat × Instr × Nat) := [(0, .aload_n 0, 1), (1, .ldc2_w 341, 3), (4, .aload_n 0, 1), (5, .getfield 343, 3), (8, .lmul, 1), (9, .ldc2_w 347, 3), (12, .ladd, 1), (13, .ldc2_w 349, 3), (16, .lrem, 1), (17, .putfield 343, 3), (20, .aload_n 0, 1), (21, .getfield 343, 3), (24, .ldc2_w 351, 3), (27, .ldiv, 1), (28, .iload_n 1, 1), (29, .i2l, 1), (30, .lrem, 1), (31, .l2i, 1), (32, .ireturn, 1)]
def mvC61 : List (Nat × Instr × Nat) := [(0, .aload_n 0, 1), (1, .getfield 46, 3), (4, .iload_n 1, 1), (5, .iaload, 1), (6, .aload_n 0, 1), (7, .getfield 7, 3), (10, .iload_n 1, 1), (11, .iaload, 1), (12, .if_icmp .ne 5, 3), (15, .iconst 0, 1), (16, .ireturn, 1), (17, .bipush 9, 2), (19, .iload_n 1, 1), (20, .imul, 1), (21, .aload_n 0, 1), (22, .getfield 46, 3), (25, .iload_n 1, 1), (26, .iaload, 1), (27, .iadd, 1), (28, .istore_n 2, 1), (29, .aload_n 0, 1), (30, .getfield 13, 3), (33, .iload_n 2, 1), (34, .iaload, 1), (35, .iconst 2, 1), (36, .if_icmp .ne 23, 3), (39, .aload_n 0, 1), (40, .getfield 19, 3), (43, .iload_n 2, 1), (44, .iaload, 1), (45, .aload_n 0, 1), (46, .getfield 46, 3), (49, .aload_n 0, 1), (50, .getfield 16, 3), (53, .iload_n 2, 1), (54, .iaload, 1), (55, .iaload, 1), (56, .if_icmp .ge 7, 3), (59, .iconst 1, 1), (60, .goto 4, 3), (63, .iconst 0, 1), (64, .ireturn, 1)]
def mvC62 : List (Nat × Instr × Nat) := [(0, .iload_n 1, 1), (1, .ifCond .ne 10, 3), (4, .aload_n 0, 1), (5, .getfield 387, 3), (8, .goto 19, 3), (11, .iload_n 1, 1), (12, .iconst 1, 1), (13, .if_icmp .ne 10, 3), (16, .aload_n 0, 1), (17, .getfield 378, 3), (20, .goto 7, 3), (23, .aload_n 0, 1), (24, .getfield 366, 3), (27, .ireturn, 1)]
def mvC63 : List (Nat × Instr × Nat) := [(0, .iconst 0, 1), (1, .istore_n 2, 1), (2, .iconst 0, 1), (3, .istore_n 3, 1), (4, .iload_n 3, 1), (5, .aload_n 0, 1), (6, .getfield 138, 3), (9, .if_icmp .ge 53, 3), (12, .iconst 0, 1), (13, .istore 4, 2), (15, .iload 4, 2), (17, .aload_n 0, 1), (18, .getfield 7, 3), (21, .iload_n 3, 1), (22, .iaload, 1), (23, .if_icmp .ge 33, 3), (26, .iload_n 2, 1), (27, .aload_n 0, 1), (28, .getfield 13, 3), (31, .bipush 9, 2), (33, .iload_n 3, 1), (34, .imul, 1), (35, .iload 4, 2), (37, .iadd, 1), (38, .iaload, 1), (39, .iload_n 1, 1), (40, .if_icmp .ne 7, 3), (43, .iconst 1, 1), (44, .goto 4, 3), (47, .iconst 0, 1), (48, .iadd, 1), (49, .istore_n 2, 1), (50, .iinc 4 1, 3), (53, .goto (-38), 3), (56, .iinc 3 1, 3), (59, .goto (-55), 3), (62, .iload_n 2, 1), (63, .ireturn, 1)]
def mvC64 : List (Nat × Instr × Nat) := [(0, .aload_n 0, 1), (1, .ldc2_w 402, 3), (4, .aload_n 0, 1), (5, .getfield 404, 3), (8, .lmul, 1), (9, .lload_n 1, 1), (10, .ladd, 1), (11, .putfield 404, 3), (14, .return_, 1)]
def mvC65 : List (Nat × Instr × Nat) := [(0, .iconst 0, 1), (1, .istore_n 2, 1), (2, .aload_n 0, 1), (3, .arraylength, 1), (4, .istore_n 3, 1), (5, .iload_n 2, 1), (6, .iload_n 3, 1), (7, .if_icmp .ge 13, 3), (10, .aload_n 0, 1), (11, .iload_n 2, 1), (12, .iload_n 1, 1), (13, .iastore, 1), (14, .iinc 2 1, 3), (17, .goto (-12), 3), (20, .return_, 1)]
def mvC66 : List (Nat × Instr × Nat) := [(0, .iload_n 0, 1), (1, .iload_n 0, 1), (2, .iconst 1, 1), (3, .iushr, 1), (4, .ldc_w 265, 3), (7, .iand, 1), (8, .isub, 1), (9, .istore_n 0, 1), (10, .iload_n 0, 1), (11, .ldc_w 266, 3), (14, .iand, 1), (15, .iload_n 0, 1), (16, .iconst 2, 1), (17, .iushr, 1), (18, .ldc_w 266, 3), (21, .iand, 1), (22, .iadd, 1), (23, .istore_n 0, 1), (24, .iload_n 0, 1), (25, .iload_n 0, 1), (26, .iconst 4, 1), (27, .iushr, 1), (28, .iadd, 1), (29, .ldc_w 267, 3), (32, .iand, 1), (33, .istore_n 0, 1), (34, .iload_n 0, 1), (35, .iload_n 0, 1), (36, .bipush 8, 2), (38, .iushr, 1), (39, .iadd, 1), (40, .istore_n 0, 1), (41, .iload_n 0, 1), (42, .iload_n 0, 1), (43, .bipush 16, 2), (45, .iushr, 1), (46, .iadd, 1), (47, .istore_n 0, 1), (48, .iload_n 0, 1), (49, .bipush 63, 2), (51, .iand, 1), (52, .ireturn, 1)]
def mvC67 : List (Nat × Instr × Nat) := [(0, .iload_n 1, 1), (1, .bipush 32, 2), (3, .if_icmp .lt 9, 3), (6, .iload_n 1, 1), (7, .bipush 126, 2), (9, .if_icmp .le 6, 3), (12, .bipush (-102), 2), (14, .ireturn, 1), (15, .aload_n 0, 1), (16, .getfield 12, 3), (19, .getfield 75, 3), (22, .bipush 36, 2), (24, .if_icmp .lt 6, 3), (27, .bipush (-104), 2), (29, .ireturn, 1), (30, .aload_n 0, 1), (31, .getfield 12, 3), (34, .iload_n 1, 1), (35, .invokevirtual 79, 3), (38, .aload_n 0, 1), (39, .getfield 12, 3), (42, .getfield 75, 3), (45, .ireturn, 1)]
def mvC68 : List (Nat × Instr × Nat) := [(0, .aload_n 0, 1), (1, .invokevirtual 145, 3), (4, .ifCond .ne 6, 3), (7, .bipush (-103), 2), (9, .ireturn, 1), (10, .aload_n 0, 1), (11, .getfield 19, 3), (14, .iload_n 1, 1), (15, .invokevirtual 148, 3), (18, .ifCond .eq 14, 3), (21, .aload_n 0, 1), (22, .getfield 19, 3), (25, .iload_n 2, 1), (26, .invokevirtual 107, 3), (29, .ifCond .ne 6, 3), (32, .bipush (-101), 2), (34, .ireturn, 1), (35, .aload_n 0, 1), (36, .getfield 19, 3), (39, .iload_n 1, 1), (40, .iload_n 2, 1), (41, .invokevirtual 166, 3), (44, .ireturn, 1)]
def mvC69 : List (Nat × Instr × Nat) := [(0, .iload_n 1, 1), (1, .ifCond .lt 8, 3), (4, .iload_n 1, 1), (5, .iconst 2, 1), (6, .if_icmp .le 6, 3), (9, .bipush (-102), 2), (11, .ireturn, 1), (12, .aload_n 0, 1), (13, .getfield 71, 3), (16, .getfield 240, 3), (19, .ifCond .ne 6, 3), (22, .bipush (-103), 2), (24, .ireturn, 1), (25, .aload_n 0, 1), (26, .getfield 71, 3), (29, .iload_n 1, 1), (30, .invokevirtual 263, 3), (33, .ireturn, 1)]
def mvC70 : List (Nat × Instr × Nat) := [(0, .iload_n 1, 1), (1, .ifCond .lt 9, 3), (4, .iload_n 1, 1), (5, .bipush 7, 2), (7, .if_icmp .le 6, 3), (10, .bipush (-102), 2), (12, .ireturn, 1), (13, .iload_n 1, 1), (14, .tableswitch 98 0 6 #[42, 50, 58, 67, 76, 85, 93], 42), (56, .aload_n 0, 1), (57, .getfield 19, 3), (60, .getfield 104, 3), (63, .ireturn, 1), (64, .aload_n 0, 1), (65, .getfield 19, 3), (68, .getfield 181, 3), (71, .ireturn, 1), (72, .aload_n 0, 1), (73, .getfield 19, 3), (76, .iconst 0, 1), (77, .invokevirtual 264, 3), (80, .ireturn, 1), (81, .aload_n 0, 1), (82, .getfield 19, 3), (85, .iconst 1, 1), (86, .invokevirtual 264, 3), (89, .ireturn, 1), (90, .aload_n 0, 1), (91, .getfield 19, 3), (94, .iconst 2, 1), (95, .invokevirtual 264, 3), (98, .ireturn, 1), (99, .aload_n 0, 1), (100, .getfield 12, 3), (103, .getfield 75, 3), (106, .ireturn, 1), (107, .aload_n 0, 1), (108, .getfield 98, 3), (111, .ireturn, 1), (112, .aload_n 0, 1), (113, .getfield 257, 3), (116, .ireturn, 1)]
def mvC71 : List (Nat × Instr × Nat) := [(0, .iconst 0, 1), (1, .istore_n 3, 1), (2, .iload_n 3, 1), (3, .iconst 3, 1), (4, .if_icmp .gt 22, 3), (7, .lload_n 1, 1), (8, .aload_n 0, 1), (9, .getfield 43, 3), (12, .iload_n 3, 1), (13, .invokevirtual 208, 3), (16, .invokestatic 282, 3), (19, .lstore_n 1, 1), (20, .iinc 3 1, 3), (23, .goto (-21), 3), (26, .iconst 0, 1), (27, .istore_n 3, 1), (28, .iload_n 3, 1), (29, .aload_n 0, 1), (30, .getfield 43, 3), (33, .getfield 209, 3), (36, .if_icmp .ge 23, 3), (39, .lload_n 1, 1), (40, .aload_n 0, 1), (41, .getfield 43, 3), (44, .getfield 212, 3), (47, .iload_n 3, 1), (48, .iaload, 1), (49, .invokestatic 282, 3), (52, .lstore_n 1, 1), (53, .iinc 3 1, 3), (56, .goto (-28), 3), (59, .lload_n 1, 1), (60, .lreturn, 1)]
def mvC72 : List (Nat × Instr × Nat) := [(0, .aload_n 0, 1), (1, .invokevirtual 145, 3), (4, .ifCond .eq 17, 3), (7, .aload_n 0, 1), (8, .getfield 36, 3), (11, .getfield 193, 3), (14, .ifCond .ne 7, 3), (17, .iconst 1, 1), (18, .goto 4, 3), (21, .iconst 0, 1), (22, .ireturn, 1)]
def mvC73 : List (Nat × Instr × Nat) := [(0, .aload_n 0, 1), (1, .getfield 43, 3), (4, .iconst 0, 1), (5, .putfield 301, 3), (8, .aload_n 0, 1), (9, .getfield 57, 3), (12, .invokevirtual 302, 3), (15, .return_, 1)]
def mvC74 : List (Nat × Instr × Nat) := [(0, .aload_n 0, 1), (1, .invokespecial 3, 3), (4, .aload_n 0, 1), (5, .bipush 36, 2), (7, .newarray .int, 2), (9, .putfield 9, 3), (12, .return_, 1)]
def mvC75 : List (Nat × Instr × Nat) := [(0, .iconst 1, 1), (1, .istore_n 1, 1), (2, .iconst 0, 1), (3, .istore_n 2, 1), (4, .iconst 0, 1), (5, .istore_n 3, 1), (6, .iconst 0, 1), (7, .istore 4, 2), (9, .iconst 0, 1), (10, .istore 5, 2), (12, .iload 5, 2), (14, .aload_n 0, 1), (15, .getfield 15, 3), (18, .if_icmp .ge 130, 3), (21, .aload_n 0, 1), (22, .getfield 9, 3), (25, .iload 5, 2), (27, .iaload, 1), (28, .istore 6, 2), (30, .iload 4, 2), (32, .ifCond .eq 26, 3), (35, .iload 6, 2), (37, .bipush 48, 2), (39, .if_icmp .lt 10, 3), (42, .iload 6, 2), (44, .bipush 51, 2), (46, .if_icmp .le 6, 3), (49, .iload 5, 2), (51, .ireturn, 1), (52, .iconst 0, 1), (53, .istore 4, 2), (55, .goto 87, 3), (58, .iload 6, 2), (60, .bipush 59, 2), (62, .if_icmp .ne 19, 3), (65, .iload_n 1, 1), (66, .iconst 4, 1), (67, .if_icmp .ne 6, 3), (70, .iload 5, 2), (72, .ireturn, 1), (73, .iinc 1 1, 3), (76, .iconst 0, 1), (77, .istore_n 2, 1), (78, .goto 64, 3), (81, .iload 6, 2), (83, .invokestatic 19, 3), (86, .ifCond .ne 20, 3), (89, .iload 6, 2), (91, .bipush 33, 2), (93, .if_icmp .eq 13, 3), (96, .iload 6, 2), (98, .bipush 63, 2), (100, .if_icmp .eq 6, 3), (103, .iload 5, 2), (105, .ireturn, 1), (106, .iload_n 2, 1), (107, .bipush 9, 2), (109, .if_icmp .eq 9, 3), (112, .iload_n 3, 1), (113, .bipush 16, 2), (115, .if_icmp .ne 6, 3), (118, .iload 5, 2), (120, .ireturn, 1), (121, .iinc 2 1, 3), (124, .iinc 3 1, 3), (127, .iload 6, 2), (129, .invokestatic 19, 3), (132, .ifCond .ne 7, 3), (135, .iconst 1, 1), (136, .goto 4, 3), (139, .iconst 0, 1), (140, .istore 4, 2), (142, .iinc 5 1, 3), (145, .goto (-133), 3), (148, .aload_n 0, 1), (149, .getfield 15, 3), (152, .ireturn, 1)]
def mvC76 : List (Nat × Instr × Nat) := [(0, .aload_n 0, 1), (1, .invokespecial 3, 3), (4, .aload_n 0, 1), (5, .iconst 4, 1), (6, .newarray .int, 2), (8, .putfield 9, 3), (11, .aload_n 0, 1), (12, .bipush 36, 2), (14, .newarray .int, 2), (16, .putfield 15, 3), (19, .aload_n 0, 1), (20, .bipush 36, 2), (22, .newarray .int, 2), (24, .putfield 18, 3), (27, .aload_n 0, 1), (28, .bipush 36, 2), (30, .newarray .int, 2), (32, .putfield 21, 3), (35, .aload_n 0, 1), (36, .sipush 144, 3), (39, .newarray .int, 2), (41, .putfield 24, 3), (44, .aload_n 0, 1), (45, .bipush 40, 2), (47, .newarray .int, 2), (49, .putfield 27, 3), (52, .aload_n 0, 1), (53, .bipush 40, 2), (55, .newarray .int, 2), (57, .putfield 30, 3), (60, .aload_n 0, 1), (61, .iconst 4, 1), (62, .newarray .int, 2), (64, .putfield 33, 3), (67, .return_, 1)]
def mvC77 : List (Nat × Instr × Nat) := [(0, .aload_n 0, 1), (1, .iload_n 1, 1), (2, .putfield 36, 3), (5, .aload_n 0, 1), (6, .iconst 0, 1), (7, .putfield 40, 3), (10, .aload_n 0, 1), (11, .getfield 9, 3), (14, .iconst 0, 1), (15, .invokestatic 43, 3), (18, .return_, 1)]
def mvC78 : List (Nat × Instr × Nat) := [(0, .aload_n 0, 1), (1, .iload_n 1, 1), (2, .invokevirtual 49, 3), (5, .ifCond .eq 20, 3), (8, .aload_n 0, 1), (9, .iload_n 2, 1), (10, .invokevirtual 49, 3), (13, .ifCond .eq 12, 3), (16, .iload_n 1, 1), (17, .iload_n 2, 1), (18, .if_icmp .eq 7, 3), (21, .iconst 1, 1), (22, .goto 4, 3), (25, .iconst 0, 1), (26, .ireturn, 1)]
def mvC79 : List (Nat × Instr × Nat) := [(0, .aload_n 0, 1), (1, .iload_n 1, 1), (2, .invokevirtual 49, 3), (5, .ifCond .eq 21, 3), (8, .iload_n 2, 1), (9, .ifCond .lt 17, 3), (12, .iload_n 2, 1), (13, .aload_n 0, 1), (14, .getfield 9, 3), (17, .iload_n 1, 1), (18, .iaload, 1), (19, .if_icmp .ge 7, 3), (22, .iconst 1, 1), (23, .goto 4, 3), (26, .iconst 0, 1), (27, .ireturn, 1)]
def mvC80 : List (Nat × Instr × Nat) := [(0, .aload_n 0, 1), (1, .getfield 21, 3), (4, .iconst (-1), 1), (5, .invokestatic 43, 3), (8, .iconst 0, 1), (9, .istore_n 1, 1), (10, .iload_n 1, 1), (11, .aload_n 0, 1), (12, .getfield 36, 3), (15, .if_icmp .ge 61, 3), (18, .aload_n 0, 1), (19, .getfield 33, 3), (22, .iconst 0, 1), (23, .invokestatic 43, 3), (26, .iconst 0, 1), (27, .istore_n 2, 1), (28, .iload_n 2, 1), (29, .aload_n 0, 1), (30, .getfield 9, 3), (33, .iload_n 1, 1), (34, .iaload, 1), (35, .if_icmp .ge 35, 3), (38, .aload_n 0, 1), (39, .getfield 15, 3), (42, .iload_n 1, 1), (43, .bipush 9, 2), (45, .imul, 1), (46, .iload_n 2, 1), (47, .iadd, 1), (48, .iaload, 1), (49, .iconst 2, 1), (50, .if_icmp .ne 14, 3), (53, .aload_n 0, 1), (54, .iload_n 1, 1), (55, .iload_n 2, 1), (56, .invokevirtual 64, 3), (59, .ifCond .ne 5, 3), (62, .iconst 0, 1), (63, .ireturn, 1), (64, .iinc 2 1, 3), (67, .goto (-39), 3), (70, .iinc 1 1, 3), (73, .goto (-63), 3), (76, .iconst 1, 1), (77, .ireturn, 1)]
def mvC81 : List (Nat × Instr × Nat) := [(0, .iload_n 1, 1), (1, .bipush 9, 2), (3, .imul, 1), (4, .iload_n 2, 1), (5, .iadd, 1), (6, .istore_n 3, 1), (7, .iconst 0, 1), (8, .istore 4, 2), (10, .iload 4, 2), (12, .iconst 4, 1), (13, .if_icmp .ge 104, 3), (16, .iload_n 2, 1), (17, .ifCond .le 19, 3), (20, .aload_n 0, 1), (21, .getfield 24, 3), (24, .iload_n 3, 1), (25, .iconst 1, 1), (26, .isub, 1), (27, .iconst 4, 1), (28, .imul, 1), (29, .iload 4, 2), (31, .iadd, 1), (32, .iaload, 1), (33, .goto 4, 3), (36, .iconst 0, 1), (37, .istore 5, 2), (39, .aload_n 0, 1), (40, .getfield 15, 3), (43, .iload_n 3, 1), (44, .iaload, 1), (45, .iconst 2, 1), (46, .if_icmp .ne 40, 3), (49, .aload_n 0, 1), (50, .getfield 18, 3), (53, .iload_n 3, 1), (54, .iaload, 1), (55, .bipush 9, 2), (57, .imul, 1), (58, .aload_n 0, 1), (59, .getfield 21, 3), (62, .iload_n 3, 1), (63, .iaload, 1), (64, .iadd, 1), (65, .istore 6, 2), (67, .iload 5, 2), (69, .aload_n 0, 1), (70, .getfield 24, 3), (73, .iload 6, 2), (75, .iconst 4, 1), (76, .imul, 1), (77, .iload 4, 2), (79, .iadd, 1), (80, .iaload, 1), (81, .invokestatic 86, 3), (84, .istore 5, 2), (86, .aload_n 0, 1), (87, .getfield 24, 3), (90, .iload_n 3, 1), (91, .iconst 4, 1), (92, .imul, 1), (93, .iload 4, 2), (95, .iadd, 1), (96, .iload 4, 2), (98, .iload_n 1, 1), (99, .if_icmp .ne 9, 3), (102, .iload_n 2, 1), (103, .iconst 1, 1), (104, .iadd, 1), (105, .goto 5, 3), (108, .iload 5, 2), (110, .iastore, 1), (111, .iinc 4 1, 3), (114, .goto (-104), 3), (117, .return_, 1)]
def mvC82 : List (Nat × Instr × Nat) := [(0, .iload_n 1, 1), (1, .bipush 9, 2), (3, .imul, 1), (4, .iload_n 2, 1), (5, .iadd, 1), (6, .istore 4, 2), (8, .iload_n 3, 1), (9, .ifCond .ne 11, 3), (12, .aload_n 0, 1), (13, .getfield 15, 3), (16, .iload 4, 2), (18, .iaload, 1), (19, .ireturn, 1), (20, .iload_n 3, 1), (21, .iconst 1, 1), (22, .if_icmp .ne 11, 3), (25, .aload_n 0, 1), (26, .getfield 18, 3), (29, .iload 4, 2), (31, .iaload, 1), (32, .ireturn, 1), (33, .iload_n 3, 1), (34, .iconst 2, 1), (35, .if_icmp .ne 11, 3), (38, .aload_n 0, 1), (39, .getfield 21, 3), (42, .iload 4, 2), (44, .iaload, 1), (45, .ireturn, 1), (46, .iload_n 3, 1), (47, .iconst 3, 1), (48, .isub, 1), (49, .istore 5, 2), (51, .aload_n 0, 1), (52, .iload 5, 2), (54, .invokevirtual 49, 3), (57, .ifCond .eq 18, 3), (60, .aload_n 0, 1), (61, .getfield 24, 3), (64, .iload 4, 2), (66, .iconst 4, 1), (67, .imul, 1), (68, .iload 5, 2), (70, .iadd, 1), (71, .iaload, 1), (72, .goto 4, 3), (75, .iconst (-1), 1), (76, .ireturn, 1)]
def mvC83 : List (Nat × Instr × Nat) := [(0, .iconst 0, 1), (1, .istore_n 3, 1), (2, .iload_n 3, 1), (3, .aload_n 0, 1), (4, .getfield 36, 3), (7, .if_icmp .ge 30, 3), (10, .aload_n 0, 1), (11, .getfield 24, 3), (14, .iload_n 2, 1), (15, .iconst 4, 1), (16, .imul, 1), (17, .iload_n 3, 1), (18, .iadd, 1), (19, .iaload, 1), (20, .aload_n 0, 1), (21, .iload_n 1, 1), (22, .iload_n 3, 1), (23, .invokevirtual 75, 3), (26, .if_icmp .le 5, 3), (29, .iconst 0, 1), (30, .ireturn, 1), (31, .iinc 3 1, 3), (34, .goto (-32), 3), (37, .iconst 1, 1), (38, .ireturn, 1)]
def mvC84 : List (Nat × Instr × Nat) := [(0, .aload_n 0, 1), (1, .iload_n 1, 1), (2, .iload_n 2, 1), (3, .invokevirtual 75, 3), (6, .istore_n 3, 1), (7, .iload_n 3, 1), (8, .aload_n 0, 1), (9, .getfield 9, 3), (12, .iload_n 2, 1), (13, .iaload, 1), (14, .if_icmp .lt 5, 3), (17, .iconst 0, 1), (18, .ireturn, 1), (19, .iload_n 2, 1), (20, .bipush 9, 2), (22, .imul, 1), (23, .iload_n 3, 1), (24, .iadd, 1), (25, .istore 4, 2), (27, .aload_n 0, 1), (28, .getfield 15, 3), (31, .iload 4, 2), (33, .iaload, 1), (34, .iconst 2, 1), (35, .if_icmp .ne 25, 3), (38, .aload_n 0, 1), (39, .getfield 21, 3), (42, .iload 4, 2), (44, .iaload, 1), (45, .aload_n 0, 1), (46, .iload_n 1, 1), (47, .aload_n 0, 1), (48, .getfield 18, 3), (51, .iload 4, 2), (53, .iaload, 1), (54, .invokevirtual 75, 3), (57, .if_icmp .ge 7, 3), (60, .iconst 1, 1), (61, .goto 4, 3), (64, .iconst 0, 1), (65, .ireturn, 1)]
def mvC85 : List (Nat × Instr × Nat) := [(0, .iconst 0, 1), (1, .istore_n 2, 1), (2, .iconst 0, 1), (3, .istore_n 3, 1), (4, .iload_n 3, 1), (5, .aload_n 0, 1), (6, .getfield 36, 3), (9, .if_icmp .ge 28, 3), (12, .iload_n 2, 1), (13, .aload_n 0, 1), (14, .getfield 30, 3), (17, .iload_n 3, 1), (18, .bipush 10, 2), (20, .imul, 1), (21, .aload_n 0, 1), (22, .iload_n 1, 1), (23, .iload_n 3, 1), (24, .invokevirtual 75, 3), (27, .iadd, 1), (28, .iaload, 1), (29, .iadd, 1), (30, .istore_n 2, 1), (31, .iinc 3 1, 3), (34, .goto (-30), 3), (37, .iload_n 2, 1), (38, .ireturn, 1)]
def mvC86 : List (Nat × Instr × Nat) := [(0, .iconst 0, 1), (1, .istore 4, 2), (3, .iconst 0, 1), (4, .istore 5, 2), (6, .iload 5, 2), (8, .aload_n 0, 1), (9, .iload_n 1, 1), (10, .iload_n 2, 1), (11, .invokevirtual 75, 3), (14, .if_icmp .ge 82, 3), (17, .iload_n 2, 1), (18, .bipush 9, 2), (20, .imul, 1), (21, .iload 5, 2), (23, .iadd, 1), (24, .istore 6, 2), (26, .aload_n 0, 1), (27, .getfield 15, 3), (30, .iload 6, 2), (32, .iaload, 1), (33, .iconst 1, 1), (34, .if_icmp .ne 18, 3), (37, .aload_n 0, 1), (38, .getfield 18, 3), (41, .iload 6, 2), (43, .iaload, 1), (44, .iload_n 3, 1), (45, .if_icmp .ne 7, 3), (48, .iconst 1, 1), (49, .goto 4, 3), (52, .iconst 0, 1), (53, .istore 7, 2), (55, .iload 7, 2), (57, .ifCond .eq 33, 3), (60, .aload_n 0, 1), (61, .getfield 21, 3), (64, .iload 6, 2), (66, .iaload, 1), (67, .iconst (-1), 1), (68, .if_icmp .eq 19, 3), (71, .aload_n 0, 1), (72, .getfield 21, 3), (75, .iload 6, 2), (77, .iaload, 1), (78, .aload_n 0, 1), (79, .iload_n 1, 1), (80, .iload_n 3, 1), (81, .invokevirtual 75, 3), (84, .if_icmp .lt 6, 3), (87, .iinc 4 1, 3), (90, .iinc 5 1, 3), (93, .goto (-87), 3), (96, .iload 4, 2), (98, .ireturn, 1)]
def mvC87 : List (Nat × Instr × Nat) := [(0, .iconst 0, 1), (1, .istore 4, 2), (3, .iconst 0, 1), (4, .istore 5, 2), (6, .iload 5, 2), (8, .aload_n 0, 1), (9, .getfield 36, 3), (12, .if_icmp .ge 56, 3), (15, .aload_n 0, 1), (16, .iload_n 1, 1), (17, .iload 5, 2), (19, .invokevirtual 75, 3), (22, .istore 6, 2), (24, .aload_n 0, 1), (25, .iload_n 2, 1), (26, .iload 5, 2), (28, .invokevirtual 75, 3), (31, .istore 7, 2), (33, .iload 4, 2), (35, .bipush 10, 2), (37, .imul, 1), (38, .iload_n 3, 1), (39, .ifCond .eq 13, 3), (42, .iload 6, 2), (44, .iload 7, 2), (46, .invokestatic 86, 3), (49, .goto 10, 3), (52, .iload 6, 2), (54, .iload 7, 2), (56, .invokestatic 100, 3), (59, .iadd, 1), (60, .istore 4, 2), (62, .iinc 5 1, 3), (65, .goto (-59), 3), (68, .iload 4, 2), (70, .ireturn, 1)]
def mvC88 : List (Nat × Instr × Nat) := [(0, .aload_n 0, 1), (1, .invokespecial 3, 3), (4, .aload_n 0, 1), (5, .bipush 18, 2), (7, .newarray .int, 2), (9, .putfield 9, 3), (12, .aload_n 0, 1), (13, .iconst 4, 1), (14, .newarray .int, 2), (16, .putfield 15, 3), (19, .aload_n 0, 1), (20, .sipush 625, 3), (23, .newarray .int, 2), (25, .putfield 18, 3), (28, .aload_n 0, 1), (29, .sipush 625, 3), (32, .newarray .int, 2), (34, .putfield 21, 3), (37, .aload_n 0, 1), (38, .sipush 625, 3), (41, .newarray .int, 2), (43, .putfield 24, 3), (46, .aload_n 0, 1), (47, .sipush 625, 3), (50, .newarray .int, 2), (52, .putfield 27, 3), (55, .return_, 1)]
def mvC89 : List (Nat × Instr × Nat) := [(0, .aload_n 0, 1), (1, .getfield 18, 3), (4, .iconst 0, 1), (5, .iconst 0, 1), (6, .iastore, 1), (7, .aload_n 0, 1), (8, .iconst 1, 1), (9, .putfield 56, 3), (12, .aload_n 1, 1), (13, .getfield 59, 3), (16, .iconst 1, 1), (17, .isub, 1), (18, .istore_n 2, 1), (19, .iload_n 2, 1), (20, .ifCond .lt 90, 3), (23, .aload_n 0, 1), (24, .getfield 15, 3), (27, .iload_n 2, 1), (28, .aload_n 0, 1), (29, .getfield 56, 3), (32, .iastore, 1), (33, .aload_n 0, 1), (34, .getfield 56, 3), (37, .istore_n 3, 1), (38, .iload_n 3, 1), (39, .aload_n 0, 1), (40, .getfield 15, 3), (43, .iload_n 2, 1), (44, .iaload, 1), (45, .aload_n 1, 1), (46, .getfield 62, 3), (49, .iload_n 2, 1), (50, .iaload, 1), (51, .iconst 1, 1), (52, .iadd, 1), (53, .imul, 1), (54, .if_icmp .ge 33, 3), (57, .aload_n 0, 1), (58, .getfield 18, 3), (61, .iload_n 3, 1), (62, .aload_n 1, 1), (63, .aload_n 0, 1), (64, .getfield 18, 3), (67, .iload_n 3, 1), (68, .aload_n 0, 1), (69, .getfield 15, 3), (72, .iload_n 2, 1), (73, .iaload, 1), (74, .isub, 1), (75, .iaload, 1), (76, .iload_n 2, 1), (77, .invokevirtual 65, 3), (80, .iastore, 1), (81, .iinc 3 1, 3), (84, .goto (-46), 3), (87, .aload_n 0, 1), (88, .dup, 1), (89, .getfield 56, 3), (92, .aload_n 1, 1), (93, .getfield 62, 3), (96, .iload_n 2, 1), (97, .iaload, 1), (98, .iconst 1, 1), (99, .iadd, 1), (100, .imul, 1), (101, .putfield 56, 3), (104, .iinc 2 (-1), 3), (107, .goto (-88), 3), (110, .return_, 1)]
def mvC90 : List (Nat × Instr × Nat) := [(0, .aload_n 0, 1), (1, .getfield 9, 3), (4, .iconst 0, 1), (5, .invokestatic 69, 3), (8, .iconst 0, 1), (9, .istore_n 1, 1), (10, .iload_n 1, 1), (11, .aload_n 0, 1), (12, .getfield 56, 3), (15, .if_icmp .ge 36, 3), (18, .aload_n 0, 1), (19, .getfield 24, 3), (22, .iload_n 1, 1), (23, .iaload, 1), (24, .ifCond .le 21, 3), (27, .aload_n 0, 1), (28, .getfield 9, 3), (31, .aload_n 0, 1), (32, .getfield 18, 3), (35, .iload_n 1, 1), (36, .iaload, 1), (37, .invokestatic 79, 3), (40, .dup2, 1), (41, .iaload, 1), (42, .iconst 1, 1), (43, .iadd, 1), (44, .iastore, 1), (45, .iinc 1 1, 3), (48, .goto (-38), 3), (51, .iconst 1, 1), (52, .istore_n 1, 1), (53, .iload_n 1, 1), (54, .aload_n 0, 1), (55, .getfield 9, 3), (58, .arraylength, 1), (59, .if_icmp .ge 26, 3), (62, .aload_n 0, 1), (63, .getfield 9, 3), (66, .iload_n 1, 1), (67, .dup2, 1), (68, .iaload, 1), (69, .aload_n 0, 1), (70, .getfield 9, 3), (73, .iload_n 1, 1), (74, .iconst 1, 1), (75, .isub, 1), (76, .iaload, 1), (77, .iadd, 1), (78, .iastore, 1), (79, .iinc 1 1, 3), (82, .goto (-29), 3), (85, .aload_n 0, 1), (86, .aload_n 0, 1), (87, .getfield 9, 3), (90, .bipush 16, 2), (92, .iaload, 1), (93, .putfield 83, 3), (96, .aload_n 0, 1), (97, .getfield 56, 3), (100, .iconst 1, 1), (101, .isub, 1), (102, .istore_n 1, 1), (103, .iload_n 1, 1), (104, .ifCond .lt 50, 3), (107, .aload_n 0, 1), (108, .getfield 24, 3), (111, .iload_n 1, 1), (112, .iaload, 1), (113, .ifCond .le 35, 3), (116, .aload_n 0, 1), (117, .getfield 18, 3), (120, .iload_n 1, 1), (121, .iaload, 1), (122, .invokestatic 79, 3), (125, .istore_n 2, 1), (126, .aload_n 0, 1), (127, .getfield 9, 3), (130, .iload_n 2, 1), (131, .dup2, 1), (132, .iaload, 1), (133, .iconst 1, 1), (134, .isub, 1), (135, .iastore, 1), (136, .aload_n 0, 1), (137, .getfield 21, 3), (140, .aload_n 0, 1), (141, .getfield 9, 3), (144, .iload_n 2, 1), (145, .iaload, 1), (146, .iload_n 1, 1), (147, .iastore, 1), (148, .iinc 1 (-1), 3), (151, .goto (-48), 3), (154, .return_, 1)]
def mvC91 : List (Nat × Instr × Nat) := [(0, .iconst 0, 1), (1, .istore_n 1, 1), (2, .iconst 1, 1), (3, .istore_n 2, 1), (4, .iload_n 2, 1), (5, .aload_n 0, 1), (6, .getfield 40, 3), (9, .if_icmp .gt 24, 3), (12, .aload_n 0, 1), (13, .iload_n 2, 1), (14, .invokevirtual 90, 3), (17, .aload_n 0, 1), (18, .iload_n 1, 1), (19, .invokevirtual 90, 3), (22, .if_icmp .le 5, 3), (25, .iload_n 2, 1), (26, .istore_n 1, 1), (27, .iinc 2 1, 3), (30, .goto (-26), 3), (33, .iload_n 1, 1), (34, .ireturn, 1)]
def mvC92 : List (Nat × Instr × Nat) := [(0, .iconst 0, 1), (1, .istore_n 3, 1), (2, .iconst 0, 1), (3, .istore 4, 2), (5, .iload 4, 2), (7, .aload_n 1, 1), (8, .getfield 59, 3), (11, .if_icmp .ge 27, 3), (14, .iload_n 3, 1), (15, .aload_n 0, 1), (16, .getfield 15, 3), (19, .iload 4, 2), (21, .iaload, 1), (22, .aload_n 1, 1), (23, .iload_n 2, 1), (24, .iload 4, 2), (26, .invokevirtual 93, 3), (29, .imul, 1), (30, .iadd, 1), (31, .istore_n 3, 1), (32, .iinc 4 1, 3), (35, .goto (-30), 3), (38, .aload_n 0, 1), (39, .getfield 24, 3), (42, .iload_n 3, 1), (43, .iaload, 1), (44, .aload_n 0, 1), (45, .getfield 27, 3), (48, .iload_n 3, 1), (49, .iaload, 1), (50, .imul, 1), (51, .ireturn, 1)]
def mvC93 : List (Nat × Instr × Nat) := [(0, .aload_n 0, 1), (1, .invokespecial 3, 3), (4, .aload_n 0, 1), (5, .iconst 4, 1), (6, .newarray .int, 2), (8, .putfield 9, 3), (11, .return_, 1)]
def mvC94 : List (Nat × Instr × Nat) := [(0, .aload_n 0, 1), (1, .getfield 9, 3), (4, .sipush 1023, 3), (7, .invokestatic 15, 3), (10, .return_, 1)]
def mvC95 : List (Nat × Instr × Nat) := [(0, .iconst 0, 1), (1, .istore_n 3, 1), (2, .iload_n 3, 1), (3, .aload_n 1, 1), (4, .getfield 45, 3), (7, .if_icmp .ge 25, 3), (10, .aload_n 0, 1), (11, .iload_n 3, 1), (12, .aload_n 1, 1), (13, .iload_n 2, 1), (14, .iload_n 3, 1), (15, .invokevirtual 48, 3), (18, .invokevirtual 52, 3), (21, .ifCond .ne 5, 3), (24, .iconst 0, 1), (25, .ireturn, 1), (26, .iinc 3 1, 3), (29, .goto (-27), 3), (32, .iconst 1, 1), (33, .ireturn, 1)]
def mvC96 : List (Nat × Instr × Nat) := [(0, .iconst 0, 1), (1, .istore_n 2, 1), (2, .iconst 0, 1), (3, .istore_n 3, 1), (4, .iload_n 3, 1), (5, .aload_n 0, 1), (6, .getfield 45, 3), (9, .if_icmp .ge 18, 3), (12, .iload_n 2, 1), (13, .aload_n 0, 1), (14, .iload_n 1, 1), (15, .iload_n 3, 1), (16, .invokevirtual 48, 3), (19, .iadd, 1), (20, .istore_n 2, 1), (21, .iinc 3 1, 3), (24, .goto (-20), 3), (27, .iload_n 2, 1), (28, .ireturn, 1)]
def mvC97 : List (Nat × Instr × Nat) := [(0, .bipush 9, 2), (2, .istore_n 2, 1), (3, .iconst 0, 1), (4, .istore_n 3, 1), (5, .iconst 0, 1), (6, .istore 4, 2), (8, .iload 4, 2), (10, .aload_n 0, 1), (11, .getfield 45, 3), (14, .if_icmp .ge 32, 3), (17, .aload_n 0, 1), (18, .iload_n 1, 1), (19, .iload 4, 2), (21, .invokevirtual 48, 3), (24, .istore 5, 2), (26, .iload_n 2, 1), (27, .iload 5, 2), (29, .invokestatic 56, 3), (32, .istore_n 2, 1), (33, .iload_n 3, 1), (34, .iload 5, 2), (36, .invokestatic 61, 3), (39, .istore_n 3, 1), (40, .iinc 4 1, 3), (43, .goto (-35), 3), (46, .iload_n 3, 1), (47, .iload_n 2, 1), (48, .isub, 1), (49, .ireturn, 1)]
def mvC98 : List (Nat × Instr × Nat) := [(0, .aload_n 0, 1), (1, .invokespecial 3, 3), (4, .aload_n 0, 1), (5, .bipush 16, 2), (7, .newarray .int, 2), (9, .putfield 9, 3), (12, .aload_n 0, 1), (13, .sipush 625, 3), (16, .newarray .boolean, 2), (18, .putfield 15, 3), (21, .return_, 1)]
def mvC99 : List (Nat × Instr × Nat) := [(0, .aload_n 0, 1), (1, .invokespecial 3, 3), (4, .aload_n 0, 1), (5, .iconst 4, 1), (6, .newarray .int, 2), (8, .putfield 9, 3), (11, .aload_n 0, 1), (12, .bipush 20, 2), (14, .newarray .int, 2), (16, .putfield 15, 3), (19, .aload_n 0, 1), (20, .bipush 20, 2), (22, .newarray .int, 2), (24, .putfield 18, 3), (27, .aload_n 0, 1), (28, .iconst 4, 1), (29, .newarray .int, 2), (31, .putfield 21, 3), (34, .return_, 1)]
def mvC100 : List (Nat × Instr × Nat) := [(0, .aload_n 0, 1), (1, .getfield 9, 3), (4, .iconst 0, 1), (5, .invokestatic 24, 3), (8, .iconst 0, 1), (9, .istore_n 3, 1), (10, .iload_n 3, 1), (11, .aload_n 1, 1), (12, .getfield 30, 3), (15, .if_icmp .ge 91, 3), (18, .iconst 0, 1), (19, .istore 4, 2), (21, .iconst 0, 1), (22, .istore 5, 2), (24, .iload 5, 2), (26, .aload_n 1, 1), (27, .getfield 36, 3), (30, .iload_n 3, 1), (31, .iaload, 1), (32, .if_icmp .gt 68, 3), (35, .aload_n 2, 1), (36, .iload_n 3, 1), (37, .aload_n 1, 1), (38, .iload_n 3, 1), (39, .iload 5, 2), (41, .invokevirtual 39, 3), (44, .invokevirtual 43, 3), (47, .istore 6, 2), (49, .iload 6, 2), (51, .ifCond .eq 15, 3), (54, .iload 4, 2), (56, .ifCond .ne 10, 3), (59, .aload_n 0, 1), (60, .iload_n 3, 1), (61, .iload 5, 2), (63, .invokevirtual 49, 3), (66, .iload 6, 2), (68, .ifCond .eq 22, 3), (71, .aload_n 0, 1), (72, .getfield 18, 3), (75, .iload_n 3, 1), (76, .iconst 5, 1), (77, .imul, 1), (78, .aload_n 0, 1), (79, .getfield 9, 3), (82, .iload_n 3, 1), (83, .iaload, 1), (84, .iadd, 1), (85, .iconst 1, 1), (86, .isub, 1), (87, .iload 5, 2), (89, .iastore, 1), (90, .iload 6, 2), (92, .istore 4, 2), (94, .iinc 5 1, 3), (97, .goto (-73), 3), (100, .iinc 3 1, 3), (103, .goto (-93), 3), (106, .return_, 1)]
def mvC101 : List (Nat × Instr × Nat) := [(0, .aload_n 0, 1), (1, .iload_n 2, 1), (2, .aload_n 0, 1), (3, .getfield 21, 3), (6, .iload_n 2, 1), (7, .iaload, 1), (8, .invokevirtual 65, 3), (11, .istore 4, 2), (13, .aload_n 0, 1), (14, .iload_n 3, 1), (15, .aload_n 0, 1), (16, .getfield 21, 3), (19, .iload_n 3, 1), (20, .iaload, 1), (21, .invokevirtual 68, 3), (24, .istore 5, 2), (26, .iload 4, 2), (28, .ifCond .eq 14, 3), (31, .iload 5, 2), (33, .aload_n 1, 1), (34, .getfield 36, 3), (37, .iload_n 3, 1), (38, .iaload, 1), (39, .if_icmp .ne 5, 3), (42, .iconst 1, 1), (43, .ireturn, 1), (44, .aload_n 1, 1), (45, .iload_n 2, 1), (46, .iload 4, 2), (48, .iconst 1, 1), (49, .isub, 1), (50, .iload_n 3, 1), (51, .iload 5, 2), (53, .invokevirtual 71, 3), (56, .ireturn, 1)]
def mvC102 : List (Nat × Instr × Nat) := [(0, .aload_n 0, 1), (1, .iload_n 2, 1), (2, .iload_n 3, 1), (3, .invokevirtual 53, 3), (6, .ifCond .eq 5, 3), (9, .iconst 1, 1), (10, .ireturn, 1), (11, .aload_n 1, 1), (12, .iload_n 2, 1), (13, .aload_n 0, 1), (14, .iload_n 2, 1), (15, .iload_n 3, 1), (16, .invokevirtual 75, 3), (19, .invokevirtual 78, 3), (22, .istore 4, 2), (24, .iload 4, 2), (26, .aload_n 1, 1), (27, .iload_n 2, 1), (28, .aload_n 0, 1), (29, .iload_n 2, 1), (30, .iload_n 3, 1), (31, .iconst 1, 1), (32, .iadd, 1), (33, .invokevirtual 75, 3), (36, .invokevirtual 78, 3), (39, .if_icmp .eq 7, 3), (42, .iconst 1, 1), (43, .goto 4, 3), (46, .iconst 0, 1), (47, .ireturn, 1)]
def mvC103 : List (Nat × Instr × Nat) := [(0, .iload_n 1, 1), (1, .tableswitch 52 0 2 #[27, 35, 43], 27), (28, .aload_n 0, 1), (29, .getfield 12, 3), (32, .getfield 84, 3), (35, .ireturn, 1), (36, .aload_n 0, 1), (37, .getfield 21, 3), (40, .getfield 87, 3), (43, .ireturn, 1), (44, .aload_n 0, 1), (45, .getfield 28, 3), (48, .iconst 0, 1), (49, .invokevirtual 90, 3), (52, .ireturn, 1), (53, .aload_n 0, 1), (54, .getfield 28, 3), (57, .iconst 3, 1), (58, .invokevirtual 90, 3), (61, .ireturn, 1)]
def mvC104 : List (Nat × Instr × Nat) := [(0, .aload_n 0, 1), (1, .invokespecial 3, 3), (4, .aload_n 0, 1), (5, .iconst (-1), 1), (6, .putfield 9, 3), (9, .aload_n 0, 1), (10, .bipush 16, 2), (12, .newarray .int, 2), (14, .putfield 15, 3), (17, .return_, 1)]
def mvC105 : List (Nat × Instr × Nat) := [(0, .iload_n 0, 1), (1, .invokestatic 42, 3), (4, .istore_n 3, 1), (5, .iload_n 3, 1), (6, .ifCond .ne 5, 3), (9, .iconst (-1), 1), (10, .ireturn, 1), (11, .lload_n 1, 1), (12, .ldc2_w 47, 3), (15, .ldiv, 1), (16, .iload_n 3, 1), (17, .i2l, 1), (18, .lrem, 1), (19, .l2i, 1), (20, .istore 4, 2), (22, .iconst 0, 1), (23, .istore 5, 2), (25, .iload 5, 2), (27, .iconst 4, 1), (28, .if_icmp .ge 46, 3), (31, .iload_n 0, 1), (32, .iload 5, 2), (34, .ishr, 1), (35, .iconst 1, 1), (36, .iand, 1), (37, .ifCond .eq 7, 3), (40, .iconst 1, 1), (41, .goto 4, 3), (44, .iconst 0, 1), (45, .istore 6, 2), (47, .iload 6, 2), (49, .ifCond .eq 11, 3), (52, .iload 4, 2), (54, .ifCond .ne 6, 3), (57, .iload 5, 2), (59, .ireturn, 1), (60, .iload 6, 2), (62, .ifCond .eq 6, 3), (65, .iinc 4 (-1), 3), (68, .iinc 5 1, 3), (71, .goto (-46), 3), (74, .iconst (-1), 1), (75, .ireturn, 1)]
def mvC106 : List (Nat × Instr × Nat) := [(0, .aload_n 0, 1), (1, .invokespecial 3, 3), (4, .aload_n 0, 1), (5, .bipush 16, 2), (7, .newarray .int, 2), (9, .putfield 9, 3), (12, .aload_n 0, 1), (13, .bipush 16, 2), (15, .newarray .int, 2), (17, .putfield 15, 3), (20, .aload_n 0, 1), (21, .bipush 16, 2), (23, .newarray .int, 2), (25, .putfield 18, 3), (28, .aload_n 0, 1), (29, .iconst 4, 1), (30, .newarray .int, 2), (32, .putfield 21, 3), (35, .return_, 1)]
def mvC107 : List (Nat × Instr × Nat) := [(0, .aload_n 0, 1), (1, .iconst 0, 1), (2, .putfield 62, 3), (5, .aload_n 0, 1), (6, .iconst 0, 1), (7, .putfield 65, 3), (10, .aload_n 0, 1), (11, .iconst 0, 1), (12, .putfield 68, 3), (15, .aload_n 0, 1), (16, .getfield 9, 3), (19, .iconst 0, 1), (20, .invokestatic 71, 3), (23, .aload_n 0, 1), (24, .getfield 15, 3), (27, .iconst 0, 1), (28, .invokestatic 71, 3), (31, .aload_n 0, 1), (32, .getfield 18, 3), (35, .iconst (-1), 1), (36, .invokestatic 71, 3), (39, .aload_n 0, 1), (40, .getfield 21, 3), (43, .iconst (-1), 1), (44, .invokestatic 71, 3), (47, .return_, 1)]
def mvC108 : List (Nat × Instr × Nat) := [(0, .aload_n 1, 1), (1, .aload_n 0, 1), (2, .getfield 62, 3), (5, .iload_n 2, 1), (6, .invokevirtual 77, 3), (9, .istore_n 3, 1), (10, .aload_n 1, 1), (11, .iload_n 2, 1), (12, .iload_n 3, 1), (13, .invokevirtual 81, 3), (16, .istore 4, 2), (18, .aload_n 1, 1), (19, .iload_n 2, 1), (20, .iload_n 3, 1), (21, .invokevirtual 84, 3), (24, .istore 5, 2), (26, .iload 4, 2), (28, .iconst 1, 1), (29, .if_icmp .ne 18, 3), (32, .aload_n 0, 1), (33, .getfield 9, 3), (36, .iload_n 2, 1), (37, .iconst 4, 1), (38, .imul, 1), (39, .iload 5, 2), (41, .iadd, 1), (42, .dup2, 1), (43, .iaload, 1), (44, .iconst 1, 1), (45, .iadd, 1), (46, .iastore, 1), (47, .iload 4, 2), (49, .iconst 2, 1), (50, .if_icmp .ne 18, 3), (53, .aload_n 0, 1), (54, .getfield 15, 3), (57, .iload 5, 2), (59, .iconst 4, 1), (60, .imul, 1), (61, .iload_n 2, 1), (62, .iadd, 1), (63, .dup2, 1), (64, .iaload, 1), (65, .iconst 1, 1), (66, .iadd, 1), (67, .iastore, 1), (68, .aload_n 0, 1), (69, .aload_n 1, 1), (70, .aload_n 0, 1), (71, .getfield 62, 3), (74, .iload_n 2, 1), (75, .invokevirtual 87, 3), (78, .putfield 62, 3), (81, .return_, 1)]
def mvC109 : List (Nat × Instr × Nat) := [(0, .aload_n 0, 1), (1, .getfield 21, 3), (4, .iload_n 2, 1), (5, .iaload, 1), (6, .iconst (-1), 1), (7, .if_icmp .eq 4, 3), (10, .return_, 1), (11, .aload_n 0, 1), (12, .getfield 21, 3), (15, .iload_n 2, 1), (16, .aload_n 1, 1), (17, .aload_n 0, 1), (18, .getfield 62, 3), (21, .iload_n 2, 1), (22, .invokevirtual 77, 3), (25, .iastore, 1), (26, .aload_n 0, 1), (27, .aload_n 0, 1), (28, .getfield 62, 3), (31, .invokestatic 90, 3), (34, .putfield 68, 3), (37, .iconst 0, 1), (38, .istore_n 3, 1), (39, .iload_n 3, 1), (40, .aload_n 1, 1), (41, .getfield 53, 3), (44, .if_icmp .ge 35, 3), (47, .iload_n 2, 1), (48, .iconst 4, 1), (49, .imul, 1), (50, .iload_n 3, 1), (51, .iadd, 1), (52, .istore 4, 2), (54, .iload_n 3, 1), (55, .iload_n 2, 1), (56, .if_icmp .eq 17, 3), (59, .aload_n 0, 1), (60, .getfield 18, 3), (63, .iload 4, 2), (65, .aload_n 0, 1), (66, .getfield 9, 3), (69, .iload 4, 2), (71, .iaload, 1), (72, .iastore, 1), (73, .iinc 3 1, 3), (76, .goto (-37), 3), (79, .return_, 1)]
def mvC110 : List (Nat × Instr × Nat) := [(0, .aload_n 0, 1), (1, .invokespecial 1, 3), (4, .aload_n 0, 1), (5, .iconst 4, 1), (6, .newarray .int, 2), (8, .putfield 7, 3), (11, .aload_n 0, 1), (12, .bipush 36, 2), (14, .newarray .int, 2), (16, .putfield 13, 3), (19, .aload_n 0, 1), (20, .bipush 36, 2), (22, .newarray .int, 2), (24, .putfield 16, 3), (27, .aload_n 0, 1), (28, .bipush 36, 2), (30, .newarray .int, 2), (32, .putfield 19, 3), (35, .aload_n 0, 1), (36, .sipush 144, 3), (39, .newarray .int, 2), (41, .putfield 22, 3), (44, .aload_n 0, 1), (45, .iconst 4, 1), (46, .newarray .int, 2), (48, .putfield 25, 3), (51, .aload_n 0, 1), (52, .bipush 16, 2), (54, .newarray .int, 2), (56, .putfield 28, 3), (59, .aload_n 0, 1), (60, .bipush 36, 2), (62, .newarray .int, 2), (64, .putfield 31, 3), (67, .aload_n 0, 1), (68, .iconst 4, 1), (69, .newarray .int, 2), (71, .putfield 34, 3), (74, .aload_n 0, 1), (75, .bipush 36, 2), (77, .newarray .int, 2), (79, .putfield 37, 3), (82, .aload_n 0, 1), (83, .bipush 36, 2), (85, .newarray .int, 2), (87, .putfield 40, 3), (90, .aload_n 0, 1), (91, .iconst 4, 1), (92, .newarray .int, 2), (94, .putfield 43, 3), (97, .aload_n 0, 1), (98, .iconst 4, 1), (99, .newarray .int, 2), (101, .putfield 46, 3), (104, .aload_n 0, 1), (105, .sipush 640, 3), (108, .newarray .boolean, 2), (110, .putfield 49, 3), (113, .aload_n 0, 1), (114, .sipush 640, 3), (117, .newarray .boolean, 2), (119, .putfield 53, 3), (122, .aload_n 0, 1), (123, .sipush 640, 3), (126, .newarray .int, 2), (128, .putfield 56, 3), (131, .aload_n 0, 1), (132, .sipush 640, 3), (135, .newarray .int, 2), (137, .putfield 59, 3), (140, .aload_n 0, 1), (141, .sipush 640, 3), (144, .newarray .boolean, 2), (146, .putfield 62, 3), (149, .aload_n 0, 1), (150, .sipush 640, 3), (153, .newarray .int, 2), (155, .putfield 65, 3), (158, .aload_n 0, 1), (159, .iconst 4, 1), (160, .newarray .int, 2), (162, .putfield 68, 3), (165, .aload_n 0, 1), (166, .iconst 4, 1), (167, .newarray .int, 2), (169, .putfield 71, 3), (172, .aload_n 0, 1), (173, .iconst 4, 1), (174, .newarray .int, 2), (176, .putfield 74, 3), (179, .aload_n 0, 1), (180, .iconst 4, 1), (181, .newarray .int, 2), (183, .putfield 77, 3), (186, .aload_n 0, 1), (187, .bipush 36, 2), (189, .newarray .int, 2), (191, .putfield 80, 3), (194, .aload_n 0, 1), (195, .bipush 36, 2), (197, .newarray .int, 2), (199, .putfield 83, 3), (202, .aload_n 0, 1), (203, .bipush 36, 2), (205, .newarray .boolean, 2), (207, .putfield 86, 3), (210, .aload_n 0, 1), (211, .iconst 4, 1), (212, .newarray .int, 2), (214, .putfield 89, 3), (217, .aload_n 0, 1), (218, .bipush 16, 2), (220, .newarray .int, 2), (222, .putfield 92, 3), (225, .return_, 1)]
def mvC111 : List (Nat × Instr × Nat) := [(0, .iload_n 1, 1), (1, .bipush 32, 2), (3, .bipush 126, 2), (5, .invokestatic 95, 3), (8, .ifCond .ne 6, 3), (11, .bipush (-102), 2), (13, .ireturn, 1), (14, .aload_n 0, 1), (15, .getfield 99, 3), (18, .bipush 36, 2), (20, .if_icmp .ne 6, 3), (23, .bipush (-104), 2), (25, .ireturn, 1), (26, .aload_n 0, 1), (27, .getfield 31, 3), (30, .aload_n 0, 1), (31, .getfield 99, 3), (34, .iload_n 1, 1), (35, .iastore, 1), (36, .aload_n 0, 1), (37, .dup, 1), (38, .getfield 99, 3), (41, .iconst 1, 1), (42, .iadd, 1), (43, .putfield 99, 3), (46, .aload_n 0, 1), (47, .getfield 99, 3), (50, .ireturn, 1)]
def mvC112 : List (Nat × Instr × Nat) := [(0, .aload_n 0, 1), (1, .getfield 109, 3), (4, .iconst (-1), 1), (5, .if_icmp .eq 35, 3), (8, .iload_n 1, 1), (9, .bipush 48, 2), (11, .bipush 51, 2), (13, .invokestatic 95, 3), (16, .ifCond .eq 22, 3), (19, .aload_n 0, 1), (20, .aload_n 0, 1), (21, .getfield 109, 3), (24, .iload_n 1, 1), (25, .bipush 48, 2), (27, .isub, 1), (28, .invokevirtual 112, 3), (31, .ifCond .eq 7, 3), (34, .iconst 1, 1), (35, .goto 4, 3), (38, .iconst 0, 1), (39, .ireturn, 1), (40, .iload_n 1, 1), (41, .bipush 59, 2), (43, .if_icmp .ne 37, 3), (46, .aload_n 0, 1), (47, .getfield 103, 3), (50, .iconst 4, 1), (51, .if_icmp .ge 7, 3), (54, .iconst 1, 1), (55, .goto 4, 3), (58, .iconst 0, 1), (59, .istore_n 2, 1), (60, .aload_n 0, 1), (61, .dup, 1), (62, .getfield 103, 3), (65, .iload_n 2, 1), (66, .ifCond .eq 7, 3), (69, .iconst 1, 1), (70, .goto 4, 3), (73, .iconst 0, 1), (74, .iadd, 1), (75, .putfield 103, 3), (78, .iload_n 2, 1), (79, .ireturn, 1), (80, .aload_n 0, 1), (81, .getfield 34, 3), (84, .aload_n 0, 1), (85, .getfield 103, 3), (88, .iconst 1, 1), (89, .isub, 1), (90, .iaload, 1), (91, .bipush 9, 2), (93, .if_icmp .ge 16, 3), (96, .aload_n 0, 1), (97, .getfield 106, 3), (100, .bipush 16, 2), (102, .if_icmp .ge 7, 3), (105, .iconst 1, 1), (106, .goto 4, 3), (109, .iconst 0, 1), (110, .istore_n 2, 1), (111, .iload_n 1, 1), (112, .bipush 33, 2), (114, .if_icmp .eq 9, 3), (117, .iload_n 1, 1), (118, .bipush 63, 2), (120, .if_icmp .ne 28, 3), (123, .aload_n 0, 1), (124, .iload_n 2, 1), (125, .ifCond .eq 17, 3), (128, .iload_n 1, 1), (129, .bipush 33, 2), (131, .if_icmp .ne 7, 3), (134, .iconst 1, 1), (135, .goto 8, 3), (138, .iconst 2, 1), (139, .goto 4, 3), (142, .iconst (-1), 1), (143, .putfield 109, 3), (146, .iload_n 2, 1), (147, .ireturn, 1), (148, .iload_n 2, 1), (149, .ifCond .eq 30, 3), (152, .iload_n 1, 1), (153, .bipush 48, 2), (155, .bipush 57, 2), (157, .invokestatic 95, 3), (160, .ifCond .eq 19, 3), (163, .aload_n 0, 1), (164, .iconst 0, 1), (165, .iload_n 1, 1), (166, .bipush 48, 2), (168, .isub, 1), (169, .invokevirtual 112, 3), (172, .ifCond .eq 7, 3), (175, .iconst 1, 1), (176, .goto 4, 3), (179, .iconst 0, 1), (180, .ireturn, 1)]
def mvC113 : List (Nat × Instr × Nat) := [(0, .aload_n 0, 1), (1, .getfield 43, 3), (4, .iload_n 1, 1), (5, .iaload, 1), (6, .aload_n 0, 1), (7, .getfield 34, 3), (10, .iload_n 1, 1), (11, .iaload, 1), (12, .if_icmp .ne 5, 3), (15, .iconst 0, 1), (16, .ireturn, 1), (17, .bipush 9, 2), (19, .iload_n 1, 1), (20, .imul, 1), (21, .aload_n 0, 1), (22, .getfield 43, 3), (25, .iload_n 1, 1), (26, .iaload, 1), (27, .iadd, 1), (28, .istore_n 2, 1), (29, .aload_n 0, 1), (30, .getfield 37, 3), (33, .iload_n 2, 1), (34, .iaload, 1), (35, .iconst 2, 1), (36, .if_icmp .eq 5, 3), (39, .iconst 1, 1), (40, .ireturn, 1), (41, .aload_n 0, 1), (42, .getfield 40, 3), (45, .iload_n 2, 1), (46, .iaload, 1), (47, .istore_n 3, 1), (48, .aload_n 0, 1), (49, .iload_n 3, 1), (50, .iconst 1, 1), (51, .iload_n 1, 1), (52, .aload_n 0, 1), (53, .getfield 43, 3), (56, .iload_n 3, 1), (57, .iaload, 1), (58, .invokevirtual 124, 3), (61, .aload_n 0, 1), (62, .iload_n 1, 1), (63, .iconst 2, 1), (64, .iload_n 3, 1), (65, .aload_n 0, 1), (66, .getfield 43, 3), (69, .iload_n 1, 1), (70, .iaload, 1), (71, .invokevirtual 124, 3), (74, .if_icmp .le 7, 3), (77, .iconst 1, 1), (78, .goto 4, 3), (81, .iconst 0, 1), (82, .ireturn, 1)]
def mvC114 : List (Nat × Instr × Nat) := [(0, .iconst 0, 1), (1, .istore 5, 2), (3, .iload 5, 2), (5, .aload_n 0, 1), (6, .getfield 7, 3), (9, .iload_n 1, 1), (10, .iaload, 1), (11, .if_icmp .ge 57, 3), (14, .bipush 9, 2), (16, .iload_n 1, 1), (17, .imul, 1), (18, .iload 5, 2), (20, .iadd, 1), (21, .istore 6, 2), (23, .aload_n 0, 1), (24, .getfield 13, 3), (27, .iload 6, 2), (29, .iaload, 1), (30, .iload_n 2, 1), (31, .if_icmp .ne 31, 3), (34, .aload_n 0, 1), (35, .getfield 16, 3), (38, .iload 6, 2), (40, .iaload, 1), (41, .iload_n 3, 1), (42, .if_icmp .ne 20, 3), (45, .aload_n 0, 1), (46, .iload_n 1, 1), (47, .iload_n 2, 1), (48, .iload_n 3, 1), (49, .iload 5, 2), (51, .invokevirtual 160, 3), (54, .iload 4, 2), (56, .if_icmp .ne 6, 3), (59, .iload 5, 2), (61, .ireturn, 1), (62, .iinc 5 1, 3), (65, .goto (-62), 3), (68, .iconst (-1), 1), (69, .ireturn, 1)]
def mvC115 : List (Nat × Instr × Nat) := [(0, .iconst 0, 1), (1, .istore_n 1, 1), (2, .iload_n 1, 1), (3, .sipush 144, 3), (6, .if_icmp .ge 16, 3), (9, .aload_n 0, 1), (10, .getfield 22, 3), (13, .iload_n 1, 1), (14, .iconst 0, 1), (15, .iastore, 1), (16, .iinc 1 1, 3), (19, .goto (-17), 3), (22, .iconst 0, 1), (23, .istore_n 1, 1), (24, .iload_n 1, 1), (25, .bipush 16, 2), (27, .if_icmp .gt 49, 3), (30, .iconst 0, 1), (31, .istore_n 2, 1), (32, .iload_n 2, 1), (33, .aload_n 0, 1), (34, .getfield 138, 3), (37, .if_icmp .ge 33, 3), (40, .iconst 0, 1), (41, .istore_n 3, 1), (42, .iload_n 3, 1), (43, .aload_n 0, 1), (44, .getfield 7, 3), (47, .iload_n 2, 1), (48, .iaload, 1), (49, .if_icmp .ge 15, 3), (52, .aload_n 0, 1), (53, .iload_n 2, 1), (54, .iload_n 3, 1), (55, .invokevirtual 166, 3), (58, .iinc 3 1, 3), (61, .goto (-19), 3), (64, .iinc 2 1, 3), (67, .goto (-35), 3), (70, .iinc 1 1, 3), (73, .goto (-49), 3), (76, .return_, 1)]
def mvC116 : List (Nat × Instr × Nat) := [(0, .iload_n 1, 1), (1, .iconst 0, 1), (2, .aload_n 0, 1), (3, .getfield 138, 3), (6, .iconst 1, 1), (7, .isub, 1), (8, .invokestatic 95, 3), (11, .ireturn, 1)]
def mvC117 : List (Nat × Instr × Nat) := [(0, .aload_n 0, 1), (1, .getfield 7, 3), (4, .iload_n 1, 1), (5, .iaload, 1), (6, .bipush 9, 2), (8, .if_icmp .eq 12, 3), (11, .aload_n 0, 1), (12, .invokevirtual 173, 3), (15, .bipush 16, 2), (17, .if_icmp .ne 7, 3), (20, .iconst 1, 1), (21, .goto 4, 3), (24, .iconst 0, 1), (25, .ireturn, 1)]
def mvC118 : List (Nat × Instr × Nat) := [(0, .iload_n 1, 1), (1, .iload_n 3, 1), (2, .if_icmp .ne 11, 3), (5, .iload_n 2, 1), (6, .iload 4, 2), (8, .if_icmp .ne 5, 3), (11, .iconst 2, 1), (12, .ireturn, 1), (13, .aload_n 0, 1), (14, .iload_n 1, 1), (15, .iload_n 2, 1), (16, .iload_n 3, 1), (17, .iload 4, 2), (19, .invokevirtual 189, 3), (22, .ifCond .eq 7, 3), (25, .iconst 1, 1), (26, .goto 20, 3), (29, .aload_n 0, 1), (30, .iload_n 3, 1), (31, .iload 4, 2), (33, .iload_n 1, 1), (34, .iload_n 2, 1), (35, .invokevirtual 189, 3), (38, .ifCond .eq 7, 3), (41, .iconst (-1), 1), (42, .goto 4, 3), (45, .iconst 0, 1), (46, .ireturn, 1)]
def mvC119 : List (Nat × Instr × Nat) := [(0, .aload_n 0, 1), (1, .iload_n 1, 1), (2, .invokevirtual 196, 3), (5, .aload_n 0, 1), (6, .invokevirtual 200, 3), (9, .ireturn, 1)]
def mvC120 : List (Nat × Instr × Nat) := [(0, .iconst 0, 1), (1, .istore_n 1, 1), (2, .iconst 0, 1), (3, .istore_n 2, 1), (4, .iload_n 2, 1), (5, .bipush 16, 2), (7, .if_icmp .ge 55, 3), (10, .iload_n 2, 1), (11, .iconst 4, 1), (12, .idiv, 1), (13, .istore_n 3, 1), (14, .iload_n 2, 1), (15, .iconst 4, 1), (16, .irem, 1), (17, .istore 4, 2), (19, .iload_n 1, 1), (20, .iload_n 3, 1), (21, .iload 4, 2), (23, .if_icmp .eq 30, 3), (26, .iload_n 3, 1), (27, .aload_n 0, 1), (28, .getfield 138, 3), (31, .if_icmp .ge 22, 3), (34, .iload 4, 2), (36, .aload_n 0, 1), (37, .getfield 138, 3), (40, .if_icmp .ge 13, 3), (43, .aload_n 0, 1), (44, .iload_n 3, 1), (45, .iload 4, 2), (47, .invokevirtual 203, 3), (50, .goto 4, 3), (53, .iconst 0, 1), (54, .iadd, 1), (55, .istore_n 1, 1), (56, .iinc 2 1, 3), (59, .goto (-55), 3), (62, .iload_n 1, 1), (63, .ireturn, 1)]
def mvC121 : List (Nat × Instr × Nat) := [(0, .aload_n 0, 1), (1, .getfield 25, 3), (4, .iload_n 1, 1), (5, .iaload, 1), (6, .aload_n 0, 1), (7, .iload_n 1, 1), (8, .iload_n 2, 1), (9, .invokevirtual 207, 3), (12, .ishr, 1), (13, .iconst 1, 1), (14, .iand, 1), (15, .iconst 1, 1), (16, .if_icmp .ne 7, 3), (19, .iconst 1, 1), (20, .goto 4, 3), (23, .iconst 0, 1), (24, .ireturn, 1)]
def mvC122 : List (Nat × Instr × Nat) := [(0, .iconst 0, 1), (1, .istore_n 1, 1), (2, .iconst 0, 1), (3, .istore_n 2, 1), (4, .iload_n 2, 1), (5, .aload_n 0, 1), (6, .getfield 138, 3), (9, .if_icmp .ge 23, 3), (12, .iload_n 1, 1), (13, .aload_n 0, 1), (14, .iload_n 2, 1), (15, .aload_n 0, 1), (16, .getfield 46, 3), (19, .iload_n 2, 1), (20, .iaload, 1), (21, .invokevirtual 207, 3), (24, .iadd, 1), (25, .istore_n 1, 1), (26, .iinc 2 1, 3), (29, .goto (-25), 3), (32, .iload_n 1, 1), (33, .ireturn, 1)]
def mvC123 : List (Nat × Instr × Nat) := [(0, .aload_n 0, 1), (1, .iconst 0, 1), (2, .aload_n 0, 1), (3, .getfield 46, 3), (6, .iconst 0, 1), (7, .iaload, 1), (8, .invokevirtual 207, 3), (11, .istore_n 1, 1), (12, .iload_n 1, 1), (13, .istore_n 2, 1), (14, .iconst 1, 1), (15, .istore_n 3, 1), (16, .iload_n 3, 1), (17, .aload_n 0, 1), (18, .getfield 138, 3), (21, .if_icmp .ge 48, 3), (24, .aload_n 0, 1), (25, .iload_n 3, 1), (26, .aload_n 0, 1), (27, .getfield 46, 3), (30, .iload_n 3, 1), (31, .iaload, 1), (32, .invokevirtual 207, 3), (35, .istore 4, 2), (37, .iload 4, 2), (39, .iload_n 1, 1), (40, .if_icmp .le 8, 3), (43, .iload 4, 2), (45, .goto 4, 3), (48, .iload_n 1, 1), (49, .istore_n 1, 1), (50, .iload 4, 2), (52, .iload_n 2, 1), (53, .if_icmp .ge 8, 3), (56, .iload 4, 2), (58, .goto 4, 3), (61, .iload_n 2, 1), (62, .istore_n 2, 1), (63, .iinc 3 1, 3), (66, .goto (-50), 3), (69, .iload_n 1, 1), (70, .iload_n 2, 1), (71, .isub, 1), (72, .ireturn, 1)]
def mvC124 : List (Nat × Instr × Nat) := [(0, .aload_n 0, 1), (1, .iload_n 1, 1), (2, .invokevirtual 196, 3), (5, .aload_n 0, 1), (6, .getfield 46, 3), (9, .iload_n 2, 1), (10, .iaload, 1), (11, .aload_n 0, 1), (12, .getfield 7, 3), (15, .iload_n 2, 1), (16, .iaload, 1), (17, .if_icmp .ge 22, 3), (20, .aload_n 0, 1), (21, .getfield 49, 3), (24, .iload_n 1, 1), (25, .aload_n 0, 1), (26, .iload_n 2, 1), (27, .invokevirtual 246, 3), (30, .iadd, 1), (31, .baload, 1), (32, .ifCond .eq 7, 3), (35, .iconst 1, 1), (36, .goto 4, 3), (39, .iconst 0, 1), (40, .ireturn, 1)]
def mvC125 : List (Nat × Instr × Nat) := [(0, .aload_n 0, 1), (1, .invokevirtual 262, 3), (4, .ifCond .ne 6, 3), (7, .bipush (-103), 2), (9, .ireturn, 1), (10, .aload_n 0, 1), (11, .iload_n 1, 1), (12, .invokevirtual 265, 3), (15, .istore 4, 2), (17, .aload_n 0, 1), (18, .invokevirtual 234, 3), (21, .istore 5, 2), (23, .iconst 0, 1), (24, .istore 6, 2), (26, .iload 6, 2), (28, .iconst 4, 1), (29, .if_icmp .ge 23, 3), (32, .aload_n 0, 1), (33, .getfield 68, 3), (36, .iload 6, 2), (38, .aload_n 0, 1), (39, .getfield 46, 3), (42, .iload 6, 2), (44, .iaload, 1), (45, .iastore, 1), (46, .iinc 6 1, 3), (49, .goto (-23), 3), (52, .aload_n 0, 1), (53, .iload_n 2, 1), (54, .invokevirtual 265, 3), (57, .ifCond .eq 8, 3), (60, .iload 4, 2), (62, .ifCond .ne 6, 3), (65, .bipush (-101), 2), (67, .ireturn, 1), (68, .iload 5, 2), (70, .ifCond .eq 10, 3), (73, .aload_n 0, 1), (74, .invokevirtual 234, 3), (77, .ifCond .ne 6, 3), (80, .bipush (-103), 2), (82, .ireturn, 1), (83, .iconst 0, 1), (84, .istore 6, 2), (86, .iload 6, 2), (88, .aload_n 0, 1), (89, .getfield 138, 3), (92, .if_icmp .ge 59, 3), (95, .aload_n 0, 1), (96, .getfield 46, 3), (99, .iload 6, 2), (101, .aload_n 0, 1), (102, .getfield 68, 3), (105, .iload 6, 2), (107, .iaload, 1), (108, .aload_n 0, 1), (109, .getfield 46, 3), (112, .iload 6, 2), (114, .iaload, 1), (115, .if_icmp .le 7, 3), (118, .iconst 1, 1), (119, .goto 4, 3), (122, .iconst 0, 1), (123, .iload_n 3, 1), (124, .if_icmp .ne 13, 3), (127, .aload_n 0, 1), (128, .getfield 68, 3), (131, .iload 6, 2), (133, .iaload, 1), (134, .goto 10, 3), (137, .aload_n 0, 1), (138, .getfield 46, 3), (141, .iload 6, 2), (143, .iaload, 1), (144, .iastore, 1), (145, .iinc 6 1, 3), (148, .goto (-62), 3), (151, .aload_n 0, 1), (152, .invokevirtual 200, 3), (155, .ireturn, 1)]
def mvC126 : List (Nat × Instr × Nat) := [(0, .iconst 0, 1), (1, .istore_n 2, 1), (2, .iconst 0, 1), (3, .istore_n 3, 1), (4, .iload_n 3, 1), (5, .aload_n 0, 1), (6, .invokevirtual 231, 3), (9, .if_icmp .ge 36, 3), (12, .iload_n 2, 1), (13, .aload_n 0, 1), (14, .getfield 49, 3), (17, .iload_n 3, 1), (18, .baload, 1), (19, .ifCond .eq 17, 3), (22, .aload_n 0, 1), (23, .getfield 65, 3), (26, .iload_n 3, 1), (27, .iaload, 1), (28, .iload_n 1, 1), (29, .if_icmp .ne 7, 3), (32, .iconst 1, 1), (33, .goto 4, 3), (36, .iconst 0, 1), (37, .iadd, 1), (38, .istore_n 2, 1), (39, .iinc 3 1, 3), (42, .goto (-38), 3), (45, .iload_n 2, 1), (46, .ireturn, 1)]
def mvC127 : List (Nat × Instr × Nat) := [(0, .iconst 0, 1), (1, .istore_n 1, 1), (2, .iconst 0, 1), (3, .istore_n 2, 1), (4, .iload_n 2, 1), (5, .aload_n 0, 1), (6, .invokevirtual 231, 3), (9, .if_icmp .ge 26, 3), (12, .iload_n 1, 1), (13, .aload_n 0, 1), (14, .getfield 49, 3), (17, .iload_n 2, 1), (18, .baload, 1), (19, .ifCond .eq 7, 3), (22, .iconst 1, 1), (23, .goto 4, 3), (26, .iconst 0, 1), (27, .iadd, 1), (28, .istore_n 1, 1), (29, .iinc 2 1, 3), (32, .goto (-28), 3), (35, .iload_n 1, 1), (36, .ireturn, 1)]
def mvC128 : List (Nat × Instr × Nat) := [(0, .iload_n 2, 1), (1, .istore_n 3, 1), (2, .iconst 0, 1), (3, .istore 4, 2), (5, .iload 4, 2), (7, .aload_n 0, 1), (8, .invokevirtual 231, 3), (11, .if_icmp .ge 44, 3), (14, .iload_n 2, 1), (15, .ifCond .lt 40, 3), (18, .aload_n 0, 1), (19, .getfield 49, 3), (22, .iload 4, 2), (24, .baload, 1), (25, .ifCond .eq 24, 3), (28, .aload_n 0, 1), (29, .getfield 65, 3), (32, .iload 4, 2), (34, .iaload, 1), (35, .iload_n 1, 1), (36, .if_icmp .ne 13, 3), (39, .iload_n 3, 1), (40, .ifCond .ne 6, 3), (43, .iload 4, 2), (45, .ireturn, 1), (46, .iinc 3 (-1), 3), (49, .iinc 4 1, 3), (52, .goto (-47), 3), (55, .iconst (-1), 1), (56, .ireturn, 1)]
def mvC129 : List (Nat × Instr × Nat) := [(0, .iload_n 1, 1), (1, .iconst 0, 1), (2, .iconst 3, 1), (3, .invokestatic 95, 3), (6, .ifCond .eq 13, 3), (9, .iload_n 2, 1), (10, .iconst 0, 1), (11, .bipush 36, 2), (13, .invokestatic 95, 3), (16, .ifCond .ne 6, 3), (19, .bipush (-102), 2), (21, .ireturn, 1), (22, .aload_n 0, 1), (23, .getfield 213, 3), (26, .istore_n 3, 1), (27, .aload_n 0, 1), (28, .iload_n 1, 1), (29, .putfield 213, 3), (32, .aload_n 0, 1), (33, .iload_n 2, 1), (34, .putfield 222, 3), (37, .iload_n 3, 1), (38, .ireturn, 1)]
def mvC130 : List (Nat × Instr × Nat) := [(0, .iconst 0, 1), (1, .istore_n 1, 1), (2, .iconst 0, 1), (3, .istore_n 2, 1), (4, .iload_n 2, 1), (5, .aload_n 0, 1), (6, .invokevirtual 231, 3), (9, .if_icmp .ge 26, 3), (12, .iload_n 1, 1), (13, .aload_n 0, 1), (14, .getfield 53, 3), (17, .iload_n 2, 1), (18, .baload, 1), (19, .ifCond .eq 7, 3), (22, .iconst 1, 1), (23, .goto 4, 3), (26, .iconst 0, 1), (27, .iadd, 1), (28, .istore_n 1, 1), (29, .iinc 2 1, 3), (32, .goto (-28), 3), (35, .iload_n 1, 1), (36, .ireturn, 1)]
def mvC131 : List (Nat × Instr × Nat) := [(0, .aload_n 0, 1), (1, .invokevirtual 262, 3), (4, .ifCond .eq 14, 3), (7, .aload_n 0, 1), (8, .getfield 213, 3), (11, .ifCond .ne 7, 3), (14, .iconst 1, 1), (15, .goto 4, 3), (18, .iconst 0, 1), (19, .ireturn, 1)]
def mvC132 : List (Nat × Instr × Nat) := [(0, .iconst 1, 1), (1, .istore_n 1, 1), (2, .iconst 0, 1), (3, .istore_n 2, 1), (4, .iload_n 2, 1), (5, .bipush 16, 2), (7, .if_icmp .ge 114, 3), (10, .iload_n 2, 1), (11, .iconst 4, 1), (12, .idiv, 1), (13, .istore_n 3, 1), (14, .iload_n 2, 1), (15, .iconst 4, 1), (16, .irem, 1), (17, .istore 4, 2), (19, .iload_n 3, 1), (20, .iload 4, 2), (22, .if_icmp .eq 50, 3), (25, .iload_n 3, 1), (26, .aload_n 0, 1), (27, .getfield 138, 3), (30, .if_icmp .ge 42, 3), (33, .iload 4, 2), (35, .aload_n 0, 1), (36, .getfield 138, 3), (39, .if_icmp .ge 33, 3), (42, .aload_n 0, 1), (43, .getfield 71, 3), (46, .iload_n 3, 1), (47, .iaload, 1), (48, .ifCond .le 24, 3), (51, .aload_n 0, 1), (52, .getfield 74, 3), (55, .iload 4, 2), (57, .iaload, 1), (58, .aload_n 0, 1), (59, .getfield 7, 3), (62, .iload 4, 2), (64, .iaload, 1), (65, .if_icmp .ge 7, 3), (68, .iconst 1, 1), (69, .goto 4, 3), (72, .iconst 0, 1), (73, .istore 5, 2), (75, .iload_n 1, 1), (76, .ifCond .eq 37, 3), (79, .iload 5, 2), (81, .ifCond .eq 28, 3), (84, .aload_n 0, 1), (85, .iload_n 3, 1), (86, .aload_n 0, 1), (87, .getfield 71, 3), (90, .iload_n 3, 1), (91, .iaload, 1), (92, .iconst 1, 1), (93, .isub, 1), (94, .iload 4, 2), (96, .aload_n 0, 1), (97, .getfield 74, 3), (100, .iload 4, 2), (102, .iaload, 1), (103, .invokevirtual 189, 3), (106, .ifCond .eq 7, 3), (109, .iconst 1, 1), (110, .goto 4, 3), (113, .iconst 0, 1), (114, .istore_n 1, 1), (115, .iinc 2 1, 3), (118, .goto (-114), 3), (121, .iload_n 1, 1), (122, .ireturn, 1)]
def mvC133 : List (Nat × Instr × Nat) := [(0, .iconst 0, 1), (1, .istore_n 2, 1), (2, .iconst 0, 1), (3, .istore_n 3, 1), (4, .iload_n 3, 1), (5, .aload_n 0, 1), (6, .getfield 138, 3), (9, .if_icmp .ge 25, 3), (12, .iload_n 2, 1), (13, .aload_n 0, 1), (14, .iload_n 3, 1), (15, .invokevirtual 353, 3), (18, .ifCond .eq 7, 3), (21, .iconst 1, 1), (22, .goto 4, 3), (25, .iconst 0, 1), (26, .iadd, 1), (27, .istore_n 2, 1), (28, .iinc 3 1, 3), (31, .goto (-27), 3), (34, .iload_n 1, 1), (35, .ifCond .eq 11, 3), (38, .aload_n 0, 1), (39, .iload_n 2, 1), (40, .invokevirtual 356, 3), (43, .goto 4, 3), (46, .iconst 0, 1), (47, .istore_n 3, 1), (48, .iconst 0, 1), (49, .istore 4, 2), (51, .iload_n 3, 1), (52, .ifCond .gt 12, 3), (55, .aload_n 0, 1), (56, .iload 4, 2), (58, .invokevirtual 353, 3), (61, .ifCond .ne 26, 3), (64, .iload_n 3, 1), (65, .aload_n 0, 1), (66, .iload 4, 2), (68, .invokevirtual 353, 3), (71, .ifCond .eq 7, 3), (74, .iconst 1, 1), (75, .goto 4, 3), (78, .iconst 0, 1), (79, .isub, 1), (80, .istore_n 3, 1), (81, .iinc 4 1, 3), (84, .goto (-33), 3), (87, .iload 4, 2), (89, .ireturn, 1)]
def mvC134 : List (Nat × Instr × Nat) := [(0, .aload_n 0, 1), (1, .getfield 147, 3), (4, .ifCond .eq 26, 3), (7, .iload_n 1, 1), (8, .iconst 0, 1), (9, .aload_n 0, 1), (10, .invokevirtual 173, 3), (13, .iconst 1, 1), (14, .isub, 1), (15, .invokestatic 95, 3), (18, .ifCond .eq 12, 3), (21, .aload_n 0, 1), (22, .getfield 28, 3), (25, .iload_n 1, 1), (26, .iaload, 1), (27, .goto 5, 3), (30, .bipush (-101), 2), (32, .ireturn, 1)]
def mvC135 : List (Nat × Instr × Nat) := [(0, .aload_n 0, 1), (1, .getfield 89, 3), (4, .iload_n 1, 1), (5, .aload_n 0, 1), (6, .getfield 46, 3), (9, .iload_n 1, 1), (10, .iaload, 1), (11, .iastore, 1), (12, .aload_n 0, 1), (13, .dup, 1), (14, .getfield 363, 3), (17, .iconst 1, 1), (18, .iadd, 1), (19, .putfield 363, 3), (22, .aload_n 0, 1), (23, .iload_n 2, 1), (24, .putfield 366, 3), (27, .iconst 0, 1), (28, .istore_n 3, 1), (29, .iload_n 3, 1), (30, .aload_n 0, 1), (31, .getfield 138, 3), (34, .if_icmp .ge 37, 3), (37, .iload_n 3, 1), (38, .iload_n 1, 1), (39, .if_icmp .eq 26, 3), (42, .aload_n 0, 1), (43, .getfield 92, 3), (46, .iconst 4, 1), (47, .iload_n 1, 1), (48, .imul, 1), (49, .iload_n 3, 1), (50, .iadd, 1), (51, .aload_n 0, 1), (52, .iload_n 1, 1), (53, .iconst 1, 1), (54, .iload_n 3, 1), (55, .aload_n 0, 1), (56, .getfield 46, 3), (59, .iload_n 1, 1), (60, .iaload, 1), (61, .invokevirtual 160, 3), (64, .iastore, 1), (65, .iinc 3 1, 3), (68, .goto (-39), 3), (71, .return_, 1)]
def mvC136 : List (Nat × Instr × Nat) := [(0, .iconst 0, 1), (1, .istore_n 2, 1), (2, .iload_n 2, 1), (3, .bipush 16, 2), (5, .if_icmp .ge 58, 3), (8, .iload_n 2, 1), (9, .iconst 4, 1), (10, .idiv, 1), (11, .istore_n 3, 1), (12, .iload_n 2, 1), (13, .iconst 4, 1), (14, .irem, 1), (15, .istore 4, 2), (17, .aload_n 0, 1), (18, .getfield 92, 3), (21, .iload_n 2, 1), (22, .iaload, 1), (23, .iconst (-1), 1), (24, .if_icmp .eq 33, 3), (27, .iload_n 1, 1), (28, .ifCond .ne 27, 3), (31, .aload_n 0, 1), (32, .iload 4, 2), (34, .iconst 2, 1), (35, .iload_n 3, 1), (36, .aload_n 0, 1), (37, .getfield 46, 3), (40, .iload 4, 2), (42, .iaload, 1), (43, .invokevirtual 160, 3), (46, .aload_n 0, 1), (47, .getfield 92, 3), (50, .iload_n 2, 1), (51, .iaload, 1), (52, .if_icmp .lt 5, 3), (55, .iload_n 2, 1), (56, .ireturn, 1), (57, .iinc 2 1, 3), (60, .goto (-58), 3), (63, .iconst (-1), 1), (64, .ireturn, 1)]
def mvC137 : List (Nat × Instr × Nat) := [(0, .iload_n 1, 1), (1, .iconst 0, 1), (2, .iconst 2, 1), (3, .invokestatic 95, 3), (6, .ifCond .ne 6, 3), (9, .bipush (-102), 2), (11, .ireturn, 1), (12, .aload_n 0, 1), (13, .getfield 151, 3), (16, .ifCond .eq 11, 3), (19, .aload_n 0, 1), (20, .iload_n 1, 1), (21, .invokevirtual 393, 3), (24, .goto 5, 3), (27, .bipush (-103), 2), (29, .ireturn, 1)]
def mvC138 : List (Nat × Instr × Nat) := [(0, .iload_n 1, 1), (1, .tableswitch 80 0 7 #[47, 52, 57, 57, 57, 65, 70, 75], 47), (48, .aload_n 0, 1), (49, .getfield 138, 3), (52, .ireturn, 1), (53, .aload_n 0, 1), (54, .invokevirtual 173, 3), (57, .ireturn, 1), (58, .aload_n 0, 1), (59, .iload_n 1, 1), (60, .iconst 2, 1), (61, .isub, 1), (62, .invokevirtual 396, 3), (65, .ireturn, 1), (66, .aload_n 0, 1), (67, .getfield 99, 3), (70, .ireturn, 1), (71, .aload_n 0, 1), (72, .getfield 141, 3), (75, .ireturn, 1), (76, .aload_n 0, 1), (77, .getfield 390, 3), (80, .ireturn, 1), (81, .bipush (-102), 2), (83, .ireturn, 1)]
def mvC139 : List (Nat × Instr × Nat) := [(0, .iconst 0, 1), (1, .istore_n 1, 1), (2, .iload_n 1, 1), (3, .aload_n 0, 1), (4, .invokevirtual 173, 3), (7, .if_icmp .ge 20, 3), (10, .aload_n 0, 1), (11, .aload_n 0, 1), (12, .getfield 28, 3), (15, .iload_n 1, 1), (16, .iaload, 1), (17, .i2l, 1), (18, .invokevirtual 407, 3), (21, .iinc 1 1, 3), (24, .goto (-22), 3), (27, .iconst 0, 1), (28, .istore_n 1, 1), (29, .iload_n 1, 1), (30, .iconst 3, 1), (31, .if_icmp .ge 26, 3), (34, .aload_n 0, 1), (35, .getfield 151, 3), (38, .ifCond .eq 19, 3), (41, .aload_n 0, 1), (42, .aload_n 0, 1), (43, .iload_n 1, 1), (44, .invokevirtual 393, 3), (47, .i2l, 1), (48, .invokevirtual 407, 3), (51, .iinc 1 1, 3), (54, .goto (-25), 3), (57, .return_, 1)]
def mvC140 : List (Nat × Instr × Nat) := [(0, .aload_n 0, 1), (1, .getfield 12, 3), (4, .invokevirtual 83, 3), (7, .ireturn, 1)]
def mvC141 : List (Nat × Instr × Nat) := [(0, .aload_n 0, 1), (1, .getfield 19, 3), (4, .iload_n 1, 1), (5, .iload_n 2, 1), (6, .invokevirtual 135, 3), (9, .ifCond .ne 6, 3), (12, .bipush (-101), 2), (14, .ireturn, 1), (15, .iload_n 3, 1), (16, .ifCond .lt 9, 3), (19, .iload_n 3, 1), (20, .bipush 6, 2), (22, .if_icmp .le 6, 3), (25, .bipush (-102), 2), (27, .ireturn, 1), (28, .aload_n 0, 1), (29, .getfield 19, 3), (32, .iload_n 1, 1), (33, .iload_n 2, 1), (34, .iload_n 3, 1), (35, .invokevirtual 138, 3), (38, .ireturn, 1)]
def mvC142 : List (Nat × Instr × Nat) := [(0, .aload_n 0, 1), (1, .getfield 19, 3), (4, .iload_n 1, 1), (5, .iload_n 2, 1), (6, .invokevirtual 135, 3), (9, .ifCond .eq 16, 3), (12, .aload_n 0, 1), (13, .getfield 19, 3), (16, .iload_n 3, 1), (17, .iload 4, 2), (19, .invokevirtual 135, 3), (22, .ifCond .ne 6, 3), (25, .bipush (-101), 2), (27, .ireturn, 1), (28, .iload_n 1, 1), (29, .iload_n 3, 1), (30, .if_icmp .ne 11, 3), (33, .iload_n 2, 1), (34, .iload 4, 2), (36, .if_icmp .ne 5, 3), (39, .iconst 2, 1), (40, .ireturn, 1), (41, .aload_n 0, 1), (42, .getfield 19, 3), (45, .iload_n 1, 1), (46, .iload_n 2, 1), (47, .iload_n 3, 1), (48, .iload 4, 2), (50, .invokevirtual 141, 3), (53, .ifCond .eq 5, 3), (56, .iconst 1, 1), (57, .ireturn, 1), (58, .aload_n 0, 1), (59, .getfield 19, 3), (62, .iload_n 3, 1), (63, .iload 4, 2), (65, .iload_n 1, 1), (66, .iload_n 2, 1), (67, .invokevirtual 141, 3), (70, .ifCond .eq 7, 3), (73, .iconst (-1), 1), (74, .goto 4, 3), (77, .iconst 0, 1), (78, .ireturn, 1)]
def mvC143 : List (Nat × Instr × Nat) := [(0, .iload_n 1, 1), (1, .ifCond .lt 18, 3), (4, .iload_n 1, 1), (5, .iconst 3, 1), (6, .if_icmp .gt 13, 3), (9, .iload_n 2, 1), (10, .ifCond .lt 9, 3), (13, .iload_n 2, 1), (14, .bipush 36, 2), (16, .if_icmp .le 6, 3), (19, .bipush (-102), 2), (21, .ireturn, 1), (22, .aload_n 0, 1), (23, .getfield 36, 3), (26, .getfield 193, 3), (29, .istore_n 3, 1), (30, .aload_n 0, 1), (31, .getfield 36, 3), (34, .iload_n 1, 1), (35, .putfield 193, 3), (38, .aload_n 0, 1), (39, .getfield 36, 3), (42, .iload_n 2, 1), (43, .putfield 196, 3), (46, .aload_n 0, 1), (47, .invokevirtual 199, 3), (50, .iload_n 3, 1), (51, .ireturn, 1)]
def mvC144 : List (Nat × Instr × Nat) := [(0, .aload_n 0, 1), (1, .getfield 19, 3), (4, .iload_n 1, 1), (5, .invokevirtual 107, 3), (8, .ifCond .ne 6, 3), (11, .bipush (-101), 2), (13, .ireturn, 1), (14, .iload_n 2, 1), (15, .ifCond .lt 10, 3), (18, .iload_n 2, 1), (19, .sipush 1023, 3), (22, .if_icmp .le 6, 3), (25, .bipush (-102), 2), (27, .ireturn, 1), (28, .aload_n 0, 1), (29, .getfield 36, 3), (32, .getfield 202, 3), (35, .iload_n 1, 1), (36, .iaload, 1), (37, .istore_n 3, 1), (38, .aload_n 0, 1), (39, .getfield 36, 3), (42, .getfield 202, 3), (45, .iload_n 1, 1), (46, .iload_n 2, 1), (47, .iastore, 1), (48, .aload_n 0, 1), (49, .invokevirtual 199, 3), (52, .iload_n 3, 1), (53, .ireturn, 1)]
def mvC145 : List (Nat × Instr × Nat) := [(0, .aload_n 0, 1), (1, .invokevirtual 215, 3), (4, .ifCond .ne 6, 3), (7, .bipush (-103), 2), (9, .ireturn, 1), (10, .aload_n 0, 1), (11, .getfield 19, 3), (14, .iload_n 1, 1), (15, .invokevirtual 107, 3), (18, .ifCond .ne 6, 3), (21, .bipush (-101), 2), (23, .ireturn, 1), (24, .aload_n 0, 1), (25, .getfield 50, 3), (28, .aload_n 0, 1), (29, .getfield 19, 3), (32, .aload_n 0, 1), (33, .getfield 36, 3), (36, .invokevirtual 221, 3), (39, .iload_n 2, 1), (40, .ifCond .lt 16, 3), (43, .iload_n 2, 1), (44, .aload_n 0, 1), (45, .getfield 50, 3), (48, .getfield 228, 3), (51, .iload_n 1, 1), (52, .iaload, 1), (53, .if_icmp .lt 6, 3), (56, .bipush (-101), 2), (58, .ireturn, 1), (59, .iload_n 3, 1), (60, .ifCond .lt 8, 3), (63, .iload_n 3, 1), (64, .iconst 1, 1), (65, .if_icmp .le 6, 3), (68, .bipush (-102), 2), (70, .ireturn, 1), (71, .iload_n 3, 1), (72, .ifCond .ne 15, 3), (75, .aload_n 0, 1), (76, .getfield 50, 3), (79, .iload_n 1, 1), (80, .iload_n 2, 1), (81, .invokevirtual 231, 3), (84, .goto 12, 3), (87, .aload_n 0, 1), (88, .getfield 50, 3), (91, .iload_n 1, 1), (92, .iload_n 2, 1), (93, .invokevirtual 234, 3), (96, .ireturn, 1)]
def mvC146 : List (Nat × Instr × Nat) := [(0, .iconst 0, 1), (1, .istore_n 3, 1), (2, .iload_n 3, 1), (3, .aload_n 0, 1), (4, .getfield 19, 3), (7, .getfield 104, 3), (10, .if_icmp .ge 65, 3), (13, .iconst 0, 1), (14, .istore 4, 2), (16, .iload 4, 2), (18, .aload_n 0, 1), (19, .getfield 19, 3), (22, .getfield 131, 3), (25, .iload_n 3, 1), (26, .iaload, 1), (27, .if_icmp .ge 42, 3), (30, .iconst 0, 1), (31, .istore 5, 2), (33, .iload 5, 2), (35, .bipush 6, 2), (37, .if_icmp .gt 26, 3), (40, .lload_n 1, 1), (41, .aload_n 0, 1), (42, .getfield 19, 3), (45, .iload_n 3, 1), (46, .iload 4, 2), (48, .iload 5, 2), (50, .invokevirtual 138, 3), (53, .invokestatic 282, 3), (56, .lstore_n 1, 1), (57, .iinc 5 1, 3), (60, .goto (-27), 3), (63, .iinc 4 1, 3), (66, .goto (-50), 3), (69, .iinc 3 1, 3), (72, .goto (-70), 3), (75, .lload_n 1, 1), (76, .lreturn, 1)]
def mvC147 : List (Nat × Instr × Nat) := [(0, .aload_n 0, 1), (1, .getfield 64, 3), (4, .iconst (-1), 1), (5, .putfield 248, 3), (8, .aload_n 0, 1), (9, .getfield 71, 3), (12, .iconst 0, 1), (13, .putfield 240, 3), (16, .aload_n 0, 1), (17, .getfield 29, 3), (20, .iconst 0, 1), (21, .putfield 298, 3), (24, .aload_n 0, 1), (25, .invokevirtual 199, 3), (28, .return_, 1)]
def mvC148 : List (Nat × Instr × Nat) := [(0, .aload_n 0, 1), (1, .invokevirtual 23, 3), (4, .istore_n 2, 1), (5, .aload_n 0, 1), (6, .invokevirtual 27, 3), (9, .aload_n 0, 1), (10, .getfield 15, 3), (13, .if_icmp .lt 8, 3), (16, .iload_n 2, 1), (17, .iconst 2, 1), (18, .if_icmp .ge 5, 3), (21, .iconst 0, 1), (22, .ireturn, 1), (23, .aload_n 1, 1), (24, .iload_n 2, 1), (25, .invokevirtual 30, 3), (28, .iconst 0, 1), (29, .istore_n 3, 1), (30, .iconst 0, 1), (31, .istore 4, 2), (33, .iload 4, 2), (35, .aload_n 0, 1), (36, .getfield 15, 3), (39, .if_icmp .ge 112, 3), (42, .aload_n 0, 1), (43, .getfield 9, 3), (46, .iload 4, 2), (48, .iaload, 1), (49, .istore 5, 2), (51, .iload 5, 2), (53, .bipush 59, 2), (55, .if_icmp .ne 9, 3), (58, .iinc 3 1, 3), (61, .goto 84, 3), (64, .iload 5, 2), (66, .invokestatic 19, 3), (69, .ifCond .eq 17, 3), (72, .aload_n 1, 1), (73, .iload_n 3, 1), (74, .iconst 0, 1), (75, .iload 5, 2), (77, .bipush 48, 2), (79, .isub, 1), (80, .invokevirtual 36, 3), (83, .goto 62, 3), (86, .iinc 4 1, 3), (89, .iload 4, 2), (91, .aload_n 0, 1), (92, .getfield 15, 3), (95, .if_icmp .ge 16, 3), (98, .aload_n 0, 1), (99, .getfield 9, 3), (102, .iload 4, 2), (104, .iaload, 1), (105, .bipush 48, 2), (107, .isub, 1), (108, .goto 4, 3), (111, .iconst (-1), 1), (112, .istore 6, 2), (114, .aload_n 1, 1), (115, .iload_n 3, 1), (116, .iload 6, 2), (118, .invokevirtual 40, 3), (121, .ifCond .ne 5, 3), (124, .iconst 0, 1), (125, .ireturn, 1), (126, .aload_n 1, 1), (127, .iload_n 3, 1), (128, .iload 5, 2), (130, .bipush 33, 2), (132, .if_icmp .ne 7, 3), (135, .iconst 1, 1), (136, .goto 4, 3), (139, .iconst 2, 1), (140, .iload 6, 2), (142, .invokevirtual 36, 3), (145, .iinc 4 1, 3), (148, .goto (-115), 3), (151, .iconst 1, 1), (152, .ireturn, 1)]
def mvC149 : List (Nat × Instr × Nat) := [(0, .iconst 0, 1), (1, .istore_n 2, 1), (2, .iload_n 2, 1), (3, .aload_n 0, 1), (4, .getfield 36, 3), (7, .if_icmp .ge 38, 3), (10, .aload_n 0, 1), (11, .iload_n 1, 1), (12, .iload_n 2, 1), (13, .invokevirtual 75, 3), (16, .iconst 1, 1), (17, .isub, 1), (18, .istore_n 3, 1), (19, .iload_n 3, 1), (20, .ifCond .lt 19, 3), (23, .aload_n 0, 1), (24, .iload_n 1, 1), (25, .iload_n 2, 1), (26, .bipush 9, 2), (28, .imul, 1), (29, .iload_n 3, 1), (30, .iadd, 1), (31, .invokevirtual 94, 3), (34, .ifCond .ne 5, 3), (37, .iconst 0, 1), (38, .ireturn, 1), (39, .iinc 2 1, 3), (42, .goto (-40), 3), (45, .iconst 1, 1), (46, .ireturn, 1)]
def mvC150 : List (Nat × Instr × Nat) := [(0, .iconst 0, 1), (1, .istore_n 2, 1), (2, .iconst 0, 1), (3, .istore_n 3, 1), (4, .iload_n 3, 1), (5, .aload_n 0, 1), (6, .getfield 36, 3), (9, .if_icmp .ge 24, 3), (12, .aload_n 0, 1), (13, .iload_n 1, 1), (14, .iload_n 3, 1), (15, .invokevirtual 97, 3), (18, .ifCond .eq 9, 3), (21, .iload_n 2, 1), (22, .iconst 1, 1), (23, .iload_n 3, 1), (24, .ishl, 1), (25, .ior, 1), (26, .istore_n 2, 1), (27, .iinc 3 1, 3), (30, .goto (-26), 3), (33, .iload_n 2, 1), (34, .ireturn, 1)]
def mvC151 : List (Nat × Instr × Nat) := [(0, .aload_n 0, 1), (1, .getfield 24, 3), (4, .iconst 0, 1), (5, .invokestatic 69, 3), (8, .aload_n 0, 1), (9, .getfield 24, 3), (12, .iconst 0, 1), (13, .iconst 1, 1), (14, .iastore, 1), (15, .iconst 0, 1), (16, .istore_n 2, 1), (17, .iload_n 2, 1), (18, .aload_n 0, 1), (19, .getfield 56, 3), (22, .if_icmp .ge 70, 3), (25, .iconst 0, 1), (26, .istore_n 3, 1), (27, .iload_n 3, 1), (28, .aload_n 1, 1), (29, .getfield 59, 3), (32, .if_icmp .ge 54, 3), (35, .aload_n 0, 1), (36, .getfield 24, 3), (39, .iload_n 2, 1), (40, .iaload, 1), (41, .ifCond .le 45, 3), (44, .aload_n 1, 1), (45, .aload_n 0, 1), (46, .getfield 18, 3), (49, .iload_n 2, 1), (50, .iaload, 1), (51, .iload_n 3, 1), (52, .invokevirtual 75, 3), (55, .ifCond .eq 25, 3), (58, .aload_n 0, 1), (59, .getfield 24, 3), (62, .iload_n 2, 1), (63, .aload_n 0, 1), (64, .getfield 15, 3), (67, .iload_n 3, 1), (68, .iaload, 1), (69, .iadd, 1), (70, .dup2, 1), (71, .iaload, 1), (72, .aload_n 0, 1), (73, .getfield 24, 3), (76, .iload_n 2, 1), (77, .iaload, 1), (78, .iadd, 1), (79, .iastore, 1), (80, .iinc 3 1, 3), (83, .goto (-56), 3), (86, .iinc 2 1, 3), (89, .goto (-72), 3), (92, .return_, 1)]
def mvC152 : List (Nat × Instr × Nat) := [(0, .aload_n 0, 1), (1, .getfield 27, 3), (4, .iconst 0, 1), (5, .invokestatic 69, 3), (8, .aload_n 0, 1), (9, .getfield 27, 3), (12, .aload_n 0, 1), (13, .getfield 56, 3), (16, .iconst 1, 1), (17, .isub, 1), (18, .iconst 1, 1), (19, .iastore, 1), (20, .aload_n 0, 1), (21, .getfield 56, 3), (24, .iconst 1, 1), (25, .isub, 1), (26, .istore_n 2, 1), (27, .iload_n 2, 1), (28, .ifCond .lt 70, 3), (31, .iconst 0, 1), (32, .istore_n 3, 1), (33, .iload_n 3, 1), (34, .aload_n 1, 1), (35, .getfield 59, 3), (38, .if_icmp .ge 54, 3), (41, .aload_n 0, 1), (42, .getfield 24, 3), (45, .iload_n 2, 1), (46, .iaload, 1), (47, .ifCond .le 45, 3), (50, .aload_n 1, 1), (51, .aload_n 0, 1), (52, .getfield 18, 3), (55, .iload_n 2, 1), (56, .iaload, 1), (57, .iload_n 3, 1), (58, .invokevirtual 75, 3), (61, .ifCond .eq 25, 3), (64, .aload_n 0, 1), (65, .getfield 27, 3), (68, .iload_n 2, 1), (69, .dup2, 1), (70, .iaload, 1), (71, .aload_n 0, 1), (72, .getfield 27, 3), (75, .iload_n 2, 1), (76, .aload_n 0, 1), (77, .getfield 15, 3), (80, .iload_n 3, 1), (81, .iaload, 1), (82, .iadd, 1), (83, .iaload, 1), (84, .iadd, 1), (85, .iastore, 1), (86, .iinc 3 1, 3), (89, .goto (-56), 3), (92, .iinc 2 (-1), 3), (95, .goto (-68), 3), (98, .return_, 1)]
def mvC153 : List (Nat × Instr × Nat) := [(0, .iload_n 1, 1), (1, .tableswitch 57 0 3 #[31, 36, 45, 50], 31), (32, .aload_n 0, 1), (33, .getfield 83, 3), (36, .ireturn, 1), (37, .aload_n 0, 1), (38, .aload_n 0, 1), (39, .invokevirtual 86, 3), (42, .invokevirtual 90, 3), (45, .ireturn, 1), (46, .aload_n 0, 1), (47, .invokevirtual 86, 3), (50, .ireturn, 1), (51, .aload_n 0, 1), (52, .getfield 27, 3), (55, .iconst 0, 1), (56, .iaload, 1), (57, .ireturn, 1), (58, .aload_n 0, 1), (59, .getfield 40, 3), (62, .ireturn, 1)]
def mvC154 : List (Nat × Instr × Nat) := [(0, .aload_n 0, 1), (1, .getfield 21, 3), (4, .tableswitch 67 0 2 #[28, 35, 53], 28), (32, .aload_n 0, 1), (33, .aload_n 1, 1), (34, .iload_n 2, 1), (35, .invokevirtual 25, 3), (38, .ireturn, 1), (39, .aload_n 1, 1), (40, .iload_n 2, 1), (41, .invokestatic 29, 3), (44, .aload_n 0, 1), (45, .getfield 33, 3), (48, .if_icmp .ne 7, 3), (51, .iconst 1, 1), (52, .goto 4, 3), (55, .iconst 0, 1), (56, .ireturn, 1), (57, .aload_n 1, 1), (58, .iload_n 2, 1), (59, .invokevirtual 36, 3), (62, .ifCond .ne 7, 3), (65, .iconst 1, 1), (66, .goto 4, 3), (69, .iconst 0, 1), (70, .ireturn, 1), (71, .aload_n 1, 1), (72, .iload_n 2, 1), (73, .invokestatic 42, 3), (76, .aload_n 0, 1), (77, .getfield 33, 3), (80, .if_icmp .lt 7, 3), (83, .iconst 1, 1), (84, .goto 4, 3), (87, .iconst 0, 1), (88, .ireturn, 1)]
def mvC155 : List (Nat × Instr × Nat) := [(0, .iconst 0, 1), (1, .istore 4, 2), (3, .iload 4, 2), (5, .aload_n 1, 1), (6, .getfield 58, 3), (9, .if_icmp .ge 48, 3), (12, .aload_n 1, 1), (13, .aload_n 2, 1), (14, .getfield 38, 3), (17, .iload_n 3, 1), (18, .iaload, 1), (19, .iload 4, 2), (21, .invokevirtual 63, 3), (24, .istore 5, 2), (26, .iload 5, 2), (28, .ifCond .eq 23, 3), (31, .aload_n 0, 1), (32, .getfield 15, 3), (35, .iload_n 3, 1), (36, .aload_n 2, 1), (37, .getfield 67, 3), (40, .iload 4, 2), (42, .iaload, 1), (43, .iadd, 1), (44, .baload, 1), (45, .ifCond .eq 6, 3), (48, .iload 4, 2), (50, .ireturn, 1), (51, .iinc 4 1, 3), (54, .goto (-51), 3), (57, .iconst (-1), 1), (58, .ireturn, 1)]
def mvC156 : List (Nat × Instr × Nat) := [(0, .iconst 0, 1), (1, .istore_n 2, 1), (2, .iload_n 2, 1), (3, .aload_n 1, 1), (4, .getfield 30, 3), (7, .if_icmp .ge 42, 3), (10, .iconst 0, 1), (11, .istore_n 3, 1), (12, .iload_n 3, 1), (13, .aload_n 1, 1), (14, .getfield 30, 3), (17, .if_icmp .ge 26, 3), (20, .iload_n 2, 1), (21, .iload_n 3, 1), (22, .if_icmp .eq 15, 3), (25, .aload_n 0, 1), (26, .aload_n 1, 1), (27, .iload_n 2, 1), (28, .iload_n 3, 1), (29, .invokevirtual 61, 3), (32, .ifCond .ne 5, 3), (35, .iconst 0, 1), (36, .ireturn, 1), (37, .iinc 3 1, 3), (40, .goto (-28), 3), (43, .iinc 2 1, 3), (46, .goto (-44), 3), (49, .iconst 1, 1), (50, .ireturn, 1)]
def mvC157 : List (Nat × Instr × Nat) := [(0, .aload_n 0, 1), (1, .invokespecial 3, 3), (4, .aload_n 0, 1), (5, .new 9, 3), (8, .dup, 1), (9, .invokespecial 11, 3), (12, .putfield 12, 3), (15, .aload_n 0, 1), (16, .new 18, 3), (19, .dup, 1), (20, .invokespecial 20, 3), (23, .putfield 21, 3), (26, .aload_n 0, 1), (27, .new 25, 3), (30, .dup, 1), (31, .invokespecial 27, 3), (34, .putfield 28, 3), (37, .return_, 1)]
def mvC158 : List (Nat × Instr × Nat) := [(0, .aload_n 0, 1), (1, .getfield 18, 3), (4, .iload_n 2, 1), (5, .iconst (-1), 1), (6, .iastore, 1), (7, .aload_n 0, 1), (8, .aload_n 1, 1), (9, .iload_n 2, 1), (10, .iconst 4, 1), (11, .irem, 1), (12, .invokevirtual 36, 3), (15, .return_, 1)]
def mvC159 : List (Nat × Instr × Nat) := [(0, .aload_n 0, 1), (1, .iconst 1, 1), (2, .putfield 103, 3), (5, .aload_n 0, 1), (6, .iconst 0, 1), (7, .putfield 106, 3), (10, .aload_n 0, 1), (11, .iconst (-1), 1), (12, .putfield 109, 3), (15, .iconst 0, 1), (16, .istore_n 1, 1), (17, .iload_n 1, 1), (18, .iconst 4, 1), (19, .if_icmp .ge 16, 3), (22, .aload_n 0, 1), (23, .getfield 34, 3), (26, .iload_n 1, 1), (27, .iconst 0, 1), (28, .iastore, 1), (29, .iinc 1 1, 3), (32, .goto (-15), 3), (35, .iconst 0, 1), (36, .istore_n 1, 1), (37, .iload_n 1, 1), (38, .aload_n 0, 1), (39, .getfield 99, 3), (42, .if_icmp .ge 22, 3), (45, .aload_n 0, 1), (46, .aload_n 0, 1), (47, .getfield 31, 3), (50, .iload_n 1, 1), (51, .iaload, 1), (52, .invokevirtual 116, 3), (55, .ifCond .eq 9, 3), (58, .iinc 1 1, 3), (61, .goto (-24), 3), (64, .iload_n 1, 1), (65, .ireturn, 1)]
def mvC160 : List (Nat × Instr × Nat) := [(0, .iconst 0, 1), (1, .istore_n 1, 1), (2, .iload_n 1, 1), (3, .iconst 4, 1), (4, .if_icmp .ge 16, 3), (7, .aload_n 0, 1), (8, .getfield 43, 3), (11, .iload_n 1, 1), (12, .iconst 0, 1), (13, .iastore, 1), (14, .iinc 1 1, 3), (17, .goto (-15), 3), (20, .iconst 0, 1), (21, .istore_n 1, 1), (22, .iconst 0, 1), (23, .istore_n 2, 1), (24, .iload_n 2, 1), (25, .bipush 16, 2), (27, .if_icmp .ge 46, 3), (30, .iconst 0, 1), (31, .istore_n 3, 1), (32, .iload_n 3, 1), (33, .aload_n 0, 1), (34, .getfield 103, 3), (37, .if_icmp .ge 30, 3), (40, .aload_n 0, 1), (41, .iload_n 3, 1), (42, .invokevirtual 128, 3), (45, .ifCond .eq 16, 3), (48, .aload_n 0, 1), (49, .getfield 43, 3), (52, .iload_n 3, 1), (53, .dup2, 1), (54, .iaload, 1), (55, .iconst 1, 1), (56, .iadd, 1), (57, .iastore, 1), (58, .iinc 1 1, 3), (61, .iinc 3 1, 3), (64, .goto (-32), 3), (67, .iinc 2 1, 3), (70, .goto (-46), 3), (73, .iload_n 1, 1), (74, .aload_n 0, 1), (75, .getfield 106, 3), (78, .if_icmp .ne 7, 3), (81, .iconst 1, 1), (82, .goto 4, 3), (85, .iconst 0, 1), (86, .ireturn, 1)]
def mvC161 : List (Nat × Instr × Nat) := [(0, .iconst 0, 1), (1, .istore_n 1, 1), (2, .iload_n 1, 1), (3, .aload_n 0, 1), (4, .getfield 138, 3), (7, .if_icmp .ge 94, 3), (10, .iconst 0, 1), (11, .istore_n 2, 1), (12, .iload_n 2, 1), (13, .aload_n 0, 1), (14, .getfield 7, 3), (17, .iload_n 1, 1), (18, .iaload, 1), (19, .if_icmp .ge 76, 3), (22, .bipush 9, 2), (24, .iload_n 1, 1), (25, .imul, 1), (26, .iload_n 2, 1), (27, .iadd, 1), (28, .istore_n 3, 1), (29, .aload_n 0, 1), (30, .iload_n 1, 1), (31, .aload_n 0, 1), (32, .getfield 13, 3), (35, .iload_n 3, 1), (36, .iaload, 1), (37, .aload_n 0, 1), (38, .getfield 16, 3), (41, .iload_n 3, 1), (42, .iaload, 1), (43, .iload_n 2, 1), (44, .invokevirtual 160, 3), (47, .istore 4, 2), (49, .aload_n 0, 1), (50, .getfield 19, 3), (53, .iload_n 3, 1), (54, .aload_n 0, 1), (55, .getfield 13, 3), (58, .iload_n 3, 1), (59, .iaload, 1), (60, .ifCond .ne 7, 3), (63, .iconst (-1), 1), (64, .goto 24, 3), (67, .aload_n 0, 1), (68, .aload_n 0, 1), (69, .getfield 16, 3), (72, .iload_n 3, 1), (73, .iaload, 1), (74, .iconst 3, 1), (75, .aload_n 0, 1), (76, .getfield 13, 3), (79, .iload_n 3, 1), (80, .iaload, 1), (81, .isub, 1), (82, .iload_n 1, 1), (83, .iload 4, 2), (85, .invokevirtual 163, 3), (88, .iastore, 1), (89, .iinc 2 1, 3), (92, .goto (-80), 3), (95, .iinc 1 1, 3), (98, .goto (-96), 3), (101, .return_, 1)]
def mvC162 : List (Nat × Instr × Nat) := [(0, .aload_n 0, 1), (1, .iload_n 1, 1), (2, .invokevirtual 170, 3), (5, .ifCond .eq 23, 3), (8, .iload_n 2, 1), (9, .iconst 0, 1), (10, .aload_n 0, 1), (11, .getfield 7, 3), (14, .iload_n 1, 1), (15, .iaload, 1), (16, .iconst 1, 1), (17, .isub, 1), (18, .invokestatic 95, 3), (21, .ifCond .eq 7, 3), (24, .iconst 1, 1), (25, .goto 4, 3), (28, .iconst 0, 1), (29, .ireturn, 1)]
def mvC163 : List (Nat × Instr × Nat) := [(0, .iconst 1, 1), (1, .istore_n 1, 1), (2, .iconst 0, 1), (3, .istore_n 2, 1), (4, .iload_n 2, 1), (5, .aload_n 0, 1), (6, .getfield 138, 3), (9, .if_icmp .ge 33, 3), (12, .iload_n 1, 1), (13, .ifCond .eq 21, 3), (16, .aload_n 0, 1), (17, .iload_n 2, 1), (18, .aload_n 0, 1), (19, .getfield 46, 3), (22, .iload_n 2, 1), (23, .iaload, 1), (24, .invokevirtual 210, 3), (27, .ifCond .eq 7, 3), (30, .iconst 1, 1), (31, .goto 4, 3), (34, .iconst 0, 1), (35, .istore_n 1, 1), (36, .iinc 2 1, 3), (39, .goto (-35), 3), (42, .iload_n 1, 1), (43, .ireturn, 1)]
def mvC164 : List (Nat × Instr × Nat) := [(0, .iconst 0, 1), (1, .istore_n 2, 1), (2, .iconst 0, 1), (3, .istore_n 3, 1), (4, .iload_n 3, 1), (5, .aload_n 0, 1), (6, .getfield 138, 3), (9, .if_icmp .ge 28, 3), (12, .iload_n 2, 1), (13, .aload_n 0, 1), (14, .iload_n 1, 1), (15, .iload_n 3, 1), (16, .invokevirtual 243, 3), (19, .ifCond .eq 9, 3), (22, .iconst 1, 1), (23, .iload_n 3, 1), (24, .ishl, 1), (25, .goto 4, 3), (28, .iconst 0, 1), (29, .ior, 1), (30, .istore_n 2, 1), (31, .iinc 3 1, 3), (34, .goto (-30), 3), (37, .iload_n 2, 1), (38, .ireturn, 1)]
def mvC165 : List (Nat × Instr × Nat) := [(0, .aload_n 0, 1), (1, .invokevirtual 262, 3), (4, .ifCond .ne 6, 3), (7, .bipush (-103), 2), (9, .ireturn, 1), (10, .aload_n 0, 1), (11, .iload_n 1, 1), (12, .invokevirtual 265, 3), (15, .ifCond .eq 25, 3), (18, .aload_n 0, 1), (19, .iload_n 2, 1), (20, .invokevirtual 170, 3), (23, .ifCond .eq 17, 3), (26, .aload_n 0, 1), (27, .iload_n 2, 1), (28, .aload_n 0, 1), (29, .getfield 46, 3), (32, .iload_n 2, 1), (33, .iaload, 1), (34, .invokevirtual 207, 3), (37, .goto 5, 3), (40, .bipush (-101), 2), (42, .ireturn, 1)]
def mvC166 : List (Nat × Instr × Nat) := [(0, .aload_n 0, 1), (1, .invokevirtual 262, 3), (4, .ifCond .ne 6, 3), (7, .bipush (-103), 2), (9, .ireturn, 1), (10, .aload_n 0, 1), (11, .iload_n 1, 1), (12, .invokevirtual 265, 3), (15, .ifCond .eq 24, 3), (18, .aload_n 0, 1), (19, .iload_n 2, 1), (20, .invokevirtual 170, 3), (23, .ifCond .eq 16, 3), (26, .aload_n 0, 1), (27, .iload_n 3, 1), (28, .invokevirtual 170, 3), (31, .ifCond .eq 8, 3), (34, .iload_n 2, 1), (35, .iload_n 3, 1), (36, .if_icmp .ne 6, 3), (39, .bipush (-101), 2), (41, .ireturn, 1), (42, .aload_n 0, 1), (43, .invokevirtual 234, 3), (46, .ifCond .eq 12, 3), (49, .aload_n 0, 1), (50, .iload_n 2, 1), (51, .iload_n 3, 1), (52, .invokevirtual 203, 3), (55, .goto 5, 3), (58, .bipush (-103), 2), (60, .ireturn, 1)]
def mvC167 : List (Nat × Instr × Nat) := [(0, .aload_n 0, 1), (1, .iload_n 1, 1), (2, .iload_n 2, 1), (3, .iconst 0, 1), (4, .invokevirtual 271, 3), (7, .ireturn, 1)]
def mvC168 : List (Nat × Instr × Nat) := [(0, .aload_n 0, 1), (1, .iload_n 1, 1), (2, .iload_n 2, 1), (3, .iconst 1, 1), (4, .invokevirtual 271, 3), (7, .ireturn, 1)]
def mvC169 : List (Nat × Instr × Nat) := [(0, .iconst 0, 1), (1, .istore_n 1, 1), (2, .iconst 1, 1), (3, .istore_n 2, 1), (4, .iload_n 2, 1), (5, .aload_n 0, 1), (6, .invokevirtual 173, 3), (9, .if_icmp .gt 28, 3), (12, .aload_n 0, 1), (13, .iload_n 2, 1), (14, .invokevirtual 275, 3), (17, .aload_n 0, 1), (18, .iload_n 1, 1), (19, .invokevirtual 275, 3), (22, .if_icmp .le 7, 3), (25, .iload_n 2, 1), (26, .goto 4, 3), (29, .iload_n 1, 1), (30, .istore_n 1, 1), (31, .iinc 2 1, 3), (34, .goto (-30), 3), (37, .iload_n 1, 1), (38, .ireturn, 1)]
def mvC170 : List (Nat × Instr × Nat) := [(0, .aload_n 0, 1), (1, .iload_n 1, 1), (2, .invokevirtual 170, 3), (5, .ifCond .ne 6, 3), (8, .bipush (-101), 2), (10, .ireturn, 1), (11, .iload_n 2, 1), (12, .iconst 0, 1), (13, .sipush 1023, 3), (16, .invokestatic 95, 3), (19, .ifCond .ne 6, 3), (22, .bipush (-102), 2), (24, .ireturn, 1), (25, .aload_n 0, 1), (26, .getfield 25, 3), (29, .iload_n 1, 1), (30, .iaload, 1), (31, .istore_n 3, 1), (32, .aload_n 0, 1), (33, .getfield 25, 3), (36, .iload_n 1, 1), (37, .iload_n 2, 1), (38, .iastore, 1), (39, .iload_n 3, 1), (40, .ireturn, 1)]
def mvC171 : List (Nat × Instr × Nat) := [(0, .iconst (-1), 1), (1, .istore_n 1, 1), (2, .iconst 0, 1), (3, .istore_n 2, 1), (4, .iload_n 2, 1), (5, .aload_n 0, 1), (6, .invokevirtual 231, 3), (9, .if_icmp .ge 54, 3), (12, .aload_n 0, 1), (13, .getfield 53, 3), (16, .iload_n 2, 1), (17, .baload, 1), (18, .ifCond .eq 27, 3), (21, .iload_n 1, 1), (22, .iconst (-1), 1), (23, .if_icmp .eq 18, 3), (26, .aload_n 0, 1), (27, .getfield 65, 3), (30, .iload_n 2, 1), (31, .iaload, 1), (32, .aload_n 0, 1), (33, .getfield 65, 3), (36, .iload_n 1, 1), (37, .iaload, 1), (38, .if_icmp .ge 7, 3), (41, .iconst 1, 1), (42, .goto 4, 3), (45, .iconst 0, 1), (46, .istore_n 3, 1), (47, .iload_n 3, 1), (48, .ifCond .eq 7, 3), (51, .iload_n 2, 1), (52, .goto 4, 3), (55, .iload_n 1, 1), (56, .istore_n 1, 1), (57, .iinc 2 1, 3), (60, .goto (-56), 3), (63, .iload_n 1, 1), (64, .iconst (-1), 1), (65, .if_icmp .ne 7, 3), (68, .iconst (-1), 1), (69, .goto 8, 3), (72, .aload_n 0, 1), (73, .iload_n 1, 1), (74, .invokevirtual 290, 3), (77, .ireturn, 1)]
def mvC172 : List (Nat × Instr × Nat) := [(0, .iconst 0, 1), (1, .istore_n 2, 1), (2, .iconst (-1), 1), (3, .istore_n 3, 1), (4, .iconst 0, 1), (5, .istore 4, 2), (7, .iload 4, 2), (9, .iload_n 1, 1), (10, .if_icmp .gt 49, 3), (13, .iconst 0, 1), (14, .istore_n 3, 1), (15, .aload_n 0, 1), (16, .iload_n 2, 1), (17, .iload_n 3, 1), (18, .invokevirtual 243, 3), (21, .ifCond .eq 18, 3), (24, .aload_n 0, 1), (25, .getfield 62, 3), (28, .iload_n 2, 1), (29, .aload_n 0, 1), (30, .iload_n 3, 1), (31, .invokevirtual 246, 3), (34, .iadd, 1), (35, .baload, 1), (36, .ifCond .ne 9, 3), (39, .iinc 3 1, 3), (42, .goto (-27), 3), (45, .iload_n 2, 1), (46, .aload_n 0, 1), (47, .iload_n 3, 1), (48, .invokevirtual 246, 3), (51, .iadd, 1), (52, .istore_n 2, 1), (53, .iinc 4 1, 3), (56, .goto (-49), 3), (59, .iload_n 3, 1), (60, .ireturn, 1)]
def mvC173 : List (Nat × Instr × Nat) := [(0, .iload_n 2, 1), (1, .istore_n 3, 1), (2, .iconst 0, 1), (3, .istore 4, 2), (5, .iload 4, 2), (7, .aload_n 0, 1), (8, .getfield 7, 3), (11, .iload_n 1, 1), (12, .iaload, 1), (13, .if_icmp .gt 72, 3), (16, .iload_n 2, 1), (17, .ifCond .lt 68, 3), (20, .aload_n 0, 1), (21, .iload_n 1, 1), (22, .iload 4, 2), (24, .invokevirtual 210, 3), (27, .ifCond .eq 24, 3), (30, .iload 4, 2), (32, .ifCond .eq 15, 3), (35, .aload_n 0, 1), (36, .iload_n 1, 1), (37, .iload 4, 2), (39, .iconst 1, 1), (40, .isub, 1), (41, .invokevirtual 210, 3), (44, .ifCond .ne 7, 3), (47, .iconst 1, 1), (48, .goto 4, 3), (51, .iconst 0, 1), (52, .istore 5, 2), (54, .iload 5, 2), (56, .ifCond .eq 10, 3), (59, .iload_n 3, 1), (60, .ifCond .ne 6, 3), (63, .iload 4, 2), (65, .ireturn, 1), (66, .iload_n 3, 1), (67, .iload 5, 2), (69, .ifCond .eq 7, 3), (72, .iconst 1, 1), (73, .goto 4, 3), (76, .iconst 0, 1), (77, .isub, 1), (78, .istore_n 3, 1), (79, .iinc 4 1, 3), (82, .goto (-77), 3), (85, .iconst (-1), 1), (86, .ireturn, 1)]
def mvC174 : List (Nat × Instr × Nat) := [(0, .iload_n 2, 1), (1, .istore_n 3, 1), (2, .iload_n 3, 1), (3, .aload_n 0, 1), (4, .getfield 7, 3), (7, .iload_n 1, 1), (8, .iaload, 1), (9, .if_icmp .ge 20, 3), (12, .aload_n 0, 1), (13, .iload_n 1, 1), (14, .iload_n 3, 1), (15, .iconst 1, 1), (16, .iadd, 1), (17, .invokevirtual 210, 3), (20, .ifCond .eq 9, 3), (23, .iinc 3 1, 3), (26, .goto (-24), 3), (29, .iload_n 3, 1), (30, .ireturn, 1)]
def mvC175 : List (Nat × Instr × Nat) := [(0, .aload_n 0, 1), (1, .invokevirtual 262, 3), (4, .ifCond .ne 6, 3), (7, .bipush (-103), 2), (9, .ireturn, 1), (10, .iload_n 1, 1), (11, .ifCond .ge 6, 3), (14, .bipush (-102), 2), (16, .ireturn, 1), (17, .aload_n 0, 1), (18, .iload_n 1, 1), (19, .i2l, 1), (20, .putfield 343, 3), (23, .aload_n 0, 1), (24, .iconst 0, 1), (25, .invokevirtual 196, 3), (28, .aload_n 0, 1), (29, .invokevirtual 173, 3), (32, .istore_n 2, 1), (33, .iconst 0, 1), (34, .istore_n 3, 1), (35, .iload_n 3, 1), (36, .iload_n 2, 1), (37, .if_icmp .ge 43, 3), (40, .aload_n 0, 1), (41, .getfield 28, 3), (44, .iload_n 3, 1), (45, .aload_n 0, 1), (46, .iload_n 1, 1), (47, .ifCond .le 7, 3), (50, .iconst 1, 1), (51, .goto 4, 3), (54, .iconst 0, 1), (55, .invokevirtual 359, 3), (58, .iastore, 1), (59, .aload_n 0, 1), (60, .getfield 46, 3), (63, .aload_n 0, 1), (64, .getfield 28, 3), (67, .iload_n 3, 1), (68, .iaload, 1), (69, .dup2, 1), (70, .iaload, 1), (71, .iconst 1, 1), (72, .iadd, 1), (73, .iastore, 1), (74, .iinc 3 1, 3), (77, .goto (-42), 3), (80, .aload_n 0, 1), (81, .iconst 1, 1), (82, .putfield 147, 3), (85, .aload_n 0, 1), (86, .iconst 0, 1), (87, .putfield 151, 3), (90, .iload_n 2, 1), (91, .ireturn, 1)]
def mvC176 : List (Nat × Instr × Nat) := [(0, .aload_n 0, 1), (1, .getfield 92, 3), (4, .iload_n 1, 1), (5, .iconst (-1), 1), (6, .iastore, 1), (7, .aload_n 0, 1), (8, .getfield 89, 3), (11, .iload_n 1, 1), (12, .iconst 4, 1), (13, .irem, 1), (14, .iaload, 1), (15, .iconst (-1), 1), (16, .if_icmp .ne 11, 3), (19, .aload_n 0, 1), (20, .iload_n 1, 1), (21, .iconst 4, 1), (22, .irem, 1), (23, .iload_n 2, 1), (24, .invokevirtual 369, 3), (27, .return_, 1)]
def mvC177 : List (Nat × Instr × Nat) := [(0, .aload_n 0, 1), (1, .iload_n 1, 1), (2, .invokevirtual 399, 3), (5, .ireturn, 1)]
def mvC178 : List (Nat × Instr × Nat) := [(0, .aload_n 0, 1), (1, .invokespecial 3, 3), (4, .aload_n 0, 1), (5, .new 9, 3), (8, .dup, 1), (9, .invokespecial 11, 3), (12, .putfield 12, 3), (15, .aload_n 0, 1), (16, .new 16, 3), (19, .dup, 1), (20, .invokespecial 18, 3), (23, .putfield 19, 3), (26, .aload_n 0, 1), (27, .new 16, 3), (30, .dup, 1), (31, .invokespecial 18, 3), (34, .putfield 23, 3), (37, .aload_n 0, 1), (38, .new 26, 3), (41, .dup, 1), (42, .invokespecial 28, 3), (45, .putfield 29, 3), (48, .aload_n 0, 1), (49, .new 33, 3), (52, .dup, 1), (53, .invokespecial 35, 3), (56, .putfield 36, 3), (59, .aload_n 0, 1), (60, .new 40, 3), (63, .dup, 1), (64, .invokespecial 42, 3), (67, .putfield 43, 3), (70, .aload_n 0, 1), (71, .new 47, 3), (74, .dup, 1), (75, .invokespecial 49, 3), (78, .putfield 50, 3), (81, .aload_n 0, 1), (82, .new 54, 3), (85, .dup, 1), (86, .invokespecial 56, 3), (89, .putfield 57, 3), (92, .aload_n 0, 1), (93, .new 61, 3), (96, .dup, 1), (97, .invokespecial 63, 3), (100, .putfield 64, 3), (103, .aload_n 0, 1), (104, .new 68, 3), (107, .dup, 1), (108, .invokespecial 70, 3), (111, .putfield 71, 3), (114, .return_, 1)]
def mvC179 : List (Nat × Instr × Nat) := [(0, .aload_n 0, 1), (1, .invokevirtual 145, 3), (4, .ifCond .ne 6, 3), (7, .bipush (-103), 2), (9, .ireturn, 1), (10, .aload_n 0, 1), (11, .getfield 19, 3), (14, .iload_n 1, 1), (15, .invokevirtual 148, 3), (18, .ifCond .eq 15, 3), (21, .aload_n 0, 1), (22, .getfield 19, 3), (25, .iload_n 2, 1), (26, .iload_n 3, 1), (27, .invokevirtual 118, 3), (30, .ifCond .ne 6, 3), (33, .bipush (-101), 2), (35, .ireturn, 1), (36, .aload_n 0, 1), (37, .getfield 19, 3), (40, .iload_n 1, 1), (41, .invokevirtual 151, 3), (44, .ifCond .ne 6, 3), (47, .bipush (-103), 2), (49, .ireturn, 1), (50, .aload_n 0, 1), (51, .getfield 19, 3), (54, .iload_n 1, 1), (55, .iload_n 2, 1), (56, .iload_n 3, 1), (57, .invokevirtual 169, 3), (60, .ireturn, 1)]
def mvC180 : List (Nat × Instr × Nat) := [(0, .iload_n 2, 1), (1, .tableswitch 66 2 4 #[27, 48, 57], 27), (28, .aload_n 0, 1), (29, .getfield 36, 3), (32, .aload_n 0, 1), (33, .getfield 19, 3), (36, .iload_n 1, 1), (37, .invokevirtual 308, 3), (40, .ifCond .eq 7, 3), (43, .iconst 1, 1), (44, .goto 4, 3), (47, .iconst 0, 1), (48, .ireturn, 1), (49, .aload_n 0, 1), (50, .getfield 19, 3), (53, .iload_n 1, 1), (54, .invokevirtual 312, 3), (57, .ireturn, 1), (58, .aload_n 0, 1), (59, .getfield 19, 3), (62, .iload_n 1, 1), (63, .invokevirtual 315, 3), (66, .ireturn, 1), (67, .aload_n 0, 1), (68, .getfield 29, 3), (71, .aload_n 0, 1), (72, .getfield 19, 3), (75, .iload_n 1, 1), (76, .invokevirtual 318, 3), (79, .ireturn, 1)]
def mvC181 : List (Nat × Instr × Nat) := [(0, .aload_n 0, 1), (1, .invokevirtual 145, 3), (4, .ifCond .ne 6, 3), (7, .bipush (-103), 2), (9, .ireturn, 1), (10, .aload_n 0, 1), (11, .getfield 19, 3), (14, .iload_n 1, 1), (15, .invokevirtual 148, 3), (18, .ifCond .eq 14, 3), (21, .aload_n 0, 1), (22, .getfield 19, 3), (25, .iload_n 2, 1), (26, .invokevirtual 148, 3), (29, .ifCond .ne 6, 3), (32, .bipush (-101), 2), (34, .ireturn, 1), (35, .aload_n 0, 1), (36, .getfield 19, 3), (39, .iload_n 1, 1), (40, .invokevirtual 151, 3), (43, .ifCond .eq 18, 3), (46, .aload_n 0, 1), (47, .getfield 19, 3), (50, .iload_n 2, 1), (51, .invokevirtual 151, 3), (54, .ifCond .eq 7, 3), (57, .iconst 0, 1), (58, .goto 5, 3), (61, .bipush (-103), 2), (63, .ireturn, 1)]
def mvC182 : List (Nat × Instr × Nat) := [(0, .iconst 0, 1), (1, .istore_n 1, 1), (2, .iconst 0, 1), (3, .istore_n 2, 1), (4, .iload_n 2, 1), (5, .aload_n 0, 1), (6, .getfield 40, 3), (9, .if_icmp .ge 43, 3), (12, .aload_n 0, 1), (13, .iload_n 1, 1), (14, .invokevirtual 68, 3), (17, .invokestatic 72, 3), (20, .istore_n 3, 1), (21, .iload_n 3, 1), (22, .iconst (-1), 1), (23, .if_icmp .ne 5, 3), (26, .iconst 0, 1), (27, .ireturn, 1), (28, .aload_n 0, 1), (29, .iload_n 3, 1), (30, .aload_n 0, 1), (31, .iload_n 1, 1), (32, .iload_n 3, 1), (33, .invokevirtual 75, 3), (36, .invokevirtual 79, 3), (39, .aload_n 0, 1), (40, .iload_n 1, 1), (41, .iload_n 3, 1), (42, .invokevirtual 83, 3), (45, .istore_n 1, 1), (46, .iinc 2 1, 3), (49, .goto (-45), 3), (52, .iconst 1, 1), (53, .ireturn, 1)]
def mvC183 : List (Nat × Instr × Nat) := [(0, .aload_n 0, 1), (1, .getfield 30, 3), (4, .ifCond .eq 4, 3), (7, .return_, 1), (8, .aload_n 0, 1), (9, .iconst 1, 1), (10, .putfield 30, 3), (13, .aload_n 0, 1), (14, .aload_n 1, 1), (15, .getfield 34, 3), (18, .putfield 40, 3), (21, .aload_n 0, 1), (22, .aload_n 1, 1), (23, .invokevirtual 43, 3), (26, .aload_n 0, 1), (27, .aload_n 1, 1), (28, .invokevirtual 47, 3), (31, .aload_n 0, 1), (32, .aload_n 1, 1), (33, .invokevirtual 50, 3), (36, .aload_n 0, 1), (37, .invokevirtual 53, 3), (40, .return_, 1)]
def mvC184 : List (Nat × Instr × Nat) := [(0, .aload_n 0, 1), (1, .iconst 0, 1), (2, .putfield 70, 3), (5, .aload_n 0, 1), (6, .getfield 15, 3), (9, .iconst 0, 1), (10, .baload, 1), (11, .ifCond .ne 4, 3), (14, .return_, 1), (15, .iconst 0, 1), (16, .istore_n 3, 1), (17, .iconst 0, 1), (18, .istore 4, 2), (20, .iload 4, 2), (22, .aload_n 1, 1), (23, .getfield 73, 3), (26, .if_icmp .ge 54, 3), (29, .aload_n 0, 1), (30, .aload_n 1, 1), (31, .aload_n 2, 1), (32, .iload_n 3, 1), (33, .invokevirtual 50, 3), (36, .istore 5, 2), (38, .iload 5, 2), (40, .iconst (-1), 1), (41, .if_icmp .ne 4, 3), (44, .return_, 1), (45, .aload_n 0, 1), (46, .getfield 9, 3), (49, .iload 4, 2), (51, .iload 5, 2), (53, .iastore, 1), (54, .aload_n 0, 1), (55, .dup, 1), (56, .getfield 70, 3), (59, .iconst 1, 1), (60, .iadd, 1), (61, .putfield 70, 3), (64, .iload_n 3, 1), (65, .aload_n 2, 1), (66, .getfield 67, 3), (69, .iload 5, 2), (71, .iaload, 1), (72, .iadd, 1), (73, .istore_n 3, 1), (74, .iinc 4 1, 3), (77, .goto (-57), 3), (80, .return_, 1)]
def mvC185 : List (Nat × Instr × Nat) := [(0, .iconst 1, 1), (1, .istore_n 2, 1), (2, .iconst 0, 1), (3, .istore_n 3, 1), (4, .iload_n 3, 1), (5, .aload_n 1, 1), (6, .getfield 30, 3), (9, .if_icmp .ge 18, 3), (12, .iload_n 2, 1), (13, .aload_n 0, 1), (14, .getfield 9, 3), (17, .iload_n 3, 1), (18, .iaload, 1), (19, .imul, 1), (20, .istore_n 2, 1), (21, .iinc 3 1, 3), (24, .goto (-20), 3), (27, .aload_n 0, 1), (28, .getfield 21, 3), (31, .iconst 0, 1), (32, .invokestatic 24, 3), (35, .iconst 0, 1), (36, .istore_n 3, 1), (37, .iload_n 3, 1), (38, .iload_n 2, 1), (39, .if_icmp .ge 27, 3), (42, .aload_n 0, 1), (43, .aload_n 1, 1), (44, .invokevirtual 53, 3), (47, .ifCond .eq 5, 3), (50, .iconst 1, 1), (51, .ireturn, 1), (52, .aload_n 0, 1), (53, .aload_n 1, 1), (54, .getfield 30, 3), (57, .invokevirtual 57, 3), (60, .iinc 3 1, 3), (63, .goto (-26), 3), (66, .iconst 0, 1), (67, .ireturn, 1)]
def mvC186 : List (Nat × Instr × Nat) := [(0, .iload_n 2, 1), (1, .i2l, 1), (2, .lstore_n 3, 1), (3, .iconst 0, 1), (4, .istore 5, 2), (6, .aload_n 0, 1), (7, .iconst 0, 1), (8, .putfield 9, 3), (11, .iconst 0, 1), (12, .istore 6, 2), (14, .iload 6, 2), (16, .aload_n 1, 1), (17, .getfield 19, 3), (20, .if_icmp .ge 75, 3), (23, .iload_n 2, 1), (24, .ifCond .eq 17, 3), (27, .ldc2_w 24, 3), (30, .lload_n 3, 1), (31, .lmul, 1), (32, .ldc2_w 26, 3), (35, .ladd, 1), (36, .ldc2_w 28, 3), (39, .lrem, 1), (40, .lstore_n 3, 1), (41, .aload_n 1, 1), (42, .iload 5, 2), (44, .invokevirtual 30, 3), (47, .lload_n 3, 1), (48, .invokestatic 34, 3), (51, .istore 7, 2), (53, .iload 7, 2), (55, .iconst (-1), 1), (56, .if_icmp .ne 4, 3), (59, .return_, 1), (60, .aload_n 0, 1), (61, .getfield 15, 3), (64, .iload 6, 2), (66, .iload 7, 2), (68, .iastore, 1), (69, .aload_n 0, 1), (70, .dup, 1), (71, .getfield 9, 3), (74, .iconst 1, 1), (75, .iadd, 1), (76, .putfield 9, 3), (79, .aload_n 1, 1), (80, .iload 5, 2), (82, .iload 7, 2), (84, .invokevirtual 38, 3), (87, .istore 5, 2), (89, .iinc 6 1, 3), (92, .goto (-78), 3), (95, .return_, 1)]
def mvC187 : List (Nat × Instr × Nat) := [(0, .iconst 0, 1), (1, .istore_n 2, 1), (2, .iload_n 2, 1), (3, .bipush 16, 2), (5, .if_icmp .ge 27, 3), (8, .aload_n 0, 1), (9, .iconst 0, 1), (10, .invokevirtual 94, 3), (13, .istore_n 3, 1), (14, .iload_n 3, 1), (15, .iconst (-1), 1), (16, .if_icmp .ne 4, 3), (19, .return_, 1), (20, .aload_n 0, 1), (21, .aload_n 1, 1), (22, .iload_n 3, 1), (23, .invokevirtual 98, 3), (26, .iinc 2 1, 3), (29, .goto (-27), 3), (32, .return_, 1)]
def mvC188 : List (Nat × Instr × Nat) := [(0, .aload_n 0, 1), (1, .invokevirtual 120, 3), (4, .ireturn, 1)]
def mvC189 : List (Nat × Instr × Nat) := [(0, .aload_n 0, 1), (1, .iconst 0, 1), (2, .putfield 147, 3), (5, .aload_n 0, 1), (6, .iconst 0, 1), (7, .putfield 151, 3), (10, .aload_n 0, 1), (11, .invokevirtual 154, 3), (14, .aload_n 0, 1), (15, .invokevirtual 157, 3), (18, .return_, 1)]
def mvC190 : List (Nat × Instr × Nat) := [(0, .aload_n 0, 1), (1, .iload_n 1, 1), (2, .iload_n 2, 1), (3, .invokevirtual 183, 3), (6, .ifCond .ne 8, 3), (9, .bipush (-101), 2), (11, .goto 25, 3), (14, .iload_n 3, 1), (15, .iconst 0, 1), (16, .bipush 6, 2), (18, .invokestatic 95, 3), (21, .ifCond .eq 13, 3), (24, .aload_n 0, 1), (25, .iload_n 1, 1), (26, .iload_n 2, 1), (27, .iload_n 3, 1), (28, .invokevirtual 186, 3), (31, .goto 5, 3), (34, .bipush (-102), 2), (36, .ireturn, 1)]
def mvC191 : List (Nat × Instr × Nat) := [(0, .aload_n 0, 1), (1, .iload_n 1, 1), (2, .iload_n 2, 1), (3, .invokevirtual 183, 3), (6, .ifCond .eq 25, 3), (9, .aload_n 0, 1), (10, .iload_n 3, 1), (11, .iload 4, 2), (13, .invokevirtual 183, 3), (16, .ifCond .eq 15, 3), (19, .aload_n 0, 1), (20, .iload_n 1, 1), (21, .iload_n 2, 1), (22, .iload_n 3, 1), (23, .iload 4, 2), (25, .invokevirtual 193, 3), (28, .goto 5, 3), (31, .bipush (-101), 2), (33, .ireturn, 1)]
def mvC192 : List (Nat × Instr × Nat) := [(0, .aload_n 0, 1), (1, .getfield 213, 3), (4, .tableswitch 63 0 2 #[28, 33, 50], 28), (32, .aload_n 0, 1), (33, .invokevirtual 216, 3), (36, .ireturn, 1), (37, .aload_n 0, 1), (38, .invokevirtual 219, 3), (41, .aload_n 0, 1), (42, .getfield 222, 3), (45, .if_icmp .ne 7, 3), (48, .iconst 1, 1), (49, .goto 4, 3), (52, .iconst 0, 1), (53, .ireturn, 1), (54, .aload_n 0, 1), (55, .invokevirtual 225, 3), (58, .ifCond .ne 7, 3), (61, .iconst 1, 1), (62, .goto 4, 3), (65, .iconst 0, 1), (66, .ireturn, 1), (67, .aload_n 0, 1), (68, .invokevirtual 228, 3), (71, .aload_n 0, 1), (72, .getfield 222, 3), (75, .if_icmp .lt 7, 3), (78, .iconst 1, 1), (79, .goto 4, 3), (82, .iconst 0, 1), (83, .ireturn, 1)]
def mvC193 : List (Nat × Instr × Nat) := [(0, .iconst 0, 1), (1, .istore_n 2, 1), (2, .aload_n 0, 1), (3, .iload_n 1, 1), (4, .iload_n 2, 1), (5, .invokevirtual 314, 3), (8, .iconst (-1), 1), (9, .if_icmp .eq 9, 3), (12, .iinc 2 1, 3), (15, .goto (-13), 3), (18, .iload_n 2, 1), (19, .ireturn, 1)]
def mvC194 : List (Nat × Instr × Nat) := [(0, .aload_n 0, 1), (1, .invokevirtual 308, 3), (4, .ifCond .ne 6, 3), (7, .bipush (-103), 2), (9, .ireturn, 1), (10, .aload_n 0, 1), (11, .iload_n 1, 1), (12, .invokevirtual 170, 3), (15, .ifCond .eq 13, 3), (18, .aload_n 0, 1), (19, .iload_n 1, 1), (20, .iload_n 2, 1), (21, .invokevirtual 314, 3), (24, .iconst (-1), 1), (25, .if_icmp .ne 6, 3), (28, .bipush (-101), 2), (30, .ireturn, 1), (31, .aload_n 0, 1), (32, .iload_n 1, 1), (33, .iload_n 2, 1), (34, .invokevirtual 314, 3), (37, .istore 4, 2), (39, .iload_n 3, 1), (40, .iconst 0, 1), (41, .iconst 1, 1), (42, .invokestatic 95, 3), (45, .ifCond .ne 8, 3), (48, .bipush (-102), 2), (50, .goto 19, 3), (53, .iload_n 3, 1), (54, .ifCond .ne 8, 3), (57, .iload 4, 2), (59, .goto 10, 3), (62, .aload_n 0, 1), (63, .iload_n 1, 1), (64, .iload 4, 2), (66, .invokevirtual 317, 3), (69, .ireturn, 1)]
def mvC195 : List (Nat × Instr × Nat) := [(0, .iconst 0, 1), (1, .istore_n 1, 1), (2, .iload_n 1, 1), (3, .iconst 4, 1), (4, .if_icmp .ge 21, 3), (7, .aload_n 0, 1), (8, .getfield 7, 3), (11, .iload_n 1, 1), (12, .aload_n 0, 1), (13, .getfield 77, 3), (16, .iload_n 1, 1), (17, .iaload, 1), (18, .iastore, 1), (19, .iinc 1 1, 3), (22, .goto (-20), 3), (25, .iconst 0, 1), (26, .istore_n 1, 1), (27, .iload_n 1, 1), (28, .bipush 36, 2), (30, .if_icmp .ge 33, 3), (33, .aload_n 0, 1), (34, .getfield 13, 3), (37, .iload_n 1, 1), (38, .aload_n 0, 1), (39, .getfield 80, 3), (42, .iload_n 1, 1), (43, .iaload, 1), (44, .iastore, 1), (45, .aload_n 0, 1), (46, .getfield 16, 3), (49, .iload_n 1, 1), (50, .aload_n 0, 1), (51, .getfield 83, 3), (54, .iload_n 1, 1), (55, .iaload, 1), (56, .iastore, 1), (57, .iinc 1 1, 3), (60, .goto (-33), 3), (63, .aload_n 0, 1), (64, .invokevirtual 154, 3), (67, .aload_n 0, 1), (68, .invokevirtual 157, 3), (71, .return_, 1)]
def mvC196 : List (Nat × Instr × Nat) := [(0, .iconst 0, 1), (1, .istore_n 1, 1), (2, .iload_n 1, 1), (3, .aload_n 0, 1), (4, .getfield 138, 3), (7, .if_icmp .ge 74, 3), (10, .iconst 0, 1), (11, .istore_n 2, 1), (12, .iload_n 2, 1), (13, .aload_n 0, 1), (14, .getfield 7, 3), (17, .iload_n 1, 1), (18, .iaload, 1), (19, .if_icmp .ge 56, 3), (22, .aload_n 0, 1), (23, .getfield 86, 3), (26, .bipush 9, 2), (28, .iload_n 1, 1), (29, .imul, 1), (30, .iload_n 2, 1), (31, .iadd, 1), (32, .aload_n 0, 1), (33, .getfield 13, 3), (36, .bipush 9, 2), (38, .iload_n 1, 1), (39, .imul, 1), (40, .iload_n 2, 1), (41, .iadd, 1), (42, .iaload, 1), (43, .ifCond .ne 24, 3), (46, .aload_n 0, 1), (47, .iload_n 1, 1), (48, .iload_n 2, 1), (49, .invokevirtual 210, 3), (52, .aload_n 0, 1), (53, .iload_n 1, 1), (54, .iload_n 2, 1), (55, .iconst 1, 1), (56, .iadd, 1), (57, .invokevirtual 210, 3), (60, .if_icmp .ne 7, 3), (63, .iconst 1, 1), (64, .goto 4, 3), (67, .iconst 0, 1), (68, .bastore, 1), (69, .iinc 2 1, 3), (72, .goto (-60), 3), (75, .iinc 1 1, 3), (78, .goto (-76), 3), (81, .iconst 0, 1), (82, .istore_n 1, 1), (83, .iload_n 1, 1), (84, .aload_n 0, 1), (85, .getfield 138, 3), (88, .if_icmp .ge 93, 3), (91, .iconst 0, 1), (92, .istore_n 2, 1), (93, .iconst 0, 1), (94, .istore_n 3, 1), (95, .iload_n 3, 1), (96, .aload_n 0, 1), (97, .getfield 77, 3), (100, .iload_n 1, 1), (101, .iaload, 1), (102, .if_icmp .ge 66, 3), (105, .bipush 9, 2), (107, .iload_n 1, 1), (108, .imul, 1), (109, .iload_n 3, 1), (110, .iadd, 1), (111, .istore 4, 2), (113, .aload_n 0, 1), (114, .getfield 86, 3), (117, .iload 4, 2), (119, .baload, 1), (120, .ifCond .ne 42, 3), (123, .aload_n 0, 1), (124, .getfield 13, 3), (127, .bipush 9, 2), (129, .iload_n 1, 1), (130, .imul, 1), (131, .iload_n 2, 1), (132, .iadd, 1), (133, .aload_n 0, 1), (134, .getfield 80, 3), (137, .iload 4, 2), (139, .iaload, 1), (140, .iastore, 1), (141, .aload_n 0, 1), (142, .getfield 16, 3), (145, .bipush 9, 2), (147, .iload_n 1, 1), (148, .imul, 1), (149, .iload_n 2, 1), (150, .iadd, 1), (151, .aload_n 0, 1), (152, .getfield 83, 3), (155, .iload 4, 2), (157, .iaload, 1), (158, .iastore, 1), (159, .iinc 2 1, 3), (162, .iinc 3 1, 3), (165, .goto (-70), 3), (168, .aload_n 0, 1), (169, .getfield 7, 3), (172, .iload_n 1, 1), (173, .iload_n 2, 1), (174, .iastore, 1), (175, .iinc 1 1, 3), (178, .goto (-95), 3), (181, .aload_n 0, 1), (182, .invokevirtual 154, 3), (185, .aload_n 0, 1), (186, .invokevirtual 157, 3), (189, .return_, 1)]
def mvC197 : List (Nat × Instr × Nat) := [(0, .aload_n 0, 1), (1, .iconst 0, 1), (2, .invokevirtual 372, 3), (5, .istore_n 2, 1), (6, .iload_n 2, 1), (7, .iconst (-1), 1), (8, .if_icmp .eq 18, 3), (11, .aload_n 0, 1), (12, .iload_n 2, 1), (13, .iload_n 1, 1), (14, .invokevirtual 375, 3), (17, .aload_n 0, 1), (18, .iconst 0, 1), (19, .invokevirtual 372, 3), (22, .istore_n 2, 1), (23, .goto (-17), 3), (26, .return_, 1)]
def mvC198 : List (Nat × Instr × Nat) := [(0, .aload_n 0, 1), (1, .aload_n 0, 1), (2, .iload_n 1, 1), (3, .invokevirtual 290, 3), (6, .i2l, 1), (7, .invokevirtual 407, 3), (10, .aload_n 0, 1), (11, .aload_n 0, 1), (12, .getfield 53, 3), (15, .iload_n 1, 1), (16, .baload, 1), (17, .ifCond .eq 7, 3), (20, .lconst 1, 1), (21, .goto 4, 3), (24, .lconst 0, 1), (25, .invokevirtual 407, 3), (28, .aload_n 0, 1), (29, .aload_n 0, 1), (30, .iload_n 1, 1), (31, .invokevirtual 259, 3), (34, .i2l, 1), (35, .invokevirtual 407, 3), (38, .aload_n 0, 1), (39, .iload_n 1, 1), (40, .invokevirtual 196, 3), (43, .aload_n 0, 1), (44, .aload_n 0, 1), (45, .invokevirtual 225, 3), (48, .i2l, 1), (49, .invokevirtual 407, 3), (52, .aload_n 0, 1), (53, .aload_n 0, 1), (54, .getfield 56, 3), (57, .iload_n 1, 1), (58, .iaload, 1), (59, .aload_n 0, 1), (60, .getfield 59, 3), (63, .iload_n 1, 1), (64, .iaload, 1), (65, .imul, 1), (66, .i2l, 1), (67, .invokevirtual 407, 3), (70, .return_, 1)]
def mvC199 : List (Nat × Instr × Nat) := [(0, .aload_n 0, 1), (1, .invokevirtual 145, 3), (4, .ifCond .ne 6, 3), (7, .bipush (-103), 2), (9, .ireturn, 1), (10, .aload_n 0, 1), (11, .getfield 19, 3), (14, .iload_n 1, 1), (15, .invokevirtual 148, 3), (18, .ifCond .ne 6, 3), (21, .bipush (-101), 2), (23, .ireturn, 1), (24, .iload_n 2, 1), (25, .ifCond .lt 8, 3), (28, .iload_n 2, 1), (29, .iconst 5, 1), (30, .if_icmp .le 6, 3), (33, .bipush (-102), 2), (35, .ireturn, 1), (36, .iload_n 2, 1), (37, .ifCond .ne 20, 3), (40, .aload_n 0, 1), (41, .getfield 19, 3), (44, .iload_n 1, 1), (45, .invokevirtual 151, 3), (48, .ifCond .eq 7, 3), (51, .iconst 1, 1), (52, .goto 4, 3), (55, .iconst 0, 1), (56, .ireturn, 1), (57, .iload_n 2, 1), (58, .iconst 1, 1), (59, .if_icmp .ne 8, 3), (62, .iload_n 1, 1), (63, .invokestatic 154, 3), (66, .ireturn, 1), (67, .aload_n 0, 1), (68, .getfield 19, 3), (71, .iload_n 1, 1), (72, .invokevirtual 151, 3), (75, .ifCond .ne 6, 3), (78, .bipush (-103), 2), (80, .ireturn, 1), (81, .iload_n 2, 1), (82, .iconst 5, 1), (83, .if_icmp .ne 14, 3), (86, .aload_n 0, 1), (87, .getfield 29, 3), (90, .aload_n 0, 1), (91, .getfield 19, 3), (94, .invokevirtual 158, 3), (97, .aload_n 0, 1), (98, .iload_n 1, 1), (99, .iload_n 2, 1), (100, .invokevirtual 162, 3), (103, .ireturn, 1)]
def mvC200 : List (Nat × Instr × Nat) := [(0, .aload_n 0, 1), (1, .iload_n 1, 1), (2, .iload_n 2, 1), (3, .invokevirtual 172, 3), (6, .istore_n 3, 1), (7, .iload_n 3, 1), (8, .ifCond .eq 7, 3), (11, .iload_n 3, 1), (12, .goto 13, 3), (15, .aload_n 0, 1), (16, .getfield 19, 3), (19, .iload_n 1, 1), (20, .iload_n 2, 1), (21, .iconst 0, 1), (22, .invokevirtual 175, 3), (25, .ireturn, 1)]
def mvC201 : List (Nat × Instr × Nat) := [(0, .aload_n 0, 1), (1, .iload_n 1, 1), (2, .iload_n 2, 1), (3, .invokevirtual 172, 3), (6, .istore_n 3, 1), (7, .iload_n 3, 1), (8, .ifCond .eq 7, 3), (11, .iload_n 3, 1), (12, .goto 13, 3), (15, .aload_n 0, 1), (16, .getfield 19, 3), (19, .iload_n 1, 1), (20, .iload_n 2, 1), (21, .iconst 1, 1), (22, .invokevirtual 175, 3), (25, .ireturn, 1)]
def mvC202 : List (Nat × Instr × Nat) := [(0, .iload_n 1, 1), (1, .ifCond .lt 8, 3), (4, .iload_n 1, 1), (5, .iconst 4, 1), (6, .if_icmp .le 6, 3), (9, .bipush (-102), 2), (11, .ireturn, 1), (12, .aload_n 0, 1), (13, .invokevirtual 145, 3), (16, .ifCond .ne 6, 3), (19, .bipush (-103), 2), (21, .ireturn, 1), (22, .aload_n 0, 1), (23, .getfield 29, 3), (26, .aload_n 0, 1), (27, .getfield 19, 3), (30, .invokevirtual 158, 3), (33, .aload_n 0, 1), (34, .getfield 29, 3), (37, .iload_n 1, 1), (38, .invokevirtual 179, 3), (41, .ireturn, 1)]
def mvC203 : List (Nat × Instr × Nat) := [(0, .aload_n 0, 1), (1, .invokevirtual 145, 3), (4, .ifCond .ne 6, 3), (7, .bipush (-103), 2), (9, .ireturn, 1), (10, .aload_n 0, 1), (11, .getfield 29, 3), (14, .aload_n 0, 1), (15, .getfield 19, 3), (18, .invokevirtual 158, 3), (21, .iload_n 1, 1), (22, .ifCond .lt 14, 3), (25, .iload_n 1, 1), (26, .aload_n 0, 1), (27, .getfield 19, 3), (30, .getfield 181, 3), (33, .if_icmp .le 6, 3), (36, .bipush (-101), 2), (38, .ireturn, 1), (39, .iload_n 2, 1), (40, .ifCond .lt 15, 3), (43, .iload_n 2, 1), (44, .aload_n 0, 1), (45, .getfield 29, 3), (48, .iload_n 1, 1), (49, .invokevirtual 184, 3), (52, .if_icmp .lt 6, 3), (55, .bipush (-101), 2), (57, .ireturn, 1), (58, .aload_n 0, 1), (59, .getfield 29, 3), (62, .aload_n 0, 1), (63, .getfield 29, 3), (66, .getfield 187, 3), (69, .iload_n 1, 1), (70, .iaload, 1), (71, .iload_n 2, 1), (72, .iadd, 1), (73, .invokevirtual 190, 3), (76, .ireturn, 1)]
def mvC204 : List (Nat × Instr × Nat) := [(0, .aload_n 0, 1), (1, .invokevirtual 215, 3), (4, .ifCond .ne 6, 3), (7, .bipush (-103), 2), (9, .ireturn, 1), (10, .aload_n 0, 1), (11, .getfield 50, 3), (14, .aload_n 0, 1), (15, .getfield 19, 3), (18, .aload_n 0, 1), (19, .getfield 36, 3), (22, .invokevirtual 221, 3), (25, .aload_n 0, 1), (26, .getfield 50, 3), (29, .aload_n 0, 1), (30, .getfield 19, 3), (33, .invokevirtual 225, 3), (36, .ifCond .eq 7, 3), (39, .iconst 1, 1), (40, .goto 4, 3), (43, .iconst 0, 1), (44, .ireturn, 1)]
def mvC205 : List (Nat × Instr × Nat) := [(0, .aload_n 0, 1), (1, .invokevirtual 145, 3), (4, .ifCond .ne 6, 3), (7, .bipush (-103), 2), (9, .ireturn, 1), (10, .iload_n 1, 1), (11, .ifCond .ge 6, 3), (14, .bipush (-102), 2), (16, .ireturn, 1), (17, .aload_n 0, 1), (18, .getfield 71, 3), (21, .iconst 0, 1), (22, .putfield 240, 3), (25, .aload_n 0, 1), (26, .getfield 64, 3), (29, .aload_n 0, 1), (30, .getfield 19, 3), (33, .iload_n 1, 1), (34, .invokevirtual 244, 3), (37, .aload_n 0, 1), (38, .getfield 64, 3), (41, .getfield 248, 3), (44, .ireturn, 1)]
def mvC206 : List (Nat × Instr × Nat) := [(0, .iconst 0, 1), (1, .istore_n 3, 1), (2, .iload_n 3, 1), (3, .iconst 4, 1), (4, .if_icmp .gt 22, 3), (7, .lload_n 1, 1), (8, .aload_n 0, 1), (9, .getfield 29, 3), (12, .iload_n 3, 1), (13, .invokevirtual 179, 3), (16, .invokestatic 282, 3), (19, .lstore_n 1, 1), (20, .iinc 3 1, 3), (23, .goto (-21), 3), (26, .iconst 0, 1), (27, .istore_n 3, 1), (28, .iload_n 3, 1), (29, .aload_n 0, 1), (30, .getfield 29, 3), (33, .getfield 294, 3), (36, .if_icmp .ge 54, 3), (39, .aload_n 0, 1), (40, .getfield 29, 3), (43, .iload_n 3, 1), (44, .invokevirtual 190, 3), (47, .istore 4, 2), (49, .lload_n 1, 1), (50, .iload 4, 2), (52, .invokestatic 282, 3), (55, .lstore_n 1, 1), (56, .iconst 2, 1), (57, .istore 5, 2), (59, .iload 5, 2), (61, .iconst 5, 1), (62, .if_icmp .gt 22, 3), (65, .lload_n 1, 1), (66, .aload_n 0, 1), (67, .iload 4, 2), (69, .iload 5, 2), (71, .invokevirtual 162, 3), (74, .invokestatic 282, 3), (77, .lstore_n 1, 1), (78, .iinc 5 1, 3), (81, .goto (-22), 3), (84, .iinc 3 1, 3), (87, .goto (-59), 3), (90, .lload_n 1, 1), (91, .lreturn, 1)]
def mvC207 : List (Nat × Instr × Nat) := [(0, .aload_n 0, 1), (1, .invokevirtual 53, 3), (4, .ifCond .eq 10, 3), (7, .aload_n 0, 1), (8, .invokevirtual 57, 3), (11, .ifCond .ne 5, 3), (14, .iconst 0, 1), (15, .ireturn, 1), (16, .iconst 0, 1), (17, .istore_n 1, 1), (18, .iload_n 1, 1), (19, .aload_n 0, 1), (20, .getfield 36, 3), (23, .if_icmp .ge 14, 3), (26, .aload_n 0, 1), (27, .iload_n 1, 1), (28, .invokevirtual 60, 3), (31, .iinc 1 1, 3), (34, .goto (-16), 3), (37, .iconst 1, 1), (38, .ireturn, 1)]
def mvC208 : List (Nat × Instr × Nat) := [(0, .aload_n 0, 1), (1, .getfield 19, 3), (4, .ifCond .eq 4, 3), (7, .return_, 1), (8, .aload_n 0, 1), (9, .iconst 1, 1), (10, .putfield 19, 3), (13, .aload_n 0, 1), (14, .iconst 0, 1), (15, .putfield 23, 3), (18, .aload_n 0, 1), (19, .iconst (-1), 1), (20, .putfield 27, 3), (23, .aload_n 2, 1), (24, .getfield 30, 3), (27, .iconst 1, 1), (28, .isub, 1), (29, .istore 4, 2), (31, .iload 4, 2), (33, .ifCond .lt 110, 3), (36, .aload_n 2, 1), (37, .getfield 35, 3), (40, .iload 4, 2), (42, .iaload, 1), (43, .istore 5, 2), (45, .aload_n 3, 1), (46, .aload_n 1, 1), (47, .aload_n 2, 1), (48, .getfield 38, 3), (51, .iload 5, 2), (53, .iaload, 1), (54, .invokevirtual 41, 3), (57, .istore 6, 2), (59, .iload 6, 2), (61, .ifCond .eq 24, 3), (64, .aload_n 0, 1), (65, .dup, 1), (66, .getfield 23, 3), (69, .iconst 1, 1), (70, .iadd, 1), (71, .putfield 23, 3), (74, .aload_n 0, 1), (75, .aload_n 2, 1), (76, .getfield 38, 3), (79, .iload 5, 2), (81, .iaload, 1), (82, .putfield 27, 3), (85, .iload 5, 2), (87, .aload_n 2, 1), (88, .getfield 47, 3), (91, .iconst 1, 1), (92, .isub, 1), (93, .if_icmp .ne 7, 3), (96, .iconst 1, 1), (97, .goto 4, 3), (100, .iconst 0, 1), (101, .istore 7, 2), (103, .aload_n 0, 1), (104, .getfield 15, 3), (107, .iload 5, 2), (109, .iload 6, 2), (111, .ifCond .ne 24, 3), (114, .iload 7, 2), (116, .ifCond .ne 15, 3), (119, .aload_n 0, 1), (120, .aload_n 1, 1), (121, .aload_n 2, 1), (122, .iload 5, 2), (124, .invokevirtual 50, 3), (127, .iconst (-1), 1), (128, .if_icmp .eq 7, 3), (131, .iconst 1, 1), (132, .goto 4, 3), (135, .iconst 0, 1), (136, .bastore, 1), (137, .iinc 4 (-1), 3), (140, .goto (-109), 3), (143, .aload_n 0, 1), (144, .aload_n 1, 1), (145, .aload_n 2, 1), (146, .invokevirtual 54, 3), (149, .return_, 1)]
def mvC209 : List (Nat × Instr × Nat) := [(0, .iconst 0, 1), (1, .istore_n 2, 1), (2, .iload_n 2, 1), (3, .bipush 16, 2), (5, .if_icmp .ge 42, 3), (8, .aload_n 0, 1), (9, .iconst 1, 1), (10, .invokevirtual 94, 3), (13, .istore_n 3, 1), (14, .iload_n 3, 1), (15, .iconst (-1), 1), (16, .if_icmp .ne 4, 3), (19, .return_, 1), (20, .aload_n 0, 1), (21, .dup, 1), (22, .getfield 65, 3), (25, .iconst 1, 1), (26, .iadd, 1), (27, .putfield 65, 3), (30, .aload_n 0, 1), (31, .aload_n 1, 1), (32, .iload_n 3, 1), (33, .invokevirtual 98, 3), (36, .aload_n 0, 1), (37, .aload_n 1, 1), (38, .invokevirtual 39, 3), (41, .iinc 2 1, 3), (44, .goto (-42), 3), (47, .return_, 1)]
def mvC210 : List (Nat × Instr × Nat) := [(0, .aload_n 0, 1), (1, .invokevirtual 120, 3), (4, .aload_n 0, 1), (5, .getfield 99, 3), (8, .if_icmp .ne 37, 3), (11, .aload_n 0, 1), (12, .getfield 109, 3), (15, .iconst (-1), 1), (16, .if_icmp .ne 29, 3), (19, .aload_n 0, 1), (20, .getfield 103, 3), (23, .iconst 1, 1), (24, .if_icmp .le 21, 3), (27, .aload_n 0, 1), (28, .invokevirtual 131, 3), (31, .ifCond .eq 14, 3), (34, .aload_n 0, 1), (35, .invokevirtual 135, 3), (38, .ifCond .eq 7, 3), (41, .iconst 1, 1), (42, .goto 4, 3), (45, .iconst 0, 1), (46, .istore_n 1, 1), (47, .iload_n 1, 1), (48, .ifCond .ne 6, 3), (51, .bipush (-103), 2), (53, .ireturn, 1), (54, .aload_n 0, 1), (55, .aload_n 0, 1), (56, .getfield 103, 3), (59, .putfield 138, 3), (62, .iconst 0, 1), (63, .istore_n 2, 1), (64, .iload_n 2, 1), (65, .iconst 4, 1), (66, .if_icmp .ge 30, 3), (69, .aload_n 0, 1), (70, .getfield 7, 3), (73, .iload_n 2, 1), (74, .aload_n 0, 1), (75, .getfield 34, 3), (78, .iload_n 2, 1), (79, .iaload, 1), (80, .iastore, 1), (81, .aload_n 0, 1), (82, .getfield 25, 3), (85, .iload_n 2, 1), (86, .sipush 1023, 3), (89, .iastore, 1), (90, .iinc 2 1, 3), (93, .goto (-29), 3), (96, .iconst 0, 1), (97, .istore_n 2, 1), (98, .iload_n 2, 1), (99, .bipush 36, 2), (101, .if_icmp .ge 33, 3), (104, .aload_n 0, 1), (105, .getfield 13, 3), (108, .iload_n 2, 1), (109, .aload_n 0, 1), (110, .getfield 37, 3), (113, .iload_n 2, 1), (114, .iaload, 1), (115, .iastore, 1), (116, .aload_n 0, 1), (117, .getfield 16, 3), (120, .iload_n 2, 1), (121, .aload_n 0, 1), (122, .getfield 40, 3), (125, .iload_n 2, 1), (126, .iaload, 1), (127, .iastore, 1), (128, .iinc 2 1, 3), (131, .goto (-33), 3), (134, .aload_n 0, 1), (135, .dup, 1), (136, .getfield 141, 3), (139, .iconst 1, 1), (140, .iadd, 1), (141, .putfield 141, 3), (144, .aload_n 0, 1), (145, .iconst 0, 1), (146, .putfield 99, 3), (149, .aload_n 0, 1), (150, .invokevirtual 144, 3), (153, .aload_n 0, 1), (154, .getfield 138, 3), (157, .ireturn, 1)]
def mvC211 : List (Nat × Instr × Nat) := [(0, .aload_n 0, 1), (1, .getfield 13, 3), (4, .bipush 9, 2), (6, .iload_n 1, 1), (7, .imul, 1), (8, .aload_n 0, 1), (9, .getfield 7, 3), (12, .iload_n 1, 1), (13, .iaload, 1), (14, .iadd, 1), (15, .iload_n 2, 1), (16, .iastore, 1), (17, .aload_n 0, 1), (18, .getfield 16, 3), (21, .bipush 9, 2), (23, .iload_n 1, 1), (24, .imul, 1), (25, .aload_n 0, 1), (26, .getfield 7, 3), (29, .iload_n 1, 1), (30, .iaload, 1), (31, .iadd, 1), (32, .iload_n 3, 1), (33, .iastore, 1), (34, .aload_n 0, 1), (35, .getfield 7, 3), (38, .iload_n 1, 1), (39, .dup2, 1), (40, .iaload, 1), (41, .iconst 1, 1), (42, .iadd, 1), (43, .iastore, 1), (44, .aload_n 0, 1), (45, .invokevirtual 144, 3), (48, .aload_n 0, 1), (49, .getfield 7, 3), (52, .iload_n 1, 1), (53, .iaload, 1), (54, .ireturn, 1)]
def mvC212 : List (Nat × Instr × Nat) := [(0, .aload_n 0, 1), (1, .iload_n 1, 1), (2, .invokevirtual 170, 3), (5, .ifCond .ne 6, 3), (8, .bipush (-101), 2), (10, .ireturn, 1), (11, .bipush 9, 2), (13, .iload_n 1, 1), (14, .imul, 1), (15, .aload_n 0, 1), (16, .getfield 7, 3), (19, .iload_n 1, 1), (20, .iaload, 1), (21, .iadd, 1), (22, .iconst 1, 1), (23, .isub, 1), (24, .istore_n 2, 1), (25, .aload_n 0, 1), (26, .getfield 7, 3), (29, .iload_n 1, 1), (30, .iaload, 1), (31, .ifCond .eq 23, 3), (34, .aload_n 0, 1), (35, .getfield 13, 3), (38, .iload_n 2, 1), (39, .iaload, 1), (40, .iconst 1, 1), (41, .if_icmp .ne 16, 3), (44, .aload_n 0, 1), (45, .getfield 19, 3), (48, .iload_n 2, 1), (49, .iaload, 1), (50, .iconst (-1), 1), (51, .if_icmp .eq 6, 3), (54, .bipush (-103), 2), (56, .ireturn, 1), (57, .aload_n 0, 1), (58, .getfield 7, 3), (61, .iload_n 1, 1), (62, .dup2, 1), (63, .iaload, 1), (64, .iconst 1, 1), (65, .isub, 1), (66, .iastore, 1), (67, .aload_n 0, 1), (68, .invokevirtual 144, 3), (71, .aload_n 0, 1), (72, .getfield 7, 3), (75, .iload_n 1, 1), (76, .iaload, 1), (77, .ireturn, 1)]
def mvC213 : List (Nat × Instr × Nat) := [(0, .aload_n 0, 1), (1, .invokevirtual 231, 3), (4, .istore_n 1, 1), (5, .iconst 0, 1), (6, .istore_n 2, 1), (7, .iload_n 2, 1), (8, .iload_n 1, 1), (9, .if_icmp .ge 121, 3), (12, .aload_n 0, 1), (13, .iload_n 2, 1), (14, .invokevirtual 196, 3), (17, .aload_n 0, 1), (18, .getfield 49, 3), (21, .iload_n 2, 1), (22, .aload_n 0, 1), (23, .invokevirtual 234, 3), (26, .bastore, 1), (27, .aload_n 0, 1), (28, .getfield 53, 3), (31, .iload_n 2, 1), (32, .aload_n 0, 1), (33, .getfield 49, 3), (36, .iload_n 2, 1), (37, .baload, 1), (38, .ifCond .eq 14, 3), (41, .aload_n 0, 1), (42, .invokevirtual 237, 3), (45, .ifCond .eq 7, 3), (48, .iconst 1, 1), (49, .goto 4, 3), (52, .iconst 0, 1), (53, .bastore, 1), (54, .aload_n 0, 1), (55, .getfield 65, 3), (58, .iload_n 2, 1), (59, .aload_n 0, 1), (60, .invokevirtual 240, 3), (63, .iastore, 1), (64, .aload_n 0, 1), (65, .getfield 56, 3), (68, .iload_n 2, 1), (69, .iload_n 2, 1), (70, .ifCond .ne 7, 3), (73, .iconst 1, 1), (74, .goto 4, 3), (77, .iconst 0, 1), (78, .iastore, 1), (79, .aload_n 0, 1), (80, .getfield 59, 3), (83, .iload_n 2, 1), (84, .iload_n 2, 1), (85, .iload_n 1, 1), (86, .iconst 1, 1), (87, .isub, 1), (88, .if_icmp .ne 7, 3), (91, .iconst 1, 1), (92, .goto 4, 3), (95, .iconst 0, 1), (96, .iastore, 1), (97, .aload_n 0, 1), (98, .getfield 62, 3), (101, .iload_n 2, 1), (102, .iload_n 2, 1), (103, .iload_n 1, 1), (104, .iconst 1, 1), (105, .isub, 1), (106, .if_icmp .ne 16, 3), (109, .aload_n 0, 1), (110, .getfield 53, 3), (113, .iload_n 2, 1), (114, .baload, 1), (115, .ifCond .ne 7, 3), (118, .iconst 1, 1), (119, .goto 4, 3), (122, .iconst 0, 1), (123, .bastore, 1), (124, .iinc 2 1, 3), (127, .goto (-120), 3), (130, .iconst 0, 1), (131, .istore_n 2, 1), (132, .iload_n 2, 1), (133, .iload_n 1, 1), (134, .if_icmp .ge 64, 3), (137, .iconst 0, 1), (138, .istore_n 3, 1), (139, .iload_n 3, 1), (140, .aload_n 0, 1), (141, .getfield 138, 3), (144, .if_icmp .ge 48, 3), (147, .aload_n 0, 1), (148, .getfield 49, 3), (151, .iload_n 2, 1), (152, .baload, 1), (153, .ifCond .eq 39, 3), (156, .aload_n 0, 1), (157, .iload_n 2, 1), (158, .iload_n 3, 1), (159, .invokevirtual 243, 3), (162, .ifCond .eq 24, 3), (165, .aload_n 0, 1), (166, .getfield 56, 3), (169, .iload_n 2, 1), (170, .aload_n 0, 1), (171, .iload_n 3, 1), (172, .invokevirtual 246, 3), (175, .iadd, 1), (176, .dup2, 1), (177, .iaload, 1), (178, .aload_n 0, 1), (179, .getfield 56, 3), (182, .iload_n 2, 1), (183, .iaload, 1), (184, .iadd, 1), (185, .iastore, 1), (186, .iinc 3 1, 3), (189, .goto (-50), 3), (192, .iinc 2 1, 3), (195, .goto (-63), 3), (198, .iload_n 1, 1), (199, .iconst 1, 1), (200, .isub, 1), (201, .istore_n 2, 1), (202, .iload_n 2, 1), (203, .ifCond .lt 108, 3), (206, .iconst 0, 1), (207, .istore_n 3, 1), (208, .iload_n 3, 1), (209, .aload_n 0, 1), (210, .getfield 138, 3), (213, .if_icmp .ge 92, 3), (216, .aload_n 0, 1), (217, .getfield 49, 3), (220, .iload_n 2, 1), (221, .baload, 1), (222, .ifCond .eq 83, 3), (225, .aload_n 0, 1), (226, .iload_n 2, 1), (227, .iload_n 3, 1), (228, .invokevirtual 243, 3), (231, .ifCond .eq 68, 3), (234, .aload_n 0, 1), (235, .getfield 59, 3), (238, .iload_n 2, 1), (239, .dup2, 1), (240, .iaload, 1), (241, .aload_n 0, 1), (242, .getfield 59, 3), (245, .iload_n 2, 1), (246, .aload_n 0, 1), (247, .iload_n 3, 1), (248, .invokevirtual 246, 3), (251, .iadd, 1), (252, .iaload, 1), (253, .iadd, 1), (254, .iastore, 1), (255, .aload_n 0, 1), (256, .getfield 62, 3), (259, .iload_n 2, 1), (260, .aload_n 0, 1), (261, .getfield 62, 3), (264, .iload_n 2, 1), (265, .baload, 1), (266, .ifCond .ne 27, 3), (269, .aload_n 0, 1), (270, .getfield 53, 3), (273, .iload_n 2, 1), (274, .baload, 1), (275, .ifCond .ne 22, 3), (278, .aload_n 0, 1), (279, .getfield 62, 3), (282, .iload_n 2, 1), (283, .aload_n 0, 1), (284, .iload_n 3, 1), (285, .invokevirtual 246, 3), (288, .iadd, 1), (289, .baload, 1), (290, .ifCond .eq 7, 3), (293, .iconst 1, 1), (294, .goto 4, 3), (297, .iconst 0, 1), (298, .bastore, 1), (299, .iinc 3 1, 3), (302, .goto (-94), 3), (305, .iinc 2 (-1), 3), (308, .goto (-106), 3), (311, .return_, 1)]
def mvC214 : List (Nat × Instr × Nat) := [(0, .iconst 1, 1), (1, .istore_n 1, 1), (2, .iconst 0, 1), (3, .istore_n 2, 1), (4, .iload_n 2, 1), (5, .aload_n 0, 1), (6, .getfield 138, 3), (9, .if_icmp .ge 17, 3), (12, .iload_n 1, 1), (13, .aload_n 0, 1), (14, .iload_n 2, 1), (15, .invokevirtual 320, 3), (18, .imul, 1), (19, .istore_n 1, 1), (20, .iinc 2 1, 3), (23, .goto (-19), 3), (26, .iconst 0, 1), (27, .istore_n 2, 1), (28, .iconst 0, 1), (29, .istore_n 3, 1), (30, .iload_n 3, 1), (31, .iload_n 1, 1), (32, .if_icmp .ge 92, 3), (35, .iload_n 2, 1), (36, .ifCond .ne 88, 3), (39, .iload_n 3, 1), (40, .istore 4, 2), (42, .iconst 0, 1), (43, .istore 5, 2), (45, .iload 5, 2), (47, .aload_n 0, 1), (48, .getfield 138, 3), (51, .if_icmp .ge 62, 3), (54, .aload_n 0, 1), (55, .getfield 71, 3), (58, .iload 5, 2), (60, .aload_n 0, 1), (61, .iload 5, 2), (63, .iload 4, 2), (65, .aload_n 0, 1), (66, .iload 5, 2), (68, .invokevirtual 320, 3), (71, .irem, 1), (72, .invokevirtual 314, 3), (75, .iastore, 1), (76, .aload_n 0, 1), (77, .getfield 74, 3), (80, .iload 5, 2), (82, .aload_n 0, 1), (83, .iload 5, 2), (85, .aload_n 0, 1), (86, .getfield 71, 3), (89, .iload 5, 2), (91, .iaload, 1), (92, .invokevirtual 317, 3), (95, .iastore, 1), (96, .iload 4, 2), (98, .aload_n 0, 1), (99, .iload 5, 2), (101, .invokevirtual 320, 3), (104, .idiv, 1), (105, .istore 4, 2), (107, .iinc 5 1, 3), (110, .goto (-65), 3), (113, .aload_n 0, 1), (114, .invokevirtual 323, 3), (117, .istore_n 2, 1), (118, .iinc 3 1, 3), (121, .goto (-91), 3), (124, .iload_n 2, 1), (125, .ifCond .eq 7, 3), (128, .iconst 1, 1), (129, .goto 4, 3), (132, .iconst 0, 1), (133, .ireturn, 1)]
def mvC215 : List (Nat × Instr × Nat) := [(0, .iconst 0, 1), (1, .istore_n 3, 1), (2, .iload_n 3, 1), (3, .bipush 16, 2), (5, .if_icmp .ge 16, 3), (8, .aload_n 0, 1), (9, .getfield 92, 3), (12, .iload_n 3, 1), (13, .iconst (-1), 1), (14, .iastore, 1), (15, .iinc 3 1, 3), (18, .goto (-16), 3), (21, .iconst 0, 1), (22, .istore_n 3, 1), (23, .iload_n 3, 1), (24, .iconst 4, 1), (25, .if_icmp .ge 16, 3), (28, .aload_n 0, 1), (29, .getfield 89, 3), (32, .iload_n 3, 1), (33, .iconst (-1), 1), (34, .iastore, 1), (35, .iinc 3 1, 3), (38, .goto (-15), 3), (41, .aload_n 0, 1), (42, .iconst 0, 1), (43, .putfield 363, 3), (46, .aload_n 0, 1), (47, .iconst 0, 1), (48, .putfield 378, 3), (51, .aload_n 0, 1), (52, .iconst 0, 1), (53, .invokevirtual 196, 3), (56, .iconst 0, 1), (57, .istore_n 3, 1), (58, .iload_n 3, 1), (59, .iload_n 2, 1), (60, .if_icmp .ge 24, 3), (63, .aload_n 0, 1), (64, .getfield 46, 3), (67, .aload_n 0, 1), (68, .getfield 28, 3), (71, .iload_n 3, 1), (72, .iaload, 1), (73, .dup2, 1), (74, .iaload, 1), (75, .iconst 1, 1), (76, .iadd, 1), (77, .iastore, 1), (78, .iinc 3 1, 3), (81, .goto (-23), 3), (84, .aload_n 0, 1), (85, .iload_n 1, 1), (86, .iload_n 2, 1), (87, .invokevirtual 369, 3), (90, .aload_n 0, 1), (91, .iload_n 2, 1), (92, .invokevirtual 381, 3), (95, .aload_n 0, 1), (96, .invokevirtual 173, 3), (99, .istore_n 3, 1), (100, .iload_n 2, 1), (101, .istore 4, 2), (103, .iload 4, 2), (105, .iload_n 3, 1), (106, .if_icmp .ge 33, 3), (109, .aload_n 0, 1), (110, .getfield 46, 3), (113, .aload_n 0, 1), (114, .getfield 28, 3), (117, .iload 4, 2), (119, .iaload, 1), (120, .dup2, 1), (121, .iaload, 1), (122, .iconst 1, 1), (123, .iadd, 1), (124, .iastore, 1), (125, .aload_n 0, 1), (126, .iload 4, 2), (128, .iconst 1, 1), (129, .iadd, 1), (130, .invokevirtual 381, 3), (133, .iinc 4 1, 3), (136, .goto (-33), 3), (139, .aload_n 0, 1), (140, .iconst 1, 1), (141, .invokevirtual 372, 3), (144, .iconst (-1), 1), (145, .if_icmp .eq 31, 3), (148, .aload_n 0, 1), (149, .aload_n 0, 1), (150, .iconst 1, 1), (151, .invokevirtual 372, 3), (154, .iload_n 3, 1), (155, .invokevirtual 375, 3), (158, .aload_n 0, 1), (159, .dup, 1), (160, .getfield 378, 3), (163, .iconst 1, 1), (164, .iadd, 1), (165, .putfield 378, 3), (168, .aload_n 0, 1), (169, .iload_n 3, 1), (170, .invokevirtual 381, 3), (173, .goto (-34), 3), (176, .iconst 0, 1), (177, .istore 4, 2), (179, .iload 4, 2), (181, .iconst 4, 1), (182, .if_icmp .ge 23, 3), (185, .aload_n 0, 1), (186, .getfield 46, 3), (189, .iload 4, 2), (191, .aload_n 0, 1), (192, .getfield 89, 3), (195, .iload 4, 2), (197, .iaload, 1), (198, .iastore, 1), (199, .iinc 4 1, 3), (202, .goto (-23), 3), (205, .aload_n 0, 1), (206, .invokevirtual 200, 3), (209, .ireturn, 1)]
def mvC216 : List (Nat × Instr × Nat) := [(0, .aload_n 0, 1), (1, .getfield 12, 3), (4, .aload_n 0, 1), (5, .getfield 23, 3), (8, .invokevirtual 87, 3), (11, .ifCond .eq 13, 3), (14, .aload_n 0, 1), (15, .getfield 23, 3), (18, .invokevirtual 91, 3), (21, .ifCond .ne 6, 3), (24, .bipush (-103), 2), (26, .ireturn, 1), (27, .aload_n 0, 1), (28, .getfield 19, 3), (31, .astore_n 1, 1), (32, .aload_n 0, 1), (33, .aload_n 0, 1), (34, .getfield 23, 3), (37, .putfield 19, 3), (40, .aload_n 0, 1), (41, .aload_n 1, 1), (42, .putfield 23, 3), (45, .aload_n 0, 1), (46, .getfield 12, 3), (49, .iconst 0, 1), (50, .putfield 75, 3), (53, .aload_n 0, 1), (54, .getfield 36, 3), (57, .invokevirtual 95, 3), (60, .aload_n 0, 1), (61, .dup, 1), (62, .getfield 98, 3), (65, .iconst 1, 1), (66, .iadd, 1), (67, .putfield 98, 3), (70, .aload_n 0, 1), (71, .invokevirtual 101, 3), (74, .aload_n 0, 1), (75, .getfield 19, 3), (78, .getfield 104, 3), (81, .ireturn, 1)]
def mvC217 : List (Nat × Instr × Nat) := [(0, .aload_n 0, 1), (1, .getfield 19, 3), (4, .iload_n 1, 1), (5, .invokevirtual 107, 3), (8, .ifCond .ne 6, 3), (11, .bipush (-101), 2), (13, .ireturn, 1), (14, .aload_n 0, 1), (15, .getfield 19, 3), (18, .iload_n 1, 1), (19, .invokevirtual 125, 3), (22, .ifCond .ne 6, 3), (25, .bipush (-103), 2), (27, .ireturn, 1), (28, .aload_n 0, 1), (29, .getfield 19, 3), (32, .iload_n 1, 1), (33, .invokevirtual 128, 3), (36, .aload_n 0, 1), (37, .getfield 19, 3), (40, .invokevirtual 91, 3), (43, .pop, 1), (44, .aload_n 0, 1), (45, .invokevirtual 101, 3), (48, .aload_n 0, 1), (49, .getfield 19, 3), (52, .getfield 131, 3), (55, .iload_n 1, 1), (56, .iaload, 1), (57, .ireturn, 1)]
def mvC218 : List (Nat × Instr × Nat) := [(0, .aload_n 0, 1), (1, .getfield 19, 3), (4, .iload_n 1, 1), (5, .iload_n 2, 1), (6, .iload_n 3, 1), (7, .invokevirtual 295, 3), (10, .aload_n 0, 1), (11, .getfield 19, 3), (14, .invokevirtual 91, 3), (17, .pop, 1), (18, .aload_n 0, 1), (19, .invokevirtual 101, 3), (22, .aload_n 0, 1), (23, .getfield 19, 3), (26, .getfield 131, 3), (29, .iload_n 1, 1), (30, .iaload, 1), (31, .ireturn, 1)]
def mvC219 : List (Nat × Instr × Nat) := [(0, .aload_n 0, 1), (1, .getfield 29, 3), (4, .aload_n 0, 1), (5, .getfield 19, 3), (8, .invokevirtual 158, 3), (11, .aload_n 0, 1), (12, .getfield 43, 3), (15, .aload_n 0, 1), (16, .getfield 19, 3), (19, .aload_n 0, 1), (20, .getfield 29, 3), (23, .aload_n 0, 1), (24, .getfield 36, 3), (27, .invokevirtual 305, 3), (30, .return_, 1)]
def mvC220 : List (Nat × Instr × Nat) := [(0, .aload_n 0, 1), (1, .getfield 28, 3), (4, .getfield 36, 3), (7, .ifCond .eq 4, 3), (10, .return_, 1), (11, .aload_n 0, 1), (12, .getfield 12, 3), (15, .aload_n 1, 1), (16, .getfield 37, 3), (19, .invokevirtual 41, 3), (22, .iconst 0, 1), (23, .istore_n 3, 1), (24, .iload_n 3, 1), (25, .aload_n 1, 1), (26, .getfield 37, 3), (29, .if_icmp .ge 62, 3), (32, .iconst 0, 1), (33, .istore 4, 2), (35, .iload 4, 2), (37, .aload_n 1, 1), (38, .getfield 45, 3), (41, .iload_n 3, 1), (42, .iaload, 1), (43, .if_icmp .ge 42, 3), (46, .aload_n 1, 1), (47, .aload_n 2, 1), (48, .iload_n 3, 1), (49, .iload 4, 2), (51, .invokestatic 49, 3), (54, .ifCond .eq 25, 3), (57, .aload_n 0, 1), (58, .getfield 12, 3), (61, .iload_n 3, 1), (62, .aload_n 1, 1), (63, .iload_n 3, 1), (64, .iload 4, 2), (66, .invokevirtual 53, 3), (69, .aload_n 1, 1), (70, .iload_n 3, 1), (71, .iload 4, 2), (73, .invokevirtual 57, 3), (76, .invokevirtual 60, 3), (79, .iinc 4 1, 3), (82, .goto (-47), 3), (85, .iinc 3 1, 3), (88, .goto (-64), 3), (91, .aload_n 0, 1), (92, .getfield 12, 3), (95, .invokevirtual 64, 3), (98, .pop, 1), (99, .aload_n 0, 1), (100, .getfield 21, 3), (103, .aload_n 0, 1), (104, .getfield 12, 3), (107, .invokevirtual 68, 3), (110, .aload_n 0, 1), (111, .getfield 28, 3), (114, .aload_n 0, 1), (115, .getfield 12, 3), (118, .aload_n 0, 1), (119, .getfield 21, 3), (122, .aload_n 2, 1), (123, .invokevirtual 72, 3), (126, .return_, 1)]
def mvC221 : List (Nat × Instr × Nat) := [(0, .aload_n 0, 1), (1, .invokevirtual 24, 3), (4, .iconst 0, 1), (5, .istore 5, 2), (7, .iload 5, 2), (9, .iload 4, 2), (11, .if_icmp .ge 21, 3), (14, .aload_n 0, 1), (15, .aload_n 1, 1), (16, .aload_n 2, 1), (17, .getfield 27, 3), (20, .iload 5, 2), (22, .iaload, 1), (23, .invokevirtual 32, 3), (26, .iinc 5 1, 3), (29, .goto (-22), 3), (32, .aload_n 0, 1), (33, .aload_n 1, 1), (34, .iload_n 3, 1), (35, .invokevirtual 36, 3), (38, .aload_n 0, 1), (39, .aload_n 1, 1), (40, .invokevirtual 39, 3), (43, .iload 4, 2), (45, .istore 5, 2), (47, .iload 5, 2), (49, .aload_n 2, 1), (50, .getfield 43, 3), (53, .if_icmp .ge 26, 3), (56, .aload_n 0, 1), (57, .aload_n 1, 1), (58, .aload_n 2, 1), (59, .getfield 27, 3), (62, .iload 5, 2), (64, .iaload, 1), (65, .invokevirtual 32, 3), (68, .aload_n 0, 1), (69, .aload_n 1, 1), (70, .invokevirtual 39, 3), (73, .iinc 5 1, 3), (76, .goto (-29), 3), (79, .aload_n 0, 1), (80, .aload_n 1, 1), (81, .invokevirtual 47, 3), (84, .aload_n 0, 1), (85, .iconst 0, 1), (86, .putfield 50, 3), (89, .iconst 0, 1), (90, .istore 5, 2), (92, .iload 5, 2), (94, .aload_n 1, 1), (95, .getfield 53, 3), (98, .if_icmp .ge 28, 3), (101, .aload_n 0, 1), (102, .aload_n 0, 1), (103, .getfield 50, 3), (106, .bipush 10, 2), (108, .imul, 1), (109, .aload_n 0, 1), (110, .getfield 21, 3), (113, .iload 5, 2), (115, .iaload, 1), (116, .iadd, 1), (117, .putfield 50, 3), (120, .iinc 5 1, 3), (123, .goto (-31), 3), (126, .aload_n 0, 1), (127, .iconst 1, 1), (128, .putfield 58, 3), (131, .return_, 1)]
def mvC222 : List (Nat × Instr × Nat) := [(0, .aload_n 0, 1), (1, .iload_n 1, 1), (2, .invokevirtual 170, 3), (5, .ifCond .ne 6, 3), (8, .bipush (-101), 2), (10, .ireturn, 1), (11, .iload_n 2, 1), (12, .iconst 0, 1), (13, .bipush 9, 2), (15, .invokestatic 95, 3), (18, .ifCond .ne 6, 3), (21, .bipush (-102), 2), (23, .ireturn, 1), (24, .aload_n 0, 1), (25, .iload_n 1, 1), (26, .invokevirtual 176, 3), (29, .ifCond .eq 8, 3), (32, .bipush (-104), 2), (34, .goto 10, 3), (37, .aload_n 0, 1), (38, .iload_n 1, 1), (39, .iconst 0, 1), (40, .iload_n 2, 1), (41, .invokevirtual 179, 3), (44, .ireturn, 1)]
def mvC223 : List (Nat × Instr × Nat) := [(0, .aload_n 0, 1), (1, .iload_n 1, 1), (2, .invokevirtual 170, 3), (5, .ifCond .eq 16, 3), (8, .aload_n 0, 1), (9, .iload_n 2, 1), (10, .invokevirtual 170, 3), (13, .ifCond .eq 8, 3), (16, .iload_n 1, 1), (17, .iload_n 2, 1), (18, .if_icmp .ne 6, 3), (21, .bipush (-101), 2), (23, .ireturn, 1), (24, .aload_n 0, 1), (25, .iload_n 1, 1), (26, .invokevirtual 176, 3), (29, .ifCond .eq 8, 3), (32, .bipush (-104), 2), (34, .goto 10, 3), (37, .aload_n 0, 1), (38, .iload_n 1, 1), (39, .iconst 1, 1), (40, .iload_n 2, 1), (41, .invokevirtual 179, 3), (44, .ireturn, 1)]
def mvC224 : List (Nat × Instr × Nat) := [(0, .aload_n 0, 1), (1, .iload_n 1, 1), (2, .invokevirtual 170, 3), (5, .ifCond .eq 16, 3), (8, .aload_n 0, 1), (9, .iload_n 2, 1), (10, .invokevirtual 170, 3), (13, .ifCond .eq 8, 3), (16, .iload_n 1, 1), (17, .iload_n 2, 1), (18, .if_icmp .ne 6, 3), (21, .bipush (-101), 2), (23, .ireturn, 1), (24, .aload_n 0, 1), (25, .iload_n 2, 1), (26, .iconst 1, 1), (27, .iload_n 1, 1), (28, .aload_n 0, 1), (29, .getfield 7, 3), (32, .iload_n 2, 1), (33, .iaload, 1), (34, .invokevirtual 160, 3), (37, .aload_n 0, 1), (38, .iload_n 1, 1), (39, .iconst 2, 1), (40, .iload_n 2, 1), (41, .aload_n 0, 1), (42, .getfield 7, 3), (45, .iload_n 1, 1), (46, .iaload, 1), (47, .invokevirtual 160, 3), (50, .if_icmp .ne 6, 3), (53, .bipush (-103), 2), (55, .ireturn, 1), (56, .aload_n 0, 1), (57, .iload_n 1, 1), (58, .invokevirtual 176, 3), (61, .ifCond .eq 8, 3), (64, .bipush (-104), 2), (66, .goto 10, 3), (69, .aload_n 0, 1), (70, .iload_n 1, 1), (71, .iconst 2, 1), (72, .iload_n 2, 1), (73, .invokevirtual 179, 3), (76, .ireturn, 1)]
def mvC225 : List (Nat × Instr × Nat) := [(0, .aload_n 0, 1), (1, .invokevirtual 256, 3), (4, .iload_n 2, 1), (5, .iconst 3, 1), (6, .if_icmp .ne 11, 3), (9, .aload_n 0, 1), (10, .iload_n 1, 1), (11, .invokevirtual 259, 3), (14, .goto 16, 3), (17, .aload_n 0, 1), (18, .getfield 56, 3), (21, .iload_n 1, 1), (22, .iaload, 1), (23, .aload_n 0, 1), (24, .getfield 59, 3), (27, .iload_n 1, 1), (28, .iaload, 1), (29, .imul, 1), (30, .ireturn, 1)]
def mvC226 : List (Nat × Instr × Nat) := [(0, .aload_n 0, 1), (1, .invokevirtual 256, 3), (4, .iload_n 1, 1), (5, .tableswitch 57 0 3 #[31, 36, 45, 50], 31), (36, .aload_n 0, 1), (37, .invokevirtual 278, 3), (40, .ireturn, 1), (41, .aload_n 0, 1), (42, .aload_n 0, 1), (43, .invokevirtual 281, 3), (46, .invokevirtual 275, 3), (49, .ireturn, 1), (50, .aload_n 0, 1), (51, .invokevirtual 281, 3), (54, .ireturn, 1), (55, .aload_n 0, 1), (56, .getfield 59, 3), (59, .iconst 0, 1), (60, .iaload, 1), (61, .ireturn, 1), (62, .aload_n 0, 1), (63, .invokevirtual 173, 3), (66, .ireturn, 1)]
def mvC227 : List (Nat × Instr × Nat) := [(0, .aload_n 0, 1), (1, .invokevirtual 256, 3), (4, .aload_n 0, 1), (5, .iload_n 1, 1), (6, .iload_n 2, 1), (7, .invokevirtual 287, 3), (10, .istore_n 3, 1), (11, .iload_n 3, 1), (12, .iconst (-1), 1), (13, .if_icmp .ne 8, 3), (16, .bipush (-101), 2), (18, .goto 8, 3), (21, .aload_n 0, 1), (22, .iload_n 3, 1), (23, .invokevirtual 290, 3), (26, .ireturn, 1)]
def mvC228 : List (Nat × Instr × Nat) := [(0, .aload_n 0, 1), (1, .invokevirtual 256, 3), (4, .iload_n 1, 1), (5, .tableswitch 50 0 2 #[27, 40, 45], 27), (32, .aload_n 0, 1), (33, .invokevirtual 296, 3), (36, .ifCond .le 7, 3), (39, .iconst 1, 1), (40, .goto 4, 3), (43, .iconst 0, 1), (44, .ireturn, 1), (45, .aload_n 0, 1), (46, .invokevirtual 296, 3), (49, .ireturn, 1), (50, .aload_n 0, 1), (51, .invokevirtual 299, 3), (54, .ireturn, 1), (55, .aload_n 0, 1), (56, .getfield 62, 3), (59, .iconst 0, 1), (60, .baload, 1), (61, .ifCond .eq 7, 3), (64, .iconst 0, 1), (65, .goto 4, 3), (68, .iconst 1, 1), (69, .ireturn, 1)]
def mvC229 : List (Nat × Instr × Nat) := [(0, .aload_n 0, 1), (1, .invokevirtual 262, 3), (4, .ifCond .ne 6, 3), (7, .bipush (-103), 2), (9, .ireturn, 1), (10, .aload_n 0, 1), (11, .invokevirtual 256, 3), (14, .aload_n 0, 1), (15, .getfield 62, 3), (18, .iconst 0, 1), (19, .baload, 1), (20, .ifCond .eq 25, 3), (23, .iload_n 1, 1), (24, .iconst 0, 1), (25, .aload_n 0, 1), (26, .invokevirtual 173, 3), (29, .iconst 1, 1), (30, .isub, 1), (31, .invokestatic 95, 3), (34, .ifCond .eq 11, 3), (37, .aload_n 0, 1), (38, .iload_n 1, 1), (39, .invokevirtual 305, 3), (42, .goto 5, 3), (45, .bipush (-101), 2), (47, .ireturn, 1)]
def mvC230 : List (Nat × Instr × Nat) := [(0, .aload_n 0, 1), (1, .invokevirtual 256, 3), (4, .iconst 0, 1), (5, .istore_n 1, 1), (6, .iload_n 1, 1), (7, .iconst 4, 1), (8, .if_icmp .ge 17, 3), (11, .aload_n 0, 1), (12, .getfield 68, 3), (15, .iload_n 1, 1), (16, .bipush 16, 2), (18, .iastore, 1), (19, .iinc 1 1, 3), (22, .goto (-16), 3), (25, .iconst 0, 1), (26, .istore_n 1, 1), (27, .iload_n 1, 1), (28, .aload_n 0, 1), (29, .invokevirtual 231, 3), (32, .if_icmp .ge 75, 3), (35, .aload_n 0, 1), (36, .iload_n 1, 1), (37, .invokevirtual 196, 3), (40, .iconst 0, 1), (41, .istore_n 2, 1), (42, .iload_n 2, 1), (43, .aload_n 0, 1), (44, .getfield 138, 3), (47, .if_icmp .ge 54, 3), (50, .aload_n 0, 1), (51, .getfield 53, 3), (54, .iload_n 1, 1), (55, .baload, 1), (56, .ifCond .eq 45, 3), (59, .aload_n 0, 1), (60, .getfield 68, 3), (63, .iload_n 2, 1), (64, .aload_n 0, 1), (65, .getfield 46, 3), (68, .iload_n 2, 1), (69, .iaload, 1), (70, .aload_n 0, 1), (71, .getfield 68, 3), (74, .iload_n 2, 1), (75, .iaload, 1), (76, .if_icmp .ge 12, 3), (79, .aload_n 0, 1), (80, .getfield 46, 3), (83, .iload_n 2, 1), (84, .iaload, 1), (85, .goto 9, 3), (88, .aload_n 0, 1), (89, .getfield 68, 3), (92, .iload_n 2, 1), (93, .iaload, 1), (94, .iastore, 1), (95, .iinc 2 1, 3), (98, .goto (-56), 3), (101, .iinc 1 1, 3), (104, .goto (-77), 3), (107, .iconst 0, 1), (108, .istore_n 1, 1), (109, .iload_n 1, 1), (110, .iconst 4, 1), (111, .if_icmp .ge 21, 3), (114, .aload_n 0, 1), (115, .getfield 46, 3), (118, .iload_n 1, 1), (119, .aload_n 0, 1), (120, .getfield 68, 3), (123, .iload_n 1, 1), (124, .iaload, 1), (125, .iastore, 1), (126, .iinc 1 1, 3), (129, .goto (-20), 3), (132, .aload_n 0, 1), (133, .invokevirtual 296, 3), (136, .ifCond .ne 7, 3), (139, .iconst (-1), 1), (140, .goto 7, 3), (143, .aload_n 0, 1), (144, .invokevirtual 200, 3), (147, .ireturn, 1)]
def mvC231 : List (Nat × Instr × Nat) := [(0, .aload_n 0, 1), (1, .invokevirtual 308, 3), (4, .ifCond .eq 10, 3), (7, .aload_n 0, 1), (8, .invokevirtual 326, 3), (11, .goto 5, 3), (14, .bipush (-103), 2), (16, .ireturn, 1)]
def mvC232 : List (Nat × Instr × Nat) := [(0, .aload_n 0, 1), (1, .invokevirtual 329, 3), (4, .aload_n 0, 1), (5, .invokevirtual 332, 3), (8, .aload_n 0, 1), (9, .invokevirtual 256, 3), (12, .iload_n 1, 1), (13, .ifCond .ne 10, 3), (16, .aload_n 0, 1), (17, .invokevirtual 173, 3), (20, .goto 49, 3), (23, .iload_n 1, 1), (24, .iconst 1, 1), (25, .if_icmp .ne 10, 3), (28, .aload_n 0, 1), (29, .invokevirtual 278, 3), (32, .goto 37, 3), (35, .iload_n 1, 1), (36, .iconst 2, 1), (37, .if_icmp .ne 18, 3), (40, .aload_n 0, 1), (41, .invokevirtual 296, 3), (44, .ifCond .le 7, 3), (47, .iconst 1, 1), (48, .goto 21, 3), (51, .iconst 0, 1), (52, .goto 17, 3), (55, .aload_n 0, 1), (56, .getfield 62, 3), (59, .iconst 0, 1), (60, .baload, 1), (61, .ifCond .eq 7, 3), (64, .iconst 0, 1), (65, .goto 4, 3), (68, .iconst 1, 1), (69, .istore_n 2, 1), (70, .aload_n 0, 1), (71, .invokevirtual 335, 3), (74, .iload_n 2, 1), (75, .ireturn, 1)]
def mvC233 : List (Nat × Instr × Nat) := [(0, .aload_n 0, 1), (1, .getfield 147, 3), (4, .ifCond .ne 6, 3), (7, .bipush (-103), 2), (9, .ireturn, 1), (10, .aload_n 0, 1), (11, .iload_n 1, 1), (12, .invokevirtual 170, 3), (15, .ifCond .ne 6, 3), (18, .bipush (-101), 2), (20, .ireturn, 1), (21, .iload_n 2, 1), (22, .iconst 0, 1), (23, .aload_n 0, 1), (24, .invokevirtual 173, 3), (27, .invokestatic 95, 3), (30, .ifCond .ne 6, 3), (33, .bipush (-102), 2), (35, .ireturn, 1), (36, .aload_n 0, 1), (37, .aload_n 0, 1), (38, .iload_n 1, 1), (39, .iload_n 2, 1), (40, .invokevirtual 384, 3), (43, .putfield 387, 3), (46, .aload_n 0, 1), (47, .iconst 1, 1), (48, .putfield 151, 3), (51, .aload_n 0, 1), (52, .dup, 1), (53, .getfield 390, 3), (56, .iconst 1, 1), (57, .iadd, 1), (58, .putfield 390, 3), (61, .aload_n 0, 1), (62, .getfield 387, 3), (65, .ireturn, 1)]
def mvC234 : List (Nat × Instr × Nat) := [(0, .aload_n 0, 1), (1, .getfield 19, 3), (4, .iload_n 1, 1), (5, .invokevirtual 107, 3), (8, .ifCond .ne 6, 3), (11, .bipush (-101), 2), (13, .ireturn, 1), (14, .iload_n 2, 1), (15, .ifCond .lt 9, 3), (18, .iload_n 2, 1), (19, .bipush 9, 2), (21, .if_icmp .le 6, 3), (24, .bipush (-102), 2), (26, .ireturn, 1), (27, .aload_n 0, 1), (28, .getfield 19, 3), (31, .iload_n 1, 1), (32, .invokevirtual 111, 3), (35, .ifCond .ne 6, 3), (38, .bipush (-104), 2), (40, .ireturn, 1), (41, .aload_n 0, 1), (42, .iload_n 1, 1), (43, .iconst 0, 1), (44, .iload_n 2, 1), (45, .invokevirtual 114, 3), (48, .ireturn, 1)]
def mvC235 : List (Nat × Instr × Nat) := [(0, .aload_n 0, 1), (1, .getfield 19, 3), (4, .iload_n 1, 1), (5, .iload_n 2, 1), (6, .invokevirtual 118, 3), (9, .ifCond .ne 6, 3), (12, .bipush (-101), 2), (14, .ireturn, 1), (15, .aload_n 0, 1), (16, .getfield 19, 3), (19, .iload_n 1, 1), (20, .invokevirtual 111, 3), (23, .ifCond .ne 6, 3), (26, .bipush (-104), 2), (28, .ireturn, 1), (29, .aload_n 0, 1), (30, .iload_n 1, 1), (31, .iconst 1, 1), (32, .iload_n 2, 1), (33, .invokevirtual 114, 3), (36, .ireturn, 1)]
def mvC236 : List (Nat × Instr × Nat) := [(0, .aload_n 0, 1), (1, .getfield 19, 3), (4, .iload_n 1, 1), (5, .iload_n 2, 1), (6, .invokevirtual 118, 3), (9, .ifCond .ne 6, 3), (12, .bipush (-101), 2), (14, .ireturn, 1), (15, .aload_n 0, 1), (16, .getfield 19, 3), (19, .iload_n 2, 1), (20, .iload_n 1, 1), (21, .invokevirtual 122, 3), (24, .ifCond .ne 6, 3), (27, .bipush (-103), 2), (29, .ireturn, 1), (30, .aload_n 0, 1), (31, .getfield 19, 3), (34, .iload_n 1, 1), (35, .invokevirtual 111, 3), (38, .ifCond .ne 6, 3), (41, .bipush (-104), 2), (43, .ireturn, 1), (44, .aload_n 0, 1), (45, .iload_n 1, 1), (46, .iconst 2, 1), (47, .iload_n 2, 1), (48, .invokevirtual 114, 3), (51, .ireturn, 1)]
def mvC237 : List (Nat × Instr × Nat) := [(0, .iload_n 1, 1), (1, .ifCond .lt 8, 3), (4, .iload_n 1, 1), (5, .iconst 3, 1), (6, .if_icmp .le 6, 3), (9, .bipush (-102), 2), (11, .ireturn, 1), (12, .aload_n 0, 1), (13, .invokevirtual 145, 3), (16, .ifCond .ne 6, 3), (19, .bipush (-103), 2), (21, .ireturn, 1), (22, .aload_n 0, 1), (23, .invokevirtual 205, 3), (26, .aload_n 0, 1), (27, .getfield 43, 3), (30, .iload_n 1, 1), (31, .invokevirtual 208, 3), (34, .ireturn, 1)]
def mvC238 : List (Nat × Instr × Nat) := [(0, .aload_n 0, 1), (1, .invokevirtual 145, 3), (4, .ifCond .ne 6, 3), (7, .bipush (-103), 2), (9, .ireturn, 1), (10, .aload_n 0, 1), (11, .invokevirtual 205, 3), (14, .iload_n 1, 1), (15, .ifCond .lt 14, 3), (18, .iload_n 1, 1), (19, .aload_n 0, 1), (20, .getfield 43, 3), (23, .getfield 209, 3), (26, .if_icmp .lt 6, 3), (29, .bipush (-101), 2), (31, .ireturn, 1), (32, .aload_n 0, 1), (33, .getfield 43, 3), (36, .getfield 212, 3), (39, .iload_n 1, 1), (40, .iaload, 1), (41, .ireturn, 1)]
def mvC239 : List (Nat × Instr × Nat) := [(0, .aload_n 0, 1), (1, .invokevirtual 215, 3), (4, .ifCond .ne 6, 3), (7, .bipush (-103), 2), (9, .ireturn, 1), (10, .aload_n 0, 1), (11, .invokevirtual 205, 3), (14, .aload_n 0, 1), (15, .getfield 43, 3), (18, .invokevirtual 218, 3), (21, .ireturn, 1)]
def mvC240 : List (Nat × Instr × Nat) := [(0, .iload_n 1, 1), (1, .ifCond .lt 8, 3), (4, .iload_n 1, 1), (5, .iconst 3, 1), (6, .if_icmp .le 6, 3), (9, .bipush (-102), 2), (11, .ireturn, 1), (12, .aload_n 0, 1), (13, .invokevirtual 215, 3), (16, .ifCond .ne 6, 3), (19, .bipush (-103), 2), (21, .ireturn, 1), (22, .aload_n 0, 1), (23, .getfield 57, 3), (26, .aload_n 0, 1), (27, .getfield 19, 3), (30, .aload_n 0, 1), (31, .getfield 36, 3), (34, .invokevirtual 237, 3), (37, .aload_n 0, 1), (38, .getfield 57, 3), (41, .iload_n 1, 1), (42, .invokevirtual 239, 3), (45, .ireturn, 1)]
def mvC241 : List (Nat × Instr × Nat) := [(0, .aload_n 0, 1), (1, .getfield 64, 3), (4, .getfield 248, 3), (7, .iconst (-1), 1), (8, .if_icmp .ne 6, 3), (11, .bipush (-103), 2), (13, .ireturn, 1), (14, .aload_n 0, 1), (15, .getfield 19, 3), (18, .iload_n 1, 1), (19, .invokevirtual 107, 3), (22, .ifCond .ne 6, 3), (25, .bipush (-101), 2), (27, .ireturn, 1), (28, .iload_n 2, 1), (29, .ifCond .lt 14, 3), (32, .iload_n 2, 1), (33, .aload_n 0, 1), (34, .getfield 64, 3), (37, .getfield 248, 3), (40, .if_icmp .le 6, 3), (43, .bipush (-102), 2), (45, .ireturn, 1), (46, .aload_n 0, 1), (47, .getfield 71, 3), (50, .aload_n 0, 1), (51, .getfield 19, 3), (54, .aload_n 0, 1), (55, .getfield 64, 3), (58, .iload_n 1, 1), (59, .iload_n 2, 1), (60, .invokevirtual 253, 3), (63, .aload_n 0, 1), (64, .dup, 1), (65, .getfield 257, 3), (68, .iconst 1, 1), (69, .iadd, 1), (70, .putfield 257, 3), (73, .aload_n 0, 1), (74, .getfield 71, 3), (77, .getfield 260, 3), (80, .ireturn, 1)]
def mvC242 : List (Nat × Instr × Nat) := [(0, .aload_n 0, 1), (1, .getfield 50, 3), (4, .aload_n 0, 1), (5, .getfield 19, 3), (8, .aload_n 0, 1), (9, .getfield 36, 3), (12, .invokevirtual 221, 3), (15, .aload_n 0, 1), (16, .getfield 57, 3), (19, .aload_n 0, 1), (20, .getfield 19, 3), (23, .aload_n 0, 1), (24, .getfield 36, 3), (27, .invokevirtual 237, 3), (30, .lload_n 1, 1), (31, .aload_n 0, 1), (32, .getfield 43, 3), (35, .invokevirtual 218, 3), (38, .invokestatic 282, 3), (41, .lstore_n 1, 1), (42, .lload_n 1, 1), (43, .aload_n 0, 1), (44, .getfield 50, 3), (47, .aload_n 0, 1), (48, .getfield 19, 3), (51, .invokevirtual 225, 3), (54, .ifCond .eq 7, 3), (57, .iconst 1, 1), (58, .goto 4, 3), (61, .iconst 0, 1), (62, .invokestatic 282, 3), (65, .lstore_n 1, 1), (66, .iconst 0, 1), (67, .istore_n 3, 1), (68, .iload_n 3, 1), (69, .aload_n 0, 1), (70, .getfield 19, 3), (73, .getfield 104, 3), (76, .if_icmp .ge 62, 3), (79, .iconst 0, 1), (80, .istore 4, 2), (82, .iload 4, 2), (84, .aload_n 0, 1), (85, .getfield 50, 3), (88, .getfield 228, 3), (91, .iload_n 3, 1), (92, .iaload, 1), (93, .if_icmp .ge 39, 3), (96, .lload_n 1, 1), (97, .aload_n 0, 1), (98, .getfield 50, 3), (101, .iload_n 3, 1), (102, .iload 4, 2), (104, .invokevirtual 231, 3), (107, .invokestatic 282, 3), (110, .lstore_n 1, 1), (111, .lload_n 1, 1), (112, .aload_n 0, 1), (113, .getfield 50, 3), (116, .iload_n 3, 1), (117, .iload 4, 2), (119, .invokevirtual 234, 3), (122, .invokestatic 282, 3), (125, .lstore_n 1, 1), (126, .iinc 4 1, 3), (129, .goto (-47), 3), (132, .iinc 3 1, 3), (135, .goto (-67), 3), (138, .iconst 0, 1), (139, .istore_n 3, 1), (140, .iload_n 3, 1), (141, .iconst 3, 1), (142, .if_icmp .gt 22, 3), (145, .lload_n 1, 1), (146, .aload_n 0, 1), (147, .getfield 57, 3), (150, .iload_n 3, 1), (151, .invokevirtual 239, 3), (154, .invokestatic 282, 3), (157, .lstore_n 1, 1), (158, .iinc 3 1, 3), (161, .goto (-21), 3), (164, .lload_n 1, 1), (165, .lreturn, 1)]
def mvC243 : List (Nat × Instr × Nat) := [(0, .aload_n 0, 1), (1, .invokevirtual 250, 3), (4, .istore_n 2, 1), (5, .iload_n 1, 1), (6, .tableswitch 70 0 4 #[34, 47, 52, 70, 65], 34), (40, .aload_n 0, 1), (41, .invokevirtual 234, 3), (44, .ifCond .eq 7, 3), (47, .iconst 1, 1), (48, .goto 4, 3), (51, .iconst 0, 1), (52, .ireturn, 1), (53, .aload_n 0, 1), (54, .invokevirtual 240, 3), (57, .ireturn, 1), (58, .aload_n 0, 1), (59, .invokevirtual 237, 3), (62, .ifCond .eq 7, 3), (65, .iconst 1, 1), (66, .goto 4, 3), (69, .iconst 0, 1), (70, .ireturn, 1), (71, .aload_n 0, 1), (72, .invokevirtual 225, 3), (75, .ireturn, 1), (76, .aload_n 0, 1), (77, .iload_n 2, 1), (78, .iload_n 1, 1), (79, .invokevirtual 253, 3), (82, .ireturn, 1)]
def mvC244 : List (Nat × Instr × Nat) := [(0, .iload_n 1, 1), (1, .iconst 0, 1), (2, .iconst 4, 1), (3, .invokestatic 95, 3), (6, .ifCond .ne 6, 3), (9, .bipush (-102), 2), (11, .ireturn, 1), (12, .aload_n 0, 1), (13, .invokevirtual 262, 3), (16, .ifCond .eq 11, 3), (19, .aload_n 0, 1), (20, .iload_n 1, 1), (21, .invokevirtual 284, 3), (24, .goto 5, 3), (27, .bipush (-103), 2), (29, .ireturn, 1)]
def mvC245 : List (Nat × Instr × Nat) := [(0, .aload_n 0, 1), (1, .invokevirtual 262, 3), (4, .ifCond .eq 12, 3), (7, .aload_n 0, 1), (8, .iload_n 1, 1), (9, .iload_n 2, 1), (10, .invokevirtual 293, 3), (13, .goto 5, 3), (16, .bipush (-103), 2), (18, .ireturn, 1)]
def mvC246 : List (Nat × Instr × Nat) := [(0, .iload_n 1, 1), (1, .iconst 0, 1), (2, .iconst 3, 1), (3, .invokestatic 95, 3), (6, .ifCond .ne 6, 3), (9, .bipush (-102), 2), (11, .ireturn, 1), (12, .aload_n 0, 1), (13, .invokevirtual 262, 3), (16, .ifCond .eq 11, 3), (19, .aload_n 0, 1), (20, .iload_n 1, 1), (21, .invokevirtual 302, 3), (24, .goto 5, 3), (27, .bipush (-103), 2), (29, .ireturn, 1)]
def mvC247 : List (Nat × Instr × Nat) := [(0, .aload_n 0, 1), (1, .invokevirtual 308, 3), (4, .ifCond .eq 10, 3), (7, .aload_n 0, 1), (8, .invokevirtual 311, 3), (11, .goto 5, 3), (14, .bipush (-103), 2), (16, .ireturn, 1)]
def mvC248 : List (Nat × Instr × Nat) := [(0, .iload_n 1, 1), (1, .iconst 0, 1), (2, .iconst 3, 1), (3, .invokestatic 95, 3), (6, .ifCond .ne 6, 3), (9, .bipush (-102), 2), (11, .ireturn, 1), (12, .aload_n 0, 1), (13, .invokevirtual 308, 3), (16, .ifCond .eq 11, 3), (19, .aload_n 0, 1), (20, .iload_n 1, 1), (21, .invokevirtual 338, 3), (24, .goto 5, 3), (27, .bipush (-103), 2), (29, .ireturn, 1)]
def mvC249 : List (Nat × Instr × Nat) := [(0, .iconst 0, 1), (1, .istore_n 1, 1), (2, .iload_n 1, 1), (3, .aload_n 0, 1), (4, .getfield 138, 3), (7, .if_icmp .ge 48, 3), (10, .iconst 0, 1), (11, .istore_n 2, 1), (12, .iload_n 2, 1), (13, .bipush 7, 2), (15, .aload_n 0, 1), (16, .getfield 7, 3), (19, .iload_n 1, 1), (20, .iaload, 1), (21, .imul, 1), (22, .if_icmp .ge 27, 3), (25, .aload_n 0, 1), (26, .aload_n 0, 1), (27, .iload_n 1, 1), (28, .iload_n 2, 1), (29, .bipush 7, 2), (31, .idiv, 1), (32, .iload_n 2, 1), (33, .bipush 7, 2), (35, .irem, 1), (36, .invokevirtual 186, 3), (39, .i2l, 1), (40, .invokevirtual 407, 3), (43, .iinc 2 1, 3), (46, .goto (-34), 3), (49, .iinc 1 1, 3), (52, .goto (-50), 3), (55, .iconst 0, 1), (56, .istore_n 1, 1), (57, .iload_n 1, 1), (58, .iconst 5, 1), (59, .if_icmp .ge 19, 3), (62, .aload_n 0, 1), (63, .aload_n 0, 1), (64, .iload_n 1, 1), (65, .invokevirtual 284, 3), (68, .i2l, 1), (69, .invokevirtual 407, 3), (72, .iinc 1 1, 3), (75, .goto (-18), 3), (78, .return_, 1)]
def mvC250 : List (Nat × Instr × Nat) := [(0, .aload_n 0, 1), (1, .invokevirtual 256, 3), (4, .aload_n 0, 1), (5, .invokevirtual 231, 3), (8, .istore_n 1, 1), (9, .iconst 0, 1), (10, .istore_n 2, 1), (11, .iload_n 2, 1), (12, .aload_n 0, 1), (13, .invokevirtual 173, 3), (16, .if_icmp .gt 46, 3), (19, .iconst 0, 1), (20, .istore_n 3, 1), (21, .iload_n 3, 1), (22, .iload_n 1, 1), (23, .if_icmp .ge 33, 3), (26, .aload_n 0, 1), (27, .getfield 49, 3), (30, .iload_n 3, 1), (31, .baload, 1), (32, .ifCond .eq 18, 3), (35, .aload_n 0, 1), (36, .getfield 65, 3), (39, .iload_n 3, 1), (40, .iaload, 1), (41, .iload_n 2, 1), (42, .if_icmp .ne 8, 3), (45, .aload_n 0, 1), (46, .iload_n 3, 1), (47, .invokevirtual 411, 3), (50, .iinc 3 1, 3), (53, .goto (-32), 3), (56, .iinc 2 1, 3), (59, .goto (-48), 3), (62, .iconst 0, 1), (63, .istore_n 2, 1), (64, .iload_n 2, 1), (65, .iconst 4, 1), (66, .if_icmp .ge 19, 3), (69, .aload_n 0, 1), (70, .aload_n 0, 1), (71, .iload_n 2, 1), (72, .invokevirtual 302, 3), (75, .i2l, 1), (76, .invokevirtual 407, 3), (79, .iinc 2 1, 3), (82, .goto (-18), 3), (85, .iconst 0, 1), (86, .istore_n 2, 1), (87, .iload_n 2, 1), (88, .aload_n 0, 1), (89, .invokevirtual 173, 3), (92, .if_icmp .ge 28, 3), (95, .aload_n 0, 1), (96, .getfield 62, 3), (99, .iconst 0, 1), (100, .baload, 1), (101, .ifCond .eq 19, 3), (104, .aload_n 0, 1), (105, .aload_n 0, 1), (106, .iload_n 2, 1), (107, .invokevirtual 305, 3), (110, .i2l, 1), (111, .invokevirtual 407, 3), (114, .iinc 2 1, 3), (117, .goto (-30), 3), (120, .return_, 1)]
def mvC251 : List (Nat × Instr × Nat) := [(0, .aload_n 0, 1), (1, .aload_n 0, 1), (2, .invokevirtual 311, 3), (5, .i2l, 1), (6, .invokevirtual 407, 3), (9, .aload_n 0, 1), (10, .aload_n 0, 1), (11, .invokevirtual 326, 3), (14, .i2l, 1), (15, .invokevirtual 407, 3), (18, .iconst 0, 1), (19, .istore_n 1, 1), (20, .iload_n 1, 1), (21, .aload_n 0, 1), (22, .getfield 138, 3), (25, .if_icmp .ge 55, 3), (28, .aload_n 0, 1), (29, .iload_n 1, 1), (30, .invokevirtual 320, 3), (33, .istore_n 2, 1), (34, .iconst 0, 1), (35, .istore_n 3, 1), (36, .iload_n 3, 1), (37, .iload_n 2, 1), (38, .if_icmp .ge 36, 3), (41, .aload_n 0, 1), (42, .aload_n 0, 1), (43, .iload_n 1, 1), (44, .iload_n 3, 1), (45, .invokevirtual 314, 3), (48, .i2l, 1), (49, .invokevirtual 407, 3), (52, .aload_n 0, 1), (53, .aload_n 0, 1), (54, .iload_n 1, 1), (55, .aload_n 0, 1), (56, .iload_n 1, 1), (57, .iload_n 3, 1), (58, .invokevirtual 314, 3), (61, .invokevirtual 317, 3), (64, .i2l, 1), (65, .invokevirtual 407, 3), (68, .iinc 3 1, 3), (71, .goto (-35), 3), (74, .iinc 1 1, 3), (77, .goto (-57), 3), (80, .iconst 0, 1), (81, .istore_n 1, 1), (82, .iload_n 1, 1), (83, .iconst 4, 1), (84, .if_icmp .ge 19, 3), (87, .aload_n 0, 1), (88, .aload_n 0, 1), (89, .iload_n 1, 1), (90, .invokevirtual 338, 3), (93, .i2l, 1), (94, .invokevirtual 407, 3), (97, .iinc 1 1, 3), (100, .goto (-18), 3), (103, .return_, 1)]
def mvC252 : List (Nat × Instr × Nat) := [(0, .ldc2_w 267, 3), (3, .lstore_n 1, 1), (4, .aload_n 0, 1), (5, .invokevirtual 145, 3), (8, .ifCond .eq 38, 3), (11, .aload_n 0, 1), (12, .invokevirtual 205, 3), (15, .aload_n 0, 1), (16, .lload_n 1, 1), (17, .invokevirtual 269, 3), (20, .lstore_n 1, 1), (21, .aload_n 0, 1), (22, .lload_n 1, 1), (23, .invokevirtual 273, 3), (26, .lstore_n 1, 1), (27, .aload_n 0, 1), (28, .lload_n 1, 1), (29, .invokevirtual 276, 3), (32, .lstore_n 1, 1), (33, .aload_n 0, 1), (34, .invokevirtual 215, 3), (37, .ifCond .eq 9, 3), (40, .aload_n 0, 1), (41, .lload_n 1, 1), (42, .invokevirtual 279, 3), (45, .lstore_n 1, 1), (46, .iconst 0, 1), (47, .istore_n 3, 1), (48, .iload_n 3, 1), (49, .aload_n 0, 1), (50, .getfield 64, 3), (53, .getfield 248, 3), (56, .if_icmp .ge 23, 3), (59, .lload_n 1, 1), (60, .aload_n 0, 1), (61, .getfield 64, 3), (64, .getfield 251, 3), (67, .iload_n 3, 1), (68, .iaload, 1), (69, .invokestatic 282, 3), (72, .lstore_n 1, 1), (73, .iinc 3 1, 3), (76, .goto (-28), 3), (79, .aload_n 0, 1), (80, .getfield 71, 3), (83, .getfield 240, 3), (86, .ifCond .eq 29, 3), (89, .iconst 0, 1), (90, .istore_n 3, 1), (91, .iload_n 3, 1), (92, .iconst 2, 1), (93, .if_icmp .gt 22, 3), (96, .lload_n 1, 1), (97, .aload_n 0, 1), (98, .getfield 71, 3), (101, .iload_n 3, 1), (102, .invokevirtual 263, 3), (105, .invokestatic 282, 3), (108, .lstore_n 1, 1), (109, .iinc 3 1, 3), (112, .goto (-21), 3), (115, .iconst 0, 1), (116, .istore_n 3, 1), (117, .iload_n 3, 1), (118, .aload_n 0, 1), (119, .getfield 12, 3), (122, .getfield 75, 3), (125, .if_icmp .ge 23, 3), (128, .lload_n 1, 1), (129, .aload_n 0, 1), (130, .getfield 12, 3), (133, .getfield 286, 3), (136, .iload_n 3, 1), (137, .iaload, 1), (138, .invokestatic 282, 3), (141, .lstore_n 1, 1), (142, .iinc 3 1, 3), (145, .goto (-28), 3), (148, .iconst 0, 1), (149, .istore_n 3, 1), (150, .iload_n 3, 1), (151, .bipush 7, 2), (153, .if_icmp .gt 19, 3), (156, .lload_n 1, 1), (157, .aload_n 0, 1), (158, .iload_n 3, 1), (159, .invokevirtual 289, 3), (162, .invokestatic 282, 3), (165, .lstore_n 1, 1), (166, .iinc 3 1, 3), (169, .goto (-19), 3), (172, .lload_n 1, 1), (173, .lreturn, 1)]
def mvC253 : List (Nat × Instr × Nat) := [(0, .aload_n 0, 1), (1, .invokevirtual 262, 3), (4, .ifCond .ne 6, 3), (7, .bipush (-103), 2), (9, .ireturn, 1), (10, .aload_n 0, 1), (11, .iload_n 1, 1), (12, .invokevirtual 265, 3), (15, .ifCond .ne 6, 3), (18, .bipush (-101), 2), (20, .ireturn, 1), (21, .iload_n 2, 1), (22, .iconst 0, 1), (23, .iconst 5, 1), (24, .invokestatic 95, 3), (27, .ifCond .ne 6, 3), (30, .bipush (-102), 2), (32, .ireturn, 1), (33, .iload_n 2, 1), (34, .iconst 1, 1), (35, .if_icmp .le 15, 3), (38, .aload_n 0, 1), (39, .invokevirtual 234, 3), (42, .ifCond .ne 8, 3), (45, .bipush (-103), 2), (47, .goto 8, 3), (50, .aload_n 0, 1), (51, .iload_n 2, 1), (52, .invokevirtual 268, 3), (55, .ireturn, 1)]
def mvC254 : List (Nat × Instr × Nat) := [(0, .aload_n 0, 1), (1, .ldc2_w 414, 3), (4, .putfield 404, 3), (7, .aload_n 0, 1), (8, .invokevirtual 262, 3), (11, .ifCond .eq 11, 3), (14, .aload_n 0, 1), (15, .invokevirtual 416, 3), (18, .aload_n 0, 1), (19, .invokevirtual 419, 3), (22, .aload_n 0, 1), (23, .invokevirtual 308, 3), (26, .ifCond .eq 7, 3), (29, .aload_n 0, 1), (30, .invokevirtual 422, 3), (33, .aload_n 0, 1), (34, .getfield 147, 3), (37, .ifCond .eq 7, 3), (40, .aload_n 0, 1), (41, .invokevirtual 425, 3), (44, .iconst 0, 1), (45, .istore_n 1, 1), (46, .iload_n 1, 1), (47, .aload_n 0, 1), (48, .getfield 99, 3), (51, .if_icmp .ge 20, 3), (54, .aload_n 0, 1), (55, .aload_n 0, 1), (56, .getfield 31, 3), (59, .iload_n 1, 1), (60, .iaload, 1), (61, .i2l, 1), (62, .invokevirtual 407, 3), (65, .iinc 1 1, 3), (68, .goto (-22), 3), (71, .iconst 0, 1), (72, .istore_n 1, 1), (73, .iload_n 1, 1), (74, .bipush 8, 2), (76, .if_icmp .ge 19, 3), (79, .aload_n 0, 1), (80, .aload_n 0, 1), (81, .iload_n 1, 1), (82, .invokevirtual 399, 3), (85, .i2l, 1), (86, .invokevirtual 407, 3), (89, .iinc 1 1, 3), (92, .goto (-19), 3), (95, .aload_n 0, 1), (96, .getfield 404, 3), (99, .lreturn, 1)]
def mvC255 : List (Nat × Instr × Nat) := [(0, .new 7, 3), (3, .dup, 1), (4, .invokespecial 9, 3), (7, .astore_n 1, 1), (8, .new 10, 3), (11, .dup, 1), (12, .invokespecial 12, 3), (15, .astore_n 2, 1), (16, .iconst 0, 1), (17, .istore_n 3, 1), (18, .iload_n 3, 1), (19, .aload_n 0, 1), (20, .arraylength, 1), (21, .iconst 5, 1), (22, .isub, 1), (23, .if_icmp .gt 1009, 3), (26, .aload_n 0, 1), (27, .iload_n 3, 1), (28, .iaload, 1), (29, .bipush 31, 2), (31, .iand, 1), (32, .tableswitch 994 0 30 #[140, 163, 176, 189, 202, 235, 268, 301, 324, 367, 420, 453, 486, 529, 562, 595, 618, 651, 684, 717, 740, 763, 776, 789, 832, 855, 878, 901, 934, 957, 980], 140), (172, .aload_n 1, 1), (173, .aload_n 0, 1), (174, .iload_n 3, 1), (175, .iconst 1, 1), (176, .iadd, 1), (177, .iaload, 1), (178, .invokevirtual 13, 3), (181, .aload_n 2, 1), (182, .aload_n 0, 1), (183, .iload_n 3, 1), (184, .iconst 1, 1), (185, .iadd, 1), (186, .iaload, 1), (187, .invokevirtual 17, 3), (190, .if_icmp .eq 836, 3), (193, .iconst 0, 1), (194, .ireturn, 1), (195, .aload_n 1, 1), (196, .invokevirtual 18, 3), (199, .aload_n 2, 1), (200, .invokevirtual 22, 3), (203, .if_icmp .eq 823, 3), (206, .iconst 0, 1), (207, .ireturn, 1), (208, .aload_n 1, 1), (209, .invokevirtual 23, 3), (212, .aload_n 2, 1), (213, .invokevirtual 26, 3), (216, .if_icmp .eq 810, 3), (219, .iconst 0, 1), (220, .ireturn, 1), (221, .aload_n 1, 1), (222, .invokevirtual 27, 3), (225, .aload_n 2, 1), (226, .invokevirtual 30, 3), (229, .if_icmp .eq 797, 3), (232, .iconst 0, 1), (233, .ireturn, 1), (234, .aload_n 1, 1), (235, .aload_n 0, 1), (236, .iload_n 3, 1), (237, .iconst 1, 1), (238, .iadd, 1), (239, .iaload, 1), (240, .aload_n 0, 1), (241, .iload_n 3, 1), (242, .iconst 2, 1), (243, .iadd, 1), (244, .iaload, 1), (245, .invokevirtual 31, 3), (248, .aload_n 2, 1), (249, .aload_n 0, 1), (250, .iload_n 3, 1), (251, .iconst 1, 1), (252, .iadd, 1), (253, .iaload, 1), (254, .aload_n 0, 1), (255, .iload_n 3, 1), (256, .iconst 2, 1), (257, .iadd, 1), (258, .iaload, 1), (259, .invokevirtual 35, 3), (262, .if_icmp .eq 764, 3), (265, .iconst 0, 1), (266, .ireturn, 1), (267, .aload_n 1, 1), (268, .aload_n 0, 1), (269, .iload_n 3, 1), (270, .iconst 1, 1), (271, .iadd, 1), (272, .iaload, 1), (273, .aload_n 0, 1), (274, .iload_n 3, 1), (275, .iconst 2, 1), (276, .iadd, 1), (277, .iaload, 1), (278, .invokevirtual 36, 3), (281, .aload_n 2, 1), (282, .aload_n 0, 1), (283, .iload_n 3, 1), (284, .iconst 1, 1), (285, .iadd, 1), (286, .iaload, 1), (287, .aload_n 0, 1), (288, .iload_n 3, 1), (289, .iconst 2, 1), (290, .iadd, 1), (291, .iaload, 1), (292, .invokevirtual 39, 3), (295, .if_icmp .eq 731, 3), (298, .iconst 0, 1), (299, .ireturn, 1), (300, .aload_n 1, 1), (301, .aload_n 0, 1), (302, .iload_n 3, 1), (303, .iconst 1, 1), (304, .iadd, 1), (305, .iaload, 1), (306, .aload_n 0, 1), (307, .iload_n 3, 1), (308, .iconst 2, 1), (309, .iadd, 1), (310, .iaload, 1), (311, .invokevirtual 40, 3), (314, .aload_n 2, 1), (315, .aload_n 0, 1), (316, .iload_n 3, 1), (317, .iconst 1, 1), (318, .iadd, 1), (319, .iaload, 1), (320, .aload_n 0, 1), (321, .iload_n 3, 1), (322, .iconst 2, 1), (323, .iadd, 1), (324, .iaload, 1), (325, .invokevirtual 43, 3), (328, .if_icmp .eq 698, 3), (331, .iconst 0, 1), (332, .ireturn, 1), (333, .aload_n 1, 1), (334, .aload_n 0, 1), (335, .iload_n 3, 1), (336, .iconst 1, 1), (337, .iadd, 1), (338, .iaload, 1), (339, .invokevirtual 44, 3), (342, .aload_n 2, 1), (343, .aload_n 0, 1), (344, .iload_n 3, 1), (345, .iconst 1, 1), (346, .iadd, 1), (347, .iaload, 1), (348, .invokevirtual 47, 3), (351, .if_icmp .eq 675, 3), (354, .iconst 0, 1), (355, .ireturn, 1), (356, .aload_n 1, 1), (357, .aload_n 0, 1), (358, .iload_n 3, 1), (359, .iconst 1, 1), (360, .iadd, 1), (361, .iaload, 1), (362, .aload_n 0, 1), (363, .iload_n 3, 1), (364, .iconst 2, 1), (365, .iadd, 1), (366, .iaload, 1), (367, .aload_n 0, 1), (368, .iload_n 3, 1), (369, .iconst 3, 1), (370, .iadd, 1), (371, .iaload, 1), (372, .invokevirtual 48, 3), (375, .aload_n 2, 1), (376, .aload_n 0, 1), (377, .iload_n 3, 1), (378, .iconst 1, 1), (379, .iadd, 1), (380, .iaload, 1), (381, .aload_n 0, 1), (382, .iload_n 3, 1), (383, .iconst 2, 1), (384, .iadd, 1), (385, .iaload, 1), (386, .aload_n 0, 1), (387, .iload_n 3, 1), (388, .iconst 3, 1), (389, .iadd, 1), (390, .iaload, 1), (391, .invokevirtual 52, 3), (394, .if_icmp .eq 632, 3), (397, .iconst 0, 1), (398, .ireturn, 1), (399, .aload_n 1, 1), (400, .aload_n 0, 1), (401, .iload_n 3, 1), (402, .iconst 1, 1), (403, .iadd, 1), (404, .iaload, 1), (405, .aload_n 0, 1), (406, .iload_n 3, 1), (407, .iconst 2, 1), (408, .iadd, 1), (409, .iaload, 1), (410, .aload_n 0, 1), (411, .iload_n 3, 1), (412, .iconst 3, 1), (413, .iadd, 1), (414, .iaload, 1), (415, .aload_n 0, 1), (416, .iload_n 3, 1), (417, .iconst 4, 1), (418, .iadd, 1), (419, .iaload, 1), (420, .invokevirtual 53, 3), (423, .aload_n 2, 1), (424, .aload_n 0, 1), (425, .iload_n 3, 1), (426, .iconst 1, 1), (427, .iadd, 1), (428, .iaload, 1), (429, .aload_n 0, 1), (430, .iload_n 3, 1), (431, .iconst 2, 1), (432, .iadd, 1), (433, .iaload, 1), (434, .aload_n 0, 1), (435, .iload_n 3, 1), (436, .iconst 3, 1), (437, .iadd, 1), (438, .iaload, 1), (439, .aload_n 0, 1), (440, .iload_n 3, 1), (441, .iconst 4, 1), (442, .iadd, 1), (443, .iaload, 1), (444, .invokevirtual 57, 3), (447, .if_icmp .eq 579, 3), (450, .iconst 0, 1), (451, .ireturn, 1), (452, .aload_n 1, 1), (453, .aload_n 0, 1), (454, .iload_n 3, 1), (455, .iconst 1, 1), (456, .iadd, 1), (457, .iaload, 1), (458, .aload_n 0, 1), (459, .iload_n 3, 1), (460, .iconst 2, 1), (461, .iadd, 1), (462, .iaload, 1), (463, .invokevirtual 58, 3), (466, .aload_n 2, 1), (467, .aload_n 0, 1), (468, .iload_n 3, 1), (469, .iconst 1, 1), (470, .iadd, 1), (471, .iaload, 1), (472, .aload_n 0, 1), (473, .iload_n 3, 1), (474, .iconst 2, 1), (475, .iadd, 1), (476, .iaload, 1), (477, .invokevirtual 61, 3), (480, .if_icmp .eq 546, 3), (483, .iconst 0, 1), (484, .ireturn, 1), (485, .aload_n 1, 1), (486, .aload_n 0, 1), (487, .iload_n 3, 1), (488, .iconst 1, 1), (489, .iadd, 1), (490, .iaload, 1), (491, .aload_n 0, 1), (492, .iload_n 3, 1), (493, .iconst 2, 1), (494, .iadd, 1), (495, .iaload, 1), (496, .invokevirtual 62, 3), (499, .aload_n 2, 1), (500, .aload_n 0, 1), (501, .iload_n 3, 1), (502, .iconst 1, 1), (503, .iadd, 1), (504, .iaload, 1), (505, .aload_n 0, 1), (506, .iload_n 3, 1), (507, .iconst 2, 1), (508, .iadd, 1), (509, .iaload, 1), (510, .invokevirtual 65, 3), (513, .if_icmp .eq 513, 3), (516, .iconst 0, 1), (517, .ireturn, 1), (518, .aload_n 1, 1), (519, .aload_n 0, 1), (520, .iload_n 3, 1), (521, .iconst 1, 1), (522, .iadd, 1), (523, .iaload, 1), (524, .aload_n 0, 1), (525, .iload_n 3, 1), (526, .iconst 2, 1), (527, .iadd, 1), (528, .iaload, 1), (529, .aload_n 0, 1), (530, .iload_n 3, 1), (531, .iconst 3, 1), (532, .iadd, 1), (533, .iaload, 1), (534, .invokevirtual 66, 3), (537, .aload_n 2, 1), (538, .aload_n 0, 1), (539, .iload_n 3, 1), (540, .iconst 1, 1), (541, .iadd, 1), (542, .iaload, 1), (543, .aload_n 0, 1), (544, .iload_n 3, 1), (545, .iconst 2, 1), (546, .iadd, 1), (547, .iaload, 1), (548, .aload_n 0, 1), (549, .iload_n 3, 1), (550, .iconst 3, 1), (551, .iadd, 1), (552, .iaload, 1), (553, .invokevirtual 69, 3), (556, .if_icmp .eq 470, 3), (559, .iconst 0, 1), (560, .ireturn, 1), (561, .aload_n 1, 1), (562, .aload_n 0, 1), (563, .iload_n 3, 1), (564, .iconst 1, 1), (565, .iadd, 1), (566, .iaload, 1), (567, .aload_n 0, 1), (568, .iload_n 3, 1), (569, .iconst 2, 1), (570, .iadd, 1), (571, .iaload, 1), (572, .invokevirtual 70, 3), (575, .aload_n 2, 1), (576, .aload_n 0, 1), (577, .iload_n 3, 1), (578, .iconst 1, 1), (579, .iadd, 1), (580, .iaload, 1), (581, .aload_n 0, 1), (582, .iload_n 3, 1), (583, .iconst 2, 1), (584, .iadd, 1), (585, .iaload, 1), (586, .invokevirtual 73, 3), (589, .if_icmp .eq 437, 3), (592, .iconst 0, 1), (593, .ireturn, 1), (594, .aload_n 1, 1), (595, .aload_n 0, 1), (596, .iload_n 3, 1), (597, .iconst 1, 1), (598, .iadd, 1), (599, .iaload, 1), (600, .aload_n 0, 1), (601, .iload_n 3, 1), (602, .iconst 2, 1), (603, .iadd, 1), (604, .iaload, 1), (605, .invokevirtual 74, 3), (608, .aload_n 2, 1), (609, .aload_n 0, 1), (610, .iload_n 3, 1), (611, .iconst 1, 1), (612, .iadd, 1), (613, .iaload, 1), (614, .aload_n 0, 1), (615, .iload_n 3, 1), (616, .iconst 2, 1), (617, .iadd, 1), (618, .iaload, 1), (619, .invokevirtual 77, 3), (622, .if_icmp .eq 404, 3), (625, .iconst 0, 1), (626, .ireturn, 1), (627, .aload_n 1, 1), (628, .aload_n 0, 1), (629, .iload_n 3, 1), (630, .iconst 1, 1), (631, .iadd, 1), (632, .iaload, 1), (633, .invokevirtual 78, 3), (636, .aload_n 2, 1), (637, .aload_n 0, 1), (638, .iload_n 3, 1), (639, .iconst 1, 1), (640, .iadd, 1), (641, .iaload, 1), (642, .invokevirtual 81, 3), (645, .if_icmp .eq 381, 3), (648, .iconst 0, 1), (649, .ireturn, 1), (650, .aload_n 1, 1), (651, .aload_n 0, 1), (652, .iload_n 3, 1), (653, .iconst 1, 1), (654, .iadd, 1), (655, .iaload, 1), (656, .aload_n 0, 1), (657, .iload_n 3, 1), (658, .iconst 2, 1), (659, .iadd, 1), (660, .iaload, 1), (661, .invokevirtual 82, 3), (664, .aload_n 2, 1), (665, .aload_n 0, 1), (666, .iload_n 3, 1), (667, .iconst 1, 1), (668, .iadd, 1), (669, .iaload, 1), (670, .aload_n 0, 1), (671, .iload_n 3, 1), (672, .iconst 2, 1), (673, .iadd, 1), (674, .iaload, 1), (675, .invokevirtual 85, 3), (678, .if_icmp .eq 348, 3), (681, .iconst 0, 1), (682, .ireturn, 1), (683, .aload_n 1, 1), (684, .aload_n 0, 1), (685, .iload_n 3, 1), (686, .iconst 1, 1), (687, .iadd, 1), (688, .iaload, 1), (689, .aload_n 0, 1), (690, .iload_n 3, 1), (691, .iconst 2, 1), (692, .iadd, 1), (693, .iaload, 1), (694, .invokevirtual 86, 3), (697, .aload_n 2, 1), (698, .aload_n 0, 1), (699, .iload_n 3, 1), (700, .iconst 1, 1), (701, .iadd, 1), (702, .iaload, 1), (703, .aload_n 0, 1), (704, .iload_n 3, 1), (705, .iconst 2, 1), (706, .iadd, 1), (707, .iaload, 1), (708, .invokevirtual 89, 3), (711, .if_icmp .eq 315, 3), (714, .iconst 0, 1), (715, .ireturn, 1), (716, .aload_n 1, 1), (717, .aload_n 0, 1), (718, .iload_n 3, 1), (719, .iconst 1, 1), (720, .iadd, 1), (721, .iaload, 1), (722, .aload_n 0, 1), (723, .iload_n 3, 1), (724, .iconst 2, 1), (725, .iadd, 1), (726, .iaload, 1), (727, .invokevirtual 90, 3), (730, .aload_n 2, 1), (731, .aload_n 0, 1), (732, .iload_n 3, 1), (733, .iconst 1, 1), (734, .iadd, 1), (735, .iaload, 1), (736, .aload_n 0, 1), (737, .iload_n 3, 1), (738, .iconst 2, 1), (739, .iadd, 1), (740, .iaload, 1), (741, .invokevirtual 93, 3), (744, .if_icmp .eq 282, 3), (747, .iconst 0, 1), (748, .ireturn, 1), (749, .aload_n 1, 1), (750, .aload_n 0, 1), (751, .iload_n 3, 1), (752, .iconst 1, 1), (753, .iadd, 1), (754, .iaload, 1), (755, .invokevirtual 94, 3), (758, .aload_n 2, 1), (759, .aload_n 0, 1), (760, .iload_n 3, 1), (761, .iconst 1, 1), (762, .iadd, 1), (763, .iaload, 1), (764, .invokevirtual 97, 3), (767, .if_icmp .eq 259, 3), (770, .iconst 0, 1), (771, .ireturn, 1), (772, .aload_n 1, 1), (773, .aload_n 0, 1), (774, .iload_n 3, 1), (775, .iconst 1, 1), (776, .iadd, 1), (777, .iaload, 1), (778, .invokevirtual 98, 3), (781, .aload_n 2, 1), (782, .aload_n 0, 1), (783, .iload_n 3, 1), (784, .iconst 1, 1), (785, .iadd, 1), (786, .iaload, 1), (787, .invokevirtual 101, 3), (790, .if_icmp .eq 236, 3), (793, .iconst 0, 1), (794, .ireturn, 1), (795, .aload_n 1, 1), (796, .invokevirtual 102, 3), (799, .aload_n 2, 1), (800, .invokevirtual 105, 3), (803, .if_icmp .eq 223, 3), (806, .iconst 0, 1), (807, .ireturn, 1), (808, .aload_n 1, 1), (809, .invokevirtual 106, 3), (812, .aload_n 2, 1), (813, .invokevirtual 109, 3), (816, .if_icmp .eq 210, 3), (819, .iconst 0, 1), (820, .ireturn, 1), (821, .aload_n 1, 1), (822, .aload_n 0, 1), (823, .iload_n 3, 1), (824, .iconst 1, 1), (825, .iadd, 1), (826, .iaload, 1), (827, .aload_n 0, 1), (828, .iload_n 3, 1), (829, .iconst 2, 1), (830, .iadd, 1), (831, .iaload, 1), (832, .aload_n 0, 1), (833, .iload_n 3, 1), (834, .iconst 3, 1), (835, .iadd, 1), (836, .iaload, 1), (837, .invokevirtual 110, 3), (840, .aload_n 2, 1), (841, .aload_n 0, 1), (842, .iload_n 3, 1), (843, .iconst 1, 1), (844, .iadd, 1), (845, .iaload, 1), (846, .aload_n 0, 1), (847, .iload_n 3, 1), (848, .iconst 2, 1), (849, .iadd, 1), (850, .iaload, 1), (851, .aload_n 0, 1), (852, .iload_n 3, 1), (853, .iconst 3, 1), (854, .iadd, 1), (855, .iaload, 1), (856, .invokevirtual 113, 3), (859, .if_icmp .eq 167, 3), (862, .iconst 0, 1), (863, .ireturn, 1), (864, .aload_n 1, 1), (865, .aload_n 0, 1), (866, .iload_n 3, 1), (867, .iconst 1, 1), (868, .iadd, 1), (869, .iaload, 1), (870, .invokevirtual 114, 3), (873, .aload_n 2, 1), (874, .aload_n 0, 1), (875, .iload_n 3, 1), (876, .iconst 1, 1), (877, .iadd, 1), (878, .iaload, 1), (879, .invokevirtual 117, 3), (882, .if_icmp .eq 144, 3), (885, .iconst 0, 1), (886, .ireturn, 1), (887, .aload_n 1, 1), (888, .aload_n 0, 1), (889, .iload_n 3, 1), (890, .iconst 1, 1), (891, .iadd, 1), (892, .iaload, 1), (893, .invokevirtual 118, 3), (896, .aload_n 2, 1), (897, .aload_n 0, 1), (898, .iload_n 3, 1), (899, .iconst 1, 1), (900, .iadd, 1), (901, .iaload, 1), (902, .invokevirtual 121, 3), (905, .if_icmp .eq 121, 3), (908, .iconst 0, 1), (909, .ireturn, 1), (910, .aload_n 1, 1), (911, .aload_n 0, 1), (912, .iload_n 3, 1), (913, .iconst 1, 1), (914, .iadd, 1), (915, .iaload, 1), (916, .invokevirtual 122, 3), (919, .aload_n 2, 1), (920, .aload_n 0, 1), (921, .iload_n 3, 1), (922, .iconst 1, 1), (923, .iadd, 1), (924, .iaload, 1), (925, .invokevirtual 125, 3), (928, .if_icmp .eq 98, 3), (931, .iconst 0, 1), (932, .ireturn, 1), (933, .aload_n 1, 1), (934, .aload_n 0, 1), (935, .iload_n 3, 1), (936, .iconst 1, 1), (937, .iadd, 1), (938, .iaload, 1), (939, .aload_n 0, 1), (940, .iload_n 3, 1), (941, .iconst 2, 1), (942, .iadd, 1), (943, .iaload, 1), (944, .invokevirtual 126, 3), (947, .aload_n 2, 1), (948, .aload_n 0, 1), (949, .iload_n 3, 1), (950, .iconst 1, 1), (951, .iadd, 1), (952, .iaload, 1), (953, .aload_n 0, 1), (954, .iload_n 3, 1), (955, .iconst 2, 1), (956, .iadd, 1), (957, .iaload, 1), (958, .invokevirtual 129, 3), (961, .if_icmp .eq 65, 3), (964, .iconst 0, 1), (965, .ireturn, 1), (966, .aload_n 1, 1), (967, .aload_n 0, 1), (968, .iload_n 3, 1), (969, .iconst 1, 1), (970, .iadd, 1), (971, .iaload, 1), (972, .invokevirtual 130, 3), (975, .aload_n 2, 1), (976, .aload_n 0, 1), (977, .iload_n 3, 1), (978, .iconst 1, 1), (979, .iadd, 1), (980, .iaload, 1), (981, .invokevirtual 133, 3), (984, .if_icmp .eq 42, 3), (987, .iconst 0, 1), (988, .ireturn, 1), (989, .aload_n 1, 1), (990, .aload_n 0, 1), (991, .iload_n 3, 1), (992, .iconst 1, 1), (993, .iadd, 1), (994, .iaload, 1), (995, .invokevirtual 134, 3), (998, .aload_n 2, 1), (999, .aload_n 0, 1), (1000, .iload_n 3, 1), (1001, .iconst 1, 1), (1002, .iadd, 1), (1003, .iaload, 1), (1004, .invokevirtual 137, 3), (1007, .if_icmp .eq 19, 3), (1010, .iconst 0, 1), (1011, .ireturn, 1), (1012, .aload_n 1, 1), (1013, .invokevirtual 138, 3), (1016, .aload_n 2, 1), (1017, .invokevirtual 142, 3), (1020, .lcmp, 1), (1021, .ifCond .eq 5, 3), (1024, .iconst 0, 1), (1025, .ireturn, 1), (1026, .iinc 3 5, 3), (1029, .goto (-1011), 3), (1032, .iconst 1, 1), (1033, .ireturn, 1)]
def mvCdl : List (List (Nat × Instr × Nat)) := [mvC0, mvC1, mvC2, mvC3, mvC4, mvC5, mvC6, mvC7, mvC8, mvC9, mvC10, mvC11, mvC12, mvC13, mvC14, mvC15, mvC16, mvC17, mvC18, mvC19, mvC20, mvC21, mvC22, mvC23, mvC24, mvC25, mvC26, mvC27, mvC28, mvC29, mvC30, mvC31, mvC32, mvC33, mvC34, mvC35, mvC36, mvC37, mvC38, mvC39, mvC40, mvC41, mvC42, mvC43, mvC44, mvC45, mvC46, mvC47, mvC48, mvC49, mvC50, mvC51, mvC52, mvC53, mvC54, mvC55, mvC56, mvC57, mvC58, mvC59, mvC60, mvC61, mvC62, mvC63, mvC64, mvC65, mvC66, mvC67, mvC68, mvC69, mvC70, mvC71, mvC72, mvC73, mvC74, mvC75, mvC76, mvC77, mvC78, mvC79, mvC80, mvC81, mvC82, mvC83, mvC84, mvC85, mvC86, mvC87, mvC88, mvC89, mvC90, mvC91, mvC92, mvC93, mvC94, mvC95, mvC96, mvC97, mvC98, mvC99, mvC100, mvC101, mvC102, mvC103, mvC104, mvC105, mvC106, mvC107, mvC108, mvC109, mvC110, mvC111, mvC112, mvC113, mvC114, mvC115, mvC116, mvC117, mvC118, mvC119, mvC120, mvC121, mvC122, mvC123, mvC124, mvC125, mvC126, mvC127, mvC128, mvC129, mvC130, mvC131, mvC132, mvC133, mvC134, mvC135, mvC136, mvC137, mvC138, mvC139, mvC140, mvC141, mvC142, mvC143, mvC144, mvC145, mvC146, mvC147, mvC148, mvC149, mvC150, mvC151, mvC152, mvC153, mvC154, mvC155, mvC156, mvC157, mvC158, mvC159, mvC160, mvC161, mvC162, mvC163, mvC164, mvC165, mvC166, mvC167, mvC168, mvC169, mvC170, mvC171, mvC172, mvC173, mvC174, mvC175, mvC176, mvC177, mvC178, mvC179, mvC180, mvC181, mvC182, mvC183, mvC184, mvC185, mvC186, mvC187, mvC188, mvC189, mvC190, mvC191, mvC192, mvC193, mvC194, mvC195, mvC196, mvC197, mvC198, mvC199, mvC200, mvC201, mvC202, mvC203, mvC204, mvC205, mvC206, mvC207, mvC208, mvC209, mvC210, mvC211, mvC212, mvC213, mvC214, mvC215, mvC216, mvC217, mvC218, mvC219, mvC220, mvC221, mvC222, mvC223, mvC224, mvC225, mvC226, mvC227, mvC228, mvC229, mvC230, mvC231, mvC232, mvC233, mvC234, mvC235, mvC236, mvC237, mvC238, mvC239, mvC240, mvC241, mvC242, mvC243, mvC244, mvC245, mvC246, mvC247, mvC248, mvC249, mvC250, mvC251, mvC252, mvC253, mvC254, mvC255]
/-- calls: (own class, pool place), (0 virtual, 1 static, 2 a constructor; 4 static, 6 a constructor of a nest mate; 5 that of Object; 7, 8 Math.max, Math.min), the method -/
def mvMl : List ((Nat × Nat) × (Nat × Nat)) := [((0, 3), (5, 0)), ((0, 11), (6, 74)), ((0, 18), (6, 76)), ((0, 28), (6, 88)), ((0, 35), (6, 93)), ((0, 42), (6, 98)), ((0, 49), (6, 99)), ((0, 56), (6, 157)), ((0, 63), (6, 104)), ((0, 70), (6, 106)), ((0, 79), (0, 5)), ((0, 83), (0, 75)), ((0, 87), (0, 148)), ((0, 91), (0, 207)), ((0, 95), (0, 94)), ((0, 101), (0, 147)), ((0, 107), (0, 8)), ((0, 111), (0, 9)), ((0, 114), (0, 218)), ((0, 118), (0, 78)), ((0, 122), (0, 20)), ((0, 125), (0, 11)), ((0, 128), (0, 12)), ((0, 135), (0, 79)), ((0, 138), (0, 82)), ((0, 141), (0, 19)), ((0, 145), (0, 3)), ((0, 148), (0, 22)), ((0, 151), (0, 149)), ((0, 154), (1, 4)), ((0, 158), (0, 183)), ((0, 162), (0, 180)), ((0, 166), (0, 25)), ((0, 169), (0, 86)), ((0, 172), (0, 181)), ((0, 175), (0, 87)), ((0, 179), (0, 153)), ((0, 184), (0, 26)), ((0, 190), (0, 27)), ((0, 199), (0, 73)), ((0, 205), (0, 219)), ((0, 208), (0, 29)), ((0, 215), (0, 72)), ((0, 218), (0, 30)), ((0, 221), (0, 100)), ((0, 225), (0, 185)), ((0, 231), (0, 32)), ((0, 234), (0, 33)), ((0, 237), (0, 220)), ((0, 239), (0, 103)), ((0, 244), (0, 186)), ((0, 253), (0, 221)), ((0, 263), (0, 37)), ((0, 264), (0, 21)), ((0, 269), (0, 146)), ((0, 273), (0, 206)), ((0, 276), (0, 71)), ((0, 279), (0, 242)), ((0, 282), (1, 2)), ((0, 289), (0, 70)), ((0, 295), (0, 10)), ((0, 302), (0, 35)), ((0, 305), (0, 208)), ((0, 308), (0, 154)), ((0, 312), (0, 150)), ((0, 315), (0, 85)), ((0, 318), (0, 92)), ((1, 3), (5, 0)), ((1, 19), (1, 7)), ((1, 23), (0, 6)), ((1, 27), (0, 75)), ((1, 30), (0, 77)), ((1, 36), (0, 10)), ((1, 40), (0, 78)), ((2, 3), (5, 0)), ((2, 43), (1, 65)), ((2, 49), (0, 8)), ((2, 53), (0, 80)), ((2, 57), (0, 182)), ((2, 60), (0, 15)), ((2, 64), (0, 13)), ((2, 68), (0, 150)), ((2, 72), (1, 14)), ((2, 75), (0, 23)), ((2, 79), (0, 81)), ((2, 83), (0, 24)), ((2, 86), (7, 0)), ((2, 94), (0, 83)), ((2, 97), (0, 84)), ((2, 100), (8, 0)), ((3, 3), (5, 0)), ((3, 43), (0, 89)), ((3, 47), (0, 151)), ((3, 50), (0, 152)), ((3, 53), (0, 90)), ((3, 65), (0, 24)), ((3, 69), (1, 65)), ((3, 75), (0, 84)), ((3, 79), (4, 4)), ((3, 86), (0, 91)), ((3, 90), (0, 26)), ((3, 93), (0, 23)), ((4, 3), (5, 0)), ((4, 15), (1, 65)), ((4, 25), (0, 95)), ((4, 29), (1, 96)), ((4, 36), (0, 85)), ((4, 42), (1, 97)), ((4, 48), (0, 25)), ((4, 52), (0, 28)), ((4, 56), (8, 0)), ((4, 61), (7, 0)), ((5, 3), (5, 0)), ((5, 41), (0, 154)), ((5, 50), (0, 155)), ((5, 54), (0, 184)), ((5, 63), (0, 84)), ((6, 3), (5, 0)), ((6, 24), (1, 65)), ((6, 39), (0, 18)), ((6, 43), (0, 28)), ((6, 49), (0, 31)), ((6, 53), (0, 156)), ((6, 57), (0, 34)), ((6, 61), (0, 101)), ((6, 65), (0, 32)), ((6, 68), (0, 33)), ((6, 71), (0, 19)), ((7, 3), (5, 0)), ((7, 11), (6, 76)), ((7, 20), (6, 88)), ((7, 27), (6, 98)), ((7, 41), (0, 77)), ((7, 49), (1, 102)), ((7, 53), (0, 16)), ((7, 57), (0, 17)), ((7, 60), (0, 10)), ((7, 64), (0, 207)), ((7, 68), (0, 183)), ((7, 72), (0, 208)), ((7, 75), (0, 18)), ((7, 78), (0, 28)), ((7, 90), (0, 29)), ((8, 3), (5, 0)), ((8, 30), (0, 150)), ((8, 34), (1, 105)), ((8, 38), (0, 24)), ((8, 42), (1, 66)), ((9, 3), (5, 0)), ((9, 24), (0, 107)), ((9, 32), (0, 108)), ((9, 36), (0, 109)), ((9, 39), (0, 187)), ((9, 47), (0, 209)), ((9, 71), (1, 65)), ((9, 77), (0, 23)), ((9, 81), (0, 16)), ((9, 84), (0, 17)), ((9, 87), (0, 24)), ((9, 90), (4, 4)), ((9, 94), (0, 36)), ((9, 98), (0, 158)), ((10, 1), (5, 0)), ((10, 95), (1, 38)), ((10, 112), (0, 40)), ((10, 116), (0, 112)), ((10, 120), (0, 159)), ((10, 124), (0, 42)), ((10, 128), (0, 113)), ((10, 131), (0, 41)), ((10, 135), (0, 160)), ((10, 144), (0, 189)), ((10, 154), (0, 161)), ((10, 157), (0, 115)), ((10, 160), (0, 44)), ((10, 163), (0, 114)), ((10, 166), (0, 45)), ((10, 170), (0, 116)), ((10, 173), (0, 46)), ((10, 176), (0, 117)), ((10, 179), (0, 211)), ((10, 183), (0, 162)), ((10, 186), (0, 47)), ((10, 189), (0, 48)), ((10, 193), (0, 118)), ((10, 196), (0, 50)), ((10, 200), (0, 53)), ((10, 203), (0, 58)), ((10, 207), (0, 57)), ((10, 210), (0, 121)), ((10, 216), (0, 163)), ((10, 219), (0, 122)), ((10, 225), (0, 120)), ((10, 228), (0, 123)), ((10, 231), (0, 49)), ((10, 234), (0, 55)), ((10, 237), (0, 192)), ((10, 240), (0, 56)), ((10, 243), (0, 124)), ((10, 246), (0, 51)), ((10, 250), (0, 52)), ((10, 253), (0, 225)), ((10, 256), (0, 213)), ((10, 259), (0, 164)), ((10, 262), (0, 43)), ((10, 265), (0, 54)), ((10, 268), (0, 243)), ((10, 271), (0, 125)), ((10, 275), (0, 126)), ((10, 278), (0, 127)), ((10, 281), (0, 169)), ((10, 284), (0, 226)), ((10, 287), (0, 128)), ((10, 290), (0, 119)), ((10, 293), (0, 227)), ((10, 296), (0, 130)), ((10, 299), (0, 171)), ((10, 302), (0, 228)), ((10, 305), (0, 172)), ((10, 308), (0, 131)), ((10, 311), (0, 230)), ((10, 314), (0, 173)), ((10, 317), (0, 174)), ((10, 320), (0, 193)), ((10, 323), (0, 132)), ((10, 326), (0, 214)), ((10, 329), (0, 59)), ((10, 332), (0, 196)), ((10, 335), (0, 195)), ((10, 338), (0, 232)), ((10, 353), (0, 61)), ((10, 356), (0, 60)), ((10, 359), (0, 133)), ((10, 369), (0, 135)), ((10, 372), (0, 136)), ((10, 375), (0, 176)), ((10, 381), (0, 197)), ((10, 384), (0, 215)), ((10, 393), (0, 62)), ((10, 396), (0, 63)), ((10, 399), (0, 138)), ((10, 407), (0, 64)), ((10, 411), (0, 198)), ((10, 416), (0, 249)), ((10, 419), (0, 250)), ((10, 422), (0, 251)), ((10, 425), (0, 139)), ((11, 9), (2, 178)), ((11, 12), (2, 110)), ((11, 13), (0, 67)), ((11, 17), (0, 111)), ((11, 18), (0, 0)), ((11, 22), (0, 39)), ((11, 23), (0, 140)), ((11, 26), (0, 188)), ((11, 27), (0, 216)), ((11, 30), (0, 210)), ((11, 31), (0, 234)), ((11, 35), (0, 222)), ((11, 36), (0, 235)), ((11, 39), (0, 223)), ((11, 40), (0, 236)), ((11, 43), (0, 224)), ((11, 44), (0, 217)), ((11, 47), (0, 212)), ((11, 48), (0, 141)), ((11, 52), (0, 190)), ((11, 53), (0, 142)), ((11, 57), (0, 191)), ((11, 58), (0, 199)), ((11, 61), (0, 253)), ((11, 62), (0, 68)), ((11, 65), (0, 165)), ((11, 66), (0, 179)), ((11, 69), (0, 166)), ((11, 70), (0, 200)), ((11, 73), (0, 167)), ((11, 74), (0, 201)), ((11, 77), (0, 168)), ((11, 78), (0, 202)), ((11, 81), (0, 244)), ((11, 82), (0, 203)), ((11, 85), (0, 245)), ((11, 86), (0, 143)), ((11, 89), (0, 129)), ((11, 90), (0, 144)), ((11, 93), (0, 170)), ((11, 94), (0, 237)), ((11, 97), (0, 246)), ((11, 98), (0, 238)), ((11, 101), (0, 229)), ((11, 102), (0, 239)), ((11, 105), (0, 247)), ((11, 106), (0, 204)), ((11, 109), (0, 231)), ((11, 110), (0, 145)), ((11, 113), (0, 194)), ((11, 114), (0, 240)), ((11, 117), (0, 248)), ((11, 118), (0, 205)), ((11, 121), (0, 175)), ((11, 122), (0, 1)), ((11, 125), (0, 134)), ((11, 126), (0, 241)), ((11, 129), (0, 233)), ((11, 130), (0, 69)), ((11, 133), (0, 137)), ((11, 134), (0, 70)), ((11, 137), (0, 177)), ((11, 138), (0, 252)), ((11, 142), (0, 254))]
def mvFl : List ((Nat × Nat) × (Nat × Nat)) := [((0, 12), (0, 0)), ((0, 19), (0, 1)), ((0, 23), (0, 2)), ((0, 29), (0, 3)), ((0, 36), (0, 4)), ((0, 43), (0, 5)), ((0, 50), (0, 6)), ((0, 57), (0, 7)), ((0, 64), (0, 8)), ((0, 71), (0, 9)), ((0, 75), (1, 1)), ((0, 98), (0, 10)), ((0, 104), (2, 0)), ((0, 131), (2, 2)), ((0, 181), (2, 1)), ((0, 187), (3, 4)), ((0, 193), (4, 0)), ((0, 196), (4, 1)), ((0, 202), (4, 2)), ((0, 209), (5, 1)), ((0, 212), (5, 2)), ((0, 228), (6, 0)), ((0, 240), (9, 0)), ((0, 248), (8, 0)), ((0, 251), (8, 1)), ((0, 257), (0, 11)), ((0, 260), (9, 1)), ((0, 286), (1, 0)), ((0, 294), (3, 1)), ((0, 298), (3, 0)), ((0, 301), (5, 0)), ((1, 9), (1, 0)), ((1, 15), (1, 1)), ((2, 9), (2, 2)), ((2, 15), (2, 3)), ((2, 18), (2, 4)), ((2, 21), (2, 5)), ((2, 24), (2, 6)), ((2, 27), (2, 7)), ((2, 30), (2, 8)), ((2, 33), (2, 9)), ((2, 36), (2, 0)), ((2, 40), (2, 1)), ((3, 9), (3, 4)), ((3, 15), (3, 5)), ((3, 18), (3, 6)), ((3, 21), (3, 7)), ((3, 24), (3, 8)), ((3, 27), (3, 9)), ((3, 30), (3, 0)), ((3, 34), (2, 1)), ((3, 40), (3, 3)), ((3, 56), (3, 2)), ((3, 59), (2, 0)), ((3, 62), (2, 2)), ((3, 83), (3, 1)), ((4, 9), (4, 2)), ((4, 21), (4, 0)), ((4, 33), (4, 1)), ((4, 45), (2, 0)), ((5, 9), (5, 2)), ((5, 15), (5, 5)), ((5, 19), (5, 0)), ((5, 23), (5, 3)), ((5, 27), (5, 4)), ((5, 30), (3, 1)), ((5, 35), (3, 7)), ((5, 38), (3, 6)), ((5, 47), (3, 2)), ((5, 58), (2, 0)), ((5, 67), (3, 5)), ((5, 70), (5, 1)), ((5, 73), (2, 1)), ((6, 9), (6, 0)), ((6, 15), (6, 1)), ((6, 18), (6, 2)), ((6, 21), (6, 3)), ((6, 30), (2, 0)), ((6, 36), (2, 2)), ((7, 12), (7, 0)), ((7, 21), (7, 1)), ((7, 28), (7, 2)), ((7, 32), (3, 0)), ((7, 36), (5, 0)), ((7, 37), (2, 0)), ((7, 45), (2, 2)), ((7, 84), (2, 1)), ((7, 87), (3, 1)), ((8, 9), (8, 0)), ((8, 15), (8, 1)), ((8, 19), (2, 1)), ((9, 9), (9, 5)), ((9, 15), (9, 6)), ((9, 18), (9, 7)), ((9, 21), (9, 8)), ((9, 27), (8, 1)), ((9, 43), (8, 0)), ((9, 50), (9, 1)), ((9, 53), (2, 0)), ((9, 58), (9, 0)), ((9, 62), (9, 4)), ((9, 65), (9, 2)), ((9, 68), (9, 3)), ((10, 7), (10, 1)), ((10, 13), (10, 2)), ((10, 16), (10, 3)), ((10, 19), (10, 4)), ((10, 22), (10, 5)), ((10, 25), (10, 6)), ((10, 28), (10, 11)), ((10, 31), (10, 18)), ((10, 34), (10, 22)), ((10, 37), (10, 23)), ((10, 40), (10, 24)), ((10, 43), (10, 25)), ((10, 46), (10, 26)), ((10, 49), (10, 27)), ((10, 53), (10, 28)), ((10, 56), (10, 29)), ((10, 59), (10, 30)), ((10, 62), (10, 31)), ((10, 65), (10, 32)), ((10, 68), (10, 33)), ((10, 71), (10, 34)), ((10, 74), (10, 35)), ((10, 77), (10, 36)), ((10, 80), (10, 37)), ((10, 83), (10, 38)), ((10, 86), (10, 39)), ((10, 89), (10, 41)), ((10, 92), (10, 42)), ((10, 99), (10, 17)), ((10, 103), (10, 19)), ((10, 106), (10, 20)), ((10, 109), (10, 21)), ((10, 138), (10, 0)), ((10, 141), (10, 9)), ((10, 147), (10, 10)), ((10, 151), (10, 12)), ((10, 213), (10, 7)), ((10, 222), (10, 8)), ((10, 343), (10, 40)), ((10, 363), (10, 43)), ((10, 366), (10, 15)), ((10, 378), (10, 14)), ((10, 387), (10, 13)), ((10, 390), (10, 16)), ((10, 404), (10, 44))]
def mvKl : List ((Nat × Nat) × Nat) := [((0, 9), 1), ((0, 16), 2), ((0, 26), 3), ((0, 33), 4), ((0, 40), 5), ((0, 47), 6), ((0, 54), 7), ((0, 61), 8), ((0, 68), 9), ((7, 9), 2), ((7, 18), 3), ((7, 25), 5), ((11, 7), 0), ((11, 10), 10)]
def mvJl : List ((Nat × Nat) × Int) := [((0, 267), 1549), ((0, 292), 31), ((8, 24), 1103515245), ((8, 26), 12345), ((8, 28), 2147483648), ((8, 47), 65536), ((10, 341), 1103515245), ((10, 347), 12345), ((10, 349), 2147483648), ((10, 351), 65536), ((10, 402), 31), ((10, 414), 1549)]
def mvIl : List ((Nat × Nat) × Int) := [((15, 265), 1431655765), ((15, 266), 858993459), ((15, 267), 252645135)]
end
section
/-- words by their places -/
theorem mv_mem {α : Type} {big ws : List α} (ps : List Nat) (h : ws = ps.filterMap (fun i => big[i]?)) : ∀ w ∈ ws, w ∈ big := by
  intro w hw
  rw [h] at hw
  obtain ⟨i, -, hi⟩ := List.mem_filterMap.mp hw
  exact List.mem_of_getElem? hi
def mvDecOk (q : mvMt × List (Nat × Instr × Nat)) : Prop := ∀ x ∈ q.2, decode q.1.2.1 x.1 = .ok (x.2.1, x.2.2)
theorem mvD0 : ∀ x ∈ mvC0, decode prog_1_method_3_code x.1 = .ok (x.2.1, x.2.2) := by decide +kernel
theorem mvD1 : ∀ x ∈ mvC1, decode prog_1_method_28_code x.1 = .ok (x.2.1, x.2.2) := by decide +kernel
theorem mvD2 : ∀ x ∈ mvC2, decode prog_1_method_33_code x.1 = .ok (x.2.1, x.2.2) := by decide +kernel
theorem mvD3 : ∀ x ∈ mvC3, decode prog_1_method_38_code x.1 = .ok (x.2.1, x.2.2) := by decide +kernel
theorem mvD4 : ∀ x ∈ mvC4, decode prog_1_method_46_code x.1 = .ok (x.2.1, x.2.2) := by decide +kernel
theorem mvD5 : ∀ x ∈ mvC5, decode prog_6_method_2_code x.1 = .ok (x.2.1, x.2.2) := by decide +kernel
theorem mvD6 : ∀ x ∈ mvC6, decode prog_6_method_5_code x.1 = .ok (x.2.1, x.2.2) := by decide +kernel
theorem mvD7 : ∀ x ∈ mvC7, decode prog_6_method_6_code x.1 = .ok (x.2.1, x.2.2) := by decide +kernel
theorem mvD8 : ∀ x ∈ mvC8, decode prog_2_method_3_code x.1 = .ok (x.2.1, x.2.2) := by decide +kernel
theorem mvD9 : ∀ x ∈ mvC9, decode prog_2_method_6_code x.1 = .ok (x.2.1, x.2.2) := by decide +kernel
theorem mvD10 : ∀ x ∈ mvC10, decode prog_2_method_7_code x.1 = .ok (x.2.1, x.2.2) := by decide +kernel
theorem mvD11 : ∀ x ∈ mvC11, decode prog_2_method_8_code x.1 = .ok (x.2.1, x.2.2) := by decide +kernel
theorem mvD12 : ∀ x ∈ mvC12, decode prog_2_method_9_code x.1 = .ok (x.2.1, x.2.2) := by decide +kernel
theorem mvD13 : ∀ x ∈ mvC13, decode prog_2_method_12_code x.1 = .ok (x.2.1, x.2.2) := by decide +kernel
theorem mvD14 : ∀ x ∈ mvC14, decode prog_2_method_15_code x.1 = .ok (x.2.1, x.2.2) := by decide +kernel
theorem mvD15 : ∀ x ∈ mvC15, decode prog_2_method_16_code x.1 = .ok (x.2.1, x.2.2) := by decide +kernel
theorem mvD16 : ∀ x ∈ mvC16, decode prog_2_method_17_code x.1 = .ok (x.2.1, x.2.2) := by decide +kernel
theorem mvD17 : ∀ x ∈ mvC17, decode prog_2_method_18_code x.1 = .ok (x.2.1, x.2.2) := by decide +kernel
theorem mvD18 : ∀ x ∈ mvC18, decode prog_2_method_19_code x.1 = .ok (x.2.1, x.2.2) := by decide +kernel
theorem mvD19 : ∀ x ∈ mvC19, decode prog_2_method_21_code x.1 = .ok (x.2.1, x.2.2) := by decide +kernel
theorem mvD20 : ∀ x ∈ mvC20, decode prog_2_method_22_code x.1 = .ok (x.2.1, x.2.2) := by decide +kernel
theorem mvD21 : ∀ x ∈ mvC21, decode prog_2_method_23_code x.1 = .ok (x.2.1, x.2.2) := by decide +kernel
theorem mvD22 : ∀ x ∈ mvC22, decode prog_2_method_24_code x.1 = .ok (x.2.1, x.2.2) := by decide +kernel
theorem mvD23 : ∀ x ∈ mvC23, decode prog_2_method_25_code x.1 = .ok (x.2.1, x.2.2) := by decide +kernel
theorem mvD24 : ∀ x ∈ mvC24, decode prog_2_method_26_code x.1 = .ok (x.2.1, x.2.2) := by decide +kernel
theorem mvD25 : ∀ x ∈ mvC25, decode prog_2_method_31_code x.1 = .ok (x.2.1, x.2.2) := by decide +kernel
theorem mvD26 : ∀ x ∈ mvC26, decode prog_4_method_8_code x.1 = .ok (x.2.1, x.2.2) := by decide +kernel
theorem mvD27 : ∀ x ∈ mvC27, decode prog_4_method_10_code x.1 = .ok (x.2.1, x.2.2) := by decide +kernel
theorem mvD28 : ∀ x ∈ mvC28, decode prog_8_method_3_code x.1 = .ok (x.2.1, x.2.2) := by decide +kernel
theorem mvD29 : ∀ x ∈ mvC29, decode prog_9_method_5_code x.1 = .ok (x.2.1, x.2.2) := by decide +kernel
theorem mvD30 : ∀ x ∈ mvC30, decode prog_9_method_6_code x.1 = .ok (x.2.1, x.2.2) := by decide +kernel
theorem mvD31 : ∀ x ∈ mvC31, decode prog_3_method_3_code x.1 = .ok (x.2.1, x.2.2) := by decide +kernel
theorem mvD32 : ∀ x ∈ mvC32, decode prog_3_method_4_code x.1 = .ok (x.2.1, x.2.2) := by decide +kernel
theorem mvD33 : ∀ x ∈ mvC33, decode prog_3_method_5_code x.1 = .ok (x.2.1, x.2.2) := by decide +kernel
theorem mvD34 : ∀ x ∈ mvC34, decode prog_3_method_7_code x.1 = .ok (x.2.1, x.2.2) := by decide +kernel
theorem mvD35 : ∀ x ∈ mvC35, decode prog_5_method_2_code x.1 = .ok (x.2.1, x.2.2) := by decide +kernel
theorem mvD36 : ∀ x ∈ mvC36, decode prog_10_method_8_code x.1 = .ok (x.2.1, x.2.2) := by decide +kernel
theorem mvD37 : ∀ x ∈ mvC37, decode prog_10_method_10_code x.1 = .ok (x.2.1, x.2.2) := by decide +kernel
theorem mvD38 : ∀ x ∈ mvC38, decode prog_12_method_3_code x.1 = .ok (x.2.1, x.2.2) := by decide +kernel
theorem mvD39 : ∀ x ∈ mvC39, decode prog_12_method_5_code x.1 = .ok (x.2.1, x.2.2) := by decide +kernel
theorem mvD40 : ∀ x ∈ mvC40, decode prog_12_method_6_code x.1 = .ok (x.2.1, x.2.2) := by decide +kernel
theorem mvD41 : ∀ x ∈ mvC41, decode prog_12_method_10_code x.1 = .ok (x.2.1, x.2.2) := by decide +kernel
theorem mvD42 : ∀ x ∈ mvC42, decode prog_12_method_11_code x.1 = .ok (x.2.1, x.2.2) := by decide +kernel
theorem mvD43 : ∀ x ∈ mvC43, decode prog_12_method_15_code x.1 = .ok (x.2.1, x.2.2) := by decide +kernel
theorem mvD44 : ∀ x ∈ mvC44, decode prog_12_method_17_code x.1 = .ok (x.2.1, x.2.2) := by decide +kernel
theorem mvD45 : ∀ x ∈ mvC45, decode prog_12_method_21_code x.1 = .ok (x.2.1, x.2.2) := by decide +kernel
theorem mvD46 : ∀ x ∈ mvC46, decode prog_12_method_24_code x.1 = .ok (x.2.1, x.2.2) := by decide +kernel
theorem mvD47 : ∀ x ∈ mvC47, decode prog_12_method_31_code x.1 = .ok (x.2.1, x.2.2) := by decide +kernel
theorem mvD48 : ∀ x ∈ mvC48, decode prog_12_method_33_code x.1 = .ok (x.2.1, x.2.2) := by decide +kernel
theorem mvD49 : ∀ x ∈ mvC49, decode prog_12_method_36_code x.1 = .ok (x.2.1, x.2.2) := by decide +kernel
theorem mvD50 : ∀ x ∈ mvC50, decode prog_12_method_37_code x.1 = .ok (x.2.1, x.2.2) := by decide +kernel
theorem mvD51 : ∀ x ∈ mvC51, decode prog_12_method_38_code x.1 = .ok (x.2.1, x.2.2) := by decide +kernel
theorem mvD52 : ∀ x ∈ mvC52, decode prog_12_method_39_code x.1 = .ok (x.2.1, x.2.2) := by decide +kernel
theorem mvD53 : ∀ x ∈ mvC53, decode prog_12_method_40_code x.1 = .ok (x.2.1, x.2.2) := by decide +kernel
theorem mvD54 : ∀ x ∈ mvC54, decode prog_12_method_42_code x.1 = .ok (x.2.1, x.2.2) := by decide +kernel
theorem mvD55 : ∀ x ∈ mvC55, decode prog_12_method_43_code x.1 = .ok (x.2.1, x.2.2) := by decide +kernel
theorem mvD56 : ∀ x ∈ mvC56, decode prog_12_method_44_code x.1 = .ok (x.2.1, x.2.2) := by decide +kernel
theorem mvD57 : ∀ x ∈ mvC57, decode prog_12_method_45_code x.1 = .ok (x.2.1, x.2.2) := by decide +kernel
theorem mvD58 : ∀ x ∈ mvC58, decode prog_12_method_46_code x.1 = .ok (x.2.1, x.2.2) := by decide +kernel
theorem mvD59 : ∀ x ∈ mvC59, decode prog_12_method_90_code x.1 = .ok (x.2.1, x.2.2) := by decide +kernel
theorem mvD60 : ∀ x ∈ mvC60, decode prog_12_method_95_code x.1 = .ok (x.2.1, x.2.2) := by decide +kernel
theorem mvD61 : ∀ x ∈ mvC61, decode prog_12_method_96_code x.1 = .ok (x.2.1, x.2.2) := by decide +kernel
theorem mvD62 : ∀ x ∈ mvC62, decode prog_12_method_106_code x.1 = .ok (x.2.1, x.2.2) := by decide +kernel
theorem mvD63 : ∀ x ∈ mvC63, decode prog_12_method_108_code x.1 = .ok (x.2.1, x.2.2) := by decide +kernel
theorem mvD64 : ∀ x ∈ mvC64, decode prog_12_method_111_code x.1 = .ok (x.2.1, x.2.2) := by decide +kernel
theorem mvD65 : ∀ x ∈ mvC65, decode prog_15_method_103_code x.1 = .ok (x.2.1, x.2.2) := by decide +kernel
theorem mvD66 : ∀ x ∈ mvC66, decode prog_13_method_49_code x.1 = .ok (x.2.1, x.2.2) := by decide +kernel
theorem mvD67 : ∀ x ∈ mvC67, decode prog_1_method_2_code x.1 = .ok (x.2.1, x.2.2) := by decide +kernel
theorem mvD68 : ∀ x ∈ mvC68, decode prog_1_method_13_code x.1 = .ok (x.2.1, x.2.2) := by decide +kernel
theorem mvD69 : ∀ x ∈ mvC69, decode prog_1_method_30_code x.1 = .ok (x.2.1, x.2.2) := by decide +kernel
theorem mvD70 : ∀ x ∈ mvC70, decode prog_1_method_31_code x.1 = .ok (x.2.1, x.2.2) := by decide +kernel
theorem mvD71 : ∀ x ∈ mvC71, decode prog_1_method_36_code x.1 = .ok (x.2.1, x.2.2) := by decide +kernel
theorem mvD72 : ∀ x ∈ mvC72, decode prog_1_method_39_code x.1 = .ok (x.2.1, x.2.2) := by decide +kernel
theorem mvD73 : ∀ x ∈ mvC73, decode prog_1_method_42_code x.1 = .ok (x.2.1, x.2.2) := by decide +kernel
theorem mvD74 : ∀ x ∈ mvC74, decode prog_6_method_1_code x.1 = .ok (x.2.1, x.2.2) := by decide +kernel
theorem mvD75 : ∀ x ∈ mvC75, decode prog_6_method_3_code x.1 = .ok (x.2.1, x.2.2) := by decide +kernel
theorem mvD76 : ∀ x ∈ mvC76, decode prog_2_method_1_code x.1 = .ok (x.2.1, x.2.2) := by decide +kernel
theorem mvD77 : ∀ x ∈ mvC77, decode prog_2_method_2_code x.1 = .ok (x.2.1, x.2.2) := by decide +kernel
theorem mvD78 : ∀ x ∈ mvC78, decode prog_2_method_4_code x.1 = .ok (x.2.1, x.2.2) := by decide +kernel
theorem mvD79 : ∀ x ∈ mvC79, decode prog_2_method_5_code x.1 = .ok (x.2.1, x.2.2) := by decide +kernel
theorem mvD80 : ∀ x ∈ mvC80, decode prog_2_method_11_code x.1 = .ok (x.2.1, x.2.2) := by decide +kernel
theorem mvD81 : ∀ x ∈ mvC81, decode prog_2_method_14_code x.1 = .ok (x.2.1, x.2.2) := by decide +kernel
theorem mvD82 : ∀ x ∈ mvC82, decode prog_2_method_20_code x.1 = .ok (x.2.1, x.2.2) := by decide +kernel
theorem mvD83 : ∀ x ∈ mvC83, decode prog_2_method_28_code x.1 = .ok (x.2.1, x.2.2) := by decide +kernel
theorem mvD84 : ∀ x ∈ mvC84, decode prog_2_method_29_code x.1 = .ok (x.2.1, x.2.2) := by decide +kernel
theorem mvD85 : ∀ x ∈ mvC85, decode prog_2_method_32_code x.1 = .ok (x.2.1, x.2.2) := by decide +kernel
theorem mvD86 : ∀ x ∈ mvC86, decode prog_2_method_33_code x.1 = .ok (x.2.1, x.2.2) := by decide +kernel
theorem mvD87 : ∀ x ∈ mvC87, decode prog_2_method_34_code x.1 = .ok (x.2.1, x.2.2) := by decide +kernel
theorem mvD88 : ∀ x ∈ mvC88, decode prog_4_method_1_code x.1 = .ok (x.2.1, x.2.2) := by decide +kernel
theorem mvD89 : ∀ x ∈ mvC89, decode prog_4_method_3_code x.1 = .ok (x.2.1, x.2.2) := by decide +kernel
theorem mvD90 : ∀ x ∈ mvC90, decode prog_4_method_6_code x.1 = .ok (x.2.1, x.2.2) := by decide +kernel
theorem mvD91 : ∀ x ∈ mvC91, decode prog_4_method_9_code x.1 = .ok (x.2.1, x.2.2) := by decide +kernel
theorem mvD92 : ∀ x ∈ mvC92, decode prog_4_method_11_code x.1 = .ok (x.2.1, x.2.2) := by decide +kernel
theorem mvD93 : ∀ x ∈ mvC93, decode prog_8_method_1_code x.1 = .ok (x.2.1, x.2.2) := by decide +kernel
theorem mvD94 : ∀ x ∈ mvC94, decode prog_8_method_2_code x.1 = .ok (x.2.1, x.2.2) := by decide +kernel
theorem mvD95 : ∀ x ∈ mvC95, decode prog_8_method_5_code x.1 = .ok (x.2.1, x.2.2) := by decide +kernel
theorem mvD96 : ∀ x ∈ mvC96, decode prog_8_method_6_code x.1 = .ok (x.2.1, x.2.2) := by decide +kernel
theorem mvD97 : ∀ x ∈ mvC97, decode prog_8_method_7_code x.1 = .ok (x.2.1, x.2.2) := by decide +kernel
theorem mvD98 : ∀ x ∈ mvC98, decode prog_9_method_1_code x.1 = .ok (x.2.1, x.2.2) := by decide +kernel
theorem mvD99 : ∀ x ∈ mvC99, decode prog_3_method_1_code x.1 = .ok (x.2.1, x.2.2) := by decide +kernel
theorem mvD100 : ∀ x ∈ mvC100, decode prog_3_method_2_code x.1 = .ok (x.2.1, x.2.2) := by decide +kernel
theorem mvD101 : ∀ x ∈ mvC101, decode prog_3_method_9_code x.1 = .ok (x.2.1, x.2.2) := by decide +kernel
theorem mvD102 : ∀ x ∈ mvC102, decode prog_5_method_4_code x.1 = .ok (x.2.1, x.2.2) := by decide +kernel
theorem mvD103 : ∀ x ∈ mvC103, decode prog_5_method_5_code x.1 = .ok (x.2.1, x.2.2) := by decide +kernel
theorem mvD104 : ∀ x ∈ mvC104, decode prog_7_method_1_code x.1 = .ok (x.2.1, x.2.2) := by decide +kernel
theorem mvD105 : ∀ x ∈ mvC105, decode prog_7_method_3_code x.1 = .ok (x.2.1, x.2.2) := by decide +kernel
theorem mvD106 : ∀ x ∈ mvC106, decode prog_10_method_1_code x.1 = .ok (x.2.1, x.2.2) := by decide +kernel
theorem mvD107 : ∀ x ∈ mvC107, decode prog_10_method_3_code x.1 = .ok (x.2.1, x.2.2) := by decide +kernel
theorem mvD108 : ∀ x ∈ mvC108, decode prog_10_method_4_code x.1 = .ok (x.2.1, x.2.2) := by decide +kernel
theorem mvD109 : ∀ x ∈ mvC109, decode prog_10_method_5_code x.1 = .ok (x.2.1, x.2.2) := by decide +kernel
theorem mvD110 : ∀ x ∈ mvC110, decode prog_12_method_1_code x.1 = .ok (x.2.1, x.2.2) := by decide +kernel
theorem mvD111 : ∀ x ∈ mvC111, decode prog_12_method_4_code x.1 = .ok (x.2.1, x.2.2) := by decide +kernel
theorem mvD112 : ∀ x ∈ mvC112, decode prog_12_method_7_code x.1 = .ok (x.2.1, x.2.2) := by decide +kernel
theorem mvD113 : ∀ x ∈ mvC113, decode prog_12_method_12_code x.1 = .ok (x.2.1, x.2.2) := by decide +kernel
theorem mvD114 : ∀ x ∈ mvC114, decode prog_12_method_18_code x.1 = .ok (x.2.1, x.2.2) := by decide +kernel
theorem mvD115 : ∀ x ∈ mvC115, decode prog_12_method_20_code x.1 = .ok (x.2.1, x.2.2) := by decide +kernel
theorem mvD116 : ∀ x ∈ mvC116, decode prog_12_method_22_code x.1 = .ok (x.2.1, x.2.2) := by decide +kernel
theorem mvD117 : ∀ x ∈ mvC117, decode prog_12_method_25_code x.1 = .ok (x.2.1, x.2.2) := by decide +kernel
theorem mvD118 : ∀ x ∈ mvC118, decode prog_12_method_34_code x.1 = .ok (x.2.1, x.2.2) := by decide +kernel
theorem mvD119 : ∀ x ∈ mvC119, decode prog_12_method_41_code x.1 = .ok (x.2.1, x.2.2) := by decide +kernel
theorem mvD120 : ∀ x ∈ mvC120, decode prog_12_method_47_code x.1 = .ok (x.2.1, x.2.2) := by decide +kernel
theorem mvD121 : ∀ x ∈ mvC121, decode prog_12_method_48_code x.1 = .ok (x.2.1, x.2.2) := by decide +kernel
theorem mvD122 : ∀ x ∈ mvC122, decode prog_12_method_50_code x.1 = .ok (x.2.1, x.2.2) := by decide +kernel
theorem mvD123 : ∀ x ∈ mvC123, decode prog_12_method_51_code x.1 = .ok (x.2.1, x.2.2) := by decide +kernel
theorem mvD124 : ∀ x ∈ mvC124, decode prog_12_method_54_code x.1 = .ok (x.2.1, x.2.2) := by decide +kernel
theorem mvD125 : ∀ x ∈ mvC125, decode prog_12_method_61_code x.1 = .ok (x.2.1, x.2.2) := by decide +kernel
theorem mvD126 : ∀ x ∈ mvC126, decode prog_12_method_64_code x.1 = .ok (x.2.1, x.2.2) := by decide +kernel
theorem mvD127 : ∀ x ∈ mvC127, decode prog_12_method_66_code x.1 = .ok (x.2.1, x.2.2) := by decide +kernel
theorem mvD128 : ∀ x ∈ mvC128, decode prog_12_method_69_code x.1 = .ok (x.2.1, x.2.2) := by decide +kernel
theorem mvD129 : ∀ x ∈ mvC129, decode prog_12_method_72_code x.1 = .ok (x.2.1, x.2.2) := by decide +kernel
theorem mvD130 : ∀ x ∈ mvC130, decode prog_12_method_74_code x.1 = .ok (x.2.1, x.2.2) := by decide +kernel
theorem mvD131 : ∀ x ∈ mvC131, decode prog_12_method_80_code x.1 = .ok (x.2.1, x.2.2) := by decide +kernel
theorem mvD132 : ∀ x ∈ mvC132, decode prog_12_method_87_code x.1 = .ok (x.2.1, x.2.2) := by decide +kernel
theorem mvD133 : ∀ x ∈ mvC133, decode prog_12_method_97_code x.1 = .ok (x.2.1, x.2.2) := by decide +kernel
theorem mvD134 : ∀ x ∈ mvC134, decode prog_12_method_99_code x.1 = .ok (x.2.1, x.2.2) := by decide +kernel
theorem mvD135 : ∀ x ∈ mvC135, decode prog_12_method_100_code x.1 = .ok (x.2.1, x.2.2) := by decide +kernel
theorem mvD136 : ∀ x ∈ mvC136, decode prog_12_method_102_code x.1 = .ok (x.2.1, x.2.2) := by decide +kernel
theorem mvD137 : ∀ x ∈ mvC137, decode prog_12_method_107_code x.1 = .ok (x.2.1, x.2.2) := by decide +kernel
theorem mvD138 : ∀ x ∈ mvC138, decode prog_12_method_109_code x.1 = .ok (x.2.1, x.2.2) := by decide +kernel
theorem mvD139 : ∀ x ∈ mvC139, decode prog_12_method_116_code x.1 = .ok (x.2.1, x.2.2) := by decide +kernel
theorem mvD140 : ∀ x ∈ mvC140, decode prog_1_method_4_code x.1 = .ok (x.2.1, x.2.2) := by decide +kernel
theorem mvD141 : ∀ x ∈ mvC141, decode prog_1_method_10_code x.1 = .ok (x.2.1, x.2.2) := by decide +kernel
theorem mvD142 : ∀ x ∈ mvC142, decode prog_1_method_11_code x.1 = .ok (x.2.1, x.2.2) := by decide +kernel
theorem mvD143 : ∀ x ∈ mvC143, decode prog_1_method_19_code x.1 = .ok (x.2.1, x.2.2) := by decide +kernel
theorem mvD144 : ∀ x ∈ mvC144, decode prog_1_method_20_code x.1 = .ok (x.2.1, x.2.2) := by decide +kernel
theorem mvD145 : ∀ x ∈ mvC145, decode prog_1_method_25_code x.1 = .ok (x.2.1, x.2.2) := by decide +kernel
theorem mvD146 : ∀ x ∈ mvC146, decode prog_1_method_34_code x.1 = .ok (x.2.1, x.2.2) := by decide +kernel
theorem mvD147 : ∀ x ∈ mvC147, decode prog_1_method_41_code x.1 = .ok (x.2.1, x.2.2) := by decide +kernel
theorem mvD148 : ∀ x ∈ mvC148, decode prog_6_method_4_code x.1 = .ok (x.2.1, x.2.2) := by decide +kernel
theorem mvD149 : ∀ x ∈ mvC149, decode prog_2_method_27_code x.1 = .ok (x.2.1, x.2.2) := by decide +kernel
theorem mvD150 : ∀ x ∈ mvC150, decode prog_2_method_30_code x.1 = .ok (x.2.1, x.2.2) := by decide +kernel
theorem mvD151 : ∀ x ∈ mvC151, decode prog_4_method_4_code x.1 = .ok (x.2.1, x.2.2) := by decide +kernel
theorem mvD152 : ∀ x ∈ mvC152, decode prog_4_method_5_code x.1 = .ok (x.2.1, x.2.2) := by decide +kernel
theorem mvD153 : ∀ x ∈ mvC153, decode prog_4_method_7_code x.1 = .ok (x.2.1, x.2.2) := by decide +kernel
theorem mvD154 : ∀ x ∈ mvC154, decode prog_8_method_4_code x.1 = .ok (x.2.1, x.2.2) := by decide +kernel
theorem mvD155 : ∀ x ∈ mvC155, decode prog_9_method_3_code x.1 = .ok (x.2.1, x.2.2) := by decide +kernel
theorem mvD156 : ∀ x ∈ mvC156, decode prog_3_method_8_code x.1 = .ok (x.2.1, x.2.2) := by decide +kernel
theorem mvD157 : ∀ x ∈ mvC157, decode prog_5_method_1_code x.1 = .ok (x.2.1, x.2.2) := by decide +kernel
theorem mvD158 : ∀ x ∈ mvC158, decode prog_10_method_9_code x.1 = .ok (x.2.1, x.2.2) := by decide +kernel
theorem mvD159 : ∀ x ∈ mvC159, decode prog_12_method_8_code x.1 = .ok (x.2.1, x.2.2) := by decide +kernel
theorem mvD160 : ∀ x ∈ mvC160, decode prog_12_method_13_code x.1 = .ok (x.2.1, x.2.2) := by decide +kernel
theorem mvD161 : ∀ x ∈ mvC161, decode prog_12_method_19_code x.1 = .ok (x.2.1, x.2.2) := by decide +kernel
theorem mvD162 : ∀ x ∈ mvC162, decode prog_12_method_23_code x.1 = .ok (x.2.1, x.2.2) := by decide +kernel
theorem mvD163 : ∀ x ∈ mvC163, decode prog_12_method_49_code x.1 = .ok (x.2.1, x.2.2) := by decide +kernel
theorem mvD164 : ∀ x ∈ mvC164, decode prog_12_method_55_code x.1 = .ok (x.2.1, x.2.2) := by decide +kernel
theorem mvD165 : ∀ x ∈ mvC165, decode prog_12_method_59_code x.1 = .ok (x.2.1, x.2.2) := by decide +kernel
theorem mvD166 : ∀ x ∈ mvC166, decode prog_12_method_60_code x.1 = .ok (x.2.1, x.2.2) := by decide +kernel
theorem mvD167 : ∀ x ∈ mvC167, decode prog_12_method_62_code x.1 = .ok (x.2.1, x.2.2) := by decide +kernel
theorem mvD168 : ∀ x ∈ mvC168, decode prog_12_method_63_code x.1 = .ok (x.2.1, x.2.2) := by decide +kernel
theorem mvD169 : ∀ x ∈ mvC169, decode prog_12_method_65_code x.1 = .ok (x.2.1, x.2.2) := by decide +kernel
theorem mvD170 : ∀ x ∈ mvC170, decode prog_12_method_73_code x.1 = .ok (x.2.1, x.2.2) := by decide +kernel
theorem mvD171 : ∀ x ∈ mvC171, decode prog_12_method_75_code x.1 = .ok (x.2.1, x.2.2) := by decide +kernel
theorem mvD172 : ∀ x ∈ mvC172, decode prog_12_method_78_code x.1 = .ok (x.2.1, x.2.2) := by decide +kernel
theorem mvD173 : ∀ x ∈ mvC173, decode prog_12_method_83_code x.1 = .ok (x.2.1, x.2.2) := by decide +kernel
theorem mvD174 : ∀ x ∈ mvC174, decode prog_12_method_84_code x.1 = .ok (x.2.1, x.2.2) := by decide +kernel
theorem mvD175 : ∀ x ∈ mvC175, decode prog_12_method_98_code x.1 = .ok (x.2.1, x.2.2) := by decide +kernel
theorem mvD176 : ∀ x ∈ mvC176, decode prog_12_method_101_code x.1 = .ok (x.2.1, x.2.2) := by decide +kernel
theorem mvD177 : ∀ x ∈ mvC177, decode prog_12_method_110_code x.1 = .ok (x.2.1, x.2.2) := by decide +kernel
theorem mvD178 : ∀ x ∈ mvC178, decode prog_1_method_1_code x.1 = .ok (x.2.1, x.2.2) := by decide +kernel
theorem mvD179 : ∀ x ∈ mvC179, decode prog_1_method_14_code x.1 = .ok (x.2.1, x.2.2) := by decide +kernel
theorem mvD180 : ∀ x ∈ mvC180, decode prog_1_method_44_code x.1 = .ok (x.2.1, x.2.2) := by decide +kernel
theorem mvD181 : ∀ x ∈ mvC181, decode prog_1_method_45_code x.1 = .ok (x.2.1, x.2.2) := by decide +kernel
theorem mvD182 : ∀ x ∈ mvC182, decode prog_2_method_13_code x.1 = .ok (x.2.1, x.2.2) := by decide +kernel
theorem mvD183 : ∀ x ∈ mvC183, decode prog_4_method_2_code x.1 = .ok (x.2.1, x.2.2) := by decide +kernel
theorem mvD184 : ∀ x ∈ mvC184, decode prog_9_method_4_code x.1 = .ok (x.2.1, x.2.2) := by decide +kernel
theorem mvD185 : ∀ x ∈ mvC185, decode prog_3_method_6_code x.1 = .ok (x.2.1, x.2.2) := by decide +kernel
theorem mvD186 : ∀ x ∈ mvC186, decode prog_7_method_2_code x.1 = .ok (x.2.1, x.2.2) := by decide +kernel
theorem mvD187 : ∀ x ∈ mvC187, decode prog_10_method_6_code x.1 = .ok (x.2.1, x.2.2) := by decide +kernel
theorem mvD188 : ∀ x ∈ mvC188, decode prog_12_method_9_code x.1 = .ok (x.2.1, x.2.2) := by decide +kernel
theorem mvD189 : ∀ x ∈ mvC189, decode prog_12_method_16_code x.1 = .ok (x.2.1, x.2.2) := by decide +kernel
theorem mvD190 : ∀ x ∈ mvC190, decode prog_12_method_32_code x.1 = .ok (x.2.1, x.2.2) := by decide +kernel
theorem mvD191 : ∀ x ∈ mvC191, decode prog_12_method_35_code x.1 = .ok (x.2.1, x.2.2) := by decide +kernel
theorem mvD192 : ∀ x ∈ mvC192, decode prog_12_method_52_code x.1 = .ok (x.2.1, x.2.2) := by decide +kernel
theorem mvD193 : ∀ x ∈ mvC193, decode prog_12_method_85_code x.1 = .ok (x.2.1, x.2.2) := by decide +kernel
theorem mvD194 : ∀ x ∈ mvC194, decode prog_12_method_86_code x.1 = .ok (x.2.1, x.2.2) := by decide +kernel
theorem mvD195 : ∀ x ∈ mvC195, decode prog_12_method_91_code x.1 = .ok (x.2.1, x.2.2) := by decide +kernel
theorem mvD196 : ∀ x ∈ mvC196, decode prog_12_method_92_code x.1 = .ok (x.2.1, x.2.2) := by decide +kernel
theorem mvD197 : ∀ x ∈ mvC197, decode prog_12_method_103_code x.1 = .ok (x.2.1, x.2.2) := by decide +kernel
theorem mvD198 : ∀ x ∈ mvC198, decode prog_12_method_113_code x.1 = .ok (x.2.1, x.2.2) := by decide +kernel
theorem mvD199 : ∀ x ∈ mvC199, decode prog_1_method_12_code x.1 = .ok (x.2.1, x.2.2) := by decide +kernel
theorem mvD200 : ∀ x ∈ mvC200, decode prog_1_method_15_code x.1 = .ok (x.2.1, x.2.2) := by decide +kernel
theorem mvD201 : ∀ x ∈ mvC201, decode prog_1_method_16_code x.1 = .ok (x.2.1, x.2.2) := by decide +kernel
theorem mvD202 : ∀ x ∈ mvC202, decode prog_1_method_17_code x.1 = .ok (x.2.1, x.2.2) := by decide +kernel
theorem mvD203 : ∀ x ∈ mvC203, decode prog_1_method_18_code x.1 = .ok (x.2.1, x.2.2) := by decide +kernel
theorem mvD204 : ∀ x ∈ mvC204, decode prog_1_method_24_code x.1 = .ok (x.2.1, x.2.2) := by decide +kernel
theorem mvD205 : ∀ x ∈ mvC205, decode prog_1_method_27_code x.1 = .ok (x.2.1, x.2.2) := by decide +kernel
theorem mvD206 : ∀ x ∈ mvC206, decode prog_1_method_35_code x.1 = .ok (x.2.1, x.2.2) := by decide +kernel
theorem mvD207 : ∀ x ∈ mvC207, decode prog_2_method_10_code x.1 = .ok (x.2.1, x.2.2) := by decide +kernel
theorem mvD208 : ∀ x ∈ mvC208, decode prog_9_method_2_code x.1 = .ok (x.2.1, x.2.2) := by decide +kernel
theorem mvD209 : ∀ x ∈ mvC209, decode prog_10_method_7_code x.1 = .ok (x.2.1, x.2.2) := by decide +kernel
theorem mvD210 : ∀ x ∈ mvC210, decode prog_12_method_14_code x.1 = .ok (x.2.1, x.2.2) := by decide +kernel
theorem mvD211 : ∀ x ∈ mvC211, decode prog_12_method_26_code x.1 = .ok (x.2.1, x.2.2) := by decide +kernel
theorem mvD212 : ∀ x ∈ mvC212, decode prog_12_method_30_code x.1 = .ok (x.2.1, x.2.2) := by decide +kernel
theorem mvD213 : ∀ x ∈ mvC213, decode prog_12_method_53_code x.1 = .ok (x.2.1, x.2.2) := by decide +kernel
theorem mvD214 : ∀ x ∈ mvC214, decode prog_12_method_88_code x.1 = .ok (x.2.1, x.2.2) := by decide +kernel
theorem mvD215 : ∀ x ∈ mvC215, decode prog_12_method_104_code x.1 = .ok (x.2.1, x.2.2) := by decide +kernel
theorem mvD216 : ∀ x ∈ mvC216, decode prog_1_method_5_code x.1 = .ok (x.2.1, x.2.2) := by decide +kernel
theorem mvD217 : ∀ x ∈ mvC217, decode prog_1_method_9_code x.1 = .ok (x.2.1, x.2.2) := by decide +kernel
theorem mvD218 : ∀ x ∈ mvC218, decode prog_1_method_40_code x.1 = .ok (x.2.1, x.2.2) := by decide +kernel
theorem mvD219 : ∀ x ∈ mvC219, decode prog_1_method_43_code x.1 = .ok (x.2.1, x.2.2) := by decide +kernel
theorem mvD220 : ∀ x ∈ mvC220, decode prog_5_method_3_code x.1 = .ok (x.2.1, x.2.2) := by decide +kernel
theorem mvD221 : ∀ x ∈ mvC221, decode prog_10_method_2_code x.1 = .ok (x.2.1, x.2.2) := by decide +kernel
theorem mvD222 : ∀ x ∈ mvC222, decode prog_12_method_27_code x.1 = .ok (x.2.1, x.2.2) := by decide +kernel
theorem mvD223 : ∀ x ∈ mvC223, decode prog_12_method_28_code x.1 = .ok (x.2.1, x.2.2) := by decide +kernel
theorem mvD224 : ∀ x ∈ mvC224, decode prog_12_method_29_code x.1 = .ok (x.2.1, x.2.2) := by decide +kernel
theorem mvD225 : ∀ x ∈ mvC225, decode prog_12_method_57_code x.1 = .ok (x.2.1, x.2.2) := by decide +kernel
theorem mvD226 : ∀ x ∈ mvC226, decode prog_12_method_67_code x.1 = .ok (x.2.1, x.2.2) := by decide +kernel
theorem mvD227 : ∀ x ∈ mvC227, decode prog_12_method_70_code x.1 = .ok (x.2.1, x.2.2) := by decide +kernel
theorem mvD228 : ∀ x ∈ mvC228, decode prog_12_method_76_code x.1 = .ok (x.2.1, x.2.2) := by decide +kernel
theorem mvD229 : ∀ x ∈ mvC229, decode prog_12_method_79_code x.1 = .ok (x.2.1, x.2.2) := by decide +kernel
theorem mvD230 : ∀ x ∈ mvC230, decode prog_12_method_81_code x.1 = .ok (x.2.1, x.2.2) := by decide +kernel
theorem mvD231 : ∀ x ∈ mvC231, decode prog_12_method_89_code x.1 = .ok (x.2.1, x.2.2) := by decide +kernel
theorem mvD232 : ∀ x ∈ mvC232, decode prog_12_method_93_code x.1 = .ok (x.2.1, x.2.2) := by decide +kernel
theorem mvD233 : ∀ x ∈ mvC233, decode prog_12_method_105_code x.1 = .ok (x.2.1, x.2.2) := by decide +kernel
theorem mvD234 : ∀ x ∈ mvC234, decode prog_1_method_6_code x.1 = .ok (x.2.1, x.2.2) := by decide +kernel
theorem mvD235 : ∀ x ∈ mvC235, decode prog_1_method_7_code x.1 = .ok (x.2.1, x.2.2) := by decide +kernel
theorem mvD236 : ∀ x ∈ mvC236, decode prog_1_method_8_code x.1 = .ok (x.2.1, x.2.2) := by decide +kernel
theorem mvD237 : ∀ x ∈ mvC237, decode prog_1_method_21_code x.1 = .ok (x.2.1, x.2.2) := by decide +kernel
theorem mvD238 : ∀ x ∈ mvC238, decode prog_1_method_22_code x.1 = .ok (x.2.1, x.2.2) := by decide +kernel
theorem mvD239 : ∀ x ∈ mvC239, decode prog_1_method_23_code x.1 = .ok (x.2.1, x.2.2) := by decide +kernel
theorem mvD240 : ∀ x ∈ mvC240, decode prog_1_method_26_code x.1 = .ok (x.2.1, x.2.2) := by decide +kernel
theorem mvD241 : ∀ x ∈ mvC241, decode prog_1_method_29_code x.1 = .ok (x.2.1, x.2.2) := by decide +kernel
theorem mvD242 : ∀ x ∈ mvC242, decode prog_1_method_37_code x.1 = .ok (x.2.1, x.2.2) := by decide +kernel
theorem mvD243 : ∀ x ∈ mvC243, decode prog_12_method_56_code x.1 = .ok (x.2.1, x.2.2) := by decide +kernel
theorem mvD244 : ∀ x ∈ mvC244, decode prog_12_method_68_code x.1 = .ok (x.2.1, x.2.2) := by decide +kernel
theorem mvD245 : ∀ x ∈ mvC245, decode prog_12_method_71_code x.1 = .ok (x.2.1, x.2.2) := by decide +kernel
theorem mvD246 : ∀ x ∈ mvC246, decode prog_12_method_77_code x.1 = .ok (x.2.1, x.2.2) := by decide +kernel
theorem mvD247 : ∀ x ∈ mvC247, decode prog_12_method_82_code x.1 = .ok (x.2.1, x.2.2) := by decide +kernel
theorem mvD248 : ∀ x ∈ mvC248, decode prog_12_method_94_code x.1 = .ok (x.2.1, x.2.2) := by decide +kernel
theorem mvD249 : ∀ x ∈ mvC249, decode prog_12_method_112_code x.1 = .ok (x.2.1, x.2.2) := by decide +kernel
theorem mvD250 : ∀ x ∈ mvC250, decode prog_12_method_114_code x.1 = .ok (x.2.1, x.2.2) := by decide +kernel
theorem mvD251 : ∀ x ∈ mvC251, decode prog_12_method_115_code x.1 = .ok (x.2.1, x.2.2) := by decide +kernel
theorem mvD252 : ∀ x ∈ mvC252, decode prog_1_method_32_code x.1 = .ok (x.2.1, x.2.2) := by decide +kernel
theorem mvD253 : ∀ x ∈ mvC253, decode prog_12_method_58_code x.1 = .ok (x.2.1, x.2.2) := by decide +kernel
theorem mvD254 : ∀ x ∈ mvC254, decode prog_12_method_117_code x.1 = .ok (x.2.1, x.2.2) := by decide +kernel
end
section
def mvL0 : List (Nat × Instr × Nat) := [(0, .new 7, 3), (3, .dup, 1), (4, .invokespecial 9, 3), (7, .astore_n 1, 1), (8, .new 10, 3), (11, .dup, 1), (12, .invokespecial 12, 3), (15, .astore_n 2, 1), (16, .iconst 0, 1), (17, .istore_n 3, 1)]
theorem mvDL0 : ∀ x ∈ mvL0, decode code x.1 = .ok (x.2.1, x.2.2) := by decide +kernel
def mvL1 : List (Nat × Instr × Nat) := [(18, .iload_n 3, 1), (19, .aload_n 0, 1), (20, .arraylength, 1), (21, .iconst 5, 1), (22, .isub, 1), (23, .if_icmp .gt 1009, 3), (26, .aload_n 0, 1), (27, .iload_n 3, 1), (28, .iaload, 1), (29, .bipush 31, 2)]
theorem mvDL1 : ∀ x ∈ mvL1, decode code x.1 = .ok (x.2.1, x.2.2) := by decide +kernel
def mvL2 : List (Nat × Instr × Nat) := [(31, .iand, 1), (32, .tableswitch 994 0 30 #[140, 163, 176, 189, 202, 235, 268, 301, 324, 367, 420, 453, 486, 529, 562, 595, 618, 651, 684, 717, 740, 763, 776, 789, 832, 855, 878, 901, 934, 957, 980], 140), (172, .aload_n 1, 1), (173, .aload_n 0, 1), (174, .iload_n 3, 1), (175, .iconst 1, 1), (176, .iadd, 1), (177, .iaload, 1), (178, .invokevirtual 13, 3), (181, .aload_n 2, 1)]
theorem mvDL2 : ∀ x ∈ mvL2, decode code x.1 = .ok (x.2.1, x.2.2) := by decide +kernel
def mvL3 : List (Nat × Instr × Nat) := [(182, .aload_n 0, 1), (183, .iload_n 3, 1), (184, .iconst 1, 1), (185, .iadd, 1), (186, .iaload, 1), (187, .invokevirtual 17, 3), (190, .if_icmp .eq 836, 3), (193, .iconst 0, 1), (194, .ireturn, 1), (195, .aload_n 1, 1)]
theorem mvDL3 : ∀ x ∈ mvL3, decode code x.1 = .ok (x.2.1, x.2.2) := by decide +kernel
def mvL4 : List (Nat × Instr × Nat) := [(196, .invokevirtual 18, 3), (199, .aload_n 2, 1), (200, .invokevirtual 22, 3), (203, .if_icmp .eq 823, 3), (206, .iconst 0, 1), (207, .ireturn, 1), (208, .aload_n 1, 1), (209, .invokevirtual 23, 3), (212, .aload_n 2, 1), (213, .invokevirtual 26, 3)]
theorem mvDL4 : ∀ x ∈ mvL4, decode code x.1 = .ok (x.2.1, x.2.2) := by decide +kernel
def mvL5 : List (Nat × Instr × Nat) := [(216, .if_icmp .eq 810, 3), (219, .iconst 0, 1), (220, .ireturn, 1), (221, .aload_n 1, 1), (222, .invokevirtual 27, 3), (225, .aload_n 2, 1), (226, .invokevirtual 30, 3), (229, .if_icmp .eq 797, 3), (232, .iconst 0, 1), (233, .ireturn, 1)]
theorem mvDL5 : ∀ x ∈ mvL5, decode code x.1 = .ok (x.2.1, x.2.2) := by decide +kernel
def mvL6 : List (Nat × Instr × Nat) := [(234, .aload_n 1, 1), (235, .aload_n 0, 1), (236, .iload_n 3, 1), (237, .iconst 1, 1), (238, .iadd, 1), (239, .iaload, 1), (240, .aload_n 0, 1), (241, .iload_n 3, 1), (242, .iconst 2, 1), (243, .iadd, 1)]
theorem mvDL6 : ∀ x ∈ mvL6, decode code x.1 = .ok (x.2.1, x.2.2) := by decide +kernel
def mvL7 : List (Nat × Instr × Nat) := [(244, .iaload, 1), (245, .invokevirtual 31, 3), (248, .aload_n 2, 1), (249, .aload_n 0, 1), (250, .iload_n 3, 1), (251, .iconst 1, 1), (252, .iadd, 1), (253, .iaload, 1), (254, .aload_n 0, 1), (255, .iload_n 3, 1)]
theorem mvDL7 : ∀ x ∈ mvL7, decode code x.1 = .ok (x.2.1, x.2.2) := by decide +kernel
def mvL8 : List (Nat × Instr × Nat) := [(256, .iconst 2, 1), (257, .iadd, 1), (258, .iaload, 1), (259, .invokevirtual 35, 3), (262, .if_icmp .eq 764, 3), (265, .iconst 0, 1), (266, .ireturn, 1), (267, .aload_n 1, 1), (268, .aload_n 0, 1), (269, .iload_n 3, 1)]
theorem mvDL8 : ∀ x ∈ mvL8, decode code x.1 = .ok (x.2.1, x.2.2) := by decide +kernel
def mvL9 : List (Nat × Instr × Nat) := [(270, .iconst 1, 1), (271, .iadd, 1), (272, .iaload, 1), (273, .aload_n 0, 1), (274, .iload_n 3, 1), (275, .iconst 2, 1), (276, .iadd, 1), (277, .iaload, 1), (278, .invokevirtual 36, 3), (281, .aload_n 2, 1)]
theorem mvDL9 : ∀ x ∈ mvL9, decode code x.1 = .ok (x.2.1, x.2.2) := by decide +kernel
def mvL10 : List (Nat × Instr × Nat) := [(282, .aload_n 0, 1), (283, .iload_n 3, 1), (284, .iconst 1, 1), (285, .iadd, 1), (286, .iaload, 1), (287, .aload_n 0, 1), (288, .iload_n 3, 1), (289, .iconst 2, 1), (290, .iadd, 1), (291, .iaload, 1)]
theorem mvDL10 : ∀ x ∈ mvL10, decode code x.1 = .ok (x.2.1, x.2.2) := by decide +kernel
def mvL11 : List (Nat × Instr × Nat) := [(292, .invokevirtual 39, 3), (295, .if_icmp .eq 731, 3), (298, .iconst 0, 1), (299, .ireturn, 1), (300, .aload_n 1, 1), (301, .aload_n 0, 1), (302, .iload_n 3, 1), (303, .iconst 1, 1), (304, .iadd, 1), (305, .iaload, 1)]
theorem mvDL11 : ∀ x ∈ mvL11, decode code x.1 = .ok (x.2.1, x.2.2) := by decide +kernel
def mvL12 : List (Nat × Instr × Nat) := [(306, .aload_n 0, 1), (307, .iload_n 3, 1), (308, .iconst 2, 1), (309, .iadd, 1), (310, .iaload, 1), (311, .invokevirtual 40, 3), (314, .aload_n 2, 1), (315, .aload_n 0, 1), (316, .iload_n 3, 1), (317, .iconst 1, 1)]
theorem mvDL12 : ∀ x ∈ mvL12, decode code x.1 = .ok (x.2.1, x.2.2) := by decide +kernel
def mvL13 : List (Nat × Instr × Nat) := [(318, .iadd, 1), (319, .iaload, 1), (320, .aload_n 0, 1), (321, .iload_n 3, 1), (322, .iconst 2, 1), (323, .iadd, 1), (324, .iaload, 1), (325, .invokevirtual 43, 3), (328, .if_icmp .eq 698, 3), (331, .iconst 0, 1)]
theorem mvDL13 : ∀ x ∈ mvL13, decode code x.1 = .ok (x.2.1, x.2.2) := by decide +kernel
def mvL14 : List (Nat × Instr × Nat) := [(332, .ireturn, 1), (333, .aload_n 1, 1), (334, .aload_n 0, 1), (335, .iload_n 3, 1), (336, .iconst 1, 1), (337, .iadd, 1), (338, .iaload, 1), (339, .invokevirtual 44, 3), (342, .aload_n 2, 1), (343, .aload_n 0, 1)]
theorem mvDL14 : ∀ x ∈ mvL14, decode code x.1 = .ok (x.2.1, x.2.2) := by decide +kernel
def mvL15 : List (Nat × Instr × Nat) := [(344, .iload_n 3, 1), (345, .iconst 1, 1), (346, .iadd, 1), (347, .iaload, 1), (348, .invokevirtual 47, 3), (351, .if_icmp .eq 675, 3), (354, .iconst 0, 1), (355, .ireturn, 1), (356, .aload_n 1, 1), (357, .aload_n 0, 1)]
theorem mvDL15 : ∀ x ∈ mvL15, decode code x.1 = .ok (x.2.1, x.2.2) := by decide +kernel
def mvL16 : List (Nat × Instr × Nat) := [(358, .iload_n 3, 1), (359, .iconst 1, 1), (360, .iadd, 1), (361, .iaload, 1), (362, .aload_n 0, 1), (363, .iload_n 3, 1), (364, .iconst 2, 1), (365, .iadd, 1), (366, .iaload, 1), (367, .aload_n 0, 1)]
theorem mvDL16 : ∀ x ∈ mvL16, decode code x.1 = .ok (x.2.1, x.2.2) := by decide +kernel
def mvL17 : List (Nat × Instr × Nat) := [(368, .iload_n 3, 1), (369, .iconst 3, 1), (370, .iadd, 1), (371, .iaload, 1), (372, .invokevirtual 48, 3), (375, .aload_n 2, 1), (376, .aload_n 0, 1), (377, .iload_n 3, 1), (378, .iconst 1, 1), (379, .iadd, 1)]
theorem mvDL17 : ∀ x ∈ mvL17, decode code x.1 = .ok (x.2.1, x.2.2) := by decide +kernel
def mvL18 : List (Nat × Instr × Nat) := [(380, .iaload, 1), (381, .aload_n 0, 1), (382, .iload_n 3, 1), (383, .iconst 2, 1), (384, .iadd, 1), (385, .iaload, 1), (386, .aload_n 0, 1), (387, .iload_n 3, 1), (388, .iconst 3, 1), (389, .iadd, 1)]
theorem mvDL18 : ∀ x ∈ mvL18, decode code x.1 = .ok (x.2.1, x.2.2) := by decide +kernel
def mvL19 : List (Nat × Instr × Nat) := [(390, .iaload, 1), (391, .invokevirtual 52, 3), (394, .if_icmp .eq 632, 3), (397, .iconst 0, 1), (398, .ireturn, 1), (399, .aload_n 1, 1), (400, .aload_n 0, 1), (401, .iload_n 3, 1), (402, .iconst 1, 1), (403, .iadd, 1)]
theorem mvDL19 : ∀ x ∈ mvL19, decode code x.1 = .ok (x.2.1, x.2.2) := by decide +kernel
end
section
def mvL20 : List (Nat × Instr × Nat) := [(404, .iaload, 1), (405, .aload_n 0, 1), (406, .iload_n 3, 1), (407, .iconst 2, 1), (408, .iadd, 1), (409, .iaload, 1), (410, .aload_n 0, 1), (411, .iload_n 3, 1), (412, .iconst 3, 1), (413, .iadd, 1)]
theorem mvDL20 : ∀ x ∈ mvL20, decode code x.1 = .ok (x.2.1, x.2.2) := by decide +kernel
def mvL21 : List (Nat × Instr × Nat) := [(414, .iaload, 1), (415, .aload_n 0, 1), (416, .iload_n 3, 1), (417, .iconst 4, 1), (418, .iadd, 1), (419, .iaload, 1), (420, .invokevirtual 53, 3), (423, .aload_n 2, 1), (424, .aload_n 0, 1), (425, .iload_n 3, 1)]
theorem mvDL21 : ∀ x ∈ mvL21, decode code x.1 = .ok (x.2.1, x.2.2) := by decide +kernel
def mvL22 : List (Nat × Instr × Nat) := [(426, .iconst 1, 1), (427, .iadd, 1), (428, .iaload, 1), (429, .aload_n 0, 1), (430, .iload_n 3, 1), (431, .iconst 2, 1), (432, .iadd, 1), (433, .iaload, 1), (434, .aload_n 0, 1), (435, .iload_n 3, 1)]
theorem mvDL22 : ∀ x ∈ mvL22, decode code x.1 = .ok (x.2.1, x.2.2) := by decide +kernel
def mvL23 : List (Nat × Instr × Nat) := [(436, .iconst 3, 1), (437, .iadd, 1), (438, .iaload, 1), (439, .aload_n 0, 1), (440, .iload_n 3, 1), (441, .iconst 4, 1), (442, .iadd, 1), (443, .iaload, 1), (444, .invokevirtual 57, 3), (447, .if_icmp .eq 579, 3)]
theorem mvDL23 : ∀ x ∈ mvL23, decode code x.1 = .ok (x.2.1, x.2.2) := by decide +kernel
def mvL24 : List (Nat × Instr × Nat) := [(450, .iconst 0, 1), (451, .ireturn, 1), (452, .aload_n 1, 1), (453, .aload_n 0, 1), (454, .iload_n 3, 1), (455, .iconst 1, 1), (456, .iadd, 1), (457, .iaload, 1), (458, .aload_n 0, 1), (459, .iload_n 3, 1)]
theorem mvDL24 : ∀ x ∈ mvL24, decode code x.1 = .ok (x.2.1, x.2.2) := by decide +kernel
def mvL25 : List (Nat × Instr × Nat) := [(460, .iconst 2, 1), (461, .iadd, 1), (462, .iaload, 1), (463, .invokevirtual 58, 3), (466, .aload_n 2, 1), (467, .aload_n 0, 1), (468, .iload_n 3, 1), (469, .iconst 1, 1), (470, .iadd, 1), (471, .iaload, 1)]
theorem mvDL25 : ∀ x ∈ mvL25, decode code x.1 = .ok (x.2.1, x.2.2) := by decide +kernel
def mvL26 : List (Nat × Instr × Nat) := [(472, .aload_n 0, 1), (473, .iload_n 3, 1), (474, .iconst 2, 1), (475, .iadd, 1), (476, .iaload, 1), (477, .invokevirtual 61, 3), (480, .if_icmp .eq 546, 3), (483, .iconst 0, 1), (484, .ireturn, 1), (485, .aload_n 1, 1)]
theorem mvDL26 : ∀ x ∈ mvL26, decode code x.1 = .ok (x.2.1, x.2.2) := by decide +kernel
def mvL27 : List (Nat × Instr × Nat) := [(486, .aload_n 0, 1), (487, .iload_n 3, 1), (488, .iconst 1, 1), (489, .iadd, 1), (490, .iaload, 1), (491, .aload_n 0, 1), (492, .iload_n 3, 1), (493, .iconst 2, 1), (494, .iadd, 1), (495, .iaload, 1)]
theorem mvDL27 : ∀ x ∈ mvL27, decode code x.1 = .ok (x.2.1, x.2.2) := by decide +kernel
def mvL28 : List (Nat × Instr × Nat) := [(496, .invokevirtual 62, 3), (499, .aload_n 2, 1), (500, .aload_n 0, 1), (501, .iload_n 3, 1), (502, .iconst 1, 1), (503, .iadd, 1), (504, .iaload, 1), (505, .aload_n 0, 1), (506, .iload_n 3, 1), (507, .iconst 2, 1)]
theorem mvDL28 : ∀ x ∈ mvL28, decode code x.1 = .ok (x.2.1, x.2.2) := by decide +kernel
def mvL29 : List (Nat × Instr × Nat) := [(508, .iadd, 1), (509, .iaload, 1), (510, .invokevirtual 65, 3), (513, .if_icmp .eq 513, 3), (516, .iconst 0, 1), (517, .ireturn, 1), (518, .aload_n 1, 1), (519, .aload_n 0, 1), (520, .iload_n 3, 1), (521, .iconst 1, 1)]
theorem mvDL29 : ∀ x ∈ mvL29, decode code x.1 = .ok (x.2.1, x.2.2) := by decide +kernel
def mvL30 : List (Nat × Instr × Nat) := [(522, .iadd, 1), (523, .iaload, 1), (524, .aload_n 0, 1), (525, .iload_n 3, 1), (526, .iconst 2, 1), (527, .iadd, 1), (528, .iaload, 1), (529, .aload_n 0, 1), (530, .iload_n 3, 1), (531, .iconst 3, 1)]
theorem mvDL30 : ∀ x ∈ mvL30, decode code x.1 = .ok (x.2.1, x.2.2) := by decide +kernel
def mvL31 : List (Nat × Instr × Nat) := [(532, .iadd, 1), (533, .iaload, 1), (534, .invokevirtual 66, 3), (537, .aload_n 2, 1), (538, .aload_n 0, 1), (539, .iload_n 3, 1), (540, .iconst 1, 1), (541, .iadd, 1), (542, .iaload, 1), (543, .aload_n 0, 1)]
theorem mvDL31 : ∀ x ∈ mvL31, decode code x.1 = .ok (x.2.1, x.2.2) := by decide +kernel
def mvL32 : List (Nat × Instr × Nat) := [(544, .iload_n 3, 1), (545, .iconst 2, 1), (546, .iadd, 1), (547, .iaload, 1), (548, .aload_n 0, 1), (549, .iload_n 3, 1), (550, .iconst 3, 1), (551, .iadd, 1), (552, .iaload, 1), (553, .invokevirtual 69, 3)]
theorem mvDL32 : ∀ x ∈ mvL32, decode code x.1 = .ok (x.2.1, x.2.2) := by decide +kernel
def mvL33 : List (Nat × Instr × Nat) := [(556, .if_icmp .eq 470, 3), (559, .iconst 0, 1), (560, .ireturn, 1), (561, .aload_n 1, 1), (562, .aload_n 0, 1), (563, .iload_n 3, 1), (564, .iconst 1, 1), (565, .iadd, 1), (566, .iaload, 1), (567, .aload_n 0, 1)]
theorem mvDL33 : ∀ x ∈ mvL33, decode code x.1 = .ok (x.2.1, x.2.2) := by decide +kernel
def mvL34 : List (Nat × Instr × Nat) := [(568, .iload_n 3, 1), (569, .iconst 2, 1), (570, .iadd, 1), (571, .iaload, 1), (572, .invokevirtual 70, 3), (575, .aload_n 2, 1), (576, .aload_n 0, 1), (577, .iload_n 3, 1), (578, .iconst 1, 1), (579, .iadd, 1)]
theorem mvDL34 : ∀ x ∈ mvL34, decode code x.1 = .ok (x.2.1, x.2.2) := by decide +kernel
def mvL35 : List (Nat × Instr × Nat) := [(580, .iaload, 1), (581, .aload_n 0, 1), (582, .iload_n 3, 1), (583, .iconst 2, 1), (584, .iadd, 1), (585, .iaload, 1), (586, .invokevirtual 73, 3), (589, .if_icmp .eq 437, 3), (592, .iconst 0, 1), (593, .ireturn, 1)]
theorem mvDL35 : ∀ x ∈ mvL35, decode code x.1 = .ok (x.2.1, x.2.2) := by decide +kernel
def mvL36 : List (Nat × Instr × Nat) := [(594, .aload_n 1, 1), (595, .aload_n 0, 1), (596, .iload_n 3, 1), (597, .iconst 1, 1), (598, .iadd, 1), (599, .iaload, 1), (600, .aload_n 0, 1), (601, .iload_n 3, 1), (602, .iconst 2, 1), (603, .iadd, 1)]
theorem mvDL36 : ∀ x ∈ mvL36, decode code x.1 = .ok (x.2.1, x.2.2) := by decide +kernel
def mvL37 : List (Nat × Instr × Nat) := [(604, .iaload, 1), (605, .invokevirtual 74, 3), (608, .aload_n 2, 1), (609, .aload_n 0, 1), (610, .iload_n 3, 1), (611, .iconst 1, 1), (612, .iadd, 1), (613, .iaload, 1), (614, .aload_n 0, 1), (615, .iload_n 3, 1)]
theorem mvDL37 : ∀ x ∈ mvL37, decode code x.1 = .ok (x.2.1, x.2.2) := by decide +kernel
def mvL38 : List (Nat × Instr × Nat) := [(616, .iconst 2, 1), (617, .iadd, 1), (618, .iaload, 1), (619, .invokevirtual 77, 3), (622, .if_icmp .eq 404, 3), (625, .iconst 0, 1), (626, .ireturn, 1), (627, .aload_n 1, 1), (628, .aload_n 0, 1), (629, .iload_n 3, 1)]
theorem mvDL38 : ∀ x ∈ mvL38, decode code x.1 = .ok (x.2.1, x.2.2) := by decide +kernel
def mvL39 : List (Nat × Instr × Nat) := [(630, .iconst 1, 1), (631, .iadd, 1), (632, .iaload, 1), (633, .invokevirtual 78, 3), (636, .aload_n 2, 1), (637, .aload_n 0, 1), (638, .iload_n 3, 1), (639, .iconst 1, 1), (640, .iadd, 1), (641, .iaload, 1)]
theorem mvDL39 : ∀ x ∈ mvL39, decode code x.1 = .ok (x.2.1, x.2.2) := by decide +kernel
end
section
def mvL40 : List (Nat × Instr × Nat) := [(642, .invokevirtual 81, 3), (645, .if_icmp .eq 381, 3), (648, .iconst 0, 1), (649, .ireturn, 1), (650, .aload_n 1, 1), (651, .aload_n 0, 1), (652, .iload_n 3, 1), (653, .iconst 1, 1), (654, .iadd, 1), (655, .iaload, 1)]
theorem mvDL40 : ∀ x ∈ mvL40, decode code x.1 = .ok (x.2.1, x.2.2) := by decide +kernel
def mvL41 : List (Nat × Instr × Nat) := [(656, .aload_n 0, 1), (657, .iload_n 3, 1), (658, .iconst 2, 1), (659, .iadd, 1), (660, .iaload, 1), (661, .invokevirtual 82, 3), (664, .aload_n 2, 1), (665, .aload_n 0, 1), (666, .iload_n 3, 1), (667, .iconst 1, 1)]
theorem mvDL41 : ∀ x ∈ mvL41, decode code x.1 = .ok (x.2.1, x.2.2) := by decide +kernel
def mvL42 : List (Nat × Instr × Nat) := [(668, .iadd, 1), (669, .iaload, 1), (670, .aload_n 0, 1), (671, .iload_n 3, 1), (672, .iconst 2, 1), (673, .iadd, 1), (674, .iaload, 1), (675, .invokevirtual 85, 3), (678, .if_icmp .eq 348, 3), (681, .iconst 0, 1)]
theorem mvDL42 : ∀ x ∈ mvL42, decode code x.1 = .ok (x.2.1, x.2.2) := by decide +kernel
def mvL43 : List (Nat × Instr × Nat) := [(682, .ireturn, 1), (683, .aload_n 1, 1), (684, .aload_n 0, 1), (685, .iload_n 3, 1), (686, .iconst 1, 1), (687, .iadd, 1), (688, .iaload, 1), (689, .aload_n 0, 1), (690, .iload_n 3, 1), (691, .iconst 2, 1)]
theorem mvDL43 : ∀ x ∈ mvL43, decode code x.1 = .ok (x.2.1, x.2.2) := by decide +kernel
def mvL44 : List (Nat × Instr × Nat) := [(692, .iadd, 1), (693, .iaload, 1), (694, .invokevirtual 86, 3), (697, .aload_n 2, 1), (698, .aload_n 0, 1), (699, .iload_n 3, 1), (700, .iconst 1, 1), (701, .iadd, 1), (702, .iaload, 1), (703, .aload_n 0, 1)]
theorem mvDL44 : ∀ x ∈ mvL44, decode code x.1 = .ok (x.2.1, x.2.2) := by decide +kernel
def mvL45 : List (Nat × Instr × Nat) := [(704, .iload_n 3, 1), (705, .iconst 2, 1), (706, .iadd, 1), (707, .iaload, 1), (708, .invokevirtual 89, 3), (711, .if_icmp .eq 315, 3), (714, .iconst 0, 1), (715, .ireturn, 1), (716, .aload_n 1, 1), (717, .aload_n 0, 1)]
theorem mvDL45 : ∀ x ∈ mvL45, decode code x.1 = .ok (x.2.1, x.2.2) := by decide +kernel
def mvL46 : List (Nat × Instr × Nat) := [(718, .iload_n 3, 1), (719, .iconst 1, 1), (720, .iadd, 1), (721, .iaload, 1), (722, .aload_n 0, 1), (723, .iload_n 3, 1), (724, .iconst 2, 1), (725, .iadd, 1), (726, .iaload, 1), (727, .invokevirtual 90, 3)]
theorem mvDL46 : ∀ x ∈ mvL46, decode code x.1 = .ok (x.2.1, x.2.2) := by decide +kernel
def mvL47 : List (Nat × Instr × Nat) := [(730, .aload_n 2, 1), (731, .aload_n 0, 1), (732, .iload_n 3, 1), (733, .iconst 1, 1), (734, .iadd, 1), (735, .iaload, 1), (736, .aload_n 0, 1), (737, .iload_n 3, 1), (738, .iconst 2, 1), (739, .iadd, 1)]
theorem mvDL47 : ∀ x ∈ mvL47, decode code x.1 = .ok (x.2.1, x.2.2) := by decide +kernel
def mvL48 : List (Nat × Instr × Nat) := [(740, .iaload, 1), (741, .invokevirtual 93, 3), (744, .if_icmp .eq 282, 3), (747, .iconst 0, 1), (748, .ireturn, 1), (749, .aload_n 1, 1), (750, .aload_n 0, 1), (751, .iload_n 3, 1), (752, .iconst 1, 1), (753, .iadd, 1)]
theorem mvDL48 : ∀ x ∈ mvL48, decode code x.1 = .ok (x.2.1, x.2.2) := by decide +kernel
def mvL49 : List (Nat × Instr × Nat) := [(754, .iaload, 1), (755, .invokevirtual 94, 3), (758, .aload_n 2, 1), (759, .aload_n 0, 1), (760, .iload_n 3, 1), (761, .iconst 1, 1), (762, .iadd, 1), (763, .iaload, 1), (764, .invokevirtual 97, 3), (767, .if_icmp .eq 259, 3)]
theorem mvDL49 : ∀ x ∈ mvL49, decode code x.1 = .ok (x.2.1, x.2.2) := by decide +kernel
def mvL50 : List (Nat × Instr × Nat) := [(770, .iconst 0, 1), (771, .ireturn, 1), (772, .aload_n 1, 1), (773, .aload_n 0, 1), (774, .iload_n 3, 1), (775, .iconst 1, 1), (776, .iadd, 1), (777, .iaload, 1), (778, .invokevirtual 98, 3), (781, .aload_n 2, 1)]
theorem mvDL50 : ∀ x ∈ mvL50, decode code x.1 = .ok (x.2.1, x.2.2) := by decide +kernel
def mvL51 : List (Nat × Instr × Nat) := [(782, .aload_n 0, 1), (783, .iload_n 3, 1), (784, .iconst 1, 1), (785, .iadd, 1), (786, .iaload, 1), (787, .invokevirtual 101, 3), (790, .if_icmp .eq 236, 3), (793, .iconst 0, 1), (794, .ireturn, 1), (795, .aload_n 1, 1)]
theorem mvDL51 : ∀ x ∈ mvL51, decode code x.1 = .ok (x.2.1, x.2.2) := by decide +kernel
def mvL52 : List (Nat × Instr × Nat) := [(796, .invokevirtual 102, 3), (799, .aload_n 2, 1), (800, .invokevirtual 105, 3), (803, .if_icmp .eq 223, 3), (806, .iconst 0, 1), (807, .ireturn, 1), (808, .aload_n 1, 1), (809, .invokevirtual 106, 3), (812, .aload_n 2, 1), (813, .invokevirtual 109, 3)]
theorem mvDL52 : ∀ x ∈ mvL52, decode code x.1 = .ok (x.2.1, x.2.2) := by decide +kernel
def mvL53 : List (Nat × Instr × Nat) := [(816, .if_icmp .eq 210, 3), (819, .iconst 0, 1), (820, .ireturn, 1), (821, .aload_n 1, 1), (822, .aload_n 0, 1), (823, .iload_n 3, 1), (824, .iconst 1, 1), (825, .iadd, 1), (826, .iaload, 1), (827, .aload_n 0, 1)]
theorem mvDL53 : ∀ x ∈ mvL53, decode code x.1 = .ok (x.2.1, x.2.2) := by decide +kernel
def mvL54 : List (Nat × Instr × Nat) := [(828, .iload_n 3, 1), (829, .iconst 2, 1), (830, .iadd, 1), (831, .iaload, 1), (832, .aload_n 0, 1), (833, .iload_n 3, 1), (834, .iconst 3, 1), (835, .iadd, 1), (836, .iaload, 1), (837, .invokevirtual 110, 3)]
theorem mvDL54 : ∀ x ∈ mvL54, decode code x.1 = .ok (x.2.1, x.2.2) := by decide +kernel
def mvL55 : List (Nat × Instr × Nat) := [(840, .aload_n 2, 1), (841, .aload_n 0, 1), (842, .iload_n 3, 1), (843, .iconst 1, 1), (844, .iadd, 1), (845, .iaload, 1), (846, .aload_n 0, 1), (847, .iload_n 3, 1), (848, .iconst 2, 1), (849, .iadd, 1)]
theorem mvDL55 : ∀ x ∈ mvL55, decode code x.1 = .ok (x.2.1, x.2.2) := by decide +kernel
def mvL56 : List (Nat × Instr × Nat) := [(850, .iaload, 1), (851, .aload_n 0, 1), (852, .iload_n 3, 1), (853, .iconst 3, 1), (854, .iadd, 1), (855, .iaload, 1), (856, .invokevirtual 113, 3), (859, .if_icmp .eq 167, 3), (862, .iconst 0, 1), (863, .ireturn, 1)]
theorem mvDL56 : ∀ x ∈ mvL56, decode code x.1 = .ok (x.2.1, x.2.2) := by decide +kernel
def mvL57 : List (Nat × Instr × Nat) := [(864, .aload_n 1, 1), (865, .aload_n 0, 1), (866, .iload_n 3, 1), (867, .iconst 1, 1), (868, .iadd, 1), (869, .iaload, 1), (870, .invokevirtual 114, 3), (873, .aload_n 2, 1), (874, .aload_n 0, 1), (875, .iload_n 3, 1)]
theorem mvDL57 : ∀ x ∈ mvL57, decode code x.1 = .ok (x.2.1, x.2.2) := by decide +kernel
def mvL58 : List (Nat × Instr × Nat) := [(876, .iconst 1, 1), (877, .iadd, 1), (878, .iaload, 1), (879, .invokevirtual 117, 3), (882, .if_icmp .eq 144, 3), (885, .iconst 0, 1), (886, .ireturn, 1), (887, .aload_n 1, 1), (888, .aload_n 0, 1), (889, .iload_n 3, 1)]
theorem mvDL58 : ∀ x ∈ mvL58, decode code x.1 = .ok (x.2.1, x.2.2) := by decide +kernel
def mvL59 : List (Nat × Instr × Nat) := [(890, .iconst 1, 1), (891, .iadd, 1), (892, .iaload, 1), (893, .invokevirtual 118, 3), (896, .aload_n 2, 1), (897, .aload_n 0, 1), (898, .iload_n 3, 1), (899, .iconst 1, 1), (900, .iadd, 1), (901, .iaload, 1)]
theorem mvDL59 : ∀ x ∈ mvL59, decode code x.1 = .ok (x.2.1, x.2.2) := by decide +kernel
end
section
def mvL60 : List (Nat × Instr × Nat) := [(902, .invokevirtual 121, 3), (905, .if_icmp .eq 121, 3), (908, .iconst 0, 1), (909, .ireturn, 1), (910, .aload_n 1, 1), (911, .aload_n 0, 1), (912, .iload_n 3, 1), (913, .iconst 1, 1), (914, .iadd, 1), (915, .iaload, 1)]
theorem mvDL60 : ∀ x ∈ mvL60, decode code x.1 = .ok (x.2.1, x.2.2) := by decide +kernel
def mvL61 : List (Nat × Instr × Nat) := [(916, .invokevirtual 122, 3), (919, .aload_n 2, 1), (920, .aload_n 0, 1), (921, .iload_n 3, 1), (922, .iconst 1, 1), (923, .iadd, 1), (924, .iaload, 1), (925, .invokevirtual 125, 3), (928, .if_icmp .eq 98, 3), (931, .iconst 0, 1)]
theorem mvDL61 : ∀ x ∈ mvL61, decode code x.1 = .ok (x.2.1, x.2.2) := by decide +kernel
def mvL62 : List (Nat × Instr × Nat) := [(932, .ireturn, 1), (933, .aload_n 1, 1), (934, .aload_n 0, 1), (935, .iload_n 3, 1), (936, .iconst 1, 1), (937, .iadd, 1), (938, .iaload, 1), (939, .aload_n 0, 1), (940, .iload_n 3, 1), (941, .iconst 2, 1)]
theorem mvDL62 : ∀ x ∈ mvL62, decode code x.1 = .ok (x.2.1, x.2.2) := by decide +kernel
def mvL63 : List (Nat × Instr × Nat) := [(942, .iadd, 1), (943, .iaload, 1), (944, .invokevirtual 126, 3), (947, .aload_n 2, 1), (948, .aload_n 0, 1), (949, .iload_n 3, 1), (950, .iconst 1, 1), (951, .iadd, 1), (952, .iaload, 1), (953, .aload_n 0, 1)]
theorem mvDL63 : ∀ x ∈ mvL63, decode code x.1 = .ok (x.2.1, x.2.2) := by decide +kernel
def mvL64 : List (Nat × Instr × Nat) := [(954, .iload_n 3, 1), (955, .iconst 2, 1), (956, .iadd, 1), (957, .iaload, 1), (958, .invokevirtual 129, 3), (961, .if_icmp .eq 65, 3), (964, .iconst 0, 1), (965, .ireturn, 1), (966, .aload_n 1, 1), (967, .aload_n 0, 1)]
theorem mvDL64 : ∀ x ∈ mvL64, decode code x.1 = .ok (x.2.1, x.2.2) := by decide +kernel
def mvL65 : List (Nat × Instr × Nat) := [(968, .iload_n 3, 1), (969, .iconst 1, 1), (970, .iadd, 1), (971, .iaload, 1), (972, .invokevirtual 130, 3), (975, .aload_n 2, 1), (976, .aload_n 0, 1), (977, .iload_n 3, 1), (978, .iconst 1, 1), (979, .iadd, 1)]
theorem mvDL65 : ∀ x ∈ mvL65, decode code x.1 = .ok (x.2.1, x.2.2) := by decide +kernel
def mvL66 : List (Nat × Instr × Nat) := [(980, .iaload, 1), (981, .invokevirtual 133, 3), (984, .if_icmp .eq 42, 3), (987, .iconst 0, 1), (988, .ireturn, 1), (989, .aload_n 1, 1), (990, .aload_n 0, 1), (991, .iload_n 3, 1), (992, .iconst 1, 1), (993, .iadd, 1)]
theorem mvDL66 : ∀ x ∈ mvL66, decode code x.1 = .ok (x.2.1, x.2.2) := by decide +kernel
def mvL67 : List (Nat × Instr × Nat) := [(994, .iaload, 1), (995, .invokevirtual 134, 3), (998, .aload_n 2, 1), (999, .aload_n 0, 1), (1000, .iload_n 3, 1), (1001, .iconst 1, 1), (1002, .iadd, 1), (1003, .iaload, 1), (1004, .invokevirtual 137, 3), (1007, .if_icmp .eq 19, 3)]
theorem mvDL67 : ∀ x ∈ mvL67, decode code x.1 = .ok (x.2.1, x.2.2) := by decide +kernel
def mvL68 : List (Nat × Instr × Nat) := [(1010, .iconst 0, 1), (1011, .ireturn, 1), (1012, .aload_n 1, 1), (1013, .invokevirtual 138, 3), (1016, .aload_n 2, 1), (1017, .invokevirtual 142, 3), (1020, .lcmp, 1), (1021, .ifCond .eq 5, 3), (1024, .iconst 0, 1), (1025, .ireturn, 1)]
theorem mvDL68 : ∀ x ∈ mvL68, decode code x.1 = .ok (x.2.1, x.2.2) := by decide +kernel
def mvL69 : List (Nat × Instr × Nat) := [(1026, .iinc 3 5, 3), (1029, .goto (-1011), 3), (1032, .iconst 1, 1), (1033, .ireturn, 1)]
theorem mvDL69 : ∀ x ∈ mvL69, decode code x.1 = .ok (x.2.1, x.2.2) := by decide +kernel
end
section
set_option maxRecDepth 100000 in
theorem mvD255 : ∀ x ∈ mvC255, decode code x.1 = .ok (x.2.1, x.2.2) := by
  have h : mvC255 = mvL0 ++ (mvL1 ++ (mvL2 ++ (mvL3 ++ (mvL4 ++ (mvL5 ++ (mvL6 ++ (mvL7 ++ (mvL8 ++ (mvL9 ++ (mvL10 ++ (mvL11 ++ (mvL12 ++ (mvL13 ++ (mvL14 ++ (mvL15 ++ (mvL16 ++ (mvL17 ++ (mvL18 ++ (mvL19 ++ (mvL20 ++ (mvL21 ++ (mvL22 ++ (mvL23 ++ (mvL24 ++ (mvL25 ++ (mvL26 ++ (mvL27 ++ (mvL28 ++ (mvL29 ++ (mvL30 ++ (mvL31 ++ (mvL32 ++ (mvL33 ++ (mvL34 ++ (mvL35 ++ (mvL36 ++ (mvL37 ++ (mvL38 ++ (mvL39 ++ (mvL40 ++ (mvL41 ++ (mvL42 ++ (mvL43 ++ (mvL44 ++ (mvL45 ++ (mvL46 ++ (mvL47 ++ (mvL48 ++ (mvL49 ++ (mvL50 ++ (mvL51 ++ (mvL52 ++ (mvL53 ++ (mvL54 ++ (mvL55 ++ (mvL56 ++ (mvL57 ++ (mvL58 ++ (mvL59 ++ (mvL60 ++ (mvL61 ++ (mvL62 ++ (mvL63 ++ (mvL64 ++ (mvL65 ++ (mvL66 ++ (mvL67 ++ (mvL68 ++ (mvL69))))))))))))))))))))))))))))))))))))))))))))))))))))))))))))))))))))) := rfl
  rw [h]
  exact List.forall_mem_append.mpr ⟨mvDL0, List.forall_mem_append.mpr ⟨mvDL1, List.forall_mem_append.mpr ⟨mvDL2, List.forall_mem_append.mpr ⟨mvDL3, List.forall_mem_append.mpr ⟨mvDL4, List.forall_mem_append.mpr ⟨mvDL5, List.forall_mem_append.mpr ⟨mvDL6, List.forall_mem_append.mpr ⟨mvDL7, List.forall_mem_append.mpr ⟨mvDL8, List.forall_mem_append.mpr ⟨mvDL9, List.forall_mem_append.mpr ⟨mvDL10, List.forall_mem_append.mpr ⟨mvDL11, List.forall_mem_append.mpr ⟨mvDL12, List.forall_mem_append.mpr ⟨mvDL13, List.forall_mem_append.mpr ⟨mvDL14, List.forall_mem_append.mpr ⟨mvDL15, List.forall_mem_append.mpr ⟨mvDL16, List.forall_mem_append.mpr ⟨mvDL17, List.forall_mem_append.mpr ⟨mvDL18, List.forall_mem_append.mpr ⟨mvDL19, List.forall_mem_append.mpr ⟨mvDL20, List.forall_mem_append.mpr ⟨mvDL21, List.forall_mem_append.mpr ⟨mvDL22, List.forall_mem_append.mpr ⟨mvDL23, List.forall_mem_append.mpr ⟨mvDL24, List.forall_mem_append.mpr ⟨mvDL25, List.forall_mem_append.mpr ⟨mvDL26, List.forall_mem_append.mpr ⟨mvDL27, List.forall_mem_append.mpr ⟨mvDL28, List.forall_mem_append.mpr ⟨mvDL29, List.forall_mem_append.mpr ⟨mvDL30, List.forall_mem_append.mpr ⟨mvDL31, List.forall_mem_append.mpr ⟨mvDL32, List.forall_mem_append.mpr ⟨mvDL33, List.forall_mem_append.mpr ⟨mvDL34, List.forall_mem_append.mpr ⟨mvDL35, List.forall_mem_append.mpr ⟨mvDL36, List.forall_mem_append.mpr ⟨mvDL37, List.forall_mem_append.mpr ⟨mvDL38, List.forall_mem_append.mpr ⟨mvDL39, List.forall_mem_append.mpr ⟨mvDL40, List.forall_mem_append.mpr ⟨mvDL41, List.forall_mem_append.mpr ⟨mvDL42, List.forall_mem_append.mpr ⟨mvDL43, List.forall_mem_append.mpr ⟨mvDL44, List.forall_mem_append.mpr ⟨mvDL45, List.forall_mem_append.mpr ⟨mvDL46, List.forall_mem_append.mpr ⟨mvDL47, List.forall_mem_append.mpr ⟨mvDL48, List.forall_mem_append.mpr ⟨mvDL49, List.forall_mem_append.mpr ⟨mvDL50, List.forall_mem_append.mpr ⟨mvDL51, List.forall_mem_append.mpr ⟨mvDL52, List.forall_mem_append.mpr ⟨mvDL53, List.forall_mem_append.mpr ⟨mvDL54, List.forall_mem_append.mpr ⟨mvDL55, List.forall_mem_append.mpr ⟨mvDL56, List.forall_mem_append.mpr ⟨mvDL57, List.forall_mem_append.mpr ⟨mvDL58, List.forall_mem_append.mpr ⟨mvDL59, List.forall_mem_append.mpr ⟨mvDL60, List.forall_mem_append.mpr ⟨mvDL61, List.forall_mem_append.mpr ⟨mvDL62, List.forall_mem_append.mpr ⟨mvDL63, List.forall_mem_append.mpr ⟨mvDL64, List.forall_mem_append.mpr ⟨mvDL65, List.forall_mem_append.mpr ⟨mvDL66, List.forall_mem_append.mpr ⟨mvDL67, List.forall_mem_append.mpr ⟨mvDL68, mvDL69⟩⟩⟩⟩⟩⟩⟩⟩⟩⟩⟩⟩⟩⟩⟩⟩⟩⟩⟩⟩⟩⟩⟩⟩⟩⟩⟩⟩⟩⟩⟩⟩⟩⟩⟩⟩⟩⟩⟩⟩⟩⟩⟩⟩⟩⟩⟩⟩⟩⟩⟩⟩⟩⟩⟩⟩⟩⟩⟩⟩⟩⟩⟩⟩⟩⟩⟩⟩⟩
end
section
def mvY (j : Nat) : MethodName := ((mvMd[j]?).map (fun q => q.1)).getD { cls := "", name := "", desc := "" }
def mvWcode (q : mvMt) : Jvm.Cond := Jvm.Cond.code q.1 q.2.1 q.2.2.1 q.2.2.2.1
theorem mv_tb1 {w : Jvm.Cond} (h : w ∈ tables_1_1) : w ∈ lw_tbl := List.mem_append_right _ (show w ∈ tables_1 from List.mem_append_left _ h)
theorem mv_tb2 {w : Jvm.Cond} (h : w ∈ tables_1_2) : w ∈ lw_tbl := List.mem_append_right _ (show w ∈ tables_1 from List.mem_append_right _ (List.mem_append_left _ h))
theorem mv_tb3 {w : Jvm.Cond} (h : w ∈ tables_1_3) : w ∈ lw_tbl := List.mem_append_right _ (show w ∈ tables_1 from List.mem_append_right _ (List.mem_append_right _ (List.mem_append_left _ h)))
theorem mv_tb4 {w : Jvm.Cond} (h : w ∈ tables_1_4) : w ∈ lw_tbl := List.mem_append_right _ (show w ∈ tables_1 from List.mem_append_right _ (List.mem_append_right _ (List.mem_append_right _ (List.mem_append_left _ h))))
theorem mv_tb5 {w : Jvm.Cond} (h : w ∈ tables_1_5) : w ∈ lw_tbl := List.mem_append_right _ (show w ∈ tables_1 from List.mem_append_right _ (List.mem_append_right _ (List.mem_append_right _ (List.mem_append_right _ (List.mem_append_left _ h)))))
theorem mv_tb6 {w : Jvm.Cond} (h : w ∈ tables_1_6) : w ∈ lw_tbl := List.mem_append_right _ (show w ∈ tables_1 from List.mem_append_right _ (List.mem_append_right _ (List.mem_append_right _ (List.mem_append_right _ (List.mem_append_right _ (List.mem_append_left _ h))))))
theorem mv_tb7 {w : Jvm.Cond} (h : w ∈ tables_1_7) : w ∈ lw_tbl := List.mem_append_right _ (show w ∈ tables_1 from List.mem_append_right _ (List.mem_append_right _ (List.mem_append_right _ (List.mem_append_right _ (List.mem_append_right _ (List.mem_append_right _ (h)))))))
set_option maxRecDepth 20000 in
theorem mv_w0 : Jvm.Cond.code { cls := "RunCuts", name := "blank", desc := "()I" } prog_1_method_3_code 2 (Option.some Jvm.ClassFile.FieldType.int) ∈ lw_tbl := mv_tb2 (List.mem_of_getElem? (i := 91) rfl)
set_option maxRecDepth 20000 in
theorem mv_w1 : Jvm.Cond.code { cls := "RunCuts", name := "played", desc := "(I)I" } prog_1_method_28_code 2 (Option.some Jvm.ClassFile.FieldType.int) ∈ lw_tbl := mv_tb4 (List.mem_of_getElem? (i := 78) rfl)
set_option maxRecDepth 20000 in
theorem mv_w2 : Jvm.Cond.code { cls := "RunCuts", name := "mix", desc := "(JI)J" } prog_1_method_33_code 3 (Option.some Jvm.ClassFile.FieldType.long) ∈ lw_tbl := mv_tb4 (List.mem_of_getElem? (i := 148) rfl)
set_option maxRecDepth 20000 in
theorem mv_w3 : Jvm.Cond.code { cls := "RunCuts", name := "hasComputation", desc := "()Z" } prog_1_method_38_code 1 (Option.some Jvm.ClassFile.FieldType.boolean) ∈ lw_tbl := mv_tb3 (List.mem_of_getElem? (i := 26) rfl)
set_option maxRecDepth 20000 in
theorem mv_w4 : Jvm.Cond.code { cls := "RunCuts", name := "levelOf", desc := "(I)I" } prog_1_method_46_code 1 (Option.some Jvm.ClassFile.FieldType.int) ∈ lw_tbl := mv_tb3 (List.mem_of_getElem? (i := 41) rfl)
set_option maxRecDepth 20000 in
theorem mv_w5 : Jvm.Cond.code { cls := "RunCuts$Page", name := "append", desc := "(I)V" } prog_6_method_2_code 2 (Option.none : Option Jvm.ClassFile.FieldType) ∈ lw_tbl := mv_tb2 (List.mem_of_getElem? (i := 87) rfl)
set_option maxRecDepth 20000 in
theorem mv_w6 : Jvm.Cond.code { cls := "RunCuts$Page", name := "countProcesses", desc := "()I" } prog_6_method_5_code 3 (Option.some Jvm.ClassFile.FieldType.int) ∈ lw_tbl := mv_tb2 (List.mem_of_getElem? (i := 114) rfl)
set_option maxRecDepth 20000 in
theorem mv_w7 : Jvm.Cond.code { cls := "RunCuts$Page", name := "isDigit", desc := "(I)Z" } prog_6_method_6_code 1 (Option.some Jvm.ClassFile.FieldType.boolean) ∈ lw_tbl := mv_tb2 (List.mem_of_getElem? (i := 102) rfl)
set_option maxRecDepth 20000 in
theorem mv_w8 : Jvm.Cond.code { cls := "RunCuts$Events", name := "hasProcess", desc := "(I)Z" } prog_2_method_3_code 2 (Option.some Jvm.ClassFile.FieldType.boolean) ∈ lw_tbl := mv_tb2 (List.mem_of_getElem? (i := 134) rfl)
set_option maxRecDepth 20000 in
theorem mv_w9 : Jvm.Cond.code { cls := "RunCuts$Events", name := "hasRoom", desc := "(I)Z" } prog_2_method_6_code 2 (Option.some Jvm.ClassFile.FieldType.boolean) ∈ lw_tbl := mv_tb2 (List.mem_of_getElem? (i := 208) rfl)
set_option maxRecDepth 20000 in
theorem mv_w10 : Jvm.Cond.code { cls := "RunCuts$Events", name := "append", desc := "(III)V" } prog_2_method_7_code 5 (Option.none : Option Jvm.ClassFile.FieldType) ∈ lw_tbl := mv_tb2 (List.mem_of_getElem? (i := 126) rfl)
set_option maxRecDepth 20000 in
theorem mv_w11 : Jvm.Cond.code { cls := "RunCuts$Events", name := "canDropLast", desc := "(I)Z" } prog_2_method_8_code 3 (Option.some Jvm.ClassFile.FieldType.boolean) ∈ lw_tbl := mv_tb2 (List.mem_of_getElem? (i := 234) rfl)
set_option maxRecDepth 20000 in
theorem mv_w12 : Jvm.Cond.code { cls := "RunCuts$Events", name := "dropLast", desc := "(I)V" } prog_2_method_9_code 2 (Option.none : Option Jvm.ClassFile.FieldType) ∈ lw_tbl := mv_tb2 (List.mem_of_getElem? (i := 238) rfl)
set_option maxRecDepth 20000 in
theorem mv_w13 : Jvm.Cond.code { cls := "RunCuts$Events", name := "pairReceive", desc := "(II)Z" } prog_2_method_12_code 6 (Option.some Jvm.ClassFile.FieldType.boolean) ∈ lw_tbl := mv_tb2 (List.mem_of_getElem? (i := 146) rfl)
set_option maxRecDepth 20000 in
theorem mv_w14 : Jvm.Cond.code { cls := "RunCuts$Events", name := "firstOf", desc := "(I)I" } prog_2_method_15_code 2 (Option.some Jvm.ClassFile.FieldType.int) ∈ lw_tbl := mv_tb2 (List.mem_of_getElem? (i := 167) rfl)
set_option maxRecDepth 20000 in
theorem mv_w15 : Jvm.Cond.code { cls := "RunCuts$Events", name := "followProcess", desc := "(I)V" } prog_2_method_16_code 6 (Option.none : Option Jvm.ClassFile.FieldType) ∈ lw_tbl := mv_tb2 (List.mem_of_getElem? (i := 182) rfl)
set_option maxRecDepth 20000 in
theorem mv_w16 : Jvm.Cond.code { cls := "RunCuts$Events", name := "kindOf", desc := "(II)I" } prog_2_method_17_code 3 (Option.some Jvm.ClassFile.FieldType.int) ∈ lw_tbl := mv_tb4 (List.mem_of_getElem? (i := 36) rfl)
set_option maxRecDepth 20000 in
theorem mv_w17 : Jvm.Cond.code { cls := "RunCuts$Events", name := "detailOf", desc := "(II)I" } prog_2_method_18_code 3 (Option.some Jvm.ClassFile.FieldType.int) ∈ lw_tbl := mv_tb4 (List.mem_of_getElem? (i := 42) rfl)
set_option maxRecDepth 20000 in
theorem mv_w18 : Jvm.Cond.code { cls := "RunCuts$Events", name := "valueAfter", desc := "(II)I" } prog_2_method_19_code 3 (Option.some Jvm.ClassFile.FieldType.int) ∈ lw_tbl := mv_tb3 (List.mem_of_getElem? (i := 224) rfl)
set_option maxRecDepth 20000 in
theorem mv_w19 : Jvm.Cond.code { cls := "RunCuts$Events", name := "isBefore", desc := "(IIII)Z" } prog_2_method_21_code 5 (Option.some Jvm.ClassFile.FieldType.boolean) ∈ lw_tbl := mv_tb3 (List.mem_of_getElem? (i := 18) rfl)
set_option maxRecDepth 20000 in
theorem mv_w20 : Jvm.Cond.code { cls := "RunCuts$Events", name := "hasFreeSend", desc := "(II)Z" } prog_2_method_22_code 5 (Option.some Jvm.ClassFile.FieldType.boolean) ∈ lw_tbl := mv_tb2 (List.mem_of_getElem? (i := 226) rfl)
set_option maxRecDepth 20000 in
theorem mv_w21 : Jvm.Cond.code { cls := "RunCuts$Events", name := "countKind", desc := "(I)I" } prog_2_method_23_code 5 (Option.some Jvm.ClassFile.FieldType.int) ∈ lw_tbl := mv_tb4 (List.mem_of_getElem? (i := 136) rfl)
set_option maxRecDepth 20000 in
theorem mv_w22 : Jvm.Cond.code { cls := "RunCuts$Events", name := "isCut", desc := "(I)Z" } prog_2_method_24_code 4 (Option.some Jvm.ClassFile.FieldType.boolean) ∈ lw_tbl := mv_tb3 (List.mem_of_getElem? (i := 30) rfl)
set_option maxRecDepth 20000 in
theorem mv_w23 : Jvm.Cond.code { cls := "RunCuts$Events", name := "countIn", desc := "(II)I" } prog_2_method_25_code 3 (Option.some Jvm.ClassFile.FieldType.int) ∈ lw_tbl := mv_tb2 (List.mem_of_getElem? (i := 162) rfl)
set_option maxRecDepth 20000 in
theorem mv_w24 : Jvm.Cond.code { cls := "RunCuts$Events", name := "with", desc := "(II)I" } prog_2_method_26_code 3 (Option.some Jvm.ClassFile.FieldType.int) ∈ lw_tbl := mv_tb2 (List.mem_of_getElem? (i := 178) rfl)
set_option maxRecDepth 20000 in
theorem mv_w25 : Jvm.Cond.code { cls := "RunCuts$Events", name := "valueIn", desc := "(II)I" } prog_2_method_31_code 3 (Option.some Jvm.ClassFile.FieldType.int) ∈ lw_tbl := mv_tb3 (List.mem_of_getElem? (i := 81) rfl)
set_option maxRecDepth 20000 in
theorem mv_w26 : Jvm.Cond.code { cls := "RunCuts$Lattice", name := "sizeOfLevel", desc := "(I)I" } prog_4_method_8_code 2 (Option.some Jvm.ClassFile.FieldType.int) ∈ lw_tbl := mv_tb3 (List.mem_of_getElem? (i := 152) rfl)
set_option maxRecDepth 20000 in
theorem mv_w27 : Jvm.Cond.code { cls := "RunCuts$Lattice", name := "inOrder", desc := "(I)I" } prog_4_method_10_code 2 (Option.some Jvm.ClassFile.FieldType.int) ∈ lw_tbl := mv_tb3 (List.mem_of_getElem? (i := 161) rfl)
set_option maxRecDepth 20000 in
theorem mv_w28 : Jvm.Cond.code { cls := "RunCuts$Predicate", name := "allows", desc := "(II)Z" } prog_8_method_3_code 3 (Option.some Jvm.ClassFile.FieldType.boolean) ∈ lw_tbl := mv_tb3 (List.mem_of_getElem? (i := 85) rfl)
set_option maxRecDepth 20000 in
theorem mv_w29 : Jvm.Cond.code { cls := "RunCuts$Search", name := "property", desc := "(I)I" } prog_9_method_5_code 2 (Option.some Jvm.ClassFile.FieldType.int) ∈ lw_tbl := mv_tb3 (List.mem_of_getElem? (i := 195) rfl)
set_option maxRecDepth 20000 in
theorem mv_w30 : Jvm.Cond.code { cls := "RunCuts$Search", name := "leastCut", desc := "()I" } prog_9_method_6_code 1 (Option.some Jvm.ClassFile.FieldType.int) ∈ lw_tbl := mv_tb3 (List.mem_of_getElem? (i := 211) rfl)
set_option maxRecDepth 20000 in
theorem mv_w31 : Jvm.Cond.code { cls := "RunCuts$Intervals", name := "begin", desc := "(II)V" } prog_3_method_3_code 3 (Option.none : Option Jvm.ClassFile.FieldType) ∈ lw_tbl := mv_tb3 (List.mem_of_getElem? (i := 229) rfl)
set_option maxRecDepth 20000 in
theorem mv_w32 : Jvm.Cond.code { cls := "RunCuts$Intervals", name := "firstOf", desc := "(II)I" } prog_3_method_4_code 3 (Option.some Jvm.ClassFile.FieldType.int) ∈ lw_tbl := mv_tb4 (List.mem_of_getElem? (i := 5) rfl)
set_option maxRecDepth 20000 in
theorem mv_w33 : Jvm.Cond.code { cls := "RunCuts$Intervals", name := "lastOf", desc := "(II)I" } prog_3_method_5_code 3 (Option.some Jvm.ClassFile.FieldType.int) ∈ lw_tbl := mv_tb4 (List.mem_of_getElem? (i := 9) rfl)
set_option maxRecDepth 20000 in
theorem mv_w34 : Jvm.Cond.code { cls := "RunCuts$Intervals", name := "chooseNext", desc := "(I)V" } prog_3_method_7_code 3 (Option.none : Option Jvm.ClassFile.FieldType) ∈ lw_tbl := mv_tb4 (List.mem_of_getElem? (i := 14) rfl)
set_option maxRecDepth 20000 in
theorem mv_w35 : Jvm.Cond.code { cls := "RunCuts$Lean", name := "forget", desc := "()V" } prog_5_method_2_code 1 (Option.none : Option Jvm.ClassFile.FieldType) ∈ lw_tbl := mv_tb2 (List.mem_of_getElem? (i := 199) rfl)
set_option maxRecDepth 20000 in
theorem mv_w36 : Jvm.Cond.code { cls := "RunCuts$Snapshot", name := "firstMarker", desc := "(Z)I" } prog_10_method_8_code 3 (Option.some Jvm.ClassFile.FieldType.int) ∈ lw_tbl := mv_tb4 (List.mem_of_getElem? (i := 112) rfl)
set_option maxRecDepth 20000 in
theorem mv_w37 : Jvm.Cond.code { cls := "RunCuts$Snapshot", name := "property", desc := "(I)I" } prog_10_method_10_code 2 (Option.some Jvm.ClassFile.FieldType.int) ∈ lw_tbl := mv_tb4 (List.mem_of_getElem? (i := 128) rfl)
set_option maxRecDepth 20000 in
theorem mv_w38 : Jvm.Cond.code { cls := "RunCutsModel", name := "within", desc := "(III)Z" } prog_12_method_3_code 3 (Option.some Jvm.ClassFile.FieldType.boolean) ∈ lw_tbl := mv_tb5 (List.mem_of_getElem? (i := 71) rfl)
set_option maxRecDepth 20000 in
theorem mv_w39 : Jvm.Cond.code { cls := "RunCutsModel", name := "blank", desc := "()I" } prog_12_method_5_code 2 (Option.some Jvm.ClassFile.FieldType.int) ∈ lw_tbl := mv_tb5 (List.mem_of_getElem? (i := 75) rfl)
set_option maxRecDepth 20000 in
theorem mv_w40 : Jvm.Cond.code { cls := "RunCutsModel", name := "takesEvent", desc := "(II)Z" } prog_12_method_6_code 4 (Option.some Jvm.ClassFile.FieldType.boolean) ∈ lw_tbl := mv_tb5 (List.mem_of_getElem? (i := 91) rfl)
set_option maxRecDepth 20000 in
theorem mv_w41 : Jvm.Cond.code { cls := "RunCutsModel", name := "areOthers", desc := "()Z" } prog_12_method_10_code 5 (Option.some Jvm.ClassFile.FieldType.boolean) ∈ lw_tbl := mv_tb5 (List.mem_of_getElem? (i := 99) rfl)
set_option maxRecDepth 20000 in
theorem mv_w42 : Jvm.Cond.code { cls := "RunCutsModel", name := "newOf", desc := "(IIII)I" } prog_12_method_11_code 8 (Option.some Jvm.ClassFile.FieldType.int) ∈ lw_tbl := mv_tb5 (List.mem_of_getElem? (i := 111) rfl)
set_option maxRecDepth 20000 in
theorem mv_w43 : Jvm.Cond.code { cls := "RunCutsModel", name := "isRun", desc := "()Z" } prog_12_method_15_code 1 (Option.some Jvm.ClassFile.FieldType.boolean) ∈ lw_tbl := mv_tb5 (List.mem_of_getElem? (i := 199) rfl)
set_option maxRecDepth 20000 in
theorem mv_w44 : Jvm.Cond.code { cls := "RunCutsModel", name := "of", desc := "(IIII)I" } prog_12_method_17_code 8 (Option.some Jvm.ClassFile.FieldType.int) ∈ lw_tbl := mv_tb5 (List.mem_of_getElem? (i := 123) rfl)
set_option maxRecDepth 20000 in
theorem mv_w45 : Jvm.Cond.code { cls := "RunCutsModel", name := "layVector", desc := "(II)V" } prog_12_method_21_code 8 (Option.none : Option Jvm.ClassFile.FieldType) ∈ lw_tbl := mv_tb5 (List.mem_of_getElem? (i := 135) rfl)
set_option maxRecDepth 20000 in
theorem mv_w46 : Jvm.Cond.code { cls := "RunCutsModel", name := "eventsAll", desc := "()I" } prog_12_method_24_code 3 (Option.some Jvm.ClassFile.FieldType.int) ∈ lw_tbl := mv_tb5 (List.mem_of_getElem? (i := 151) rfl)
set_option maxRecDepth 20000 in
theorem mv_w47 : Jvm.Cond.code { cls := "RunCutsModel", name := "eventNow", desc := "(III)I" } prog_12_method_31_code 5 (Option.some Jvm.ClassFile.FieldType.int) ∈ lw_tbl := mv_tb5 (List.mem_of_getElem? (i := 179) rfl)
set_option maxRecDepth 20000 in
theorem mv_w48 : Jvm.Cond.code { cls := "RunCutsModel", name := "isAhead", desc := "(IIII)Z" } prog_12_method_33_code 5 (Option.some Jvm.ClassFile.FieldType.boolean) ∈ lw_tbl := mv_tb5 (List.mem_of_getElem? (i := 191) rfl)
set_option maxRecDepth 20000 in
theorem mv_w49 : Jvm.Cond.code { cls := "RunCutsModel", name := "cutsAll", desc := "()I" } prog_12_method_36_code 3 (Option.some Jvm.ClassFile.FieldType.int) ∈ lw_tbl := mv_tb6 (List.mem_of_getElem? (i := 23) rfl)
set_option maxRecDepth 20000 in
theorem mv_w50 : Jvm.Cond.code { cls := "RunCutsModel", name := "take", desc := "(I)V" } prog_12_method_37_code 4 (Option.none : Option Jvm.ClassFile.FieldType) ∈ lw_tbl := mv_tb6 (List.mem_of_getElem? (i := 27) rfl)
set_option maxRecDepth 20000 in
theorem mv_w51 : Jvm.Cond.code { cls := "RunCutsModel", name := "stride", desc := "(I)I" } prog_12_method_38_code 4 (Option.some Jvm.ClassFile.FieldType.int) ∈ lw_tbl := mv_tb6 (List.mem_of_getElem? (i := 35) rfl)
set_option maxRecDepth 20000 in
theorem mv_w52 : Jvm.Cond.code { cls := "RunCutsModel", name := "indexNow", desc := "()I" } prog_12_method_39_code 3 (Option.some Jvm.ClassFile.FieldType.int) ∈ lw_tbl := mv_tb5 (List.mem_of_getElem? (i := 215) rfl)
set_option maxRecDepth 20000 in
theorem mv_w53 : Jvm.Cond.code { cls := "RunCutsModel", name := "toldNow", desc := "()I" } prog_12_method_40_code 3 (Option.some Jvm.ClassFile.FieldType.int) ∈ lw_tbl := mv_tb6 (List.mem_of_getElem? (i := 59) rfl)
set_option maxRecDepth 20000 in
theorem mv_w54 : Jvm.Cond.code { cls := "RunCutsModel", name := "takesTold", desc := "(I)Z" } prog_12_method_42_code 5 (Option.some Jvm.ClassFile.FieldType.boolean) ∈ lw_tbl := mv_tb5 (List.mem_of_getElem? (i := 203) rfl)
set_option maxRecDepth 20000 in
theorem mv_w55 : Jvm.Cond.code { cls := "RunCutsModel", name := "isConsistent", desc := "()Z" } prog_12_method_43_code 4 (Option.some Jvm.ClassFile.FieldType.boolean) ∈ lw_tbl := mv_tb5 (List.mem_of_getElem? (i := 207) rfl)
set_option maxRecDepth 20000 in
theorem mv_w56 : Jvm.Cond.code { cls := "RunCutsModel", name := "levelNow", desc := "()I" } prog_12_method_44_code 3 (Option.some Jvm.ClassFile.FieldType.int) ∈ lw_tbl := mv_tb5 (List.mem_of_getElem? (i := 219) rfl)
set_option maxRecDepth 20000 in
theorem mv_w57 : Jvm.Cond.code { cls := "RunCutsModel", name := "valueOf", desc := "(II)I" } prog_12_method_45_code 6 (Option.some Jvm.ClassFile.FieldType.int) ∈ lw_tbl := mv_tb5 (List.mem_of_getElem? (i := 235) rfl)
set_option maxRecDepth 20000 in
theorem mv_w58 : Jvm.Cond.code { cls := "RunCutsModel", name := "underOf", desc := "(II)I" } prog_12_method_46_code 7 (Option.some Jvm.ClassFile.FieldType.int) ∈ lw_tbl := mv_tb6 (List.mem_of_getElem? (i := 7) rfl)
set_option maxRecDepth 20000 in
theorem mv_w59 : Jvm.Cond.code { cls := "RunCutsModel", name := "keep", desc := "()V" } prog_12_method_90_code 2 (Option.none : Option Jvm.ClassFile.FieldType) ∈ lw_tbl := mv_tb6 (List.mem_of_getElem? (i := 183) rfl)
set_option maxRecDepth 20000 in
theorem mv_w60 : Jvm.Cond.code { cls := "RunCutsModel", name := "drawOf", desc := "(I)I" } prog_12_method_95_code 2 (Option.some Jvm.ClassFile.FieldType.int) ∈ lw_tbl := mv_tb6 (List.mem_of_getElem? (i := 207) rfl)
set_option maxRecDepth 20000 in
theorem mv_w61 : Jvm.Cond.code { cls := "RunCutsModel", name := "canCome", desc := "(I)Z" } prog_12_method_96_code 3 (Option.some Jvm.ClassFile.FieldType.boolean) ∈ lw_tbl := mv_tb6 (List.mem_of_getElem? (i := 203) rfl)
set_option maxRecDepth 20000 in
theorem mv_w62 : Jvm.Cond.code { cls := "RunCutsModel", name := "shotsNow", desc := "(I)I" } prog_12_method_106_code 2 (Option.some Jvm.ClassFile.FieldType.int) ∈ lw_tbl := mv_tb7 (List.mem_of_getElem? (i := 7) rfl)
set_option maxRecDepth 20000 in
theorem mv_w63 : Jvm.Cond.code { cls := "RunCutsModel", name := "eventsOf", desc := "(I)I" } prog_12_method_108_code 5 (Option.some Jvm.ClassFile.FieldType.int) ∈ lw_tbl := mv_tb7 (List.mem_of_getElem? (i := 19) rfl)
set_option maxRecDepth 20000 in
theorem mv_w64 : Jvm.Cond.code { cls := "RunCutsModel", name := "mix", desc := "(J)V" } prog_12_method_111_code 3 (Option.none : Option Jvm.ClassFile.FieldType) ∈ lw_tbl := mv_tb7 (List.mem_of_getElem? (i := 32) rfl)
set_option maxRecDepth 20000 in
theorem mv_w65 : Jvm.Cond.code { cls := "java/util/Arrays", name := "fill", desc := "([II)V" } prog_15_method_103_code 4 (Option.none : Option Jvm.ClassFile.FieldType) ∈ lw_tbl := mv_tb2 (List.mem_of_getElem? (i := 122) rfl)
set_option maxRecDepth 20000 in
theorem mv_w66 : Jvm.Cond.code { cls := "java/lang/Integer", name := "bitCount", desc := "(I)I" } prog_13_method_49_code 1 (Option.some Jvm.ClassFile.FieldType.int) ∈ lw_tbl := mv_tb4 (List.mem_of_getElem? (i := 69) rfl)
set_option maxRecDepth 20000 in
theorem mv_w67 : Jvm.Cond.code { cls := "RunCuts", name := "letter", desc := "(I)I" } prog_1_method_2_code 2 (Option.some Jvm.ClassFile.FieldType.int) ∈ lw_tbl := mv_tb2 (List.mem_of_getElem? (i := 83) rfl)
set_option maxRecDepth 20000 in
theorem mv_w68 : Jvm.Cond.code { cls := "RunCuts", name := "value", desc := "(II)I" } prog_1_method_13_code 3 (Option.some Jvm.ClassFile.FieldType.int) ∈ lw_tbl := mv_tb3 (List.mem_of_getElem? (i := 110) rfl)
set_option maxRecDepth 20000 in
theorem mv_w69 : Jvm.Cond.code { cls := "RunCuts", name := "shots", desc := "(I)I" } prog_1_method_30_code 2 (Option.some Jvm.ClassFile.FieldType.int) ∈ lw_tbl := mv_tb4 (List.mem_of_getElem? (i := 124) rfl)
set_option maxRecDepth 20000 in
theorem mv_w70 : Jvm.Cond.code { cls := "RunCuts", name := "count", desc := "(I)I" } prog_1_method_31_code 2 (Option.some Jvm.ClassFile.FieldType.int) ∈ lw_tbl := mv_tb4 (List.mem_of_getElem? (i := 132) rfl)
set_option maxRecDepth 20000 in
theorem mv_w71 : Jvm.Cond.code { cls := "RunCuts", name := "mixSearch", desc := "(J)J" } prog_1_method_36_code 4 (Option.some Jvm.ClassFile.FieldType.long) ∈ lw_tbl := mv_tb4 (List.mem_of_getElem? (i := 157) rfl)
set_option maxRecDepth 20000 in
theorem mv_w72 : Jvm.Cond.code { cls := "RunCuts", name := "hasConjunction", desc := "()Z" } prog_1_method_39_code 1 (Option.some Jvm.ClassFile.FieldType.boolean) ∈ lw_tbl := mv_tb3 (List.mem_of_getElem? (i := 207) rfl)
set_option maxRecDepth 20000 in
theorem mv_w73 : Jvm.Cond.code { cls := "RunCuts", name := "forgetSearches", desc := "()V" } prog_1_method_42_code 1 (Option.none : Option Jvm.ClassFile.FieldType) ∈ lw_tbl := mv_tb2 (List.mem_of_getElem? (i := 195) rfl)
set_option maxRecDepth 20000 in
theorem mv_w74 : Jvm.Cond.code { cls := "RunCuts$Page", name := "<init>", desc := "()V" } prog_6_method_1_code 1 (Option.none : Option Jvm.ClassFile.FieldType) ∈ lw_tbl := mv_tb1 (List.mem_of_getElem? (i := 27) rfl)
set_option maxRecDepth 20000 in
theorem mv_w75 : Jvm.Cond.code { cls := "RunCuts$Page", name := "firstFault", desc := "()I" } prog_6_method_3_code 7 (Option.some Jvm.ClassFile.FieldType.int) ∈ lw_tbl := mv_tb2 (List.mem_of_getElem? (i := 99) rfl)
set_option maxRecDepth 20000 in
theorem mv_w76 : Jvm.Cond.code { cls := "RunCuts$Events", name := "<init>", desc := "()V" } prog_2_method_1_code 1 (Option.none : Option Jvm.ClassFile.FieldType) ∈ lw_tbl := mv_tb1 (List.mem_of_getElem? (i := 43) rfl)
set_option maxRecDepth 20000 in
theorem mv_w77 : Jvm.Cond.code { cls := "RunCuts$Events", name := "begin", desc := "(I)V" } prog_2_method_2_code 2 (Option.none : Option Jvm.ClassFile.FieldType) ∈ lw_tbl := mv_tb2 (List.mem_of_getElem? (i := 119) rfl)
set_option maxRecDepth 20000 in
theorem mv_w78 : Jvm.Cond.code { cls := "RunCuts$Events", name := "hasChannel", desc := "(II)Z" } prog_2_method_4_code 3 (Option.some Jvm.ClassFile.FieldType.boolean) ∈ lw_tbl := mv_tb2 (List.mem_of_getElem? (i := 130) rfl)
set_option maxRecDepth 20000 in
theorem mv_w79 : Jvm.Cond.code { cls := "RunCuts$Events", name := "hasEvent", desc := "(II)Z" } prog_2_method_5_code 3 (Option.some Jvm.ClassFile.FieldType.boolean) ∈ lw_tbl := mv_tb3 (List.mem_of_getElem? (i := 6) rfl)
set_option maxRecDepth 20000 in
theorem mv_w80 : Jvm.Cond.code { cls := "RunCuts$Events", name := "pairMessages", desc := "()Z" } prog_2_method_11_code 3 (Option.some Jvm.ClassFile.FieldType.boolean) ∈ lw_tbl := mv_tb2 (List.mem_of_getElem? (i := 142) rfl)
set_option maxRecDepth 20000 in
theorem mv_w81 : Jvm.Cond.code { cls := "RunCuts$Events", name := "findVector", desc := "(II)V" } prog_2_method_14_code 7 (Option.none : Option Jvm.ClassFile.FieldType) ∈ lw_tbl := mv_tb2 (List.mem_of_getElem? (i := 171) rfl)
set_option maxRecDepth 20000 in
theorem mv_w82 : Jvm.Cond.code { cls := "RunCuts$Events", name := "property", desc := "(III)I" } prog_2_method_20_code 6 (Option.some Jvm.ClassFile.FieldType.int) ∈ lw_tbl := mv_tb3 (List.mem_of_getElem? (i := 10) rfl)
set_option maxRecDepth 20000 in
theorem mv_w83 : Jvm.Cond.code { cls := "RunCuts$Events", name := "hasPastIn", desc := "(II)Z" } prog_2_method_28_code 4 (Option.some Jvm.ClassFile.FieldType.boolean) ∈ lw_tbl := mv_tb3 (List.mem_of_getElem? (i := 38) rfl)
set_option maxRecDepth 20000 in
theorem mv_w84 : Jvm.Cond.code { cls := "RunCuts$Events", name := "canFollow", desc := "(II)Z" } prog_2_method_29_code 5 (Option.some Jvm.ClassFile.FieldType.boolean) ∈ lw_tbl := mv_tb2 (List.mem_of_getElem? (i := 158) rfl)
set_option maxRecDepth 20000 in
theorem mv_w85 : Jvm.Cond.code { cls := "RunCuts$Events", name := "underWay", desc := "(I)I" } prog_2_method_32_code 4 (Option.some Jvm.ClassFile.FieldType.int) ∈ lw_tbl := mv_tb3 (List.mem_of_getElem? (i := 92) rfl)
set_option maxRecDepth 20000 in
theorem mv_w86 : Jvm.Cond.code { cls := "RunCuts$Events", name := "underWayBetween", desc := "(III)I" } prog_2_method_33_code 8 (Option.some Jvm.ClassFile.FieldType.int) ∈ lw_tbl := mv_tb3 (List.mem_of_getElem? (i := 119) rfl)
set_option maxRecDepth 20000 in
theorem mv_w87 : Jvm.Cond.code { cls := "RunCuts$Events", name := "combine", desc := "(IIZ)I" } prog_2_method_34_code 8 (Option.some Jvm.ClassFile.FieldType.int) ∈ lw_tbl := mv_tb3 (List.mem_of_getElem? (i := 131) rfl)
set_option maxRecDepth 20000 in
theorem mv_w88 : Jvm.Cond.code { cls := "RunCuts$Lattice", name := "<init>", desc := "()V" } prog_4_method_1_code 1 (Option.none : Option Jvm.ClassFile.FieldType) ∈ lw_tbl := mv_tb1 (List.mem_of_getElem? (i := 96) rfl)
set_option maxRecDepth 20000 in
theorem mv_w89 : Jvm.Cond.code { cls := "RunCuts$Lattice", name := "numberPlaces", desc := "(LRunCuts$Events;)V" } prog_4_method_3_code 4 (Option.none : Option Jvm.ClassFile.FieldType) ∈ lw_tbl := mv_tb3 (List.mem_of_getElem? (i := 49) rfl)
set_option maxRecDepth 20000 in
theorem mv_w90 : Jvm.Cond.code { cls := "RunCuts$Lattice", name := "sortByLevel", desc := "()V" } prog_4_method_6_code 3 (Option.none : Option Jvm.ClassFile.FieldType) ∈ lw_tbl := mv_tb3 (List.mem_of_getElem? (i := 64) rfl)
set_option maxRecDepth 20000 in
theorem mv_w91 : Jvm.Cond.code { cls := "RunCuts$Lattice", name := "widestLevel", desc := "()I" } prog_4_method_9_code 3 (Option.some Jvm.ClassFile.FieldType.int) ∈ lw_tbl := mv_tb3 (List.mem_of_getElem? (i := 148) rfl)
set_option maxRecDepth 20000 in
theorem mv_w92 : Jvm.Cond.code { cls := "RunCuts$Lattice", name := "pathsThrough", desc := "(LRunCuts$Events;I)I" } prog_4_method_11_code 5 (Option.some Jvm.ClassFile.FieldType.int) ∈ lw_tbl := mv_tb3 (List.mem_of_getElem? (i := 105) rfl)
set_option maxRecDepth 20000 in
theorem mv_w93 : Jvm.Cond.code { cls := "RunCuts$Predicate", name := "<init>", desc := "()V" } prog_8_method_1_code 1 (Option.none : Option Jvm.ClassFile.FieldType) ∈ lw_tbl := mv_tb1 (List.mem_of_getElem? (i := 143) rfl)
set_option maxRecDepth 20000 in
theorem mv_w94 : Jvm.Cond.code { cls := "RunCuts$Predicate", name := "allowAll", desc := "()V" } prog_8_method_2_code 1 (Option.none : Option Jvm.ClassFile.FieldType) ∈ lw_tbl := mv_tb2 (List.mem_of_getElem? (i := 186) rfl)
set_option maxRecDepth 20000 in
theorem mv_w95 : Jvm.Cond.code { cls := "RunCuts$Predicate", name := "allowsAll", desc := "(LRunCuts$Events;I)Z" } prog_8_method_5_code 4 (Option.some Jvm.ClassFile.FieldType.boolean) ∈ lw_tbl := mv_tb3 (List.mem_of_getElem? (i := 77) rfl)
set_option maxRecDepth 20000 in
theorem mv_w96 : Jvm.Cond.code { cls := "RunCuts$Predicate", name := "sumIn", desc := "(LRunCuts$Events;I)I" } prog_8_method_6_code 4 (Option.some Jvm.ClassFile.FieldType.int) ∈ lw_tbl := mv_tb3 (List.mem_of_getElem? (i := 88) rfl)
set_option maxRecDepth 20000 in
theorem mv_w97 : Jvm.Cond.code { cls := "RunCuts$Predicate", name := "spreadIn", desc := "(LRunCuts$Events;I)I" } prog_8_method_7_code 6 (Option.some Jvm.ClassFile.FieldType.int) ∈ lw_tbl := mv_tb3 (List.mem_of_getElem? (i := 95) rfl)
set_option maxRecDepth 20000 in
theorem mv_w98 : Jvm.Cond.code { cls := "RunCuts$Search", name := "<init>", desc := "()V" } prog_9_method_1_code 1 (Option.none : Option Jvm.ClassFile.FieldType) ∈ lw_tbl := mv_tb1 (List.mem_of_getElem? (i := 162) rfl)
set_option maxRecDepth 20000 in
theorem mv_w99 : Jvm.Cond.code { cls := "RunCuts$Intervals", name := "<init>", desc := "()V" } prog_3_method_1_code 1 (Option.none : Option Jvm.ClassFile.FieldType) ∈ lw_tbl := mv_tb1 (List.mem_of_getElem? (i := 192) rfl)
set_option maxRecDepth 20000 in
theorem mv_w100 : Jvm.Cond.code { cls := "RunCuts$Intervals", name := "find", desc := "(LRunCuts$Events;LRunCuts$Predicate;)V" } prog_3_method_2_code 7 (Option.none : Option Jvm.ClassFile.FieldType) ∈ lw_tbl := mv_tb3 (List.mem_of_getElem? (i := 219) rfl)
set_option maxRecDepth 20000 in
theorem mv_w101 : Jvm.Cond.code { cls := "RunCuts$Intervals", name := "beginsBeforeEnd", desc := "(LRunCuts$Events;II)Z" } prog_3_method_9_code 6 (Option.some Jvm.ClassFile.FieldType.boolean) ∈ lw_tbl := mv_tb4 (List.mem_of_getElem? (i := 1) rfl)
set_option maxRecDepth 20000 in
theorem mv_w102 : Jvm.Cond.code { cls := "RunCuts$Lean", name := "matters", desc := "(LRunCuts$Events;LRunCuts$Predicate;II)Z" } prog_5_method_4_code 5 (Option.some Jvm.ClassFile.FieldType.boolean) ∈ lw_tbl := mv_tb4 (List.mem_of_getElem? (i := 32) rfl)
set_option maxRecDepth 20000 in
theorem mv_w103 : Jvm.Cond.code { cls := "RunCuts$Lean", name := "property", desc := "(I)I" } prog_5_method_5_code 2 (Option.some Jvm.ClassFile.FieldType.int) ∈ lw_tbl := mv_tb4 (List.mem_of_getElem? (i := 50) rfl)
set_option maxRecDepth 20000 in
theorem mv_w104 : Jvm.Cond.code { cls := "RunCuts$Play", name := "<init>", desc := "()V" } prog_7_method_1_code 1 (Option.none : Option Jvm.ClassFile.FieldType) ∈ lw_tbl := mv_tb1 (List.mem_of_getElem? (i := 234) rfl)
set_option maxRecDepth 20000 in
theorem mv_w105 : Jvm.Cond.code { cls := "RunCuts$Play", name := "choose", desc := "(IJ)I" } prog_7_method_3_code 7 (Option.some Jvm.ClassFile.FieldType.int) ∈ lw_tbl := mv_tb4 (List.mem_of_getElem? (i := 66) rfl)
set_option maxRecDepth 20000 in
theorem mv_w106 : Jvm.Cond.code { cls := "RunCuts$Snapshot", name := "<init>", desc := "()V" } prog_10_method_1_code 1 (Option.none : Option Jvm.ClassFile.FieldType) ∈ lw_tbl := mv_tb2 (List.mem_of_getElem? (i := 11) rfl)
set_option maxRecDepth 20000 in
theorem mv_w107 : Jvm.Cond.code { cls := "RunCuts$Snapshot", name := "clear", desc := "()V" } prog_10_method_3_code 1 (Option.none : Option Jvm.ClassFile.FieldType) ∈ lw_tbl := mv_tb4 (List.mem_of_getElem? (i := 90) rfl)
set_option maxRecDepth 20000 in
theorem mv_w108 : Jvm.Cond.code { cls := "RunCuts$Snapshot", name := "pass", desc := "(LRunCuts$Events;I)V" } prog_10_method_4_code 6 (Option.none : Option Jvm.ClassFile.FieldType) ∈ lw_tbl := mv_tb4 (List.mem_of_getElem? (i := 95) rfl)
set_option maxRecDepth 20000 in
theorem mv_w109 : Jvm.Cond.code { cls := "RunCuts$Snapshot", name := "note", desc := "(LRunCuts$Events;I)V" } prog_10_method_5_code 5 (Option.none : Option Jvm.ClassFile.FieldType) ∈ lw_tbl := mv_tb4 (List.mem_of_getElem? (i := 103) rfl)
set_option maxRecDepth 20000 in
theorem mv_w110 : Jvm.Cond.code { cls := "RunCutsModel", name := "<init>", desc := "()V" } prog_12_method_1_code 1 (Option.none : Option Jvm.ClassFile.FieldType) ∈ lw_tbl := mv_tb4 (List.mem_of_getElem? (i := 167) rfl)
set_option maxRecDepth 20000 in
theorem mv_w111 : Jvm.Cond.code { cls := "RunCutsModel", name := "letter", desc := "(I)I" } prog_12_method_4_code 2 (Option.some Jvm.ClassFile.FieldType.int) ∈ lw_tbl := mv_tb5 (List.mem_of_getElem? (i := 68) rfl)
set_option maxRecDepth 20000 in
theorem mv_w112 : Jvm.Cond.code { cls := "RunCutsModel", name := "takes", desc := "(I)Z" } prog_12_method_7_code 3 (Option.some Jvm.ClassFile.FieldType.boolean) ∈ lw_tbl := mv_tb5 (List.mem_of_getElem? (i := 87) rfl)
set_option maxRecDepth 20000 in
theorem mv_w113 : Jvm.Cond.code { cls := "RunCutsModel", name := "canComeNew", desc := "(I)Z" } prog_12_method_12_code 4 (Option.some Jvm.ClassFile.FieldType.boolean) ∈ lw_tbl := mv_tb5 (List.mem_of_getElem? (i := 107) rfl)
set_option maxRecDepth 20000 in
theorem mv_w114 : Jvm.Cond.code { cls := "RunCutsModel", name := "nthOf", desc := "(IIII)I" } prog_12_method_18_code 7 (Option.some Jvm.ClassFile.FieldType.int) ∈ lw_tbl := mv_tb5 (List.mem_of_getElem? (i := 127) rfl)
set_option maxRecDepth 20000 in
theorem mv_w115 : Jvm.Cond.code { cls := "RunCutsModel", name := "layVectors", desc := "()V" } prog_12_method_20_code 4 (Option.none : Option Jvm.ClassFile.FieldType) ∈ lw_tbl := mv_tb5 (List.mem_of_getElem? (i := 131) rfl)
set_option maxRecDepth 20000 in
theorem mv_w116 : Jvm.Cond.code { cls := "RunCutsModel", name := "isProcess", desc := "(I)Z" } prog_12_method_22_code 2 (Option.some Jvm.ClassFile.FieldType.boolean) ∈ lw_tbl := mv_tb5 (List.mem_of_getElem? (i := 143) rfl)
set_option maxRecDepth 20000 in
theorem mv_w117 : Jvm.Cond.code { cls := "RunCutsModel", name := "isFull", desc := "(I)Z" } prog_12_method_25_code 2 (Option.some Jvm.ClassFile.FieldType.boolean) ∈ lw_tbl := mv_tb5 (List.mem_of_getElem? (i := 147) rfl)
set_option maxRecDepth 20000 in
theorem mv_w118 : Jvm.Cond.code { cls := "RunCutsModel", name := "orderNow", desc := "(IIII)I" } prog_12_method_34_code 5 (Option.some Jvm.ClassFile.FieldType.int) ∈ lw_tbl := mv_tb5 (List.mem_of_getElem? (i := 187) rfl)
set_option maxRecDepth 20000 in
theorem mv_w119 : Jvm.Cond.code { cls := "RunCutsModel", name := "tellCut", desc := "(I)I" } prog_12_method_41_code 2 (Option.some Jvm.ClassFile.FieldType.int) ∈ lw_tbl := mv_tb6 (List.mem_of_getElem? (i := 99) rfl)
set_option maxRecDepth 20000 in
theorem mv_w120 : Jvm.Cond.code { cls := "RunCutsModel", name := "underAll", desc := "()I" } prog_12_method_47_code 5 (Option.some Jvm.ClassFile.FieldType.int) ∈ lw_tbl := mv_tb6 (List.mem_of_getElem? (i := 3) rfl)
set_option maxRecDepth 20000 in
theorem mv_w121 : Jvm.Cond.code { cls := "RunCutsModel", name := "isAllowed", desc := "(II)Z" } prog_12_method_48_code 3 (Option.some Jvm.ClassFile.FieldType.boolean) ∈ lw_tbl := mv_tb5 (List.mem_of_getElem? (i := 231) rfl)
set_option maxRecDepth 20000 in
theorem mv_w122 : Jvm.Cond.code { cls := "RunCutsModel", name := "sumOfValues", desc := "()I" } prog_12_method_50_code 3 (Option.some Jvm.ClassFile.FieldType.int) ∈ lw_tbl := mv_tb5 (List.mem_of_getElem? (i := 239) rfl)
set_option maxRecDepth 20000 in
theorem mv_w123 : Jvm.Cond.code { cls := "RunCutsModel", name := "spreadNow", desc := "()I" } prog_12_method_51_code 5 (Option.some Jvm.ClassFile.FieldType.int) ∈ lw_tbl := mv_tb6 (List.mem_of_getElem? (i := 11) rfl)
set_option maxRecDepth 20000 in
theorem mv_w124 : Jvm.Cond.code { cls := "RunCutsModel", name := "canGoOn", desc := "(II)Z" } prog_12_method_54_code 3 (Option.some Jvm.ClassFile.FieldType.boolean) ∈ lw_tbl := mv_tb6 (List.mem_of_getElem? (i := 31) rfl)
set_option maxRecDepth 20000 in
theorem mv_w125 : Jvm.Cond.code { cls := "RunCutsModel", name := "mixed", desc := "(IIZ)I" } prog_12_method_61_code 7 (Option.some Jvm.ClassFile.FieldType.int) ∈ lw_tbl := mv_tb6 (List.mem_of_getElem? (i := 55) rfl)
set_option maxRecDepth 20000 in
theorem mv_w126 : Jvm.Cond.code { cls := "RunCutsModel", name := "cutsOf", desc := "(I)I" } prog_12_method_64_code 4 (Option.some Jvm.ClassFile.FieldType.int) ∈ lw_tbl := mv_tb6 (List.mem_of_getElem? (i := 83) rfl)
set_option maxRecDepth 20000 in
theorem mv_w127 : Jvm.Cond.code { cls := "RunCutsModel", name := "cutsMany", desc := "()I" } prog_12_method_66_code 3 (Option.some Jvm.ClassFile.FieldType.int) ∈ lw_tbl := mv_tb6 (List.mem_of_getElem? (i := 75) rfl)
set_option maxRecDepth 20000 in
theorem mv_w128 : Jvm.Cond.code { cls := "RunCutsModel", name := "cutAt", desc := "(II)I" } prog_12_method_69_code 5 (Option.some Jvm.ClassFile.FieldType.int) ∈ lw_tbl := mv_tb6 (List.mem_of_getElem? (i := 95) rfl)
set_option maxRecDepth 20000 in
theorem mv_w129 : Jvm.Cond.code { cls := "RunCutsModel", name := "wish", desc := "(II)I" } prog_12_method_72_code 4 (Option.some Jvm.ClassFile.FieldType.int) ∈ lw_tbl := mv_tb6 (List.mem_of_getElem? (i := 103) rfl)
set_option maxRecDepth 20000 in
theorem mv_w130 : Jvm.Cond.code { cls := "RunCutsModel", name := "heldMany", desc := "()I" } prog_12_method_74_code 3 (Option.some Jvm.ClassFile.FieldType.int) ∈ lw_tbl := mv_tb6 (List.mem_of_getElem? (i := 119) rfl)
set_option maxRecDepth 20000 in
theorem mv_w131 : Jvm.Cond.code { cls := "RunCutsModel", name := "isAll", desc := "()Z" } prog_12_method_80_code 1 (Option.some Jvm.ClassFile.FieldType.boolean) ∈ lw_tbl := mv_tb6 (List.mem_of_getElem? (i := 139) rfl)
set_option maxRecDepth 20000 in
theorem mv_w132 : Jvm.Cond.code { cls := "RunCutsModel", name := "isOverlap", desc := "()Z" } prog_12_method_87_code 6 (Option.some Jvm.ClassFile.FieldType.boolean) ∈ lw_tbl := mv_tb6 (List.mem_of_getElem? (i := 171) rfl)
set_option maxRecDepth 20000 in
theorem mv_w133 : Jvm.Cond.code { cls := "RunCutsModel", name := "comesNext", desc := "(Z)I" } prog_12_method_97_code 5 (Option.some Jvm.ClassFile.FieldType.int) ∈ lw_tbl := mv_tb6 (List.mem_of_getElem? (i := 199) rfl)
set_option maxRecDepth 20000 in
theorem mv_w134 : Jvm.Cond.code { cls := "RunCutsModel", name := "played", desc := "(I)I" } prog_12_method_99_code 2 (Option.some Jvm.ClassFile.FieldType.int) ∈ lw_tbl := mv_tb6 (List.mem_of_getElem? (i := 215) rfl)
set_option maxRecDepth 20000 in
theorem mv_w135 : Jvm.Cond.code { cls := "RunCutsModel", name := "notes", desc := "(II)V" } prog_12_method_100_code 4 (Option.none : Option Jvm.ClassFile.FieldType) ∈ lw_tbl := mv_tb6 (List.mem_of_getElem? (i := 227) rfl)
set_option maxRecDepth 20000 in
theorem mv_w136 : Jvm.Cond.code { cls := "RunCutsModel", name := "nextMarker", desc := "(Z)I" } prog_12_method_102_code 5 (Option.some Jvm.ClassFile.FieldType.int) ∈ lw_tbl := mv_tb6 (List.mem_of_getElem? (i := 235) rfl)
set_option maxRecDepth 20000 in
theorem mv_w137 : Jvm.Cond.code { cls := "RunCutsModel", name := "shots", desc := "(I)I" } prog_12_method_107_code 2 (Option.some Jvm.ClassFile.FieldType.int) ∈ lw_tbl := mv_tb7 (List.mem_of_getElem? (i := 3) rfl)
set_option maxRecDepth 20000 in
theorem mv_w138 : Jvm.Cond.code { cls := "RunCutsModel", name := "howMany", desc := "(I)I" } prog_12_method_109_code 2 (Option.some Jvm.ClassFile.FieldType.int) ∈ lw_tbl := mv_tb7 (List.mem_of_getElem? (i := 15) rfl)
set_option maxRecDepth 20000 in
theorem mv_w139 : Jvm.Cond.code { cls := "RunCutsModel", name := "mixPlayed", desc := "()V" } prog_12_method_116_code 2 (Option.none : Option Jvm.ClassFile.FieldType) ∈ lw_tbl := mv_tb7 (List.mem_of_getElem? (i := 49) rfl)
set_option maxRecDepth 20000 in
theorem mv_w140 : Jvm.Cond.code { cls := "RunCuts", name := "fault", desc := "()I" } prog_1_method_4_code 1 (Option.some Jvm.ClassFile.FieldType.int) ∈ lw_tbl := mv_tb2 (List.mem_of_getElem? (i := 95) rfl)
set_option maxRecDepth 20000 in
theorem mv_w141 : Jvm.Cond.code { cls := "RunCuts", name := "event", desc := "(III)I" } prog_1_method_10_code 4 (Option.some Jvm.ClassFile.FieldType.int) ∈ lw_tbl := mv_tb3 (List.mem_of_getElem? (i := 2) rfl)
set_option maxRecDepth 20000 in
theorem mv_w142 : Jvm.Cond.code { cls := "RunCuts", name := "order", desc := "(IIII)I" } prog_1_method_11_code 5 (Option.some Jvm.ClassFile.FieldType.int) ∈ lw_tbl := mv_tb3 (List.mem_of_getElem? (i := 14) rfl)
set_option maxRecDepth 20000 in
theorem mv_w143 : Jvm.Cond.code { cls := "RunCuts", name := "wish", desc := "(II)I" } prog_1_method_19_code 4 (Option.some Jvm.ClassFile.FieldType.int) ∈ lw_tbl := mv_tb3 (List.mem_of_getElem? (i := 165) rfl)
set_option maxRecDepth 20000 in
theorem mv_w144 : Jvm.Cond.code { cls := "RunCuts", name := "allow", desc := "(II)I" } prog_1_method_20_code 4 (Option.some Jvm.ClassFile.FieldType.int) ∈ lw_tbl := mv_tb3 (List.mem_of_getElem? (i := 169) rfl)
set_option maxRecDepth 20000 in
theorem mv_w145 : Jvm.Cond.code { cls := "RunCuts", name := "interval", desc := "(III)I" } prog_1_method_25_code 4 (Option.some Jvm.ClassFile.FieldType.int) ∈ lw_tbl := mv_tb4 (List.mem_of_getElem? (i := 18) rfl)
set_option maxRecDepth 20000 in
theorem mv_w146 : Jvm.Cond.code { cls := "RunCuts", name := "mixEvents", desc := "(J)J" } prog_1_method_34_code 6 (Option.some Jvm.ClassFile.FieldType.long) ∈ lw_tbl := mv_tb4 (List.mem_of_getElem? (i := 145) rfl)
set_option maxRecDepth 20000 in
theorem mv_w147 : Jvm.Cond.code { cls := "RunCuts", name := "forgetResults", desc := "()V" } prog_1_method_41_code 1 (Option.none : Option Jvm.ClassFile.FieldType) ∈ lw_tbl := mv_tb2 (List.mem_of_getElem? (i := 191) rfl)
set_option maxRecDepth 20000 in
theorem mv_w148 : Jvm.Cond.code { cls := "RunCuts$Page", name := "readInto", desc := "(LRunCuts$Events;)Z" } prog_6_method_4_code 7 (Option.some Jvm.ClassFile.FieldType.boolean) ∈ lw_tbl := mv_tb2 (List.mem_of_getElem? (i := 110) rfl)
set_option maxRecDepth 20000 in
theorem mv_w149 : Jvm.Cond.code { cls := "RunCuts$Events", name := "isConsistent", desc := "(I)Z" } prog_2_method_27_code 4 (Option.some Jvm.ClassFile.FieldType.boolean) ∈ lw_tbl := mv_tb3 (List.mem_of_getElem? (i := 34) rfl)
set_option maxRecDepth 20000 in
theorem mv_w150 : Jvm.Cond.code { cls := "RunCuts$Events", name := "followers", desc := "(I)I" } prog_2_method_30_code 4 (Option.some Jvm.ClassFile.FieldType.int) ∈ lw_tbl := mv_tb2 (List.mem_of_getElem? (i := 154) rfl)
set_option maxRecDepth 20000 in
theorem mv_w151 : Jvm.Cond.code { cls := "RunCuts$Lattice", name := "countPathsTo", desc := "(LRunCuts$Events;)V" } prog_4_method_4_code 4 (Option.none : Option Jvm.ClassFile.FieldType) ∈ lw_tbl := mv_tb3 (List.mem_of_getElem? (i := 54) rfl)
set_option maxRecDepth 20000 in
theorem mv_w152 : Jvm.Cond.code { cls := "RunCuts$Lattice", name := "countPathsFrom", desc := "(LRunCuts$Events;)V" } prog_4_method_5_code 4 (Option.none : Option Jvm.ClassFile.FieldType) ∈ lw_tbl := mv_tb3 (List.mem_of_getElem? (i := 60) rfl)
set_option maxRecDepth 20000 in
theorem mv_w153 : Jvm.Cond.code { cls := "RunCuts$Lattice", name := "property", desc := "(I)I" } prog_4_method_7_code 2 (Option.some Jvm.ClassFile.FieldType.int) ∈ lw_tbl := mv_tb3 (List.mem_of_getElem? (i := 144) rfl)
set_option maxRecDepth 20000 in
theorem mv_w154 : Jvm.Cond.code { cls := "RunCuts$Predicate", name := "holdsIn", desc := "(LRunCuts$Events;I)Z" } prog_8_method_4_code 3 (Option.some Jvm.ClassFile.FieldType.boolean) ∈ lw_tbl := mv_tb3 (List.mem_of_getElem? (i := 73) rfl)
set_option maxRecDepth 20000 in
theorem mv_w155 : Jvm.Cond.code { cls := "RunCuts$Search", name := "avoidingStep", desc := "(LRunCuts$Events;LRunCuts$Lattice;I)I" } prog_9_method_3_code 6 (Option.some Jvm.ClassFile.FieldType.int) ∈ lw_tbl := mv_tb3 (List.mem_of_getElem? (i := 186) rfl)
set_option maxRecDepth 20000 in
theorem mv_w156 : Jvm.Cond.code { cls := "RunCuts$Intervals", name := "isStrongChoice", desc := "(LRunCuts$Events;)Z" } prog_3_method_8_code 4 (Option.some Jvm.ClassFile.FieldType.boolean) ∈ lw_tbl := mv_tb3 (List.mem_of_getElem? (i := 237) rfl)
set_option maxRecDepth 20000 in
theorem mv_w157 : Jvm.Cond.code { cls := "RunCuts$Lean", name := "<init>", desc := "()V" } prog_5_method_1_code 1 (Option.none : Option Jvm.ClassFile.FieldType) ∈ lw_tbl := mv_tb1 (List.mem_of_getElem? (i := 212) rfl)
set_option maxRecDepth 20000 in
theorem mv_w158 : Jvm.Cond.code { cls := "RunCuts$Snapshot", name := "arrive", desc := "(LRunCuts$Events;I)V" } prog_10_method_9_code 3 (Option.none : Option Jvm.ClassFile.FieldType) ∈ lw_tbl := mv_tb4 (List.mem_of_getElem? (i := 116) rfl)
set_option maxRecDepth 20000 in
theorem mv_w159 : Jvm.Cond.code { cls := "RunCutsModel", name := "read", desc := "()I" } prog_12_method_8_code 2 (Option.some Jvm.ClassFile.FieldType.int) ∈ lw_tbl := mv_tb5 (List.mem_of_getElem? (i := 83) rfl)
set_option maxRecDepth 20000 in
theorem mv_w160 : Jvm.Cond.code { cls := "RunCutsModel", name := "isOrdered", desc := "()Z" } prog_12_method_13_code 4 (Option.some Jvm.ClassFile.FieldType.boolean) ∈ lw_tbl := mv_tb5 (List.mem_of_getElem? (i := 103) rfl)
set_option maxRecDepth 20000 in
theorem mv_w161 : Jvm.Cond.code { cls := "RunCutsModel", name := "layPartners", desc := "()V" } prog_12_method_19_code 5 (Option.none : Option Jvm.ClassFile.FieldType) ∈ lw_tbl := mv_tb5 (List.mem_of_getElem? (i := 119) rfl)
set_option maxRecDepth 20000 in
theorem mv_w162 : Jvm.Cond.code { cls := "RunCutsModel", name := "isEvent", desc := "(II)Z" } prog_12_method_23_code 3 (Option.some Jvm.ClassFile.FieldType.boolean) ∈ lw_tbl := mv_tb5 (List.mem_of_getElem? (i := 175) rfl)
set_option maxRecDepth 20000 in
theorem mv_w163 : Jvm.Cond.code { cls := "RunCutsModel", name := "areAllowed", desc := "()Z" } prog_12_method_49_code 3 (Option.some Jvm.ClassFile.FieldType.boolean) ∈ lw_tbl := mv_tb5 (List.mem_of_getElem? (i := 227) rfl)
set_option maxRecDepth 20000 in
theorem mv_w164 : Jvm.Cond.code { cls := "RunCutsModel", name := "nextBits", desc := "(I)I" } prog_12_method_55_code 4 (Option.some Jvm.ClassFile.FieldType.int) ∈ lw_tbl := mv_tb6 (List.mem_of_getElem? (i := 39) rfl)
set_option maxRecDepth 20000 in
theorem mv_w165 : Jvm.Cond.code { cls := "RunCutsModel", name := "value", desc := "(II)I" } prog_12_method_59_code 3 (Option.some Jvm.ClassFile.FieldType.int) ∈ lw_tbl := mv_tb6 (List.mem_of_getElem? (i := 43) rfl)
set_option maxRecDepth 20000 in
theorem mv_w166 : Jvm.Cond.code { cls := "RunCutsModel", name := "under", desc := "(III)I" } prog_12_method_60_code 4 (Option.some Jvm.ClassFile.FieldType.int) ∈ lw_tbl := mv_tb6 (List.mem_of_getElem? (i := 47) rfl)
set_option maxRecDepth 20000 in
theorem mv_w167 : Jvm.Cond.code { cls := "RunCutsModel", name := "meet", desc := "(II)I" } prog_12_method_62_code 3 (Option.some Jvm.ClassFile.FieldType.int) ∈ lw_tbl := mv_tb6 (List.mem_of_getElem? (i := 51) rfl)
set_option maxRecDepth 20000 in
theorem mv_w168 : Jvm.Cond.code { cls := "RunCutsModel", name := "join", desc := "(II)I" } prog_12_method_63_code 3 (Option.some Jvm.ClassFile.FieldType.int) ∈ lw_tbl := mv_tb6 (List.mem_of_getElem? (i := 63) rfl)
set_option maxRecDepth 20000 in
theorem mv_w169 : Jvm.Cond.code { cls := "RunCutsModel", name := "widest", desc := "()I" } prog_12_method_65_code 3 (Option.some Jvm.ClassFile.FieldType.int) ∈ lw_tbl := mv_tb6 (List.mem_of_getElem? (i := 79) rfl)
set_option maxRecDepth 20000 in
theorem mv_w170 : Jvm.Cond.code { cls := "RunCutsModel", name := "allow", desc := "(II)I" } prog_12_method_73_code 4 (Option.some Jvm.ClassFile.FieldType.int) ∈ lw_tbl := mv_tb6 (List.mem_of_getElem? (i := 107) rfl)
set_option maxRecDepth 20000 in
theorem mv_w171 : Jvm.Cond.code { cls := "RunCutsModel", name := "heldFirst", desc := "()I" } prog_12_method_75_code 4 (Option.some Jvm.ClassFile.FieldType.int) ∈ lw_tbl := mv_tb6 (List.mem_of_getElem? (i := 123) rfl)
set_option maxRecDepth 20000 in
theorem mv_w172 : Jvm.Cond.code { cls := "RunCutsModel", name := "aroundNow", desc := "(I)I" } prog_12_method_78_code 5 (Option.some Jvm.ClassFile.FieldType.int) ∈ lw_tbl := mv_tb6 (List.mem_of_getElem? (i := 131) rfl)
set_option maxRecDepth 20000 in
theorem mv_w173 : Jvm.Cond.code { cls := "RunCutsModel", name := "beginOf", desc := "(II)I" } prog_12_method_83_code 6 (Option.some Jvm.ClassFile.FieldType.int) ∈ lw_tbl := mv_tb6 (List.mem_of_getElem? (i := 151) rfl)
set_option maxRecDepth 20000 in
theorem mv_w174 : Jvm.Cond.code { cls := "RunCutsModel", name := "endOf", desc := "(II)I" } prog_12_method_84_code 4 (Option.some Jvm.ClassFile.FieldType.int) ∈ lw_tbl := mv_tb6 (List.mem_of_getElem? (i := 155) rfl)
set_option maxRecDepth 20000 in
theorem mv_w175 : Jvm.Cond.code { cls := "RunCutsModel", name := "play", desc := "(I)I" } prog_12_method_98_code 4 (Option.some Jvm.ClassFile.FieldType.int) ∈ lw_tbl := mv_tb6 (List.mem_of_getElem? (i := 195) rfl)
set_option maxRecDepth 20000 in
theorem mv_w176 : Jvm.Cond.code { cls := "RunCutsModel", name := "markerComes", desc := "(II)V" } prog_12_method_101_code 3 (Option.none : Option Jvm.ClassFile.FieldType) ∈ lw_tbl := mv_tb6 (List.mem_of_getElem? (i := 239) rfl)
set_option maxRecDepth 20000 in
theorem mv_w177 : Jvm.Cond.code { cls := "RunCutsModel", name := "count", desc := "(I)I" } prog_12_method_110_code 2 (Option.some Jvm.ClassFile.FieldType.int) ∈ lw_tbl := mv_tb7 (List.mem_of_getElem? (i := 11) rfl)
set_option maxRecDepth 20000 in
theorem mv_w178 : Jvm.Cond.code { cls := "RunCuts", name := "<init>", desc := "()V" } prog_1_method_1_code 1 (Option.none : Option Jvm.ClassFile.FieldType) ∈ lw_tbl := mv_tb1 (List.mem_of_getElem? (i := 19) rfl)
set_option maxRecDepth 20000 in
theorem mv_w179 : Jvm.Cond.code { cls := "RunCuts", name := "under", desc := "(III)I" } prog_1_method_14_code 4 (Option.some Jvm.ClassFile.FieldType.int) ∈ lw_tbl := mv_tb3 (List.mem_of_getElem? (i := 115) rfl)
set_option maxRecDepth 20000 in
theorem mv_w180 : Jvm.Cond.code { cls := "RunCuts", name := "cutProperty", desc := "(II)I" } prog_1_method_44_code 3 (Option.some Jvm.ClassFile.FieldType.int) ∈ lw_tbl := mv_tb3 (List.mem_of_getElem? (i := 69) rfl)
set_option maxRecDepth 20000 in
theorem mv_w181 : Jvm.Cond.code { cls := "RunCuts", name := "refusePair", desc := "(II)I" } prog_1_method_45_code 3 (Option.some Jvm.ClassFile.FieldType.int) ∈ lw_tbl := mv_tb3 (List.mem_of_getElem? (i := 127) rfl)
set_option maxRecDepth 20000 in
theorem mv_w182 : Jvm.Cond.code { cls := "RunCuts$Events", name := "findVectors", desc := "()Z" } prog_2_method_13_code 4 (Option.some Jvm.ClassFile.FieldType.boolean) ∈ lw_tbl := mv_tb2 (List.mem_of_getElem? (i := 150) rfl)
set_option maxRecDepth 20000 in
theorem mv_w183 : Jvm.Cond.code { cls := "RunCuts$Lattice", name := "build", desc := "(LRunCuts$Events;)V" } prog_4_method_2_code 2 (Option.none : Option Jvm.ClassFile.FieldType) ∈ lw_tbl := mv_tb3 (List.mem_of_getElem? (i := 45) rfl)
set_option maxRecDepth 20000 in
theorem mv_w184 : Jvm.Cond.code { cls := "RunCuts$Search", name := "findPath", desc := "(LRunCuts$Events;LRunCuts$Lattice;)V" } prog_9_method_4_code 6 (Option.none : Option Jvm.ClassFile.FieldType) ∈ lw_tbl := mv_tb3 (List.mem_of_getElem? (i := 191) rfl)
set_option maxRecDepth 20000 in
theorem mv_w185 : Jvm.Cond.code { cls := "RunCuts$Intervals", name := "areStrong", desc := "(LRunCuts$Events;)Z" } prog_3_method_6_code 4 (Option.some Jvm.ClassFile.FieldType.boolean) ∈ lw_tbl := mv_tb3 (List.mem_of_getElem? (i := 233) rfl)
set_option maxRecDepth 20000 in
theorem mv_w186 : Jvm.Cond.code { cls := "RunCuts$Play", name := "perform", desc := "(LRunCuts$Events;I)V" } prog_7_method_2_code 8 (Option.none : Option Jvm.ClassFile.FieldType) ∈ lw_tbl := mv_tb4 (List.mem_of_getElem? (i := 59) rfl)
set_option maxRecDepth 20000 in
theorem mv_w187 : Jvm.Cond.code { cls := "RunCuts$Snapshot", name := "deliver", desc := "(LRunCuts$Events;)V" } prog_10_method_6_code 4 (Option.none : Option Jvm.ClassFile.FieldType) ∈ lw_tbl := mv_tb4 (List.mem_of_getElem? (i := 108) rfl)
set_option maxRecDepth 20000 in
theorem mv_w188 : Jvm.Cond.code { cls := "RunCutsModel", name := "fault", desc := "()I" } prog_12_method_9_code 1 (Option.some Jvm.ClassFile.FieldType.int) ∈ lw_tbl := mv_tb5 (List.mem_of_getElem? (i := 79) rfl)
set_option maxRecDepth 20000 in
theorem mv_w189 : Jvm.Cond.code { cls := "RunCutsModel", name := "changes", desc := "()V" } prog_12_method_16_code 1 (Option.none : Option Jvm.ClassFile.FieldType) ∈ lw_tbl := mv_tb5 (List.mem_of_getElem? (i := 115) rfl)
set_option maxRecDepth 20000 in
theorem mv_w190 : Jvm.Cond.code { cls := "RunCutsModel", name := "event", desc := "(III)I" } prog_12_method_32_code 4 (Option.some Jvm.ClassFile.FieldType.int) ∈ lw_tbl := mv_tb5 (List.mem_of_getElem? (i := 171) rfl)
set_option maxRecDepth 20000 in
theorem mv_w191 : Jvm.Cond.code { cls := "RunCutsModel", name := "order", desc := "(IIII)I" } prog_12_method_35_code 5 (Option.some Jvm.ClassFile.FieldType.int) ∈ lw_tbl := mv_tb5 (List.mem_of_getElem? (i := 183) rfl)
set_option maxRecDepth 20000 in
theorem mv_w192 : Jvm.Cond.code { cls := "RunCutsModel", name := "holds", desc := "()Z" } prog_12_method_52_code 1 (Option.some Jvm.ClassFile.FieldType.boolean) ∈ lw_tbl := mv_tb5 (List.mem_of_getElem? (i := 223) rfl)
set_option maxRecDepth 20000 in
theorem mv_w193 : Jvm.Cond.code { cls := "RunCutsModel", name := "intervals", desc := "(I)I" } prog_12_method_85_code 3 (Option.some Jvm.ClassFile.FieldType.int) ∈ lw_tbl := mv_tb6 (List.mem_of_getElem? (i := 167) rfl)
set_option maxRecDepth 20000 in
theorem mv_w194 : Jvm.Cond.code { cls := "RunCutsModel", name := "interval", desc := "(III)I" } prog_12_method_86_code 5 (Option.some Jvm.ClassFile.FieldType.int) ∈ lw_tbl := mv_tb6 (List.mem_of_getElem? (i := 147) rfl)
set_option maxRecDepth 20000 in
theorem mv_w195 : Jvm.Cond.code { cls := "RunCutsModel", name := "giveBack", desc := "()V" } prog_12_method_91_code 2 (Option.none : Option Jvm.ClassFile.FieldType) ∈ lw_tbl := mv_tb6 (List.mem_of_getElem? (i := 191) rfl)
set_option maxRecDepth 20000 in
theorem mv_w196 : Jvm.Cond.code { cls := "RunCutsModel", name := "makeLean", desc := "()V" } prog_12_method_92_code 5 (Option.none : Option Jvm.ClassFile.FieldType) ∈ lw_tbl := mv_tb6 (List.mem_of_getElem? (i := 187) rfl)
set_option maxRecDepth 20000 in
theorem mv_w197 : Jvm.Cond.code { cls := "RunCutsModel", name := "markersCome", desc := "(I)V" } prog_12_method_103_code 3 (Option.none : Option Jvm.ClassFile.FieldType) ∈ lw_tbl := mv_tb6 (List.mem_of_getElem? (i := 231) rfl)
set_option maxRecDepth 20000 in
theorem mv_w198 : Jvm.Cond.code { cls := "RunCutsModel", name := "mixCut", desc := "(I)V" } prog_12_method_113_code 2 (Option.none : Option Jvm.ClassFile.FieldType) ∈ lw_tbl := mv_tb7 (List.mem_of_getElem? (i := 41) rfl)
set_option maxRecDepth 20000 in
theorem mv_w199 : Jvm.Cond.code { cls := "RunCuts", name := "cut", desc := "(II)I" } prog_1_method_12_code 3 (Option.some Jvm.ClassFile.FieldType.int) ∈ lw_tbl := mv_tb3 (List.mem_of_getElem? (i := 22) rfl)
set_option maxRecDepth 20000 in
theorem mv_w200 : Jvm.Cond.code { cls := "RunCuts", name := "meet", desc := "(II)I" } prog_1_method_15_code 4 (Option.some Jvm.ClassFile.FieldType.int) ∈ lw_tbl := mv_tb3 (List.mem_of_getElem? (i := 123) rfl)
set_option maxRecDepth 20000 in
theorem mv_w201 : Jvm.Cond.code { cls := "RunCuts", name := "join", desc := "(II)I" } prog_1_method_16_code 4 (Option.some Jvm.ClassFile.FieldType.int) ∈ lw_tbl := mv_tb3 (List.mem_of_getElem? (i := 136) rfl)
set_option maxRecDepth 20000 in
theorem mv_w202 : Jvm.Cond.code { cls := "RunCuts", name := "lattice", desc := "(I)I" } prog_1_method_17_code 2 (Option.some Jvm.ClassFile.FieldType.int) ∈ lw_tbl := mv_tb3 (List.mem_of_getElem? (i := 140) rfl)
set_option maxRecDepth 20000 in
theorem mv_w203 : Jvm.Cond.code { cls := "RunCuts", name := "level", desc := "(II)I" } prog_1_method_18_code 3 (Option.some Jvm.ClassFile.FieldType.int) ∈ lw_tbl := mv_tb3 (List.mem_of_getElem? (i := 156) rfl)
set_option maxRecDepth 20000 in
theorem mv_w204 : Jvm.Cond.code { cls := "RunCuts", name := "strong", desc := "()I" } prog_1_method_24_code 1 (Option.some Jvm.ClassFile.FieldType.int) ∈ lw_tbl := mv_tb3 (List.mem_of_getElem? (i := 215) rfl)
set_option maxRecDepth 20000 in
theorem mv_w205 : Jvm.Cond.code { cls := "RunCuts", name := "play", desc := "(I)I" } prog_1_method_27_code 2 (Option.some Jvm.ClassFile.FieldType.int) ∈ lw_tbl := mv_tb4 (List.mem_of_getElem? (i := 55) rfl)
set_option maxRecDepth 20000 in
theorem mv_w206 : Jvm.Cond.code { cls := "RunCuts", name := "mixCuts", desc := "(J)J" } prog_1_method_35_code 6 (Option.some Jvm.ClassFile.FieldType.long) ∈ lw_tbl := mv_tb4 (List.mem_of_getElem? (i := 153) rfl)
set_option maxRecDepth 20000 in
theorem mv_w207 : Jvm.Cond.code { cls := "RunCuts$Events", name := "link", desc := "()Z" } prog_2_method_10_code 2 (Option.some Jvm.ClassFile.FieldType.boolean) ∈ lw_tbl := mv_tb2 (List.mem_of_getElem? (i := 138) rfl)
set_option maxRecDepth 20000 in
theorem mv_w208 : Jvm.Cond.code { cls := "RunCuts$Search", name := "build", desc := "(LRunCuts$Events;LRunCuts$Lattice;LRunCuts$Predicate;)V" } prog_9_method_2_code 8 (Option.none : Option Jvm.ClassFile.FieldType) ∈ lw_tbl := mv_tb3 (List.mem_of_getElem? (i := 181) rfl)
set_option maxRecDepth 20000 in
theorem mv_w209 : Jvm.Cond.code { cls := "RunCuts$Snapshot", name := "forceLeft", desc := "(LRunCuts$Events;)V" } prog_10_method_7_code 4 (Option.none : Option Jvm.ClassFile.FieldType) ∈ lw_tbl := mv_tb4 (List.mem_of_getElem? (i := 120) rfl)
set_option maxRecDepth 20000 in
theorem mv_w210 : Jvm.Cond.code { cls := "RunCutsModel", name := "run", desc := "()I" } prog_12_method_14_code 3 (Option.some Jvm.ClassFile.FieldType.int) ∈ lw_tbl := mv_tb5 (List.mem_of_getElem? (i := 95) rfl)
set_option maxRecDepth 20000 in
theorem mv_w211 : Jvm.Cond.code { cls := "RunCutsModel", name := "comes", desc := "(III)I" } prog_12_method_26_code 4 (Option.some Jvm.ClassFile.FieldType.int) ∈ lw_tbl := mv_tb5 (List.mem_of_getElem? (i := 155) rfl)
set_option maxRecDepth 20000 in
theorem mv_w212 : Jvm.Cond.code { cls := "RunCutsModel", name := "back", desc := "(I)I" } prog_12_method_30_code 3 (Option.some Jvm.ClassFile.FieldType.int) ∈ lw_tbl := mv_tb5 (List.mem_of_getElem? (i := 167) rfl)
set_option maxRecDepth 20000 in
theorem mv_w213 : Jvm.Cond.code { cls := "RunCutsModel", name := "layCuts", desc := "()V" } prog_12_method_53_code 4 (Option.none : Option Jvm.ClassFile.FieldType) ∈ lw_tbl := mv_tb6 (List.mem_of_getElem? (i := 19) rfl)
set_option maxRecDepth 20000 in
theorem mv_w214 : Jvm.Cond.code { cls := "RunCutsModel", name := "strongNow", desc := "()I" } prog_12_method_88_code 6 (Option.some Jvm.ClassFile.FieldType.int) ∈ lw_tbl := mv_tb6 (List.mem_of_getElem? (i := 163) rfl)
set_option maxRecDepth 20000 in
theorem mv_w215 : Jvm.Cond.code { cls := "RunCutsModel", name := "shotNow", desc := "(II)I" } prog_12_method_104_code 5 (Option.some Jvm.ClassFile.FieldType.int) ∈ lw_tbl := mv_tb6 (List.mem_of_getElem? (i := 223) rfl)
set_option maxRecDepth 20000 in
theorem mv_w216 : Jvm.Cond.code { cls := "RunCuts", name := "run", desc := "()I" } prog_1_method_5_code 2 (Option.some Jvm.ClassFile.FieldType.int) ∈ lw_tbl := mv_tb2 (List.mem_of_getElem? (i := 106) rfl)
set_option maxRecDepth 20000 in
theorem mv_w217 : Jvm.Cond.code { cls := "RunCuts", name := "back", desc := "(I)I" } prog_1_method_9_code 2 (Option.some Jvm.ClassFile.FieldType.int) ∈ lw_tbl := mv_tb2 (List.mem_of_getElem? (i := 230) rfl)
set_option maxRecDepth 20000 in
theorem mv_w218 : Jvm.Cond.code { cls := "RunCuts", name := "grow", desc := "(III)I" } prog_1_method_40_code 4 (Option.some Jvm.ClassFile.FieldType.int) ∈ lw_tbl := mv_tb2 (List.mem_of_getElem? (i := 212) rfl)
set_option maxRecDepth 20000 in
theorem mv_w219 : Jvm.Cond.code { cls := "RunCuts", name := "settleSearch", desc := "()V" } prog_1_method_43_code 1 (Option.none : Option Jvm.ClassFile.FieldType) ∈ lw_tbl := mv_tb3 (List.mem_of_getElem? (i := 177) rfl)
set_option maxRecDepth 20000 in
theorem mv_w220 : Jvm.Cond.code { cls := "RunCuts$Lean", name := "build", desc := "(LRunCuts$Events;LRunCuts$Predicate;)V" } prog_5_method_3_code 5 (Option.none : Option Jvm.ClassFile.FieldType) ∈ lw_tbl := mv_tb4 (List.mem_of_getElem? (i := 28) rfl)
set_option maxRecDepth 20000 in
theorem mv_w221 : Jvm.Cond.code { cls := "RunCuts$Snapshot", name := "take", desc := "(LRunCuts$Events;LRunCuts$Play;II)V" } prog_10_method_2_code 6 (Option.none : Option Jvm.ClassFile.FieldType) ∈ lw_tbl := mv_tb4 (List.mem_of_getElem? (i := 86) rfl)
set_option maxRecDepth 20000 in
theorem mv_w222 : Jvm.Cond.code { cls := "RunCutsModel", name := "local", desc := "(II)I" } prog_12_method_27_code 3 (Option.some Jvm.ClassFile.FieldType.int) ∈ lw_tbl := mv_tb5 (List.mem_of_getElem? (i := 139) rfl)
set_option maxRecDepth 20000 in
theorem mv_w223 : Jvm.Cond.code { cls := "RunCutsModel", name := "send", desc := "(II)I" } prog_12_method_28_code 3 (Option.some Jvm.ClassFile.FieldType.int) ∈ lw_tbl := mv_tb5 (List.mem_of_getElem? (i := 159) rfl)
set_option maxRecDepth 20000 in
theorem mv_w224 : Jvm.Cond.code { cls := "RunCutsModel", name := "receive", desc := "(II)I" } prog_12_method_29_code 3 (Option.some Jvm.ClassFile.FieldType.int) ∈ lw_tbl := mv_tb5 (List.mem_of_getElem? (i := 163) rfl)
set_option maxRecDepth 20000 in
theorem mv_w225 : Jvm.Cond.code { cls := "RunCutsModel", name := "wayPart", desc := "(II)I" } prog_12_method_57_code 3 (Option.some Jvm.ClassFile.FieldType.int) ∈ lw_tbl := mv_tb6 (List.mem_of_getElem? (i := 15) rfl)
set_option maxRecDepth 20000 in
theorem mv_w226 : Jvm.Cond.code { cls := "RunCutsModel", name := "latticeNow", desc := "(I)I" } prog_12_method_67_code 2 (Option.some Jvm.ClassFile.FieldType.int) ∈ lw_tbl := mv_tb6 (List.mem_of_getElem? (i := 71) rfl)
set_option maxRecDepth 20000 in
theorem mv_w227 : Jvm.Cond.code { cls := "RunCutsModel", name := "levelAt", desc := "(II)I" } prog_12_method_70_code 4 (Option.some Jvm.ClassFile.FieldType.int) ∈ lw_tbl := mv_tb6 (List.mem_of_getElem? (i := 91) rfl)
set_option maxRecDepth 20000 in
theorem mv_w228 : Jvm.Cond.code { cls := "RunCutsModel", name := "wishedNow", desc := "(I)I" } prog_12_method_76_code 2 (Option.some Jvm.ClassFile.FieldType.int) ∈ lw_tbl := mv_tb6 (List.mem_of_getElem? (i := 115) rfl)
set_option maxRecDepth 20000 in
theorem mv_w229 : Jvm.Cond.code { cls := "RunCutsModel", name := "around", desc := "(I)I" } prog_12_method_79_code 2 (Option.some Jvm.ClassFile.FieldType.int) ∈ lw_tbl := mv_tb6 (List.mem_of_getElem? (i := 127) rfl)
set_option maxRecDepth 20000 in
theorem mv_w230 : Jvm.Cond.code { cls := "RunCutsModel", name := "leastNow", desc := "()I" } prog_12_method_81_code 3 (Option.some Jvm.ClassFile.FieldType.int) ∈ lw_tbl := mv_tb6 (List.mem_of_getElem? (i := 143) rfl)
set_option maxRecDepth 20000 in
theorem mv_w231 : Jvm.Cond.code { cls := "RunCutsModel", name := "strong", desc := "()I" } prog_12_method_89_code 1 (Option.some Jvm.ClassFile.FieldType.int) ∈ lw_tbl := mv_tb6 (List.mem_of_getElem? (i := 159) rfl)
set_option maxRecDepth 20000 in
theorem mv_w232 : Jvm.Cond.code { cls := "RunCutsModel", name := "leanNow", desc := "(I)I" } prog_12_method_93_code 3 (Option.some Jvm.ClassFile.FieldType.int) ∈ lw_tbl := mv_tb6 (List.mem_of_getElem? (i := 179) rfl)
set_option maxRecDepth 20000 in
theorem mv_w233 : Jvm.Cond.code { cls := "RunCutsModel", name := "shot", desc := "(II)I" } prog_12_method_105_code 3 (Option.some Jvm.ClassFile.FieldType.int) ∈ lw_tbl := mv_tb6 (List.mem_of_getElem? (i := 219) rfl)
set_option maxRecDepth 20000 in
theorem mv_w234 : Jvm.Cond.code { cls := "RunCuts", name := "local", desc := "(II)I" } prog_1_method_6_code 3 (Option.some Jvm.ClassFile.FieldType.int) ∈ lw_tbl := mv_tb2 (List.mem_of_getElem? (i := 203) rfl)
set_option maxRecDepth 20000 in
theorem mv_w235 : Jvm.Cond.code { cls := "RunCuts", name := "send", desc := "(II)I" } prog_1_method_7_code 3 (Option.some Jvm.ClassFile.FieldType.int) ∈ lw_tbl := mv_tb2 (List.mem_of_getElem? (i := 217) rfl)
set_option maxRecDepth 20000 in
theorem mv_w236 : Jvm.Cond.code { cls := "RunCuts", name := "receive", desc := "(II)I" } prog_1_method_8_code 3 (Option.some Jvm.ClassFile.FieldType.int) ∈ lw_tbl := mv_tb2 (List.mem_of_getElem? (i := 222) rfl)
set_option maxRecDepth 20000 in
theorem mv_w237 : Jvm.Cond.code { cls := "RunCuts", name := "wished", desc := "(I)I" } prog_1_method_21_code 2 (Option.some Jvm.ClassFile.FieldType.int) ∈ lw_tbl := mv_tb3 (List.mem_of_getElem? (i := 173) rfl)
set_option maxRecDepth 20000 in
theorem mv_w238 : Jvm.Cond.code { cls := "RunCuts", name := "around", desc := "(I)I" } prog_1_method_22_code 2 (Option.some Jvm.ClassFile.FieldType.int) ∈ lw_tbl := mv_tb3 (List.mem_of_getElem? (i := 199) rfl)
set_option maxRecDepth 20000 in
theorem mv_w239 : Jvm.Cond.code { cls := "RunCuts", name := "least", desc := "()I" } prog_1_method_23_code 1 (Option.some Jvm.ClassFile.FieldType.int) ∈ lw_tbl := mv_tb3 (List.mem_of_getElem? (i := 203) rfl)
set_option maxRecDepth 20000 in
theorem mv_w240 : Jvm.Cond.code { cls := "RunCuts", name := "lean", desc := "(I)I" } prog_1_method_26_code 2 (Option.some Jvm.ClassFile.FieldType.int) ∈ lw_tbl := mv_tb4 (List.mem_of_getElem? (i := 24) rfl)
set_option maxRecDepth 20000 in
theorem mv_w241 : Jvm.Cond.code { cls := "RunCuts", name := "shot", desc := "(II)I" } prog_1_method_29_code 3 (Option.some Jvm.ClassFile.FieldType.int) ∈ lw_tbl := mv_tb4 (List.mem_of_getElem? (i := 82) rfl)
set_option maxRecDepth 20000 in
theorem mv_w242 : Jvm.Cond.code { cls := "RunCuts", name := "mixConjunction", desc := "(J)J" } prog_1_method_37_code 5 (Option.some Jvm.ClassFile.FieldType.long) ∈ lw_tbl := mv_tb4 (List.mem_of_getElem? (i := 161) rfl)
set_option maxRecDepth 20000 in
theorem mv_w243 : Jvm.Cond.code { cls := "RunCutsModel", name := "cutNow", desc := "(I)I" } prog_12_method_56_code 3 (Option.some Jvm.ClassFile.FieldType.int) ∈ lw_tbl := mv_tb5 (List.mem_of_getElem? (i := 211) rfl)
set_option maxRecDepth 20000 in
theorem mv_w244 : Jvm.Cond.code { cls := "RunCutsModel", name := "lattice", desc := "(I)I" } prog_12_method_68_code 2 (Option.some Jvm.ClassFile.FieldType.int) ∈ lw_tbl := mv_tb6 (List.mem_of_getElem? (i := 67) rfl)
set_option maxRecDepth 20000 in
theorem mv_w245 : Jvm.Cond.code { cls := "RunCutsModel", name := "level", desc := "(II)I" } prog_12_method_71_code 3 (Option.some Jvm.ClassFile.FieldType.int) ∈ lw_tbl := mv_tb6 (List.mem_of_getElem? (i := 87) rfl)
set_option maxRecDepth 20000 in
theorem mv_w246 : Jvm.Cond.code { cls := "RunCutsModel", name := "wished", desc := "(I)I" } prog_12_method_77_code 2 (Option.some Jvm.ClassFile.FieldType.int) ∈ lw_tbl := mv_tb6 (List.mem_of_getElem? (i := 111) rfl)
set_option maxRecDepth 20000 in
theorem mv_w247 : Jvm.Cond.code { cls := "RunCutsModel", name := "least", desc := "()I" } prog_12_method_82_code 1 (Option.some Jvm.ClassFile.FieldType.int) ∈ lw_tbl := mv_tb6 (List.mem_of_getElem? (i := 135) rfl)
set_option maxRecDepth 20000 in
theorem mv_w248 : Jvm.Cond.code { cls := "RunCutsModel", name := "lean", desc := "(I)I" } prog_12_method_94_code 2 (Option.some Jvm.ClassFile.FieldType.int) ∈ lw_tbl := mv_tb6 (List.mem_of_getElem? (i := 175) rfl)
set_option maxRecDepth 20000 in
theorem mv_w249 : Jvm.Cond.code { cls := "RunCutsModel", name := "mixEvents", desc := "()V" } prog_12_method_112_code 3 (Option.none : Option Jvm.ClassFile.FieldType) ∈ lw_tbl := mv_tb7 (List.mem_of_getElem? (i := 28) rfl)
set_option maxRecDepth 20000 in
theorem mv_w250 : Jvm.Cond.code { cls := "RunCutsModel", name := "mixCuts", desc := "()V" } prog_12_method_114_code 4 (Option.none : Option Jvm.ClassFile.FieldType) ∈ lw_tbl := mv_tb7 (List.mem_of_getElem? (i := 37) rfl)
set_option maxRecDepth 20000 in
theorem mv_w251 : Jvm.Cond.code { cls := "RunCutsModel", name := "mixAll", desc := "()V" } prog_12_method_115_code 4 (Option.none : Option Jvm.ClassFile.FieldType) ∈ lw_tbl := mv_tb7 (List.mem_of_getElem? (i := 45) rfl)
set_option maxRecDepth 20000 in
theorem mv_w252 : Jvm.Cond.code { cls := "RunCuts", name := "digest", desc := "()J" } prog_1_method_32_code 4 (Option.some Jvm.ClassFile.FieldType.long) ∈ lw_tbl := mv_tb4 (List.mem_of_getElem? (i := 140) rfl)
set_option maxRecDepth 20000 in
theorem mv_w253 : Jvm.Cond.code { cls := "RunCutsModel", name := "cut", desc := "(II)I" } prog_12_method_58_code 3 (Option.some Jvm.ClassFile.FieldType.int) ∈ lw_tbl := mv_tb5 (List.mem_of_getElem? (i := 195) rfl)
set_option maxRecDepth 20000 in
theorem mv_w254 : Jvm.Cond.code { cls := "RunCutsModel", name := "digest", desc := "()J" } prog_12_method_117_code 2 (Option.some Jvm.ClassFile.FieldType.long) ∈ lw_tbl := mv_tb7 (List.mem_of_getElem? (i := 23) rfl)
def mvFd (c f : Nat) : String × String × String × Bool := ((mvTab[c]?).map (fun q => q.2.1 f)).getD ("", "", "", false)
set_option maxRecDepth 100000 in
theorem mv_fl : ∀ w ∈ mvFl.map (fun z => Jvm.Cond.fieldLink (mvCn z.1.1) z.1.2 (mvCn z.2.1) (mvFd z.2.1 z.2.2).2.1 (mvFd z.2.1 z.2.2).2.2.1), w ∈ lw_tbl := mv_mem [404, 405, 406, 407, 408, 409, 410, 411, 412, 413, 153, 414, 173, 184, 179, 230, 267, 269, 271, 289, 291, 316, 375, 359, 362, 415, 377, 151, 225, 221, 287, 150, 152, 180, 185, 186, 187, 188, 189, 190, 191, 166, 174, 229, 231, 233, 235, 237, 238, 219, 175, 228, 227, 170, 183, 224, 270, 266, 268, 172, 290, 294, 285, 292, 293, 222, 236, 234, 226, 169, 232, 288, 177, 315, 317, 318, 319, 167, 181, 341, 342, 343, 220, 286, 171, 182, 178, 223, 357, 360, 176, 381, 382, 383, 384, 361, 358, 376, 168, 374, 380, 378, 379, 1011, 1012, 1013, 1014, 1015, 1016, 1021, 1028, 1032, 1033, 1034, 1035, 1036, 1037, 1038, 1039, 1040, 1041, 1042, 1043, 1044, 1045, 1046, 1047, 1048, 1049, 1051, 1052, 1027, 1029, 1030, 1031, 1010, 1019, 1020, 1022, 1017, 1018, 1050, 1053, 1025, 1024, 1023, 1026, 1054] (by decide +kernel)
set_option maxRecDepth 100000 in
theorem mv_kl : ∀ w ∈ mvKl.map (fun z => Jvm.Cond.classLink (mvCn z.1.1) z.1.2 (mvCn z.2)), w ∈ lw_tbl := mv_mem [144, 160, 213, 260, 279, 309, 329, 351, 368, 335, 337, 339, 136, 1004] (by decide +kernel)
set_option maxRecDepth 100000 in
theorem mv_jl : ∀ w ∈ mvJl.map (fun z => Jvm.Cond.constantLong (mvCn z.1.1) z.1.2 (Int64.ofInt z.2)), w ∈ lw_tbl := mv_mem [982, 990, 901, 902, 903, 914, 1529, 1530, 1531, 1532, 1594, 1585] (by decide +kernel)
set_option maxRecDepth 100000 in
theorem mv_il : ∀ w ∈ mvIl.map (fun z => Jvm.Cond.constant (mvCn z.1.1) z.1.2 (Int32.ofInt z.2)), w ∈ lw_tbl := mv_mem [911, 912, 913] (by decide +kernel)
set_option maxRecDepth 100000 in
theorem mv_ml : ∀ w ∈ (mvMl.filter (fun z => decide (z.2.1 < 3))).map (fun z => Jvm.Cond.methodLink (mvCn z.1.1) z.1.2 (mvY z.2.2)), w ∈ lw_tbl := mv_mem [445, 457, 468, 496, 544, 549, 565, 566, 570, 579, 584, 592, 596, 604, 608, 616, 624, 628, 632, 640, 643, 667, 712, 717, 725, 729, 742, 758, 759, 553, 775, 793, 805, 809, 817, 831, 860, 861, 866, 888, 897, 924, 966, 974, 983, 991, 995, 999, 987, 1003, 574, 557, 779, 671, 701, 702, 703, 461, 472, 476, 477, 484, 488, 481, 492, 500, 508, 540, 504, 512, 526, 520, 529, 536, 636, 516, 647, 652, 658, 662, 651, 656, 657, 746, 750, 707, 548, 675, 687, 690, 694, 679, 683, 783, 784, 789, 788, 821, 822, 826, 827, 835, 852, 839, 843, 847, 851, 870, 871, 874, 880, 884, 885, 886, 887, 878, 879, 892, 904, 905, 915, 908, 928, 933, 941, 946, 958, 932, 937, 938, 939, 940, 950, 954, 1150, 1169, 1165, 1161, 1189, 1185, 1177, 1181, 1193, 1197, 1209, 1201, 1205, 1213, 1221, 1229, 1225, 1233, 1253, 1257, 1269, 1265, 1345, 1377, 1325, 1313, 1309, 1305, 1317, 1321, 1329, 1341, 1285, 1301, 1297, 1349, 1353, 1293, 1333, 1337, 1357, 1277, 1281, 1289, 1373, 1401, 1393, 1397, 1389, 1413, 1417, 1409, 1437, 1441, 1433, 1449, 1457, 1461, 1469, 1473, 1485, 1489, 1481, 1501, 1505, 1509, 1497, 1521, 1525, 1517, 1545, 1553, 1557, 1549, 1541, 1565, 1577, 1573, 1590, 1599, 1586, 1595, 1603, 1607, 138, 1006, 441, 1146, 449, 1153, 453, 1157, 464, 1173, 561, 1217, 575, 1237, 580, 1241, 588, 1245, 600, 1249, 612, 1261, 620, 1273, 708, 1361, 713, 1365, 721, 1369, 734, 1381, 738, 1385, 754, 1405, 763, 1421, 767, 1425, 771, 1429, 797, 1445, 801, 1453, 813, 1477, 856, 1465, 862, 1493, 893, 1513, 916, 1533, 920, 1537, 962, 1561, 970, 1569, 978, 1581] (by decide +kernel)
set_option maxRecDepth 100000 in
theorem mv_mn : ∀ w ∈ (mvMl.filter (fun z => decide (z.2.1 = 4 ∨ z.2.1 = 6))).map (fun z => Jvm.Cond.methodLinkNest (mvCn z.1.1) z.1.2 (mvY z.2.2) "RunCuts"), w ∈ lw_tbl := mv_mem [146, 162, 215, 262, 281, 311, 331, 353, 370, 666, 336, 338, 340, 945] (by decide +kernel)
set_option maxRecDepth 100000 in
theorem mv_mo : ∀ w ∈ (mvMl.filter (fun z => decide (z.2.1 = 5))).map (fun z => Jvm.Cond.methodLink (mvCn z.1.1) z.1.2 Lib.objectInit), w ∈ lw_tbl := mv_mem [141, 149, 165, 218, 265, 284, 314, 334, 356, 373, 1009] (by decide +kernel)
set_option maxRecDepth 100000 in
theorem mv_mx : ∀ w ∈ (mvMl.filter (fun z => decide (z.2.1 = 7))).map (fun z => Jvm.Cond.methodLink (mvCn z.1.1) z.1.2 Lib.Math.max.name), w ∈ lw_tbl := mv_mem [533, 700] (by decide +kernel)
set_option maxRecDepth 100000 in
theorem mv_mi : ∀ w ∈ (mvMl.filter (fun z => decide (z.2.1 = 8))).map (fun z => Jvm.Cond.methodLink (mvCn z.1.1) z.1.2 Lib.Math.min.name), w ∈ lw_tbl := mv_mem [733, 697] (by decide +kernel)
def mvMt0 : List mvMt := mvMd.take 255
set_option maxRecDepth 100000 in
theorem mv_in : ∀ w ∈ (mvMt0.filter (fun q => decide (q.2.2.2.2.2.2.1 ≠ 1))).map (fun q => Jvm.Cond.instanceMethod q.1), w ∈ lw_tbl := mv_mem [450, 917, 626, 446, 474, 493, 567, 485, 593, 597, 506, 542, 875, 881, 823, 617, 585, 975, 629, 521, 537, 680, 751, 760, 684, 794, 810, 829, 844, 848, 854, 558, 952, 967, 1154, 1171, 1179, 1191, 1279, 1203, 1215, 1231, 1259, 1271, 1343, 1347, 1355, 1295, 1379, 1283, 1287, 1299, 1315, 1327, 1503, 1527, 1523, 1567, 1579, 1592, 442, 709, 963, 971, 997, 807, 555, 147, 458, 163, 478, 489, 605, 502, 531, 609, 638, 517, 691, 718, 730, 216, 649, 664, 748, 704, 263, 545, 677, 282, 312, 818, 841, 889, 354, 371, 930, 935, 943, 1007, 1147, 1167, 1187, 1207, 1211, 1223, 1227, 1267, 1419, 1323, 1311, 1319, 1331, 1351, 1375, 1403, 1395, 1415, 1422, 1439, 1459, 1491, 1519, 1534, 1547, 1555, 1562, 1575, 1609, 454, 601, 613, 764, 768, 857, 985, 551, 469, 633, 513, 654, 660, 743, 672, 786, 837, 332, 956, 1163, 1183, 1199, 1255, 1307, 1359, 1362, 1366, 1370, 1382, 1399, 1426, 1443, 1451, 1471, 1475, 1514, 1559, 1570, 139, 714, 669, 727, 510, 644, 791, 832, 898, 948, 1158, 1195, 1250, 1262, 1303, 1487, 1466, 1511, 1507, 1551, 1601, 621, 722, 735, 739, 755, 814, 894, 993, 497, 780, 960, 1174, 1235, 1246, 1339, 1483, 1543, 465, 589, 572, 777, 867, 925, 1218, 1238, 1242, 1335, 1391, 1411, 1435, 1446, 1463, 1478, 1499, 1538, 562, 576, 581, 772, 798, 802, 863, 921, 1001, 1291, 1386, 1406, 1430, 1454, 1494, 1588, 1597, 1605, 979, 1274, 1582] (by decide +kernel)
set_option maxRecDepth 100000 in
theorem mv_st : ∀ w ∈ (mvMt0.filter (fun q => decide (q.2.2.2.2.2.2.1 = 1))).map (fun q => Jvm.Cond.static q.1), w ∈ lw_tbl := mv_mem [988, 641, 462, 527, 1151, 482, 909, 688, 695, 872, 906] (by decide +kernel)
set_option maxRecDepth 100000 in
theorem mv_se : ∀ w ∈ (mvMt0.filter (fun q => decide (q.2.2.2.2.2.2.1 = 0))).map (fun q => Jvm.Cond.selects q.1.cls q.1 q.1), w ∈ lw_tbl := mv_mem [451, 918, 9, 447, 0, 494, 568, 486, 594, 598, 2, 5, 876, 882, 824, 618, 586, 976, 630, 522, 538, 681, 752, 761, 685, 795, 811, 23, 845, 849, 26, 559, 31, 968, 1155, 40, 41, 44, 59, 47, 50, 53, 56, 58, 75, 76, 78, 63, 81, 60, 61, 64, 68, 71, 101, 106, 105, 112, 114, 116, 443, 710, 964, 972, 36, 22, 7, 459, 479, 490, 606, 1, 4, 610, 10, 518, 692, 719, 731, 11, 14, 18, 705, 546, 16, 819, 25, 890, 27, 28, 29, 1148, 39, 43, 48, 49, 51, 52, 57, 88, 70, 67, 69, 72, 77, 80, 85, 83, 87, 1423, 90, 93, 99, 104, 1535, 108, 110, 1563, 113, 120, 455, 602, 614, 765, 769, 858, 34, 6, 470, 634, 514, 12, 13, 744, 673, 20, 24, 32, 38, 42, 46, 55, 66, 79, 1363, 1367, 1371, 1383, 84, 1427, 91, 92, 95, 96, 1515, 111, 1571, 715, 15, 17, 3, 645, 21, 833, 899, 30, 1159, 45, 1251, 1263, 65, 98, 1467, 103, 102, 109, 118, 622, 723, 736, 740, 756, 815, 895, 35, 498, 781, 33, 1175, 54, 1247, 74, 97, 107, 466, 590, 8, 19, 868, 926, 1219, 1239, 1243, 73, 82, 86, 89, 1447, 94, 1479, 100, 1539, 563, 577, 582, 773, 799, 803, 864, 922, 37, 62, 1387, 1407, 1431, 1455, 1495, 115, 117, 119, 980, 1275, 1583] (by decide +kernel)
set_option maxRecDepth 100000 in
theorem mv_ini : ∀ w ∈ (mvMt0).map (fun q => Jvm.Cond.initialized q.1.cls), w ∈ lw_tbl := mv_mem [122, 122, 122, 122, 122, 123, 123, 123, 124, 124, 124, 124, 124, 124, 124, 124, 124, 124, 124, 124, 124, 124, 124, 124, 124, 124, 125, 125, 126, 127, 127, 128, 128, 128, 128, 129, 131, 131, 132, 132, 132, 132, 132, 132, 132, 132, 132, 132, 132, 132, 132, 132, 132, 132, 132, 132, 132, 132, 132, 132, 132, 132, 132, 132, 132, 133, 135, 122, 122, 122, 122, 122, 122, 122, 123, 123, 124, 124, 124, 124, 124, 124, 124, 124, 124, 124, 124, 124, 125, 125, 125, 125, 125, 126, 126, 126, 126, 126, 127, 128, 128, 128, 129, 129, 130, 130, 131, 131, 131, 131, 132, 132, 132, 132, 132, 132, 132, 132, 132, 132, 132, 132, 132, 132, 132, 132, 132, 132, 132, 132, 132, 132, 132, 132, 132, 132, 132, 132, 132, 132, 122, 122, 122, 122, 122, 122, 122, 122, 123, 124, 124, 125, 125, 125, 126, 127, 128, 129, 131, 132, 132, 132, 132, 132, 132, 132, 132, 132, 132, 132, 132, 132, 132, 132, 132, 132, 132, 132, 122, 122, 122, 122, 124, 125, 127, 128, 130, 131, 132, 132, 132, 132, 132, 132, 132, 132, 132, 132, 132, 122, 122, 122, 122, 122, 122, 122, 122, 124, 127, 131, 132, 132, 132, 132, 132, 132, 122, 122, 122, 122, 129, 131, 132, 132, 132, 132, 132, 132, 132, 132, 132, 132, 132, 132, 122, 122, 122, 122, 122, 122, 122, 122, 122, 132, 132, 132, 132, 132, 132, 132, 132, 132, 122, 132, 132] (by decide +kernel)
set_option maxRecDepth 100000 in
theorem mv_inst : ∀ w ∈ mvTab.map (fun q => Jvm.Cond.instantiable q.1 q.2.2), w ∈ lw_tbl := mv_mem [137, 145, 161, 214, 261, 280, 310, 330, 352, 369, 1005] (by decide +kernel)
set_option maxRecDepth 100000 in
theorem mv_ini2 : ∀ w ∈ mvTab.map (fun q => Jvm.Cond.initialized q.1), w ∈ lw_tbl := mv_mem [122, 123, 124, 125, 126, 127, 128, 129, 130, 131, 132] (by decide +kernel)
set_option maxRecDepth 100000 in
theorem mv_u0 : ∀ w ∈ u_ws "RunCuts" mvT0 12, w ∈ lw_tbl := mv_mem [416, 418, 420, 422, 424, 426, 428, 430, 432, 434, 436, 438] (by decide +kernel)
set_option maxRecDepth 100000 in
theorem mv_u1 : ∀ w ∈ u_ws "RunCuts$Page" mvT1 2, w ∈ lw_tbl := mv_mem [154, 156] (by decide +kernel)
set_option maxRecDepth 100000 in
theorem mv_u2 : ∀ w ∈ u_ws "RunCuts$Events" mvT2 10, w ∈ lw_tbl := mv_mem [192, 194, 196, 198, 200, 202, 204, 206, 208, 210] (by decide +kernel)
set_option maxRecDepth 100000 in
theorem mv_u3 : ∀ w ∈ u_ws "RunCuts$Lattice" mvT3 10, w ∈ lw_tbl := mv_mem [239, 241, 243, 245, 247, 249, 251, 253, 255, 257] (by decide +kernel)
set_option maxRecDepth 100000 in
theorem mv_u4 : ∀ w ∈ u_ws "RunCuts$Predicate" mvT4 3, w ∈ lw_tbl := mv_mem [272, 274, 276] (by decide +kernel)
set_option maxRecDepth 100000 in
theorem mv_u5 : ∀ w ∈ u_ws "RunCuts$Search" mvT5 6, w ∈ lw_tbl := mv_mem [295, 297, 299, 301, 303, 305] (by decide +kernel)
set_option maxRecDepth 100000 in
theorem mv_u6 : ∀ w ∈ u_ws "RunCuts$Intervals" mvT6 4, w ∈ lw_tbl := mv_mem [320, 322, 324, 326] (by decide +kernel)
set_option maxRecDepth 100000 in
theorem mv_u7 : ∀ w ∈ u_ws "RunCuts$Lean" mvT7 3, w ∈ lw_tbl := mv_mem [344, 346, 348] (by decide +kernel)
set_option maxRecDepth 100000 in
theorem mv_u8 : ∀ w ∈ u_ws "RunCuts$Play" mvT8 2, w ∈ lw_tbl := mv_mem [363, 365] (by decide +kernel)
set_option maxRecDepth 100000 in
theorem mv_u9 : ∀ w ∈ u_ws "RunCuts$Snapshot" mvT9 9, w ∈ lw_tbl := mv_mem [385, 387, 389, 391, 393, 395, 397, 399, 401] (by decide +kernel)
set_option maxRecDepth 100000 in
theorem mv_u10 : ∀ w ∈ u_ws "RunCutsModel" mvT10 45, w ∈ lw_tbl := mv_mem [1055, 1057, 1059, 1061, 1063, 1065, 1067, 1069, 1071, 1073, 1075, 1077, 1079, 1081, 1083, 1085, 1087, 1089, 1091, 1093, 1095, 1097, 1099, 1101, 1103, 1105, 1107, 1109, 1111, 1113, 1115, 1117, 1119, 1121, 1123, 1125, 1127, 1129, 1131, 1133, 1135, 1137, 1139, 1141, 1143] (by decide +kernel)
set_option maxRecDepth 100000 in
theorem mv_mxS : Jvm.Cond.static Lib.Math.max.name ∈ lw_tbl := List.mem_of_getElem? (i := 534) (by decide +kernel)
set_option maxRecDepth 100000 in
theorem mv_miS : Jvm.Cond.static Lib.Math.min.name ∈ lw_tbl := List.mem_of_getElem? (i := 698) (by decide +kernel)
set_option maxRecDepth 100000 in
theorem mv_mI : Jvm.Cond.initialized "java/lang/Math" ∈ lw_tbl := List.mem_of_getElem? (i := 134) (by decide +kernel)
set_option maxRecDepth 100000 in
theorem mv_mxC : Jvm.Cond.code Lib.Math.max.name Lib.Math.max.code 2 (some .int) ∈ lw_tbl := List.mem_of_getElem? (i := 535) (by decide +kernel)
set_option maxRecDepth 100000 in
theorem mv_miC : Jvm.Cond.code Lib.Math.min.name Lib.Math.min.code 2 (some .int) ∈ lw_tbl := List.mem_of_getElem? (i := 699) (by decide +kernel)
set_option maxRecDepth 100000 in
theorem mv_objI : Jvm.Cond.instanceMethod Lib.objectInit ∈ lw_tbl := List.mem_of_getElem? (i := 142) (by decide +kernel)
set_option maxRecDepth 100000 in
theorem mv_objC : Jvm.Cond.code Lib.objectInit ⟨#[0xb1]⟩ 1 none ∈ lw_tbl := List.mem_of_getElem? (i := 143) (by decide +kernel)
set_option maxRecDepth 100000 in
theorem mv_arrI : Jvm.Cond.arrayClass FieldType.int ∈ lw_tbl := List.mem_of_getElem? (i := 159) (by decide +kernel)
set_option maxRecDepth 100000 in
theorem mv_arrB : Jvm.Cond.arrayClass FieldType.boolean ∈ lw_tbl := List.mem_of_getElem? (i := 308) (by decide +kernel)
set_option maxRecDepth 100000 in
theorem mv_tens : Jvm.Cond.fieldLinkNest "RunCuts$Events" 91 "RunCuts" "TENS" "[I" "RunCuts" ∈ lw_tbl := List.mem_of_getElem? (i := 524) (by decide +kernel)
set_option maxRecDepth 100000 in
theorem mv_tensL : Jvm.Cond.laysStatic "RunCuts" "TENS" "[I" ∈ lw_tbl := List.mem_of_getElem? (i := 525) (by decide +kernel)
theorem mv_code0 : ∀ q ∈ mvMd0, ¬ q.2.2.2.2.1 = 11 → mvWcode q ∈ lw_tbl := by
  show ∀ q ∈ [({ cls := "RunCuts", name := "blank", desc := "()I" }, prog_1_method_3_code, 2, (Option.some FieldType.int), 0, 0, 0, 0), ({ cls := "RunCuts", name := "played", desc := "(I)I" }, prog_1_method_28_code, 2, (Option.some FieldType.int), 0, 0, 0, 1), ({ cls := "RunCuts", name := "mix", desc := "(JI)J" }, prog_1_method_33_code, 3, (Option.some FieldType.long), 0, 0, 1, 2), ({ cls := "RunCuts", name := "hasComputation", desc := "()Z" }, prog_1_method_38_code, 1, (Option.some FieldType.boolean), 0, 0, 0, 0), ({ cls := "RunCuts", name := "levelOf", desc := "(I)I" }, prog_1_method_46_code, 1, (Option.some FieldType.int), 0, 0, 1, 1), ({ cls := "RunCuts$Page", name := "append", desc := "(I)V" }, prog_6_method_2_code, 2, (Option.none : Option FieldType), 1, 0, 0, 1), ({ cls := "RunCuts$Page", name := "countProcesses", desc := "()I" }, prog_6_method_5_code, 3, (Option.some FieldType.int), 1, 0, 0, 0), ({ cls := "RunCuts$Page", name := "isDigit", desc := "(I)Z" }, prog_6_method_6_code, 1, (Option.some FieldType.boolean), 1, 0, 1, 1), ({ cls := "RunCuts$Events", name := "hasProcess", desc := "(I)Z" }, prog_2_method_3_code, 2, (Option.some FieldType.boolean), 2, 0, 0, 1), ({ cls := "RunCuts$Events", name := "hasRoom", desc := "(I)Z" }, prog_2_method_6_code, 2, (Option.some FieldType.boolean), 2, 0, 0, 1), ({ cls := "RunCuts$Events", name := "append", desc := "(III)V" }, prog_2_method_7_code, 5, (Option.none : Option FieldType), 2, 0, 0, 3), ({ cls := "RunCuts$Events", name := "canDropLast", desc := "(I)Z" }, prog_2_method_8_code, 3, (Option.some FieldType.boolean), 2, 0, 0, 1), ({ cls := "RunCuts$Events", name := "dropLast", desc := "(I)V" }, prog_2_method_9_code, 2, (Option.none : Option FieldType), 2, 0, 0, 1), ({ cls := "RunCuts$Events", name := "pairReceive", desc := "(II)Z" }, prog_2_method_12_code, 6, (Option.some FieldType.boolean), 2, 0, 0, 2), ({ cls := "RunCuts$Events", name := "firstOf", desc := "(I)I" }, prog_2_method_15_code, 2, (Option.some FieldType.int), 2, 0, 1, 1), ({ cls := "RunCuts$Events", name := "followProcess", desc := "(I)V" }, prog_2_method_16_code, 6, (Option.none : Option FieldType), 2, 0, 0, 1), ({ cls := "RunCuts$Events", name := "kindOf", desc := "(II)I" }, prog_2_method_17_code, 3, (Option.some FieldType.int), 2, 0, 0, 2), ({ cls := "RunCuts$Events", name := "detailOf", desc := "(II)I" }, prog_2_method_18_code, 3, (Option.some FieldType.int), 2, 0, 0, 2), ({ cls := "RunCuts$Events", name := "valueAfter", desc := "(II)I" }, prog_2_method_19_code, 3, (Option.some FieldType.int), 2, 0, 0, 2), ({ cls := "RunCuts$Events", name := "isBefore", desc := "(IIII)Z" }, prog_2_method_21_code, 5, (Option.some FieldType.boolean), 2, 0, 0, 4), ({ cls := "RunCuts$Events", name := "hasFreeSend", desc := "(II)Z" }, prog_2_method_22_code, 5, (Option.some FieldType.boolean), 2, 0, 0, 2), ({ cls := "RunCuts$Events", name := "countKind", desc := "(I)I" }, prog_2_method_23_code, 5, (Option.some FieldType.int), 2, 0, 0, 1), ({ cls := "RunCuts$Events", name := "isCut", desc := "(I)Z" }, prog_2_method_24_code, 4, (Option.some FieldType.boolean), 2, 0, 0, 1), ({ cls := "RunCuts$Events", name := "countIn", desc := "(II)I" }, prog_2_method_25_code, 3, (Option.some FieldType.int), 2, 0, 0, 2), ({ cls := "RunCuts$Events", name := "with", desc := "(II)I" }, prog_2_method_26_code, 3, (Option.some FieldType.int), 2, 0, 0, 2), ({ cls := "RunCuts$Events", name := "valueIn", desc := "(II)I" }, prog_2_method_31_code, 3, (Option.some FieldType.int), 2, 0, 0, 2), ({ cls := "RunCuts$Lattice", name := "sizeOfLevel", desc := "(I)I" }, prog_4_method_8_code, 2, (Option.some FieldType.int), 3, 0, 0, 1), ({ cls := "RunCuts$Lattice", name := "inOrder", desc := "(I)I" }, prog_4_method_10_code, 2, (Option.some FieldType.int), 3, 0, 0, 1), ({ cls := "RunCuts$Predicate", name := "allows", desc := "(II)Z" }, prog_8_method_3_code, 3, (Option.some FieldType.boolean), 4, 0, 0, 2), ({ cls := "RunCuts$Search", name := "property", desc := "(I)I" }, prog_9_method_5_code, 2, (Option.some FieldType.int), 5, 0, 0, 1), ({ cls := "RunCuts$Search", name := "leastCut", desc := "()I" }, prog_9_method_6_code, 1, (Option.some FieldType.int), 5, 0, 0, 0), ({ cls := "RunCuts$Intervals", name := "begin", desc := "(II)V" }, prog_3_method_3_code, 3, (Option.none : Option FieldType), 6, 0, 0, 2), ({ cls := "RunCuts$Intervals", name := "firstOf", desc := "(II)I" }, prog_3_method_4_code, 3, (Option.some FieldType.int), 6, 0, 0, 2), ({ cls := "RunCuts$Intervals", name := "lastOf", desc := "(II)I" }, prog_3_method_5_code, 3, (Option.some FieldType.int), 6, 0, 0, 2), ({ cls := "RunCuts$Intervals", name := "chooseNext", desc := "(I)V" }, prog_3_method_7_code, 3, (Option.none : Option FieldType), 6, 0, 0, 1), ({ cls := "RunCuts$Lean", name := "forget", desc := "()V" }, prog_5_method_2_code, 1, (Option.none : Option FieldType), 7, 0, 0, 0), ({ cls := "RunCuts$Snapshot", name := "firstMarker", desc := "(Z)I" }, prog_10_method_8_code, 3, (Option.some FieldType.int), 9, 0, 0, 1), ({ cls := "RunCuts$Snapshot", name := "property", desc := "(I)I" }, prog_10_method_10_code, 2, (Option.some FieldType.int), 9, 0, 0, 1), ({ cls := "RunCutsModel", name := "within", desc := "(III)Z" }, prog_12_method_3_code, 3, (Option.some FieldType.boolean), 10, 0, 1, 3), ({ cls := "RunCutsModel", name := "blank", desc := "()I" }, prog_12_method_5_code, 2, (Option.some FieldType.int), 10, 0, 0, 0)], ¬ q.2.2.2.2.1 = 11 → mvWcode q ∈ lw_tbl
  exact List.forall_mem_cons.mpr ⟨fun h => mv_w0, List.forall_mem_cons.mpr ⟨fun h => mv_w1, List.forall_mem_cons.mpr ⟨fun h => mv_w2, List.forall_mem_cons.mpr ⟨fun h => mv_w3, List.forall_mem_cons.mpr ⟨fun h => mv_w4, List.forall_mem_cons.mpr ⟨fun h => mv_w5, List.forall_mem_cons.mpr ⟨fun h => mv_w6, List.forall_mem_cons.mpr ⟨fun h => mv_w7, List.forall_mem_cons.mpr ⟨fun h => mv_w8, List.forall_mem_cons.mpr ⟨fun h => mv_w9, List.forall_mem_cons.mpr ⟨fun h => mv_w10, List.forall_mem_cons.mpr ⟨fun h => mv_w11, List.forall_mem_cons.mpr ⟨fun h => mv_w12, List.forall_mem_cons.mpr ⟨fun h => mv_w13, List.forall_mem_cons.mpr ⟨fun h => mv_w14, List.forall_mem_cons.mpr ⟨fun h => mv_w15, List.forall_mem_cons.mpr ⟨fun h => mv_w16, List.forall_mem_cons.mpr ⟨fun h => mv_w17, List.forall_mem_cons.mpr ⟨fun h => mv_w18, List.forall_mem_cons.mpr ⟨fun h => mv_w19, List.forall_mem_cons.mpr ⟨fun h => mv_w20, List.forall_mem_cons.mpr ⟨fun h => mv_w21, List.forall_mem_cons.mpr ⟨fun h => mv_w22, List.forall_mem_cons.mpr ⟨fun h => mv_w23, List.forall_mem_cons.mpr ⟨fun h => mv_w24, List.forall_mem_cons.mpr ⟨fun h => mv_w25, List.forall_mem_cons.mpr ⟨fun h => mv_w26, List.forall_mem_cons.mpr ⟨fun h => mv_w27, List.forall_mem_cons.mpr ⟨fun h => mv_w28, List.forall_mem_cons.mpr ⟨fun h => mv_w29, List.forall_mem_cons.mpr ⟨fun h => mv_w30, List.forall_mem_cons.mpr ⟨fun h => mv_w31, List.forall_mem_cons.mpr ⟨fun h => mv_w32, List.forall_mem_cons.mpr ⟨fun h => mv_w33, List.forall_mem_cons.mpr ⟨fun h => mv_w34, List.forall_mem_cons.mpr ⟨fun h => mv_w35, List.forall_mem_cons.mpr ⟨fun h => mv_w36, List.forall_mem_cons.mpr ⟨fun h => mv_w37, List.forall_mem_cons.mpr ⟨fun h => mv_w38, List.forall_mem_cons.mpr ⟨fun h => mv_w39, fun _ h => absurd h List.not_mem_nil⟩⟩⟩⟩⟩⟩⟩⟩⟩⟩⟩⟩⟩⟩⟩⟩⟩⟩⟩⟩⟩⟩⟩⟩⟩⟩⟩⟩⟩⟩⟩⟩⟩⟩⟩⟩⟩⟩⟩⟩
theorem mv_code1 : ∀ q ∈ mvMd1, ¬ q.2.2.2.2.1 = 11 → mvWcode q ∈ lw_tbl := by
  show ∀ q ∈ [({ cls := "RunCutsModel", name := "takesEvent", desc := "(II)Z" }, prog_12_method_6_code, 4, (Option.some FieldType.boolean), 10, 0, 0, 2), ({ cls := "RunCutsModel", name := "areOthers", desc := "()Z" }, prog_12_method_10_code, 5, (Option.some FieldType.boolean), 10, 0, 0, 0), ({ cls := "RunCutsModel", name := "newOf", desc := "(IIII)I" }, prog_12_method_11_code, 8, (Option.some FieldType.int), 10, 0, 0, 4), ({ cls := "RunCutsModel", name := "isRun", desc := "()Z" }, prog_12_method_15_code, 1, (Option.some FieldType.boolean), 10, 0, 0, 0), ({ cls := "RunCutsModel", name := "of", desc := "(IIII)I" }, prog_12_method_17_code, 8, (Option.some FieldType.int), 10, 0, 0, 4), ({ cls := "RunCutsModel", name := "layVector", desc := "(II)V" }, prog_12_method_21_code, 8, (Option.none : Option FieldType), 10, 0, 0, 2), ({ cls := "RunCutsModel", name := "eventsAll", desc := "()I" }, prog_12_method_24_code, 3, (Option.some FieldType.int), 10, 0, 0, 0), ({ cls := "RunCutsModel", name := "eventNow", desc := "(III)I" }, prog_12_method_31_code, 5, (Option.some FieldType.int), 10, 0, 0, 3), ({ cls := "RunCutsModel", name := "isAhead", desc := "(IIII)Z" }, prog_12_method_33_code, 5, (Option.some FieldType.boolean), 10, 0, 0, 4), ({ cls := "RunCutsModel", name := "cutsAll", desc := "()I" }, prog_12_method_36_code, 3, (Option.some FieldType.int), 10, 0, 0, 0), ({ cls := "RunCutsModel", name := "take", desc := "(I)V" }, prog_12_method_37_code, 4, (Option.none : Option FieldType), 10, 0, 0, 1), ({ cls := "RunCutsModel", name := "stride", desc := "(I)I" }, prog_12_method_38_code, 4, (Option.some FieldType.int), 10, 0, 0, 1), ({ cls := "RunCutsModel", name := "indexNow", desc := "()I" }, prog_12_method_39_code, 3, (Option.some FieldType.int), 10, 0, 0, 0), ({ cls := "RunCutsModel", name := "toldNow", desc := "()I" }, prog_12_method_40_code, 3, (Option.some FieldType.int), 10, 0, 0, 0), ({ cls := "RunCutsModel", name := "takesTold", desc := "(I)Z" }, prog_12_method_42_code, 5, (Option.some FieldType.boolean), 10, 0, 0, 1), ({ cls := "RunCutsModel", name := "isConsistent", desc := "()Z" }, prog_12_method_43_code, 4, (Option.some FieldType.boolean), 10, 0, 0, 0), ({ cls := "RunCutsModel", name := "levelNow", desc := "()I" }, prog_12_method_44_code, 3, (Option.some FieldType.int), 10, 0, 0, 0), ({ cls := "RunCutsModel", name := "valueOf", desc := "(II)I" }, prog_12_method_45_code, 6, (Option.some FieldType.int), 10, 0, 0, 2), ({ cls := "RunCutsModel", name := "underOf", desc := "(II)I" }, prog_12_method_46_code, 7, (Option.some FieldType.int), 10, 0, 0, 2), ({ cls := "RunCutsModel", name := "keep", desc := "()V" }, prog_12_method_90_code, 2, (Option.none : Option FieldType), 10, 0, 0, 0), ({ cls := "RunCutsModel", name := "drawOf", desc := "(I)I" }, prog_12_method_95_code, 2, (Option.some FieldType.int), 10, 0, 0, 1), ({ cls := "RunCutsModel", name := "canCome", desc := "(I)Z" }, prog_12_method_96_code, 3, (Option.some FieldType.boolean), 10, 0, 0, 1), ({ cls := "RunCutsModel", name := "shotsNow", desc := "(I)I" }, prog_12_method_106_code, 2, (Option.some FieldType.int), 10, 0, 0, 1), ({ cls := "RunCutsModel", name := "eventsOf", desc := "(I)I" }, prog_12_method_108_code, 5, (Option.some FieldType.int), 10, 0, 0, 1), ({ cls := "RunCutsModel", name := "mix", desc := "(J)V" }, prog_12_method_111_code, 3, (Option.none : Option FieldType), 10, 0, 0, 1), ({ cls := "java/util/Arrays", name := "fill", desc := "([II)V" }, prog_15_method_103_code, 4, (Option.none : Option FieldType), 13, 0, 1, 2), ({ cls := "java/lang/Integer", name := "bitCount", desc := "(I)I" }, prog_13_method_49_code, 1, (Option.some FieldType.int), 15, 0, 1, 1), ({ cls := "RunCuts", name := "letter", desc := "(I)I" }, prog_1_method_2_code, 2, (Option.some FieldType.int), 0, 1, 0, 1), ({ cls := "RunCuts", name := "value", desc := "(II)I" }, prog_1_method_13_code, 3, (Option.some FieldType.int), 0, 1, 0, 2), ({ cls := "RunCuts", name := "shots", desc := "(I)I" }, prog_1_method_30_code, 2, (Option.some FieldType.int), 0, 1, 0, 1), ({ cls := "RunCuts", name := "count", desc := "(I)I" }, prog_1_method_31_code, 2, (Option.some FieldType.int), 0, 1, 0, 1), ({ cls := "RunCuts", name := "mixSearch", desc := "(J)J" }, prog_1_method_36_code, 4, (Option.some FieldType.long), 0, 1, 0, 1), ({ cls := "RunCuts", name := "hasConjunction", desc := "()Z" }, prog_1_method_39_code, 1, (Option.some FieldType.boolean), 0, 1, 0, 0), ({ cls := "RunCuts", name := "forgetSearches", desc := "()V" }, prog_1_method_42_code, 1, (Option.none : Option FieldType), 0, 1, 0, 0), ({ cls := "RunCuts$Page", name := "<init>", desc := "()V" }, prog_6_method_1_code, 1, (Option.none : Option FieldType), 1, 1, 2, 0), ({ cls := "RunCuts$Page", name := "firstFault", desc := "()I" }, prog_6_method_3_code, 7, (Option.some FieldType.int), 1, 1, 0, 0), ({ cls := "RunCuts$Events", name := "<init>", desc := "()V" }, prog_2_method_1_code, 1, (Option.none : Option FieldType), 2, 1, 2, 0), ({ cls := "RunCuts$Events", name := "begin", desc := "(I)V" }, prog_2_method_2_code, 2, (Option.none : Option FieldType), 2, 1, 0, 1), ({ cls := "RunCuts$Events", name := "hasChannel", desc := "(II)Z" }, prog_2_method_4_code, 3, (Option.some FieldType.boolean), 2, 1, 0, 2), ({ cls := "RunCuts$Events", name := "hasEvent", desc := "(II)Z" }, prog_2_method_5_code, 3, (Option.some FieldType.boolean), 2, 1, 0, 2)], ¬ q.2.2.2.2.1 = 11 → mvWcode q ∈ lw_tbl
  exact List.forall_mem_cons.mpr ⟨fun h => mv_w40, List.forall_mem_cons.mpr ⟨fun h => mv_w41, List.forall_mem_cons.mpr ⟨fun h => mv_w42, List.forall_mem_cons.mpr ⟨fun h => mv_w43, List.forall_mem_cons.mpr ⟨fun h => mv_w44, List.forall_mem_cons.mpr ⟨fun h => mv_w45, List.forall_mem_cons.mpr ⟨fun h => mv_w46, List.forall_mem_cons.mpr ⟨fun h => mv_w47, List.forall_mem_cons.mpr ⟨fun h => mv_w48, List.forall_mem_cons.mpr ⟨fun h => mv_w49, List.forall_mem_cons.mpr ⟨fun h => mv_w50, List.forall_mem_cons.mpr ⟨fun h => mv_w51, List.forall_mem_cons.mpr ⟨fun h => mv_w52, List.forall_mem_cons.mpr ⟨fun h => mv_w53, List.forall_mem_cons.mpr ⟨fun h => mv_w54, List.forall_mem_cons.mpr ⟨fun h => mv_w55, List.forall_mem_cons.mpr ⟨fun h => mv_w56, List.forall_mem_cons.mpr ⟨fun h => mv_w57, List.forall_mem_cons.mpr ⟨fun h => mv_w58, List.forall_mem_cons.mpr ⟨fun h => mv_w59, List.forall_mem_cons.mpr ⟨fun h => mv_w60, List.forall_mem_cons.mpr ⟨fun h => mv_w61, List.forall_mem_cons.mpr ⟨fun h => mv_w62, List.forall_mem_cons.mpr ⟨fun h => mv_w63, List.forall_mem_cons.mpr ⟨fun h => mv_w64, List.forall_mem_cons.mpr ⟨fun h => mv_w65, List.forall_mem_cons.mpr ⟨fun h => mv_w66, List.forall_mem_cons.mpr ⟨fun h => mv_w67, List.forall_mem_cons.mpr ⟨fun h => mv_w68, List.forall_mem_cons.mpr ⟨fun h => mv_w69, List.forall_mem_cons.mpr ⟨fun h => mv_w70, List.forall_mem_cons.mpr ⟨fun h => mv_w71, List.forall_mem_cons.mpr ⟨fun h => mv_w72, List.forall_mem_cons.mpr ⟨fun h => mv_w73, List.forall_mem_cons.mpr ⟨fun h => mv_w74, List.forall_mem_cons.mpr ⟨fun h => mv_w75, List.forall_mem_cons.mpr ⟨fun h => mv_w76, List.forall_mem_cons.mpr ⟨fun h => mv_w77, List.forall_mem_cons.mpr ⟨fun h => mv_w78, List.forall_mem_cons.mpr ⟨fun h => mv_w79, fun _ h => absurd h List.not_mem_nil⟩⟩⟩⟩⟩⟩⟩⟩⟩⟩⟩⟩⟩⟩⟩⟩⟩⟩⟩⟩⟩⟩⟩⟩⟩⟩⟩⟩⟩⟩⟩⟩⟩⟩⟩⟩⟩⟩⟩⟩
theorem mv_code2 : ∀ q ∈ mvMd2, ¬ q.2.2.2.2.1 = 11 → mvWcode q ∈ lw_tbl := by
  show ∀ q ∈ [({ cls := "RunCuts$Events", name := "pairMessages", desc := "()Z" }, prog_2_method_11_code, 3, (Option.some FieldType.boolean), 2, 1, 0, 0), ({ cls := "RunCuts$Events", name := "findVector", desc := "(II)V" }, prog_2_method_14_code, 7, (Option.none : Option FieldType), 2, 1, 0, 2), ({ cls := "RunCuts$Events", name := "property", desc := "(III)I" }, prog_2_method_20_code, 6, (Option.some FieldType.int), 2, 1, 0, 3), ({ cls := "RunCuts$Events", name := "hasPastIn", desc := "(II)Z" }, prog_2_method_28_code, 4, (Option.some FieldType.boolean), 2, 1, 0, 2), ({ cls := "RunCuts$Events", name := "canFollow", desc := "(II)Z" }, prog_2_method_29_code, 5, (Option.some FieldType.boolean), 2, 1, 0, 2), ({ cls := "RunCuts$Events", name := "underWay", desc := "(I)I" }, prog_2_method_32_code, 4, (Option.some FieldType.int), 2, 1, 0, 1), ({ cls := "RunCuts$Events", name := "underWayBetween", desc := "(III)I" }, prog_2_method_33_code, 8, (Option.some FieldType.int), 2, 1, 0, 3), ({ cls := "RunCuts$Events", name := "combine", desc := "(IIZ)I" }, prog_2_method_34_code, 8, (Option.some FieldType.int), 2, 1, 0, 3), ({ cls := "RunCuts$Lattice", name := "<init>", desc := "()V" }, prog_4_method_1_code, 1, (Option.none : Option FieldType), 3, 1, 2, 0), ({ cls := "RunCuts$Lattice", name := "numberPlaces", desc := "(LRunCuts$Events;)V" }, prog_4_method_3_code, 4, (Option.none : Option FieldType), 3, 1, 0, 1), ({ cls := "RunCuts$Lattice", name := "sortByLevel", desc := "()V" }, prog_4_method_6_code, 3, (Option.none : Option FieldType), 3, 1, 0, 0), ({ cls := "RunCuts$Lattice", name := "widestLevel", desc := "()I" }, prog_4_method_9_code, 3, (Option.some FieldType.int), 3, 1, 0, 0), ({ cls := "RunCuts$Lattice", name := "pathsThrough", desc := "(LRunCuts$Events;I)I" }, prog_4_method_11_code, 5, (Option.some FieldType.int), 3, 1, 0, 2), ({ cls := "RunCuts$Predicate", name := "<init>", desc := "()V" }, prog_8_method_1_code, 1, (Option.none : Option FieldType), 4, 1, 2, 0), ({ cls := "RunCuts$Predicate", name := "allowAll", desc := "()V" }, prog_8_method_2_code, 1, (Option.none : Option FieldType), 4, 1, 0, 0), ({ cls := "RunCuts$Predicate", name := "allowsAll", desc := "(LRunCuts$Events;I)Z" }, prog_8_method_5_code, 4, (Option.some FieldType.boolean), 4, 1, 0, 2), ({ cls := "RunCuts$Predicate", name := "sumIn", desc := "(LRunCuts$Events;I)I" }, prog_8_method_6_code, 4, (Option.some FieldType.int), 4, 1, 1, 2), ({ cls := "RunCuts$Predicate", name := "spreadIn", desc := "(LRunCuts$Events;I)I" }, prog_8_method_7_code, 6, (Option.some FieldType.int), 4, 1, 1, 2), ({ cls := "RunCuts$Search", name := "<init>", desc := "()V" }, prog_9_method_1_code, 1, (Option.none : Option FieldType), 5, 1, 2, 0), ({ cls := "RunCuts$Intervals", name := "<init>", desc := "()V" }, prog_3_method_1_code, 1, (Option.none : Option FieldType), 6, 1, 2, 0), ({ cls := "RunCuts$Intervals", name := "find", desc := "(LRunCuts$Events;LRunCuts$Predicate;)V" }, prog_3_method_2_code, 7, (Option.none : Option FieldType), 6, 1, 0, 2), ({ cls := "RunCuts$Intervals", name := "beginsBeforeEnd", desc := "(LRunCuts$Events;II)Z" }, prog_3_method_9_code, 6, (Option.some FieldType.boolean), 6, 1, 0, 3), ({ cls := "RunCuts$Lean", name := "matters", desc := "(LRunCuts$Events;LRunCuts$Predicate;II)Z" }, prog_5_method_4_code, 5, (Option.some FieldType.boolean), 7, 1, 1, 4), ({ cls := "RunCuts$Lean", name := "property", desc := "(I)I" }, prog_5_method_5_code, 2, (Option.some FieldType.int), 7, 1, 0, 1), ({ cls := "RunCuts$Play", name := "<init>", desc := "()V" }, prog_7_method_1_code, 1, (Option.none : Option FieldType), 8, 1, 2, 0), ({ cls := "RunCuts$Play", name := "choose", desc := "(IJ)I" }, prog_7_method_3_code, 7, (Option.some FieldType.int), 8, 1, 1, 2), ({ cls := "RunCuts$Snapshot", name := "<init>", desc := "()V" }, prog_10_method_1_code, 1, (Option.none : Option FieldType), 9, 1, 2, 0), ({ cls := "RunCuts$Snapshot", name := "clear", desc := "()V" }, prog_10_method_3_code, 1, (Option.none : Option FieldType), 9, 1, 0, 0), ({ cls := "RunCuts$Snapshot", name := "pass", desc := "(LRunCuts$Events;I)V" }, prog_10_method_4_code, 6, (Option.none : Option FieldType), 9, 1, 0, 2), ({ cls := "RunCuts$Snapshot", name := "note", desc := "(LRunCuts$Events;I)V" }, prog_10_method_5_code, 5, (Option.none : Option FieldType), 9, 1, 0, 2), ({ cls := "RunCutsModel", name := "<init>", desc := "()V" }, prog_12_method_1_code, 1, (Option.none : Option FieldType), 10, 1, 2, 0), ({ cls := "RunCutsModel", name := "letter", desc := "(I)I" }, prog_12_method_4_code, 2, (Option.some FieldType.int), 10, 1, 0, 1), ({ cls := "RunCutsModel", name := "takes", desc := "(I)Z" }, prog_12_method_7_code, 3, (Option.some FieldType.boolean), 10, 1, 0, 1), ({ cls := "RunCutsModel", name := "canComeNew", desc := "(I)Z" }, prog_12_method_12_code, 4, (Option.some FieldType.boolean), 10, 1, 0, 1), ({ cls := "RunCutsModel", name := "nthOf", desc := "(IIII)I" }, prog_12_method_18_code, 7, (Option.some FieldType.int), 10, 1, 0, 4), ({ cls := "RunCutsModel", name := "layVectors", desc := "()V" }, prog_12_method_20_code, 4, (Option.none : Option FieldType), 10, 1, 0, 0), ({ cls := "RunCutsModel", name := "isProcess", desc := "(I)Z" }, prog_12_method_22_code, 2, (Option.some FieldType.boolean), 10, 1, 0, 1), ({ cls := "RunCutsModel", name := "isFull", desc := "(I)Z" }, prog_12_method_25_code, 2, (Option.some FieldType.boolean), 10, 1, 0, 1), ({ cls := "RunCutsModel", name := "orderNow", desc := "(IIII)I" }, prog_12_method_34_code, 5, (Option.some FieldType.int), 10, 1, 0, 4), ({ cls := "RunCutsModel", name := "tellCut", desc := "(I)I" }, prog_12_method_41_code, 2, (Option.some FieldType.int), 10, 1, 0, 1)], ¬ q.2.2.2.2.1 = 11 → mvWcode q ∈ lw_tbl
  exact List.forall_mem_cons.mpr ⟨fun h => mv_w80, List.forall_mem_cons.mpr ⟨fun h => mv_w81, List.forall_mem_cons.mpr ⟨fun h => mv_w82, List.forall_mem_cons.mpr ⟨fun h => mv_w83, List.forall_mem_cons.mpr ⟨fun h => mv_w84, List.forall_mem_cons.mpr ⟨fun h => mv_w85, List.forall_mem_cons.mpr ⟨fun h => mv_w86, List.forall_mem_cons.mpr ⟨fun h => mv_w87, List.forall_mem_cons.mpr ⟨fun h => mv_w88, List.forall_mem_cons.mpr ⟨fun h => mv_w89, List.forall_mem_cons.mpr ⟨fun h => mv_w90, List.forall_mem_cons.mpr ⟨fun h => mv_w91, List.forall_mem_cons.mpr ⟨fun h => mv_w92, List.forall_mem_cons.mpr ⟨fun h => mv_w93, List.forall_mem_cons.mpr ⟨fun h => mv_w94, List.forall_mem_cons.mpr ⟨fun h => mv_w95, List.forall_mem_cons.mpr ⟨fun h => mv_w96, List.forall_mem_cons.mpr ⟨fun h => mv_w97, List.forall_mem_cons.mpr ⟨fun h => mv_w98, List.forall_mem_cons.mpr ⟨fun h => mv_w99, List.forall_mem_cons.mpr ⟨fun h => mv_w100, List.forall_mem_cons.mpr ⟨fun h => mv_w101, List.forall_mem_cons.mpr ⟨fun h => mv_w102, List.forall_mem_cons.mpr ⟨fun h => mv_w103, List.forall_mem_cons.mpr ⟨fun h => mv_w104, List.forall_mem_cons.mpr ⟨fun h => mv_w105, List.forall_mem_cons.mpr ⟨fun h => mv_w106, List.forall_mem_cons.mpr ⟨fun h => mv_w107, List.forall_mem_cons.mpr ⟨fun h => mv_w108, List.forall_mem_cons.mpr ⟨fun h => mv_w109, List.forall_mem_cons.mpr ⟨fun h => mv_w110, List.forall_mem_cons.mpr ⟨fun h => mv_w111, List.forall_mem_cons.mpr ⟨fun h => mv_w112, List.forall_mem_cons.mpr ⟨fun h => mv_w113, List.forall_mem_cons.mpr ⟨fun h => mv_w114, List.forall_mem_cons.mpr ⟨fun h => mv_w115, List.forall_mem_cons.mpr ⟨fun h => mv_w116, List.forall_mem_cons.mpr ⟨fun h => mv_w117, List.forall_mem_cons.mpr ⟨fun h => mv_w118, List.forall_mem_cons.mpr ⟨fun h => mv_w119, fun _ h => absurd h List.not_mem_nil⟩⟩⟩⟩⟩⟩⟩⟩⟩⟩⟩⟩⟩⟩⟩⟩⟩⟩⟩⟩⟩⟩⟩⟩⟩⟩⟩⟩⟩⟩⟩⟩⟩⟩⟩⟩⟩⟩⟩⟩
theorem mv_code3 : ∀ q ∈ mvMd3, ¬ q.2.2.2.2.1 = 11 → mvWcode q ∈ lw_tbl := by
  show ∀ q ∈ [({ cls := "RunCutsModel", name := "underAll", desc := "()I" }, prog_12_method_47_code, 5, (Option.some FieldType.int), 10, 1, 0, 0), ({ cls := "RunCutsModel", name := "isAllowed", desc := "(II)Z" }, prog_12_method_48_code, 3, (Option.some FieldType.boolean), 10, 1, 0, 2), ({ cls := "RunCutsModel", name := "sumOfValues", desc := "()I" }, prog_12_method_50_code, 3, (Option.some FieldType.int), 10, 1, 0, 0), ({ cls := "RunCutsModel", name := "spreadNow", desc := "()I" }, prog_12_method_51_code, 5, (Option.some FieldType.int), 10, 1, 0, 0), ({ cls := "RunCutsModel", name := "canGoOn", desc := "(II)Z" }, prog_12_method_54_code, 3, (Option.some FieldType.boolean), 10, 1, 0, 2), ({ cls := "RunCutsModel", name := "mixed", desc := "(IIZ)I" }, prog_12_method_61_code, 7, (Option.some FieldType.int), 10, 1, 0, 3), ({ cls := "RunCutsModel", name := "cutsOf", desc := "(I)I" }, prog_12_method_64_code, 4, (Option.some FieldType.int), 10, 1, 0, 1), ({ cls := "RunCutsModel", name := "cutsMany", desc := "()I" }, prog_12_method_66_code, 3, (Option.some FieldType.int), 10, 1, 0, 0), ({ cls := "RunCutsModel", name := "cutAt", desc := "(II)I" }, prog_12_method_69_code, 5, (Option.some FieldType.int), 10, 1, 0, 2), ({ cls := "RunCutsModel", name := "wish", desc := "(II)I" }, prog_12_method_72_code, 4, (Option.some FieldType.int), 10, 1, 0, 2), ({ cls := "RunCutsModel", name := "heldMany", desc := "()I" }, prog_12_method_74_code, 3, (Option.some FieldType.int), 10, 1, 0, 0), ({ cls := "RunCutsModel", name := "isAll", desc := "()Z" }, prog_12_method_80_code, 1, (Option.some FieldType.boolean), 10, 1, 0, 0), ({ cls := "RunCutsModel", name := "isOverlap", desc := "()Z" }, prog_12_method_87_code, 6, (Option.some FieldType.boolean), 10, 1, 0, 0), ({ cls := "RunCutsModel", name := "comesNext", desc := "(Z)I" }, prog_12_method_97_code, 5, (Option.some FieldType.int), 10, 1, 0, 1), ({ cls := "RunCutsModel", name := "played", desc := "(I)I" }, prog_12_method_99_code, 2, (Option.some FieldType.int), 10, 1, 0, 1), ({ cls := "RunCutsModel", name := "notes", desc := "(II)V" }, prog_12_method_100_code, 4, (Option.none : Option FieldType), 10, 1, 0, 2), ({ cls := "RunCutsModel", name := "nextMarker", desc := "(Z)I" }, prog_12_method_102_code, 5, (Option.some FieldType.int), 10, 1, 0, 1), ({ cls := "RunCutsModel", name := "shots", desc := "(I)I" }, prog_12_method_107_code, 2, (Option.some FieldType.int), 10, 1, 0, 1), ({ cls := "RunCutsModel", name := "howMany", desc := "(I)I" }, prog_12_method_109_code, 2, (Option.some FieldType.int), 10, 1, 0, 1), ({ cls := "RunCutsModel", name := "mixPlayed", desc := "()V" }, prog_12_method_116_code, 2, (Option.none : Option FieldType), 10, 1, 0, 0), ({ cls := "RunCuts", name := "fault", desc := "()I" }, prog_1_method_4_code, 1, (Option.some FieldType.int), 0, 2, 0, 0), ({ cls := "RunCuts", name := "event", desc := "(III)I" }, prog_1_method_10_code, 4, (Option.some FieldType.int), 0, 2, 0, 3), ({ cls := "RunCuts", name := "order", desc := "(IIII)I" }, prog_1_method_11_code, 5, (Option.some FieldType.int), 0, 2, 0, 4), ({ cls := "RunCuts", name := "wish", desc := "(II)I" }, prog_1_method_19_code, 4, (Option.some FieldType.int), 0, 2, 0, 2), ({ cls := "RunCuts", name := "allow", desc := "(II)I" }, prog_1_method_20_code, 4, (Option.some FieldType.int), 0, 2, 0, 2), ({ cls := "RunCuts", name := "interval", desc := "(III)I" }, prog_1_method_25_code, 4, (Option.some FieldType.int), 0, 2, 0, 3), ({ cls := "RunCuts", name := "mixEvents", desc := "(J)J" }, prog_1_method_34_code, 6, (Option.some FieldType.long), 0, 2, 0, 1), ({ cls := "RunCuts", name := "forgetResults", desc := "()V" }, prog_1_method_41_code, 1, (Option.none : Option FieldType), 0, 2, 0, 0), ({ cls := "RunCuts$Page", name := "readInto", desc := "(LRunCuts$Events;)Z" }, prog_6_method_4_code, 7, (Option.some FieldType.boolean), 1, 2, 0, 1), ({ cls := "RunCuts$Events", name := "isConsistent", desc := "(I)Z" }, prog_2_method_27_code, 4, (Option.some FieldType.boolean), 2, 2, 0, 1), ({ cls := "RunCuts$Events", name := "followers", desc := "(I)I" }, prog_2_method_30_code, 4, (Option.some FieldType.int), 2, 2, 0, 1), ({ cls := "RunCuts$Lattice", name := "countPathsTo", desc := "(LRunCuts$Events;)V" }, prog_4_method_4_code, 4, (Option.none : Option FieldType), 3, 2, 0, 1), ({ cls := "RunCuts$Lattice", name := "countPathsFrom", desc := "(LRunCuts$Events;)V" }, prog_4_method_5_code, 4, (Option.none : Option FieldType), 3, 2, 0, 1), ({ cls := "RunCuts$Lattice", name := "property", desc := "(I)I" }, prog_4_method_7_code, 2, (Option.some FieldType.int), 3, 2, 0, 1), ({ cls := "RunCuts$Predicate", name := "holdsIn", desc := "(LRunCuts$Events;I)Z" }, prog_8_method_4_code, 3, (Option.some FieldType.boolean), 4, 2, 0, 2), ({ cls := "RunCuts$Search", name := "avoidingStep", desc := "(LRunCuts$Events;LRunCuts$Lattice;I)I" }, prog_9_method_3_code, 6, (Option.some FieldType.int), 5, 2, 0, 3), ({ cls := "RunCuts$Intervals", name := "isStrongChoice", desc := "(LRunCuts$Events;)Z" }, prog_3_method_8_code, 4, (Option.some FieldType.boolean), 6, 2, 0, 1), ({ cls := "RunCuts$Lean", name := "<init>", desc := "()V" }, prog_5_method_1_code, 1, (Option.none : Option FieldType), 7, 2, 2, 0), ({ cls := "RunCuts$Snapshot", name := "arrive", desc := "(LRunCuts$Events;I)V" }, prog_10_method_9_code, 3, (Option.none : Option FieldType), 9, 2, 0, 2), ({ cls := "RunCutsModel", name := "read", desc := "()I" }, prog_12_method_8_code, 2, (Option.some FieldType.int), 10, 2, 0, 0)], ¬ q.2.2.2.2.1 = 11 → mvWcode q ∈ lw_tbl
  exact List.forall_mem_cons.mpr ⟨fun h => mv_w120, List.forall_mem_cons.mpr ⟨fun h => mv_w121, List.forall_mem_cons.mpr ⟨fun h => mv_w122, List.forall_mem_cons.mpr ⟨fun h => mv_w123, List.forall_mem_cons.mpr ⟨fun h => mv_w124, List.forall_mem_cons.mpr ⟨fun h => mv_w125, List.forall_mem_cons.mpr ⟨fun h => mv_w126, List.forall_mem_cons.mpr ⟨fun h => mv_w127, List.forall_mem_cons.mpr ⟨fun h => mv_w128, List.forall_mem_cons.mpr ⟨fun h => mv_w129, List.forall_mem_cons.mpr ⟨fun h => mv_w130, List.forall_mem_cons.mpr ⟨fun h => mv_w131, List.forall_mem_cons.mpr ⟨fun h => mv_w132, List.forall_mem_cons.mpr ⟨fun h => mv_w133, List.forall_mem_cons.mpr ⟨fun h => mv_w134, List.forall_mem_cons.mpr ⟨fun h => mv_w135, List.forall_mem_cons.mpr ⟨fun h => mv_w136, List.forall_mem_cons.mpr ⟨fun h => mv_w137, List.forall_mem_cons.mpr ⟨fun h => mv_w138, List.forall_mem_cons.mpr ⟨fun h => mv_w139, List.forall_mem_cons.mpr ⟨fun h => mv_w140, List.forall_mem_cons.mpr ⟨fun h => mv_w141, List.forall_mem_cons.mpr ⟨fun h => mv_w142, List.forall_mem_cons.mpr ⟨fun h => mv_w143, List.forall_mem_cons.mpr ⟨fun h => mv_w144, List.forall_mem_cons.mpr ⟨fun h => mv_w145, List.forall_mem_cons.mpr ⟨fun h => mv_w146, List.forall_mem_cons.mpr ⟨fun h => mv_w147, List.forall_mem_cons.mpr ⟨fun h => mv_w148, List.forall_mem_cons.mpr ⟨fun h => mv_w149, List.forall_mem_cons.mpr ⟨fun h => mv_w150, List.forall_mem_cons.mpr ⟨fun h => mv_w151, List.forall_mem_cons.mpr ⟨fun h => mv_w152, List.forall_mem_cons.mpr ⟨fun h => mv_w153, List.forall_mem_cons.mpr ⟨fun h => mv_w154, List.forall_mem_cons.mpr ⟨fun h => mv_w155, List.forall_mem_cons.mpr ⟨fun h => mv_w156, List.forall_mem_cons.mpr ⟨fun h => mv_w157, List.forall_mem_cons.mpr ⟨fun h => mv_w158, List.forall_mem_cons.mpr ⟨fun h => mv_w159, fun _ h => absurd h List.not_mem_nil⟩⟩⟩⟩⟩⟩⟩⟩⟩⟩⟩⟩⟩⟩⟩⟩⟩⟩⟩⟩⟩⟩⟩⟩⟩⟩⟩⟩⟩⟩⟩⟩⟩⟩⟩⟩⟩⟩⟩⟩
theorem mv_code4 : ∀ q ∈ mvMd4, ¬ q.2.2.2.2.1 = 11 → mvWcode q ∈ lw_tbl := by
  show ∀ q ∈ [({ cls := "RunCutsModel", name := "isOrdered", desc := "()Z" }, prog_12_method_13_code, 4, (Option.some FieldType.boolean), 10, 2, 0, 0), ({ cls := "RunCutsModel", name := "layPartners", desc := "()V" }, prog_12_method_19_code, 5, (Option.none : Option FieldType), 10, 2, 0, 0), ({ cls := "RunCutsModel", name := "isEvent", desc := "(II)Z" }, prog_12_method_23_code, 3, (Option.some FieldType.boolean), 10, 2, 0, 2), ({ cls := "RunCutsModel", name := "areAllowed", desc := "()Z" }, prog_12_method_49_code, 3, (Option.some FieldType.boolean), 10, 2, 0, 0), ({ cls := "RunCutsModel", name := "nextBits", desc := "(I)I" }, prog_12_method_55_code, 4, (Option.some FieldType.int), 10, 2, 0, 1), ({ cls := "RunCutsModel", name := "value", desc := "(II)I" }, prog_12_method_59_code, 3, (Option.some FieldType.int), 10, 2, 0, 2), ({ cls := "RunCutsModel", name := "under", desc := "(III)I" }, prog_12_method_60_code, 4, (Option.some FieldType.int), 10, 2, 0, 3), ({ cls := "RunCutsModel", name := "meet", desc := "(II)I" }, prog_12_method_62_code, 3, (Option.some FieldType.int), 10, 2, 0, 2), ({ cls := "RunCutsModel", name := "join", desc := "(II)I" }, prog_12_method_63_code, 3, (Option.some FieldType.int), 10, 2, 0, 2), ({ cls := "RunCutsModel", name := "widest", desc := "()I" }, prog_12_method_65_code, 3, (Option.some FieldType.int), 10, 2, 0, 0), ({ cls := "RunCutsModel", name := "allow", desc := "(II)I" }, prog_12_method_73_code, 4, (Option.some FieldType.int), 10, 2, 0, 2), ({ cls := "RunCutsModel", name := "heldFirst", desc := "()I" }, prog_12_method_75_code, 4, (Option.some FieldType.int), 10, 2, 0, 0), ({ cls := "RunCutsModel", name := "aroundNow", desc := "(I)I" }, prog_12_method_78_code, 5, (Option.some FieldType.int), 10, 2, 0, 1), ({ cls := "RunCutsModel", name := "beginOf", desc := "(II)I" }, prog_12_method_83_code, 6, (Option.some FieldType.int), 10, 2, 0, 2), ({ cls := "RunCutsModel", name := "endOf", desc := "(II)I" }, prog_12_method_84_code, 4, (Option.some FieldType.int), 10, 2, 0, 2), ({ cls := "RunCutsModel", name := "play", desc := "(I)I" }, prog_12_method_98_code, 4, (Option.some FieldType.int), 10, 2, 0, 1), ({ cls := "RunCutsModel", name := "markerComes", desc := "(II)V" }, prog_12_method_101_code, 3, (Option.none : Option FieldType), 10, 2, 0, 2), ({ cls := "RunCutsModel", name := "count", desc := "(I)I" }, prog_12_method_110_code, 2, (Option.some FieldType.int), 10, 2, 0, 1), ({ cls := "RunCuts", name := "<init>", desc := "()V" }, prog_1_method_1_code, 1, (Option.none : Option FieldType), 0, 3, 2, 0), ({ cls := "RunCuts", name := "under", desc := "(III)I" }, prog_1_method_14_code, 4, (Option.some FieldType.int), 0, 3, 0, 3), ({ cls := "RunCuts", name := "cutProperty", desc := "(II)I" }, prog_1_method_44_code, 3, (Option.some FieldType.int), 0, 3, 0, 2), ({ cls := "RunCuts", name := "refusePair", desc := "(II)I" }, prog_1_method_45_code, 3, (Option.some FieldType.int), 0, 3, 0, 2), ({ cls := "RunCuts$Events", name := "findVectors", desc := "()Z" }, prog_2_method_13_code, 4, (Option.some FieldType.boolean), 2, 3, 0, 0), ({ cls := "RunCuts$Lattice", name := "build", desc := "(LRunCuts$Events;)V" }, prog_4_method_2_code, 2, (Option.none : Option FieldType), 3, 3, 0, 1), ({ cls := "RunCuts$Search", name := "findPath", desc := "(LRunCuts$Events;LRunCuts$Lattice;)V" }, prog_9_method_4_code, 6, (Option.none : Option FieldType), 5, 3, 0, 2), ({ cls := "RunCuts$Intervals", name := "areStrong", desc := "(LRunCuts$Events;)Z" }, prog_3_method_6_code, 4, (Option.some FieldType.boolean), 6, 3, 0, 1), ({ cls := "RunCuts$Play", name := "perform", desc := "(LRunCuts$Events;I)V" }, prog_7_method_2_code, 8, (Option.none : Option FieldType), 8, 3, 0, 2), ({ cls := "RunCuts$Snapshot", name := "deliver", desc := "(LRunCuts$Events;)V" }, prog_10_method_6_code, 4, (Option.none : Option FieldType), 9, 3, 0, 1), ({ cls := "RunCutsModel", name := "fault", desc := "()I" }, prog_12_method_9_code, 1, (Option.some FieldType.int), 10, 3, 0, 0), ({ cls := "RunCutsModel", name := "changes", desc := "()V" }, prog_12_method_16_code, 1, (Option.none : Option FieldType), 10, 3, 0, 0), ({ cls := "RunCutsModel", name := "event", desc := "(III)I" }, prog_12_method_32_code, 4, (Option.some FieldType.int), 10, 3, 0, 3), ({ cls := "RunCutsModel", name := "order", desc := "(IIII)I" }, prog_12_method_35_code, 5, (Option.some FieldType.int), 10, 3, 0, 4), ({ cls := "RunCutsModel", name := "holds", desc := "()Z" }, prog_12_method_52_code, 1, (Option.some FieldType.boolean), 10, 3, 0, 0), ({ cls := "RunCutsModel", name := "intervals", desc := "(I)I" }, prog_12_method_85_code, 3, (Option.some FieldType.int), 10, 3, 0, 1), ({ cls := "RunCutsModel", name := "interval", desc := "(III)I" }, prog_12_method_86_code, 5, (Option.some FieldType.int), 10, 3, 0, 3), ({ cls := "RunCutsModel", name := "giveBack", desc := "()V" }, prog_12_method_91_code, 2, (Option.none : Option FieldType), 10, 3, 0, 0), ({ cls := "RunCutsModel", name := "makeLean", desc := "()V" }, prog_12_method_92_code, 5, (Option.none : Option FieldType), 10, 3, 0, 0), ({ cls := "RunCutsModel", name := "markersCome", desc := "(I)V" }, prog_12_method_103_code, 3, (Option.none : Option FieldType), 10, 3, 0, 1), ({ cls := "RunCutsModel", name := "mixCut", desc := "(I)V" }, prog_12_method_113_code, 2, (Option.none : Option FieldType), 10, 3, 0, 1), ({ cls := "RunCuts", name := "cut", desc := "(II)I" }, prog_1_method_12_code, 3, (Option.some FieldType.int), 0, 4, 0, 2)], ¬ q.2.2.2.2.1 = 11 → mvWcode q ∈ lw_tbl
  exact List.forall_mem_cons.mpr ⟨fun h => mv_w160, List.forall_mem_cons.mpr ⟨fun h => mv_w161, List.forall_mem_cons.mpr ⟨fun h => mv_w162, List.forall_mem_cons.mpr ⟨fun h => mv_w163, List.forall_mem_cons.mpr ⟨fun h => mv_w164, List.forall_mem_cons.mpr ⟨fun h => mv_w165, List.forall_mem_cons.mpr ⟨fun h => mv_w166, List.forall_mem_cons.mpr ⟨fun h => mv_w167, List.forall_mem_cons.mpr ⟨fun h => mv_w168, List.forall_mem_cons.mpr ⟨fun h => mv_w169, List.forall_mem_cons.mpr ⟨fun h => mv_w170, List.forall_mem_cons.mpr ⟨fun h => mv_w171, List.forall_mem_cons.mpr ⟨fun h => mv_w172, List.forall_mem_cons.mpr ⟨fun h => mv_w173, List.forall_mem_cons.mpr ⟨fun h => mv_w174, List.forall_mem_cons.mpr ⟨fun h => mv_w175, List.forall_mem_cons.mpr ⟨fun h => mv_w176, List.forall_mem_cons.mpr ⟨fun h => mv_w177, List.forall_mem_cons.mpr ⟨fun h => mv_w178, List.forall_mem_cons.mpr ⟨fun h => mv_w179, List.forall_mem_cons.mpr ⟨fun h => mv_w180, List.forall_mem_cons.mpr ⟨fun h => mv_w181, List.forall_mem_cons.mpr ⟨fun h => mv_w182, List.forall_mem_cons.mpr ⟨fun h => mv_w183, List.forall_mem_cons.mpr ⟨fun h => mv_w184, List.forall_mem_cons.mpr ⟨fun h => mv_w185, List.forall_mem_cons.mpr ⟨fun h => mv_w186, List.forall_mem_cons.mpr ⟨fun h => mv_w187, List.forall_mem_cons.mpr ⟨fun h => mv_w188, List.forall_mem_cons.mpr ⟨fun h => mv_w189, List.forall_mem_cons.mpr ⟨fun h => mv_w190, List.forall_mem_cons.mpr ⟨fun h => mv_w191, List.forall_mem_cons.mpr ⟨fun h => mv_w192, List.forall_mem_cons.mpr ⟨fun h => mv_w193, List.forall_mem_cons.mpr ⟨fun h => mv_w194, List.forall_mem_cons.mpr ⟨fun h => mv_w195, List.forall_mem_cons.mpr ⟨fun h => mv_w196, List.forall_mem_cons.mpr ⟨fun h => mv_w197, List.forall_mem_cons.mpr ⟨fun h => mv_w198, List.forall_mem_cons.mpr ⟨fun h => mv_w199, fun _ h => absurd h List.not_mem_nil⟩⟩⟩⟩⟩⟩⟩⟩⟩⟩⟩⟩⟩⟩⟩⟩⟩⟩⟩⟩⟩⟩⟩⟩⟩⟩⟩⟩⟩⟩⟩⟩⟩⟩⟩⟩⟩⟩⟩⟩
theorem mv_code5 : ∀ q ∈ mvMd5, ¬ q.2.2.2.2.1 = 11 → mvWcode q ∈ lw_tbl := by
  show ∀ q ∈ [({ cls := "RunCuts", name := "meet", desc := "(II)I" }, prog_1_method_15_code, 4, (Option.some FieldType.int), 0, 4, 0, 2), ({ cls := "RunCuts", name := "join", desc := "(II)I" }, prog_1_method_16_code, 4, (Option.some FieldType.int), 0, 4, 0, 2), ({ cls := "RunCuts", name := "lattice", desc := "(I)I" }, prog_1_method_17_code, 2, (Option.some FieldType.int), 0, 4, 0, 1), ({ cls := "RunCuts", name := "level", desc := "(II)I" }, prog_1_method_18_code, 3, (Option.some FieldType.int), 0, 4, 0, 2), ({ cls := "RunCuts", name := "strong", desc := "()I" }, prog_1_method_24_code, 1, (Option.some FieldType.int), 0, 4, 0, 0), ({ cls := "RunCuts", name := "play", desc := "(I)I" }, prog_1_method_27_code, 2, (Option.some FieldType.int), 0, 4, 0, 1), ({ cls := "RunCuts", name := "mixCuts", desc := "(J)J" }, prog_1_method_35_code, 6, (Option.some FieldType.long), 0, 4, 0, 1), ({ cls := "RunCuts$Events", name := "link", desc := "()Z" }, prog_2_method_10_code, 2, (Option.some FieldType.boolean), 2, 4, 0, 0), ({ cls := "RunCuts$Search", name := "build", desc := "(LRunCuts$Events;LRunCuts$Lattice;LRunCuts$Predicate;)V" }, prog_9_method_2_code, 8, (Option.none : Option FieldType), 5, 4, 0, 3), ({ cls := "RunCuts$Snapshot", name := "forceLeft", desc := "(LRunCuts$Events;)V" }, prog_10_method_7_code, 4, (Option.none : Option FieldType), 9, 4, 0, 1), ({ cls := "RunCutsModel", name := "run", desc := "()I" }, prog_12_method_14_code, 3, (Option.some FieldType.int), 10, 4, 0, 0), ({ cls := "RunCutsModel", name := "comes", desc := "(III)I" }, prog_12_method_26_code, 4, (Option.some FieldType.int), 10, 4, 0, 3), ({ cls := "RunCutsModel", name := "back", desc := "(I)I" }, prog_12_method_30_code, 3, (Option.some FieldType.int), 10, 4, 0, 1), ({ cls := "RunCutsModel", name := "layCuts", desc := "()V" }, prog_12_method_53_code, 4, (Option.none : Option FieldType), 10, 4, 0, 0), ({ cls := "RunCutsModel", name := "strongNow", desc := "()I" }, prog_12_method_88_code, 6, (Option.some FieldType.int), 10, 4, 0, 0), ({ cls := "RunCutsModel", name := "shotNow", desc := "(II)I" }, prog_12_method_104_code, 5, (Option.some FieldType.int), 10, 4, 0, 2), ({ cls := "RunCuts", name := "run", desc := "()I" }, prog_1_method_5_code, 2, (Option.some FieldType.int), 0, 5, 0, 0), ({ cls := "RunCuts", name := "back", desc := "(I)I" }, prog_1_method_9_code, 2, (Option.some FieldType.int), 0, 5, 0, 1), ({ cls := "RunCuts", name := "grow", desc := "(III)I" }, prog_1_method_40_code, 4, (Option.some FieldType.int), 0, 5, 0, 3), ({ cls := "RunCuts", name := "settleSearch", desc := "()V" }, prog_1_method_43_code, 1, (Option.none : Option FieldType), 0, 5, 0, 0), ({ cls := "RunCuts$Lean", name := "build", desc := "(LRunCuts$Events;LRunCuts$Predicate;)V" }, prog_5_method_3_code, 5, (Option.none : Option FieldType), 7, 5, 0, 2), ({ cls := "RunCuts$Snapshot", name := "take", desc := "(LRunCuts$Events;LRunCuts$Play;II)V" }, prog_10_method_2_code, 6, (Option.none : Option FieldType), 9, 5, 0, 4), ({ cls := "RunCutsModel", name := "local", desc := "(II)I" }, prog_12_method_27_code, 3, (Option.some FieldType.int), 10, 5, 0, 2), ({ cls := "RunCutsModel", name := "send", desc := "(II)I" }, prog_12_method_28_code, 3, (Option.some FieldType.int), 10, 5, 0, 2), ({ cls := "RunCutsModel", name := "receive", desc := "(II)I" }, prog_12_method_29_code, 3, (Option.some FieldType.int), 10, 5, 0, 2), ({ cls := "RunCutsModel", name := "wayPart", desc := "(II)I" }, prog_12_method_57_code, 3, (Option.some FieldType.int), 10, 5, 0, 2), ({ cls := "RunCutsModel", name := "latticeNow", desc := "(I)I" }, prog_12_method_67_code, 2, (Option.some FieldType.int), 10, 5, 0, 1), ({ cls := "RunCutsModel", name := "levelAt", desc := "(II)I" }, prog_12_method_70_code, 4, (Option.some FieldType.int), 10, 5, 0, 2), ({ cls := "RunCutsModel", name := "wishedNow", desc := "(I)I" }, prog_12_method_76_code, 2, (Option.some FieldType.int), 10, 5, 0, 1), ({ cls := "RunCutsModel", name := "around", desc := "(I)I" }, prog_12_method_79_code, 2, (Option.some FieldType.int), 10, 5, 0, 1), ({ cls := "RunCutsModel", name := "leastNow", desc := "()I" }, prog_12_method_81_code, 3, (Option.some FieldType.int), 10, 5, 0, 0), ({ cls := "RunCutsModel", name := "strong", desc := "()I" }, prog_12_method_89_code, 1, (Option.some FieldType.int), 10, 5, 0, 0), ({ cls := "RunCutsModel", name := "leanNow", desc := "(I)I" }, prog_12_method_93_code, 3, (Option.some FieldType.int), 10, 5, 0, 1), ({ cls := "RunCutsModel", name := "shot", desc := "(II)I" }, prog_12_method_105_code, 3, (Option.some FieldType.int), 10, 5, 0, 2), ({ cls := "RunCuts", name := "local", desc := "(II)I" }, prog_1_method_6_code, 3, (Option.some FieldType.int), 0, 6, 0, 2), ({ cls := "RunCuts", name := "send", desc := "(II)I" }, prog_1_method_7_code, 3, (Option.some FieldType.int), 0, 6, 0, 2), ({ cls := "RunCuts", name := "receive", desc := "(II)I" }, prog_1_method_8_code, 3, (Option.some FieldType.int), 0, 6, 0, 2), ({ cls := "RunCuts", name := "wished", desc := "(I)I" }, prog_1_method_21_code, 2, (Option.some FieldType.int), 0, 6, 0, 1), ({ cls := "RunCuts", name := "around", desc := "(I)I" }, prog_1_method_22_code, 2, (Option.some FieldType.int), 0, 6, 0, 1), ({ cls := "RunCuts", name := "least", desc := "()I" }, prog_1_method_23_code, 1, (Option.some FieldType.int), 0, 6, 0, 0)], ¬ q.2.2.2.2.1 = 11 → mvWcode q ∈ lw_tbl
  exact List.forall_mem_cons.mpr ⟨fun h => mv_w200, List.forall_mem_cons.mpr ⟨fun h => mv_w201, List.forall_mem_cons.mpr ⟨fun h => mv_w202, List.forall_mem_cons.mpr ⟨fun h => mv_w203, List.forall_mem_cons.mpr ⟨fun h => mv_w204, List.forall_mem_cons.mpr ⟨fun h => mv_w205, List.forall_mem_cons.mpr ⟨fun h => mv_w206, List.forall_mem_cons.mpr ⟨fun h => mv_w207, List.forall_mem_cons.mpr ⟨fun h => mv_w208, List.forall_mem_cons.mpr ⟨fun h => mv_w209, List.forall_mem_cons.mpr ⟨fun h => mv_w210, List.forall_mem_cons.mpr ⟨fun h => mv_w211, List.forall_mem_cons.mpr ⟨fun h => mv_w212, List.forall_mem_cons.mpr ⟨fun h => mv_w213, List.forall_mem_cons.mpr ⟨fun h => mv_w214, List.forall_mem_cons.mpr ⟨fun h => mv_w215, List.forall_mem_cons.mpr ⟨fun h => mv_w216, List.forall_mem_cons.mpr ⟨fun h => mv_w217, List.forall_mem_cons.mpr ⟨fun h => mv_w218, List.forall_mem_cons.mpr ⟨fun h => mv_w219, List.forall_mem_cons.mpr ⟨fun h => mv_w220, List.forall_mem_cons.mpr ⟨fun h => mv_w221, List.forall_mem_cons.mpr ⟨fun h => mv_w222, List.forall_mem_cons.mpr ⟨fun h => mv_w223, List.forall_mem_cons.mpr ⟨fun h => mv_w224, List.forall_mem_cons.mpr ⟨fun h => mv_w225, List.forall_mem_cons.mpr ⟨fun h => mv_w226, List.forall_mem_cons.mpr ⟨fun h => mv_w227, List.forall_mem_cons.mpr ⟨fun h => mv_w228, List.forall_mem_cons.mpr ⟨fun h => mv_w229, List.forall_mem_cons.mpr ⟨fun h => mv_w230, List.forall_mem_cons.mpr ⟨fun h => mv_w231, List.forall_mem_cons.mpr ⟨fun h => mv_w232, List.forall_mem_cons.mpr ⟨fun h => mv_w233, List.forall_mem_cons.mpr ⟨fun h => mv_w234, List.forall_mem_cons.mpr ⟨fun h => mv_w235, List.forall_mem_cons.mpr ⟨fun h => mv_w236, List.forall_mem_cons.mpr ⟨fun h => mv_w237, List.forall_mem_cons.mpr ⟨fun h => mv_w238, List.forall_mem_cons.mpr ⟨fun h => mv_w239, fun _ h => absurd h List.not_mem_nil⟩⟩⟩⟩⟩⟩⟩⟩⟩⟩⟩⟩⟩⟩⟩⟩⟩⟩⟩⟩⟩⟩⟩⟩⟩⟩⟩⟩⟩⟩⟩⟩⟩⟩⟩⟩⟩⟩⟩⟩
theorem mv_code6 : ∀ q ∈ mvMd6, ¬ q.2.2.2.2.1 = 11 → mvWcode q ∈ lw_tbl := by
  show ∀ q ∈ [({ cls := "RunCuts", name := "lean", desc := "(I)I" }, prog_1_method_26_code, 2, (Option.some FieldType.int), 0, 6, 0, 1), ({ cls := "RunCuts", name := "shot", desc := "(II)I" }, prog_1_method_29_code, 3, (Option.some FieldType.int), 0, 6, 0, 2), ({ cls := "RunCuts", name := "mixConjunction", desc := "(J)J" }, prog_1_method_37_code, 5, (Option.some FieldType.long), 0, 6, 0, 1), ({ cls := "RunCutsModel", name := "cutNow", desc := "(I)I" }, prog_12_method_56_code, 3, (Option.some FieldType.int), 10, 6, 0, 1), ({ cls := "RunCutsModel", name := "lattice", desc := "(I)I" }, prog_12_method_68_code, 2, (Option.some FieldType.int), 10, 6, 0, 1), ({ cls := "RunCutsModel", name := "level", desc := "(II)I" }, prog_12_method_71_code, 3, (Option.some FieldType.int), 10, 6, 0, 2), ({ cls := "RunCutsModel", name := "wished", desc := "(I)I" }, prog_12_method_77_code, 2, (Option.some FieldType.int), 10, 6, 0, 1), ({ cls := "RunCutsModel", name := "least", desc := "()I" }, prog_12_method_82_code, 1, (Option.some FieldType.int), 10, 6, 0, 0), ({ cls := "RunCutsModel", name := "lean", desc := "(I)I" }, prog_12_method_94_code, 2, (Option.some FieldType.int), 10, 6, 0, 1), ({ cls := "RunCutsModel", name := "mixEvents", desc := "()V" }, prog_12_method_112_code, 3, (Option.none : Option FieldType), 10, 6, 0, 0), ({ cls := "RunCutsModel", name := "mixCuts", desc := "()V" }, prog_12_method_114_code, 4, (Option.none : Option FieldType), 10, 6, 0, 0), ({ cls := "RunCutsModel", name := "mixAll", desc := "()V" }, prog_12_method_115_code, 4, (Option.none : Option FieldType), 10, 6, 0, 0), ({ cls := "RunCuts", name := "digest", desc := "()J" }, prog_1_method_32_code, 4, (Option.some FieldType.long), 0, 7, 0, 0), ({ cls := "RunCutsModel", name := "cut", desc := "(II)I" }, prog_12_method_58_code, 3, (Option.some FieldType.int), 10, 7, 0, 2), ({ cls := "RunCutsModel", name := "digest", desc := "()J" }, prog_12_method_117_code, 2, (Option.some FieldType.long), 10, 7, 0, 0), ({ cls := "RunCutsLaw", name := "law", desc := "([I)Z" }, code, 4, ret, 11, 8, 1, 1)], ¬ q.2.2.2.2.1 = 11 → mvWcode q ∈ lw_tbl
  exact List.forall_mem_cons.mpr ⟨fun h => mv_w240, List.forall_mem_cons.mpr ⟨fun h => mv_w241, List.forall_mem_cons.mpr ⟨fun h => mv_w242, List.forall_mem_cons.mpr ⟨fun h => mv_w243, List.forall_mem_cons.mpr ⟨fun h => mv_w244, List.forall_mem_cons.mpr ⟨fun h => mv_w245, List.forall_mem_cons.mpr ⟨fun h => mv_w246, List.forall_mem_cons.mpr ⟨fun h => mv_w247, List.forall_mem_cons.mpr ⟨fun h => mv_w248, List.forall_mem_cons.mpr ⟨fun h => mv_w249, List.forall_mem_cons.mpr ⟨fun h => mv_w250, List.forall_mem_cons.mpr ⟨fun h => mv_w251, List.forall_mem_cons.mpr ⟨fun h => mv_w252, List.forall_mem_cons.mpr ⟨fun h => mv_w253, List.forall_mem_cons.mpr ⟨fun h => mv_w254, List.forall_mem_cons.mpr ⟨fun h => absurd rfl h, fun _ h => absurd h List.not_mem_nil⟩⟩⟩⟩⟩⟩⟩⟩⟩⟩⟩⟩⟩⟩⟩⟩
end
section
/-! the mini machine: ints and longs as whole numbers, cells by number, one step a row -/
abbrev mvV : Type := Int ⊕ (Int ⊕ Nat)
abbrev mvI (x : Int) : mvV := Sum.inl x
abbrev mvJ (x : Int) : mvV := Sum.inr (Sum.inl x)
abbrev mvR (a : Nat) : mvV := Sum.inr (Sum.inr a)
abbrev mvS : Type := Nat × (Nat → Nat → Nat) × (Nat → Int → Int)
abbrev mvL : Type := List (Option mvV)
def mw (x : Int) : Int := x.bmod 4294967296
def mwl (x : Int) : Int := x.bmod 18446744073709551616
def mvAnd (x y : Int) : Int := (Int32.ofInt x &&& Int32.ofInt y).toInt
def mvOr (x y : Int) : Int := (Int32.ofInt x ||| Int32.ofInt y).toInt
def mvShl (x y : Int) : Int := (Int32.ofInt x <<< (Int32.ofInt y &&& 31)).toInt
def mvShr (x y : Int) : Int := (Int32.ofInt x >>> (Int32.ofInt y &&& 31)).toInt
def mvUshr (x y : Int) : Int := ((Int32.ofInt x).toUInt32 >>> ((Int32.ofInt y).toUInt32 &&& Int32.toUInt32 31)).toInt32.toInt
def mvLcmp (x y : Int) : Int := (lg_cmp (Int64.ofInt x) (Int64.ofInt y)).toInt
def mvUpd (h : Nat → Int → Int) (a : Nat) (i v : Int) : Nat → Int → Int := fun a' i' => if a' = a ∧ i' = i then v else h a' i'
def mvUpg (g : Nat → Nat → Nat) (a f b : Nat) : Nat → Nat → Nat := fun a' f' => if a' = a ∧ f' = f then b else g a' f'
def mvNew (σ : mvS) : mvS := (σ.1 + 1, fun a f => if a = σ.1 then 0 else σ.2.1 a f, fun a i => if a = σ.1 then 0 else σ.2.2 a i)
def mvFt (c f : Nat) : Nat := ((mvFTl[c]?).bind (fun l => l[f]?)).getD 9
def mvFf (c f : Nat) : Bool := ((mvFin[c]?).bind (fun l => l[f]?)).getD true
def mvIs (n a : Nat) : Nat × Nat × Nat := if 3 ≤ a ∧ a < n then mvSH a else (2, 0, 0)
def mvArr (σ : mvS) (a : Nat) : Nat × Nat × Int := if a = 1 then (1, 0, 4) else if a = 2 then (1, 0, σ.2.2 2 (-1)) else ((mvIs σ.1 a).1, (mvIs σ.1 a).2.1, ((mvIs σ.1 a).2.2 : Int))
def mvCat (v : mvV) : Nat := match v with
  | .inr (.inl _) => 2
  | _ => 1
def mvCats (S : List mvV) : Nat := (S.map mvCat).sum
def mvGet (L : mvL) (i : Nat) : Option mvV := match L[i]? with
  | some (some v) => some v
  | _ => none
def mvIsJ (o : Option mvV) : Bool := match o with
  | some (.inr (.inl _)) => true
  | _ => false
/-- the place ahead holds no long -/
def mvPre (L : mvL) (i : Nat) : Bool := match i with
  | 0 => true
  | k + 1 => !mvIsJ (mvGet L k)
def mvSt (L : mvL) (i : Nat) (v : mvV) : Option mvL := if i < L.length ∧ mvPre L i = true then some (L.set i (some v)) else none
def mvSt2 (L : mvL) (i : Nat) (v : mvV) : Option mvL := if i + 1 < L.length ∧ mvPre L i = true then some ((L.set i (some v)).set (i + 1) none) else none
def mvTgt (pc : Nat) (off : Int) : Option Nat := match (pc : Int) + off with
  | .ofNat t => some t
  | .negSucc _ => none
def mvCmp (c : ClassFile.Cond) (x y : Int) : Prop := match c with
  | .eq => x = y
  | .ne => ¬ x = y
  | .lt => x < y
  | .ge => y ≤ x
  | .gt => y < x
  | .le => x ≤ y
def mvCmpB (c : ClassFile.Cond) (x y : Int) : Bool := match c with
  | .eq => decide (x = y)
  | .ne => decide (¬ x = y)
  | .lt => decide (x < y)
  | .ge => decide (y ≤ x)
  | .gt => decide (y < x)
  | .le => decide (x ≤ y)
def mvGo (t : Option Nat) (L : mvL) (S : List mvV) (σ : mvS) : Option (Nat × mvL × List mvV × mvS) := match t with
  | some t => some (t, L, S, σ)
  | none => none
def mvLdI (o : Option mvV) (pc : Nat) (L : mvL) (S : List mvV) (σ : mvS) : Option (Nat × mvL × List mvV × mvS) := match o with
  | some (.inl x) => some (pc, L, mvI x :: S, σ)
  | _ => none
def mvLdJ (o : Option mvV) (pc : Nat) (L : mvL) (S : List mvV) (σ : mvS) : Option (Nat × mvL × List mvV × mvS) := match o with
  | some (.inr (.inl x)) => some (pc, L, mvJ x :: S, σ)
  | _ => none
def mvLdR (o : Option mvV) (pc : Nat) (L : mvL) (S : List mvV) (σ : mvS) : Option (Nat × mvL × List mvV × mvS) := match o with
  | some (.inr (.inr x)) => some (pc, L, mvR x :: S, σ)
  | _ => none
def mvToL (o : Option mvL) (pc : Nat) (S : List mvV) (σ : mvS) : Option (Nat × mvL × List mvV × mvS) := match o with
  | some L => some (pc, L, S, σ)
  | none => none
/-- one instruction that is no call and no return; own: the class, ini: in a constructor, rk: the rank -/
def mvStep (own : Nat) (ini : Bool) (rk pc : Nat) (ins : Instr) (len : Nat) (L : mvL) (S : List mvV) (σ : mvS) : Option (Nat × mvL × List mvV × mvS) :=
  match ins, len with
  | .aload_n k, 1 => mvLdR (mvGet L k) (pc + 1) L S σ
  | .aload k, 2 => mvLdR (mvGet L k) (pc + 2) L S σ
  | .iload_n k, 1 => mvLdI (mvGet L k) (pc + 1) L S σ
  | .iload k, 2 => mvLdI (mvGet L k) (pc + 2) L S σ
  | .lload_n k, 1 => mvLdJ (mvGet L k) (pc + 1) L S σ
  | .istore_n k, 1 => match S with
    | .inl x :: S => mvToL (mvSt L k (mvI x)) (pc + 1) S σ
    | _ => none
  | .istore k, 2 => match S with
    | .inl x :: S => mvToL (mvSt L k (mvI x)) (pc + 2) S σ
    | _ => none
  | .astore_n k, 1 => match S with
    | .inr (.inr x) :: S => mvToL (mvSt L k (mvR x)) (pc + 1) S σ
    | _ => none
  | .lstore_n k, 1 => match S with
    | .inr (.inl x) :: S => mvToL (mvSt2 L k (mvJ x)) (pc + 1) S σ
    | _ => none
  | .iconst n, 1 => if -1 ≤ n ∧ n ≤ 5 then some (pc + 1, L, mvI n :: S, σ) else none
  | .bipush n, 2 => if -128 ≤ n ∧ n ≤ 127 then some (pc + 2, L, mvI n :: S, σ) else none
  | .sipush n, 3 => if -32768 ≤ n ∧ n ≤ 32767 then some (pc + 3, L, mvI n :: S, σ) else none
  | .lconst n, 1 => some (pc + 1, L, mvJ ((n : Nat) : Int) :: S, σ)
  | .ldc_w ix, 3 => match mvIl.lookup (own, ix) with
    | some x => some (pc + 3, L, mvI x :: S, σ)
    | none => none
  | .ldc2_w ix, 3 => match mvJl.lookup (own, ix) with
    | some x => some (pc + 3, L, mvJ x :: S, σ)
    | none => none
  | .iinc i n, 3 => match mvGet L i with
    | some (.inl x) => mvToL (mvSt L i (mvI (mw (x + n)))) (pc + 3) S σ
    | _ => none
  | .iadd, 1 => match S with
    | .inl y :: .inl x :: S => some (pc + 1, L, mvI (mw (x + y)) :: S, σ)
    | _ => none
  | .isub, 1 => match S with
    | .inl y :: .inl x :: S => some (pc + 1, L, mvI (mw (x - y)) :: S, σ)
    | _ => none
  | .imul, 1 => match S with
    | .inl y :: .inl x :: S => some (pc + 1, L, mvI (mw (x * y)) :: S, σ)
    | _ => none
  | .idiv, 1 => match S with
    | .inl y :: .inl x :: S => if y = 0 then none else some (pc + 1, L, mvI (mw (x.tdiv y)) :: S, σ)
    | _ => none
  | .irem, 1 => match S with
    | .inl y :: .inl x :: S => if y = 0 then none else some (pc + 1, L, mvI (x.tmod y) :: S, σ)
    | _ => none
  | .iand, 1 => match S with
    | .inl y :: .inl x :: S => some (pc + 1, L, mvI (mvAnd x y) :: S, σ)
    | _ => none
  | .ior, 1 => match S with
    | .inl y :: .inl x :: S => some (pc + 1, L, mvI (mvOr x y) :: S, σ)
    | _ => none
  | .ishl, 1 => match S with
    | .inl y :: .inl x :: S => some (pc + 1, L, mvI (mvShl x y) :: S, σ)
    | _ => none
  | .ishr, 1 => match S with
    | .inl y :: .inl x :: S => some (pc + 1, L, mvI (mvShr x y) :: S, σ)
    | _ => none
  | .iushr, 1 => match S with
    | .inl y :: .inl x :: S => some (pc + 1, L, mvI (mvUshr x y) :: S, σ)
    | _ => none
  | .ladd, 1 => match S with
    | .inr (.inl y) :: .inr (.inl x) :: S => some (pc + 1, L, mvJ (mwl (x + y)) :: S, σ)
    | _ => none
  | .lmul, 1 => match S with
    | .inr (.inl y) :: .inr (.inl x) :: S => some (pc + 1, L, mvJ (mwl (x * y)) :: S, σ)
    | _ => none
  | .ldiv, 1 => match S with
    | .inr (.inl y) :: .inr (.inl x) :: S => if y = 0 then none else some (pc + 1, L, mvJ (mwl (x.tdiv y)) :: S, σ)
    | _ => none
  | .lrem, 1 => match S with
    | .inr (.inl y) :: .inr (.inl x) :: S => if y = 0 then none else some (pc + 1, L, mvJ (x.tmod y) :: S, σ)
    | _ => none
  | .lcmp, 1 => match S with
    | .inr (.inl y) :: .inr (.inl x) :: S => some (pc + 1, L, mvI (mvLcmp x y) :: S, σ)
    | _ => none
  | .i2l, 1 => match S with
    | .inl x :: S => some (pc + 1, L, mvJ x :: S, σ)
    | _ => none
  | .l2i, 1 => match S with
    | .inr (.inl x) :: S => some (pc + 1, L, mvI (mw x) :: S, σ)
    | _ => none
  | .dup, 1 => match S with
    | v :: S => if mvCat v = 1 then some (pc + 1, L, v :: v :: S, σ) else none
    | _ => none
  | .dup2, 1 => match S with
    | v :: u :: S => if mvCat v = 1 ∧ mvCat u = 1 then some (pc + 1, L, v :: u :: v :: u :: S, σ) else none
    | _ => none
  | .pop, 1 => match S with
    | v :: S => if mvCat v = 1 then some (pc + 1, L, S, σ) else none
    | _ => none
  | .goto off, 3 => mvGo (mvTgt pc off) L S σ
  | .if_icmp c off, 3 => match S with
    | .inl y :: .inl x :: S => match mvTgt pc off with
      | some t => some (if mvCmpB c x y = true then t else pc + 3, L, S, σ)
      | none => none
    | _ => none
  | .ifCond c off, 3 => match S with
    | .inl x :: S => match mvTgt pc off with
      | some t => some (if mvCmpB c x 0 = true then t else pc + 3, L, S, σ)
      | none => none
    | _ => none
  | .tableswitch d lo hi offs, _ => match S with
    | .inl x :: S => if x < lo ∨ hi < x then mvGo (mvTgt pc d) L S σ else match offs[(x - lo).toNat]? with
      | some off => mvGo (mvTgt pc off) L S σ
      | none => none
    | _ => none
  | .getfield ix, 3 => match S with
    | .inr (.inr a) :: S => match mvFl.lookup (own, ix) with
      | some (cf, f) => if mvIs σ.1 a = (0, cf, 0) then
          if mvFt cf f = 2 then (if σ.2.1 a f = 0 then none else some (pc + 3, L, mvR (σ.2.1 a f) :: S, σ))
          else if mvFt cf f = 1 then some (pc + 3, L, mvJ (σ.2.2 a (f : Int)) :: S, σ)
          else some (pc + 3, L, mvI (σ.2.2 a (f : Int)) :: S, σ)
        else none
      | none => none
    | _ => none
  | .putfield ix, 3 => match S with
    | v :: .inr (.inr a) :: S => match mvFl.lookup (own, ix) with
      | some (cf, f) => if mvIs σ.1 a = (0, cf, 0) ∧ (mvFf cf f = true → ini = true ∧ own = cf) then
          match v with
          | .inl x => if mvFt cf f = 0 ∨ mvFt cf f = 3 ∧ (x = 0 ∨ x = 1) then some (pc + 3, L, S, (σ.1, σ.2.1, mvUpd σ.2.2 a (f : Int) x)) else none
          | .inr (.inl x) => if mvFt cf f = 1 then some (pc + 3, L, S, (σ.1, σ.2.1, mvUpd σ.2.2 a (f : Int) x)) else none
          | .inr (.inr b) => if mvFt cf f = 2 ∧ ¬ b = 0 then some (pc + 3, L, S, (σ.1, mvUpg σ.2.1 a f b, σ.2.2)) else none
        else none
      | none => none
    | _ => none
  | .getstatic ix, 3 => if own = 2 ∧ ix = 91 then some (pc + 3, L, mvR 1 :: S, σ) else none
  | .iaload, 1 => match S with
    | .inl i :: .inr (.inr a) :: S => if (mvArr σ a).1 = 1 ∧ (mvArr σ a).2.1 = 0 ∧ 0 ≤ i ∧ i < (mvArr σ a).2.2 then some (pc + 1, L, mvI (σ.2.2 a i) :: S, σ) else none
    | _ => none
  | .baload, 1 => match S with
    | .inl i :: .inr (.inr a) :: S => if (mvArr σ a).1 = 1 ∧ (mvArr σ a).2.1 = 1 ∧ 0 ≤ i ∧ i < (mvArr σ a).2.2 then some (pc + 1, L, mvI (σ.2.2 a i) :: S, σ) else none
    | _ => none
  | .iastore, 1 => match S with
    | .inl x :: .inl i :: .inr (.inr a) :: S => if (mvIs σ.1 a).1 = 1 ∧ (mvIs σ.1 a).2.1 = 0 ∧ 0 ≤ i ∧ i < ((mvIs σ.1 a).2.2 : Int) then some (pc + 1, L, S, (σ.1, σ.2.1, mvUpd σ.2.2 a i x)) else none
    | _ => none
  | .bastore, 1 => match S with
    | .inl x :: .inl i :: .inr (.inr a) :: S => if (mvIs σ.1 a).1 = 1 ∧ (mvIs σ.1 a).2.1 = 1 ∧ (0 ≤ i ∧ i < ((mvIs σ.1 a).2.2 : Int)) ∧ (x = 0 ∨ x = 1) then some (pc + 1, L, S, (σ.1, σ.2.1, mvUpd σ.2.2 a i x)) else none
    | _ => none
  | .arraylength, 1 => match S with
    | .inr (.inr a) :: S => if (mvArr σ a).1 = 1 then some (pc + 1, L, mvI (mvArr σ a).2.2 :: S, σ) else none
    | _ => none
  | .newarray ty, 2 => match S with
    | .inl n :: S => if (mvSH σ.1).1 = 1 ∧ n = ((mvSH σ.1).2.2 : Int) ∧ (ty = .int ∧ (mvSH σ.1).2.1 = 0 ∨ ty = .boolean ∧ (mvSH σ.1).2.1 = 1) then some (pc + 2, L, mvR σ.1 :: S, mvNew σ) else none
    | _ => none
  | .new ix, 3 => match mvKl.lookup (own, ix) with
    | some cf => if mvSH σ.1 = (0, cf, 0) then some (pc + 3, L, mvR σ.1 :: S, mvNew σ) else none
    | none => none
  | .invokespecial ix, 3 => match S with
    | .inr (.inr _) :: S => match mvMl.lookup (own, ix) with
      | some (5, _) => if 1 ≤ rk ∧ mvCats S ≤ 8 then some (pc + 3, L, S, σ) else none
      | _ => none
    | _ => none
  | .invokestatic ix, 3 => match S with
    | .inl y :: .inl x :: S => match mvMl.lookup (own, ix) with
      | some (7, _) => if 1 ≤ rk ∧ mvCats S ≤ 8 then some (pc + 3, L, mvI (if x < y then y else x) :: S, σ) else none
      | some (8, _) => if 1 ≤ rk ∧ mvCats S ≤ 8 then some (pc + 3, L, mvI (if y < x then y else x) :: S, σ) else none
      | _ => none
    | _ => none
  | _, _ => none
def mvOwn (q : mvMt) : Nat := q.2.2.2.2.1
def mvRk (q : mvMt) : Nat := q.2.2.2.2.2.1
def mvKd (q : mvMt) : Nat := q.2.2.2.2.2.2.1
def mvNa (q : mvMt) : Nat := q.2.2.2.2.2.2.2
def mvFlat (as : List mvV) : mvL := as.flatMap fun v => if mvCat v = 2 then [some v, none] else [some v]
def mvEntry (n : Nat) (as : List mvV) : mvL := mvFlat as ++ List.replicate (n - (mvFlat as).length) none
/-- a call: the method, its arguments, what stays on the stack -/
def mvCallN (rk k : Nat) (j : Nat) (S : List mvV) : Option (Nat × List mvV × List mvV) := match mvMd[j]? with
  | some q => if mvRk q < rk ∧ k + mvNa q ≤ S.length ∧ mvCats (S.drop (k + mvNa q)) ≤ 8 ∧ (mvFlat (S.take (k + mvNa q)).reverse).length ≤ q.2.2.1 ∧ (if k = 1 then ¬ mvKd q = 1 else mvKd q = 1) then some (j, (S.take (k + mvNa q)).reverse, S.drop (k + mvNa q)) else none
  | none => none
def mvRecv (σ : mvS) (j : Nat) (as : List mvV) : Prop := match as with
  | .inr (.inr a) :: _ => mvIs σ.1 a = (0, ((mvMd[j]?).map mvOwn).getD 99, 0)
  | _ => False
def mvRecvB (σ : mvS) (j : Nat) (as : List mvV) : Bool := match as with
  | .inr (.inr a) :: _ => decide (mvIs σ.1 a = (0, ((mvMd[j]?).map mvOwn).getD 99, 0))
  | _ => false
def mvCall (own rk : Nat) (ins : Instr) (len : Nat) (S : List mvV) (σ : mvS) : Option (Nat × List mvV × List mvV) :=
  match ins, len with
  | .invokevirtual ix, 3 => match mvMl.lookup (own, ix) with
    | some (0, j) => match mvCallN rk 1 j S with
      | some (j, as, S') => if mvRecvB σ j as = true then some (j, as, S') else none
      | none => none
    | _ => none
  | .invokespecial ix, 3 => match mvMl.lookup (own, ix) with
    | some (2, j) => match mvCallN rk 1 j S with
      | some (j, as, S') => if mvRecvB σ j as = true then some (j, as, S') else none
      | none => none
    | some (6, j) => match mvCallN rk 1 j S with
      | some (j, as, S') => if mvRecvB σ j as = true then some (j, as, S') else none
      | none => none
    | _ => none
  | .invokestatic ix, 3 => match mvMl.lookup (own, ix) with
    | some (1, j) => mvCallN rk 0 j S
    | some (4, j) => mvCallN rk 0 j S
    | _ => none
  | _, _ => none
def mvRet (rt : Option FieldType) (ins : Instr) (len : Nat) (S : List mvV) : Option (Option mvV) :=
  match ins, len with
  | .ireturn, 1 => match S with
    | [.inl x] => if rt = some .int ∨ rt = some .boolean ∧ (x = 0 ∨ x = 1) then some (some (mvI x)) else none
    | _ => none
  | .lreturn, 1 => match S with
    | [.inr (.inl x)] => if rt = some .long then some (some (mvJ x)) else none
    | _ => none
  | .return_, 1 => match S with
    | [] => if rt = none then some none else none
    | _ => none
  | _, _ => none
def mvDec (j pc : Nat) : Option (Instr × Nat) := match mvCdl[j]? with
  | some cd => cd.lookup pc
  | none => none
def mvRun : Nat → Nat → Nat → mvL → List mvV → mvS → Option (Option mvV × mvS)
  | 0, _, _, _, _, _ => none
  | n + 1, j, pc, L, S, σ => match mvMd[j]?, mvDec j pc with
    | some q, some (ins, len) => match mvStep (mvOwn q) (mvKd q == 2) (mvRk q) pc ins len L S σ with
      | some (pc', L', S', σ') => mvRun n j pc' L' S' σ'
      | none => match mvCall (mvOwn q) (mvRk q) ins len S σ with
        | some (j', as, S') => match mvMd[j']? with
          | some q' => match mvRun n j' 0 (mvEntry q'.2.2.1 as) [] σ with
            | some (r, σ') => mvRun n j (pc + 3) L (r.toList ++ S') σ'
            | none => none
          | none => none
        | none => match mvRet q.2.2.2.1 ins len S with
          | some r => some (r, σ)
          | none => none
    | _, _ => none
end
section
/-! what the mini machine's values and cells are in the machine -/
abbrev mvBs : Type := Nat × Nat × Nat
def mvB (b : mvBs) (k : Nat) : Nat := if k = 1 then b.2.1 else if k = 2 then b.2.2 else b.1 + (k - 3)
def mvRv (b : mvBs) (v : mvV) : Value := match v with
  | .inl x => .int (Int32.ofInt x)
  | .inr (.inl x) => .long (Int64.ofInt x)
  | .inr (.inr a) => .ref (mvB b a)
theorem mvRv_cat (b : mvBs) (v : mvV) : (mvRv b v).category = mvCat v := by rcases v with x | x | x <;> rfl
def mv32 (x : Int) : Prop := -2147483648 ≤ x ∧ x < 2147483648
def mv64 (x : Int) : Prop := -9223372036854775808 ≤ x ∧ x < 9223372036854775808
theorem mv32.to64 {x : Int} (h : mv32 x) : mv64 x := by unfold mv32 mv64 at *; omega
theorem m32 {x : Int} (h : mv32 x) : (Int32.ofInt x).toInt = x := Int32.toInt_ofInt_of_le (by have := h.1; omega) (by have := h.2; omega)
theorem m64 {x : Int} (h : mv64 x) : (Int64.ofInt x).toInt = x := Int64.toInt_ofInt_of_le (by have := h.1; omega) (by have := h.2; omega)
theorem m_of_mw (z : Int) : Int32.ofInt (mw z) = Int32.ofInt z := Int32.toInt.inj (by simp [mw, Int32.toInt_ofInt, Int32.size])
theorem m_of_mwl (z : Int) : Int64.ofInt (mwl z) = Int64.ofInt z := Int64.toInt.inj (by simp [mwl, Int64.toInt_ofInt, Int64.size])
theorem mw_ok (z : Int) : mv32 (mw z) := by
  have h1 := Int.le_bmod (x := z) (m := 4294967296) (by decide)
  have h2 := Int.bmod_lt (x := z) (m := 4294967296) (by decide)
  unfold mv32 mw
  omega
theorem mwl_ok (z : Int) : mv64 (mwl z) := by
  have h1 := Int.le_bmod (x := z) (m := 18446744073709551616) (by decide)
  have h2 := Int.bmod_lt (x := z) (m := 18446744073709551616) (by decide)
  unfold mv64 mwl
  omega
theorem mw_id {z : Int} (h : mv32 z) : mw z = z := by
  unfold mw
  exact Int.bmod_eq_of_le (by have := h.1; omega) (by have := h.2; omega)
theorem mwl_id {z : Int} (h : mv64 z) : mwl z = z := by
  unfold mwl
  exact Int.bmod_eq_of_le (by have := h.1; omega) (by have := h.2; omega)
theorem m_add (x y : Int) : Int32.ofInt x + Int32.ofInt y = Int32.ofInt (mw (x + y)) := by rw [m_of_mw, Int32.ofInt_add]
theorem m_sub (x y : Int) : Int32.ofInt x - Int32.ofInt y = Int32.ofInt (mw (x - y)) := by rw [m_of_mw, Int32.ofInt_sub]
theorem m_mul (x y : Int) : Int32.ofInt x * Int32.ofInt y = Int32.ofInt (mw (x * y)) := by rw [m_of_mw, Int32.ofInt_mul]
theorem ml_add (x y : Int) : Int64.ofInt x + Int64.ofInt y = Int64.ofInt (mwl (x + y)) := by rw [m_of_mwl, Int64.ofInt_add]
theorem ml_mul (x y : Int) : Int64.ofInt x * Int64.ofInt y = Int64.ofInt (mwl (x * y)) := by rw [m_of_mwl, Int64.ofInt_mul]
theorem m_div {x y : Int} (hx : mv32 x) (hy : mv32 y) : Int32.ofInt x / Int32.ofInt y = Int32.ofInt (mw (x.tdiv y)) := by
  apply Int32.toInt.inj
  rw [Int32.toInt_div, m32 hx, m32 hy, m32 (mw_ok _)]
  rfl
theorem ml_div {x y : Int} (hx : mv64 x) (hy : mv64 y) : Int64.ofInt x / Int64.ofInt y = Int64.ofInt (mwl (x.tdiv y)) := by
  apply Int64.toInt.inj
  rw [Int64.toInt_div, m64 hx, m64 hy, m64 (mwl_ok _)]
  rfl
theorem mv_tmod {x y : Int} : x.tmod y ≤ x ∧ 0 ≤ x.tmod y ∨ x ≤ x.tmod y ∧ x.tmod y ≤ 0 := by
  rcases Int.le_total 0 x with h | h
  · exact Or.inl ⟨by
      have h1 := Int.tmod_nonneg y h
      have h2 := Int.natAbs_tmod x y
      have h3 := Nat.mod_le x.natAbs y.natAbs
      omega, Int.tmod_nonneg y h⟩
  · have h0 : (-x).tmod y = -(x.tmod y) := Int.neg_tmod x y
    have h1 := Int.tmod_nonneg y (a := -x) (by omega)
    have h2 := Int.natAbs_tmod x y
    have h3 := Nat.mod_le x.natAbs y.natAbs
    exact Or.inr (by omega)
theorem mv_tmod32 {x y : Int} (hx : mv32 x) : mv32 (x.tmod y) := by
  have := mv_tmod (x := x) (y := y)
  unfold mv32 at *
  omega
theorem mv_tmod64 {x y : Int} (hx : mv64 x) : mv64 (x.tmod y) := by
  have := mv_tmod (x := x) (y := y)
  unfold mv64 at *
  omega
theorem m_rem {x y : Int} (hx : mv32 x) (hy : mv32 y) : Int32.ofInt x - Int32.ofInt x / Int32.ofInt y * Int32.ofInt y = Int32.ofInt (x.tmod y) := by
  rw [m_div hx hy, m_mul, m_sub, m_of_mw]
  have h : Int32.ofInt (x - mw (mw (x.tdiv y) * y)) = Int32.ofInt x - Int32.ofInt (x.tdiv y) * Int32.ofInt y := by
    rw [Int32.ofInt_sub, m_of_mw, Int32.ofInt_mul, m_of_mw]
  rw [h, ← Int32.ofInt_mul, ← Int32.ofInt_sub, Int.tmod_def, Int.mul_comm]
theorem ml_rem {x y : Int} (hx : mv64 x) (hy : mv64 y) : Int64.ofInt x - Int64.ofInt x / Int64.ofInt y * Int64.ofInt y = Int64.ofInt (x.tmod y) := by
  rw [ml_div hx hy]
  rw [m_of_mwl, ← Int64.ofInt_mul, ← Int64.ofInt_sub, Int.tmod_def, Int.mul_comm]
theorem m_eq {x y : Int} (hx : mv32 x) (hy : mv32 y) : Int32.ofInt x = Int32.ofInt y ↔ x = y := by
  rw [← Int32.toInt_inj, m32 hx, m32 hy]
theorem m_lt {x y : Int} (hx : mv32 x) (hy : mv32 y) : Int32.ofInt x < Int32.ofInt y ↔ x < y := by
  rw [Int32.lt_iff_toInt_lt, m32 hx, m32 hy]
theorem m_le {x y : Int} (hx : mv32 x) (hy : mv32 y) : Int32.ofInt x ≤ Int32.ofInt y ↔ x ≤ y := by
  rw [Int32.le_iff_toInt_le, m32 hx, m32 hy]
theorem mv32_0 : mv32 0 := by unfold mv32; omega
theorem mv64_0 : mv64 0 := by unfold mv64; omega
theorem m_0 : (0 : Int32) = Int32.ofInt 0 := by decide
theorem mz_eq {x : Int} (hx : mv32 x) : Int32.ofInt x = 0 ↔ x = 0 := by rw [m_0]; exact m_eq hx mv32_0
theorem mz_lt {x : Int} (hx : mv32 x) : Int32.ofInt x < 0 ↔ x < 0 := by rw [m_0]; exact m_lt hx mv32_0
theorem mz_le {x : Int} (hx : mv32 x) : Int32.ofInt x ≤ 0 ↔ x ≤ 0 := by rw [m_0]; exact m_le hx mv32_0
theorem mz_gt {x : Int} (hx : mv32 x) : 0 < Int32.ofInt x ↔ 0 < x := by rw [m_0]; exact m_lt mv32_0 hx
theorem mz_ge {x : Int} (hx : mv32 x) : 0 ≤ Int32.ofInt x ↔ 0 ≤ x := by rw [m_0]; exact m_le mv32_0 hx
theorem ml_eq0 {x : Int} (hx : mv64 x) : Int64.ofInt x = 0 ↔ x = 0 := by
  rw [show (0 : Int64) = Int64.ofInt 0 by decide, ← Int64.toInt_inj, m64 hx, m64 mv64_0]
theorem m_clamp {i : Int} (hi : mv32 i) : (Int32.ofInt i).toNatClampNeg = i.toNat := by
  show (Int32.ofInt i).toInt.toNat = _
  rw [m32 hi]
theorem m_in {i : Int} {n : Nat} (hi : mv32 i) (h0 : 0 ≤ i) (h1 : i < n) : vp_in (Int32.ofInt i) n := vp_in_iff.mpr (by rw [m32 hi]; exact ⟨h0, h1⟩)
theorem m_and (x y : Int) : Int32.ofInt x &&& Int32.ofInt y = Int32.ofInt (mvAnd x y) := by unfold mvAnd; rw [Int32.ofInt_toInt]
theorem m_or (x y : Int) : Int32.ofInt x ||| Int32.ofInt y = Int32.ofInt (mvOr x y) := by unfold mvOr; rw [Int32.ofInt_toInt]
theorem m_shl (x y : Int) : Int32.ofInt x <<< (Int32.ofInt y &&& 31) = Int32.ofInt (mvShl x y) := by unfold mvShl; rw [Int32.ofInt_toInt]
theorem m_shr (x y : Int) : Int32.ofInt x >>> (Int32.ofInt y &&& 31) = Int32.ofInt (mvShr x y) := by unfold mvShr; rw [Int32.ofInt_toInt]
theorem m_ushr (x y : Int) : ((Int32.ofInt x).toUInt32 >>> ((Int32.ofInt y).toUInt32 &&& Int32.toUInt32 31)).toInt32 = Int32.ofInt (mvUshr x y) := by unfold mvUshr; rw [Int32.ofInt_toInt]
theorem m_lcmp (x y : Int) : lg_cmp (Int64.ofInt x) (Int64.ofInt y) = Int32.ofInt (mvLcmp x y) := by unfold mvLcmp; rw [Int32.ofInt_toInt]
theorem mv_i32 (x : Int32) : mv32 x.toInt := ⟨by have := x.le_toInt; omega, by have := x.toInt_lt; omega⟩
theorem m_i2l {x : Int} (hx : mv32 x) : (Int32.ofInt x).toInt64 = Int64.ofInt x := Int64.toInt.inj (by rw [Int32.toInt_toInt64, m32 hx, m64 hx.to64])
theorem m_l2i (x : Int) : (Int64.ofInt x).toInt32 = Int32.ofInt (mw x) := by rw [m_of_mw, Int64.toInt32_ofInt]
theorem m_bi {n : Int} (h : -128 ≤ n ∧ n ≤ 127) : (Int8.ofInt n).toInt32 = Int32.ofInt n := by
  apply Int32.toInt.inj
  rw [Int8.toInt_toInt32, Int8.toInt_ofInt_of_le (by omega) (by omega), m32 (by unfold mv32; omega)]
theorem m_si {n : Int} (h : -32768 ≤ n ∧ n ≤ 32767) : (Int16.ofInt n).toInt32 = Int32.ofInt n := by
  apply Int32.toInt.inj
  rw [Int16.toInt_toInt32, Int16.toInt_ofInt_of_le (by omega) (by omega), m32 (by unfold mv32; omega)]
/-! cells -/
def mvFv (b : mvBs) (σ : mvS) (a cf f : Nat) : Value := if mvFt cf f = 2 then (if σ.2.1 a f = 0 then .null else .ref (mvB b (σ.2.1 a f))) else if mvFt cf f = 1 then .long (Int64.ofInt (σ.2.2 a (f : Int))) else .int (Int32.ofInt (σ.2.2 a (f : Int)))
def mvNf (cf : Nat) : Nat := ((mvTab[cf]?).map (fun q => q.2.2)).getD 0
def mvCe (b : mvBs) (cA0 cA1 : ClassId) (σ : mvS) (a : Nat) : va_E := if (mvSH a).1 = 0 then .inr ((mvSH a).2.1, (List.range (mvNf (mvSH a).2.1)).map (fun f => mvFv b σ a (mvSH a).2.1 f)) else .inl (if (mvSH a).2.1 = 0 then cA0 else cA1, (mvSH a).2.2, .inl (fun i => Int32.ofInt (σ.2.2 a (i : Int))))
def mvWd (b : mvBs) (cA0 cA1 : ClassId) (σ : mvS) : va_W := (List.range (σ.1 - 3)).map (fun i => (b.1 + i, mvCe b cA0 cA1 σ (i + 3)))
theorem mvWd_get {b : mvBs} {cA0 cA1 : ClassId} {σ : mvS} {a : Nat} (h3 : 3 ≤ a) (hn : a < σ.1) : (mvWd b cA0 cA1 σ)[a - 3]? = some (mvB b a, mvCe b cA0 cA1 σ a) := by
  unfold mvWd mvB
  rw [List.getElem?_map, List.getElem?_range (by omega), if_neg (by omega), if_neg (by omega)]
  simp only [Option.map_some]
  rw [show a - 3 + 3 = a by omega]
theorem mvWd_len {b : mvBs} {cA0 cA1 : ClassId} {σ : mvS} : (mvWd b cA0 cA1 σ).length = σ.1 - 3 := by simp [mvWd]
theorem mvWd_at {b : mvBs} {cA0 cA1 : ClassId} {σ : mvS} {k : Nat} {q : Nat × va_E} (h : (mvWd b cA0 cA1 σ)[k]? = some q) : k < σ.1 - 3 ∧ q = (b.1 + k, mvCe b cA0 cA1 σ (k + 3)) := by
  have hk : k < (mvWd b cA0 cA1 σ).length := (List.getElem?_eq_some_iff.mp h).1
  rw [mvWd_len] at hk
  refine ⟨hk, ?_⟩
  unfold mvWd at h
  rw [List.getElem?_map, List.getElem?_range hk] at h
  exact (Option.some.inj h).symm
theorem mvWd_D {b : mvBs} {cA0 cA1 : ClassId} {σ : mvS} : va_D (fun q => b.1 ≤ q) (mvWd b cA0 cA1 σ) := by
  refine ⟨fun i j x y hi hj hxy => ?_, fun k q hk => ?_⟩
  · obtain ⟨-, rfl⟩ := mvWd_at hi
    obtain ⟨-, rfl⟩ := mvWd_at hj
    simp only at hxy
    omega
  · obtain ⟨-, rfl⟩ := mvWd_at hk
    exact Nat.le_add_right _ _
theorem mvWd_set {b : mvBs} {cA0 cA1 : ClassId} {σ σ' : mvS} {a : Nat} {x : va_E} (h3 : 3 ≤ a) (hn : σ'.1 = σ.1) (ho : ∀ k, k ≠ a → mvCe b cA0 cA1 σ' k = mvCe b cA0 cA1 σ k) (hx : mvCe b cA0 cA1 σ' a = x) : (mvWd b cA0 cA1 σ).set (a - 3) (mvB b a, x) = mvWd b cA0 cA1 σ' := by
  apply List.ext_getElem?
  intro k
  rw [List.getElem?_set]
  by_cases hk : a - 3 = k
  · subst hk
    rw [if_pos rfl, mvWd_len]
    by_cases hl : a - 3 < σ.1 - 3
    · rw [if_pos hl, mvWd_get h3 (by omega), hx]
    · rw [if_neg hl]
      symm
      rw [List.getElem?_eq_none_iff, mvWd_len]
      omega
  · rw [if_neg hk]
    by_cases hl : k < σ.1 - 3
    · have e1 := mvWd_get (b := b) (cA0 := cA0) (cA1 := cA1) (σ := σ) (a := k + 3) (by omega) (by omega)
      have e2 := mvWd_get (b := b) (cA0 := cA0) (cA1 := cA1) (σ := σ') (a := k + 3) (by omega) (by omega)
      rw [Nat.add_sub_cancel] at e1 e2
      rw [e1, e2, ho _ (by omega)]
    · rw [List.getElem?_eq_none_iff.mpr (by rw [mvWd_len]; omega), List.getElem?_eq_none_iff.mpr (by rw [mvWd_len]; omega)]
theorem mvIs_spec {n a k x y : Nat} (h : mvIs n a = (k, x, y)) (hk : ¬ k = 2) : 3 ≤ a ∧ a < n ∧ mvSH a = (k, x, y) := by
  unfold mvIs at h
  split at h
  · rename_i hh; exact ⟨hh.1, hh.2, h⟩
  · cases h; exact absurd rfl hk
theorem mvIs_arr {n a : Nat} (h : (mvIs n a).1 = 1) : 3 ≤ a ∧ a < n ∧ mvSH a = mvIs n a := by
  unfold mvIs at h ⊢
  split at h
  · rename_i hh; rw [if_pos hh]; exact ⟨hh.1, hh.2, rfl⟩
  · simp at h
/-! locals -/
def mvLr (b : mvBs) (L : mvL) (ls : Array Slot) : Prop := ls.size = L.length ∧ lv_wf ls ∧ ∀ (i : Nat) (v : mvV), mvGet L i = some v → ls[i]? = some (.val (mvRv b v))
def mvAsc (b : mvBs) (L : mvL) : List (Nat × Value) := (List.range L.length).filterMap fun i => (mvGet L i).map fun v => (i, mvRv b v)
theorem mvGet_lt {L : mvL} {i : Nat} {v : mvV} (h : mvGet L i = some v) : i < L.length := by
  unfold mvGet at h
  rcases Nat.lt_or_ge i L.length with q | q
  · exact q
  · rw [List.getElem?_eq_none_iff.mpr q] at h; cases h
theorem mvAsc_mem {b : mvBs} {L : mvL} {q : Nat × Value} : q ∈ mvAsc b L ↔ ∃ v, mvGet L q.1 = some v ∧ q.2 = mvRv b v := by
  unfold mvAsc
  rw [List.mem_filterMap]
  constructor
  · rintro ⟨i, -, h⟩
    cases hg : mvGet L i with
    | none => rw [hg] at h; cases h
    | some v => rw [hg] at h; cases h; exact ⟨v, hg, rfl⟩
  · rintro ⟨v, h1, h2⟩
    refine ⟨q.1, List.mem_range.mpr (mvGet_lt h1), ?_⟩
    rw [h1]
    obtain ⟨i, x⟩ := q
    simp only at h2
    rw [h2]
    rfl
theorem mvLr.has {b : mvBs} {L : mvL} {ls : Array Slot} (h : mvLr b L ls) : lv_has ls L.length (mvAsc b L) := ⟨h.1, h.2.1, fun q hq => by
  obtain ⟨v, h1, h2⟩ := mvAsc_mem.mp hq
  rw [h2]
  exact h.2.2 _ _ h1⟩
theorem mvGet_set {L : mvL} {i k : Nat} {o : Option mvV} (h : i < L.length) : mvGet (L.set i o) k = if i = k then o else mvGet L k := by
  unfold mvGet
  rw [List.getElem?_set]
  by_cases hk : i = k
  · rw [if_pos hk, if_pos hk, if_pos h]
    cases o <;> rfl
  · rw [if_neg hk, if_neg hk]
theorem mvPre_spec {L : mvL} {i k : Nat} {v : mvV} (h : mvPre L i = true) (hk : k + 1 = i) (hv : mvGet L k = some v) : ¬ mvCat v = 2 := by
  subst hk
  have h : (!mvIsJ (mvGet L k)) = true := h
  rw [hv] at h
  rcases v with x | x | x
  · intro q; cases q
  · cases h
  · intro q; cases q
theorem mvSt_spec {b : mvBs} {L L' : mvL} {i : Nat} {v : mvV} (h : mvSt L i v = some L') : i < L.length ∧ ∀ ls' : Array Slot, lv_has ls' L.length ((i, mvRv b v) :: (mvAsc b L).filter (fun q => !(q.1 == i) && !(q.1 + 1 == i && q.2.category == 2))) → mvLr b L' ls' := by
  unfold mvSt at h
  split at h
  · rename_i hh
    cases h
    refine ⟨hh.1, fun ls' hl => ⟨by rw [List.length_set]; exact hl.1, hl.2.1, fun k u hk => ?_⟩⟩
    rw [mvGet_set hh.1] at hk
    by_cases hik : i = k
    · rw [if_pos hik] at hk
      cases hk
      subst hik
      exact hl.2.2 (i, mvRv b v) List.mem_cons_self
    · rw [if_neg hik] at hk
      refine hl.2.2 (k, mvRv b u) (List.mem_cons_of_mem _ (List.mem_filter.mpr ⟨mvAsc_mem.mpr ⟨u, hk, rfl⟩, ?_⟩))
      have h1 : ¬ (k + 1 = i ∧ (mvRv b u).category = 2) := fun ⟨q1, q2⟩ => mvPre_spec hh.2 q1 hk (by rw [← mvRv_cat b]; exact q2)
      have h2 : ¬ k = i := fun q => hik q.symm
      simp only [Bool.and_eq_true, Bool.not_eq_true', Bool.and_eq_false_iff, beq_eq_false_iff_ne, ne_eq]
      exact ⟨h2, by
        by_cases hz : k + 1 = i
        · exact Or.inr (fun z => h1 ⟨hz, z⟩)
        · exact Or.inl hz⟩
  · cases h
theorem mvSt2_spec {b : mvBs} {L L' : mvL} {i : Nat} {v : mvV} (h : mvSt2 L i v = some L') : i + 1 < L.length ∧ ∀ ls' : Array Slot, lv_has ls' L.length ((i, mvRv b v) :: (mvAsc b L).filter (fun q => !(q.1 == i) && (!(q.1 == i + 1) && !(q.1 + 1 == i && q.2.category == 2)))) → mvLr b L' ls' := by
  unfold mvSt2 at h
  split at h
  · rename_i hh
    cases h
    refine ⟨hh.1, fun ls' hl => ⟨by rw [List.length_set, List.length_set]; exact hl.1, hl.2.1, fun k u hk => ?_⟩⟩
    rw [mvGet_set (by rw [List.length_set]; exact hh.1)] at hk
    by_cases hik1 : i + 1 = k
    · rw [if_pos hik1] at hk; cases hk
    rw [if_neg hik1, mvGet_set (by omega)] at hk
    by_cases hik : i = k
    · rw [if_pos hik] at hk
      cases hk
      subst hik
      exact hl.2.2 (i, mvRv b v) List.mem_cons_self
    · rw [if_neg hik] at hk
      refine hl.2.2 (k, mvRv b u) (List.mem_cons_of_mem _ (List.mem_filter.mpr ⟨mvAsc_mem.mpr ⟨u, hk, rfl⟩, ?_⟩))
      have h1 : ¬ (k + 1 = i ∧ (mvRv b u).category = 2) := fun ⟨q1, q2⟩ => mvPre_spec hh.2 q1 hk (by rw [← mvRv_cat b]; exact q2)
      have h2 : ¬ k = i := fun q => hik q.symm
      have h3 : ¬ k = i + 1 := fun q => hik1 q.symm
      simp only [Bool.and_eq_true, Bool.not_eq_true', Bool.and_eq_false_iff, beq_eq_false_iff_ne, ne_eq]
      exact ⟨h2, h3, by
        by_cases hz : k + 1 = i
        · exact Or.inr (fun z => h1 ⟨hz, z⟩)
        · exact Or.inl hz⟩
  · cases h
theorem mvTgt_spec {pc t : Nat} {off : Int} (h : mvTgt pc off = some t) : (pc : Int) + off = (t : Int) := by
  unfold mvTgt at h
  split at h
  · rename_i u hu
    cases h
    exact hu
  · cases h
theorem mvGo_spec {t : Option Nat} {L : mvL} {S : List mvV} {σ : mvS} {z : Nat × mvL × List mvV × mvS} (h : mvGo t L S σ = some z) : ∃ u, t = some u ∧ z = (u, L, S, σ) := by
  cases t with
  | none => cases h
  | some u => cases h; exact ⟨u, rfl, rfl⟩
theorem mvLdI_spec {o : Option mvV} {pc : Nat} {L : mvL} {S : List mvV} {σ : mvS} {z : Nat × mvL × List mvV × mvS} (h : mvLdI o pc L S σ = some z) : ∃ x, o = some (mvI x) ∧ z = (pc, L, mvI x :: S, σ) := by
  unfold mvLdI at h
  split at h
  · rename_i x; cases h; exact ⟨x, rfl, rfl⟩
  · cases h
theorem mvLdJ_spec {o : Option mvV} {pc : Nat} {L : mvL} {S : List mvV} {σ : mvS} {z : Nat × mvL × List mvV × mvS} (h : mvLdJ o pc L S σ = some z) : ∃ x, o = some (mvJ x) ∧ z = (pc, L, mvJ x :: S, σ) := by
  unfold mvLdJ at h
  split at h
  · rename_i x; cases h; exact ⟨x, rfl, rfl⟩
  · cases h
theorem mvLdR_spec {o : Option mvV} {pc : Nat} {L : mvL} {S : List mvV} {σ : mvS} {z : Nat × mvL × List mvV × mvS} (h : mvLdR o pc L S σ = some z) : ∃ x, o = some (mvR x) ∧ z = (pc, L, mvR x :: S, σ) := by
  unfold mvLdR at h
  split at h
  · rename_i x; cases h; exact ⟨x, rfl, rfl⟩
  · cases h
theorem mvToL_spec {o : Option mvL} {pc : Nat} {S : List mvV} {σ : mvS} {z : Nat × mvL × List mvV × mvS} (h : mvToL o pc S σ = some z) : ∃ L, o = some L ∧ z = (pc, L, S, σ) := by
  unfold mvToL at h
  split at h
  · rename_i x; cases h; exact ⟨x, rfl, rfl⟩
  · cases h
theorem mv_lookup {α β : Type} [BEq α] [LawfulBEq α] {l : List (α × β)} {a : α} {x : β} (h : l.lookup a = some x) : (a, x) ∈ l := by
  induction l with
  | nil => cases h
  | cons q l ih =>
    obtain ⟨k, y⟩ := q
    rw [List.lookup_cons] at h
    split at h
    · rename_i hk
      cases h
      rw [beq_iff_eq] at hk
      subst hk
      exact List.mem_cons_self
    · exact List.mem_cons_of_mem _ (ih h)
end
section
/-! the tables behind the mini machine's lists -/
/-- the words of the tables that are kept -/
def mvTb : List Jvm.Cond := lw_tbl.filter goodWord
theorem mvTb_of {w : Jvm.Cond} (h : w ∈ lw_tbl) (hg : goodWord w = true) : w ∈ mvTb := List.mem_filter.mpr ⟨h, hg⟩
theorem mvTb_in {w : Jvm.Cond} (h : w ∈ mvTb) : w ∈ lw_tbl := (List.mem_filter.mp h).1
theorem mt_fl : ∀ w ∈ mvFl.map (fun z => Jvm.Cond.fieldLink (mvCn z.1.1) z.1.2 (mvCn z.2.1) (mvFd z.2.1 z.2.2).2.1 (mvFd z.2.1 z.2.2).2.2.1), w ∈ mvTb := fun w hw => mvTb_of (mv_fl w hw) (by obtain ⟨z, -, rfl⟩ := List.mem_map.mp hw; rfl)
theorem mt_kl : ∀ w ∈ mvKl.map (fun z => Jvm.Cond.classLink (mvCn z.1.1) z.1.2 (mvCn z.2)), w ∈ mvTb := fun w hw => mvTb_of (mv_kl w hw) (by obtain ⟨z, -, rfl⟩ := List.mem_map.mp hw; rfl)
theorem mt_jl : ∀ w ∈ mvJl.map (fun z => Jvm.Cond.constantLong (mvCn z.1.1) z.1.2 (Int64.ofInt z.2)), w ∈ mvTb := fun w hw => mvTb_of (mv_jl w hw) (by obtain ⟨z, -, rfl⟩ := List.mem_map.mp hw; rfl)
theorem mt_il : ∀ w ∈ mvIl.map (fun z => Jvm.Cond.constant (mvCn z.1.1) z.1.2 (Int32.ofInt z.2)), w ∈ mvTb := fun w hw => mvTb_of (mv_il w hw) (by obtain ⟨z, -, rfl⟩ := List.mem_map.mp hw; rfl)
theorem mt_ml : ∀ w ∈ (mvMl.filter (fun z => decide (z.2.1 < 3))).map (fun z => Jvm.Cond.methodLink (mvCn z.1.1) z.1.2 (mvY z.2.2)), w ∈ mvTb := fun w hw => mvTb_of (mv_ml w hw) (by obtain ⟨z, -, rfl⟩ := List.mem_map.mp hw; rfl)
theorem mt_mo : ∀ w ∈ (mvMl.filter (fun z => decide (z.2.1 = 5))).map (fun z => Jvm.Cond.methodLink (mvCn z.1.1) z.1.2 Lib.objectInit), w ∈ mvTb := fun w hw => mvTb_of (mv_mo w hw) (by obtain ⟨z, -, rfl⟩ := List.mem_map.mp hw; rfl)
theorem mt_mx : ∀ w ∈ (mvMl.filter (fun z => decide (z.2.1 = 7))).map (fun z => Jvm.Cond.methodLink (mvCn z.1.1) z.1.2 Lib.Math.max.name), w ∈ mvTb := fun w hw => mvTb_of (mv_mx w hw) (by obtain ⟨z, -, rfl⟩ := List.mem_map.mp hw; rfl)
theorem mt_mi : ∀ w ∈ (mvMl.filter (fun z => decide (z.2.1 = 8))).map (fun z => Jvm.Cond.methodLink (mvCn z.1.1) z.1.2 Lib.Math.min.name), w ∈ mvTb := fun w hw => mvTb_of (mv_mi w hw) (by obtain ⟨z, -, rfl⟩ := List.mem_map.mp hw; rfl)
theorem mt_in : ∀ w ∈ (mvMt0.filter (fun q => decide (q.2.2.2.2.2.2.1 ≠ 1))).map (fun q => Jvm.Cond.instanceMethod q.1), w ∈ mvTb := fun w hw => mvTb_of (mv_in w hw) (by obtain ⟨z, -, rfl⟩ := List.mem_map.mp hw; rfl)
theorem mt_st : ∀ w ∈ (mvMt0.filter (fun q => decide (q.2.2.2.2.2.2.1 = 1))).map (fun q => Jvm.Cond.static q.1), w ∈ mvTb := fun w hw => mvTb_of (mv_st w hw) (by obtain ⟨z, -, rfl⟩ := List.mem_map.mp hw; rfl)
theorem mt_se : ∀ w ∈ (mvMt0.filter (fun q => decide (q.2.2.2.2.2.2.1 = 0))).map (fun q => Jvm.Cond.selects q.1.cls q.1 q.1), w ∈ mvTb := fun w hw => mvTb_of (mv_se w hw) (by obtain ⟨z, -, rfl⟩ := List.mem_map.mp hw; rfl)
theorem mt_ini : ∀ w ∈ (mvMt0).map (fun q => Jvm.Cond.initialized q.1.cls), w ∈ mvTb := fun w hw => mvTb_of (mv_ini w hw) (by obtain ⟨z, -, rfl⟩ := List.mem_map.mp hw; rfl)
theorem mt_inst : ∀ w ∈ mvTab.map (fun q => Jvm.Cond.instantiable q.1 q.2.2), w ∈ mvTb := fun w hw => mvTb_of (mv_inst w hw) (by obtain ⟨z, -, rfl⟩ := List.mem_map.mp hw; rfl)
theorem mt_ini2 : ∀ w ∈ mvTab.map (fun q => Jvm.Cond.initialized q.1), w ∈ mvTb := fun w hw => mvTb_of (mv_ini2 w hw) (by obtain ⟨z, -, rfl⟩ := List.mem_map.mp hw; rfl)
theorem mt_objI : Jvm.Cond.instanceMethod Lib.objectInit ∈ mvTb := mvTb_of mv_objI rfl
theorem mt_objC : Jvm.Cond.code Lib.objectInit ⟨#[0xb1]⟩ 1 none ∈ mvTb := mvTb_of mv_objC rfl
theorem mt_arrI : Jvm.Cond.arrayClass FieldType.int ∈ mvTb := mvTb_of mv_arrI rfl
theorem mt_arrB : Jvm.Cond.arrayClass FieldType.boolean ∈ mvTb := mvTb_of mv_arrB rfl
theorem mt_mxS : Jvm.Cond.static Lib.Math.max.name ∈ mvTb := mvTb_of mv_mxS rfl
theorem mt_miS : Jvm.Cond.static Lib.Math.min.name ∈ mvTb := mvTb_of mv_miS rfl
theorem mt_mI : Jvm.Cond.initialized "java/lang/Math" ∈ mvTb := mvTb_of mv_mI rfl
theorem mt_mxC : Jvm.Cond.code Lib.Math.max.name Lib.Math.max.code 2 (some .int) ∈ mvTb := mvTb_of mv_mxC rfl
theorem mt_miC : Jvm.Cond.code Lib.Math.min.name Lib.Math.min.code 2 (some .int) ∈ mvTb := mvTb_of mv_miC rfl
theorem mt_u {C : String} {T : u_T} {N : Nat} (h : ∀ w ∈ u_ws C T N, w ∈ lw_tbl) : ∀ w ∈ u_ws C T N, w ∈ mvTb := fun w hw => mvTb_of (h w hw) (by
  obtain ⟨k, -, rfl⟩ := List.mem_map.mp hw
  unfold u_lay
  split <;> rfl)
def mvFact (cf : Nat) (q : vw_C) : Prop := q.1 = mvCn cf ∧ (∀ w ∈ u_ws q.1 q.2.1 q.2.2, w ∈ mvTb) ∧ (∀ k, k < q.2.2 → (q.2.1 k).1 = q.1) ∧ (∀ x, x < q.2.2 → ∀ y, y < q.2.2 → x ≠ y → (q.2.1 x).2.1 ≠ (q.2.1 y).2.1) ∧
  ∃ ty : Nat → FieldType, (∀ k, k < q.2.2 → parseFieldDescriptor (q.2.1 k).2.2.1 = some (ty k)) ∧ (∀ k, k < q.2.2 → (q.2.1 k).2.2.2 = mvFf cf k) ∧ ∀ k, k < q.2.2 → (mvFt cf k = 0 ∧ ty k = .int) ∨ (mvFt cf k = 1 ∧ ty k = .long) ∨ (mvFt cf k = 3 ∧ ty k = .boolean) ∨ (mvFt cf k = 2 ∧ ((∃ t, ty k = .array t) ∨ ∃ n, ty k = .object n))
theorem mv_fact0 : mvFact 0 ("RunCuts", mvT0, 12) := by
  refine ⟨rfl, mt_u mv_u0, by decide +kernel, mvN0, mvTy0, mvTyOk0, by decide +kernel, ?_⟩
  intro k hk
  match k, hk with
  | 0, _ => exact Or.inr (Or.inr (Or.inr ⟨rfl, Or.inr ⟨_, rfl⟩⟩))
  | 1, _ => exact Or.inr (Or.inr (Or.inr ⟨rfl, Or.inr ⟨_, rfl⟩⟩))
  | 2, _ => exact Or.inr (Or.inr (Or.inr ⟨rfl, Or.inr ⟨_, rfl⟩⟩))
  | 3, _ => exact Or.inr (Or.inr (Or.inr ⟨rfl, Or.inr ⟨_, rfl⟩⟩))
  | 4, _ => exact Or.inr (Or.inr (Or.inr ⟨rfl, Or.inr ⟨_, rfl⟩⟩))
  | 5, _ => exact Or.inr (Or.inr (Or.inr ⟨rfl, Or.inr ⟨_, rfl⟩⟩))
  | 6, _ => exact Or.inr (Or.inr (Or.inr ⟨rfl, Or.inr ⟨_, rfl⟩⟩))
  | 7, _ => exact Or.inr (Or.inr (Or.inr ⟨rfl, Or.inr ⟨_, rfl⟩⟩))
  | 8, _ => exact Or.inr (Or.inr (Or.inr ⟨rfl, Or.inr ⟨_, rfl⟩⟩))
  | 9, _ => exact Or.inr (Or.inr (Or.inr ⟨rfl, Or.inr ⟨_, rfl⟩⟩))
  | 10, _ => exact Or.inl ⟨rfl, rfl⟩
  | 11, _ => exact Or.inl ⟨rfl, rfl⟩
  | k + 12, hk => exact absurd hk (by simp)
theorem mv_fact1 : mvFact 1 ("RunCuts$Page", mvT1, 2) := by
  refine ⟨rfl, mt_u mv_u1, by decide +kernel, mvN1, mvTy1, mvTyOk1, by decide +kernel, ?_⟩
  intro k hk
  match k, hk with
  | 0, _ => exact Or.inr (Or.inr (Or.inr ⟨rfl, Or.inl ⟨_, rfl⟩⟩))
  | 1, _ => exact Or.inl ⟨rfl, rfl⟩
  | k + 2, hk => exact absurd hk (by simp)
theorem mv_fact2 : mvFact 2 ("RunCuts$Events", mvT2, 10) := by
  refine ⟨rfl, mt_u mv_u2, by decide +kernel, mvN2, mvTy2, mvTyOk2, by decide +kernel, ?_⟩
  intro k hk
  match k, hk with
  | 0, _ => exact Or.inl ⟨rfl, rfl⟩
  | 1, _ => exact Or.inl ⟨rfl, rfl⟩
  | 2, _ => exact Or.inr (Or.inr (Or.inr ⟨rfl, Or.inl ⟨_, rfl⟩⟩))
  | 3, _ => exact Or.inr (Or.inr (Or.inr ⟨rfl, Or.inl ⟨_, rfl⟩⟩))
  | 4, _ => exact Or.inr (Or.inr (Or.inr ⟨rfl, Or.inl ⟨_, rfl⟩⟩))
  | 5, _ => exact Or.inr (Or.inr (Or.inr ⟨rfl, Or.inl ⟨_, rfl⟩⟩))
  | 6, _ => exact Or.inr (Or.inr (Or.inr ⟨rfl, Or.inl ⟨_, rfl⟩⟩))
  | 7, _ => exact Or.inr (Or.inr (Or.inr ⟨rfl, Or.inl ⟨_, rfl⟩⟩))
  | 8, _ => exact Or.inr (Or.inr (Or.inr ⟨rfl, Or.inl ⟨_, rfl⟩⟩))
  | 9, _ => exact Or.inr (Or.inr (Or.inr ⟨rfl, Or.inl ⟨_, rfl⟩⟩))
  | k + 10, hk => exact absurd hk (by simp)
theorem mv_fact3 : mvFact 3 ("RunCuts$Lattice", mvT3, 10) := by
  refine ⟨rfl, mt_u mv_u3, by decide +kernel, mvN3, mvTy3, mvTyOk3, by decide +kernel, ?_⟩
  intro k hk
  match k, hk with
  | 0, _ => exact Or.inr (Or.inr (Or.inl ⟨rfl, rfl⟩))
  | 1, _ => exact Or.inl ⟨rfl, rfl⟩
  | 2, _ => exact Or.inl ⟨rfl, rfl⟩
  | 3, _ => exact Or.inl ⟨rfl, rfl⟩
  | 4, _ => exact Or.inr (Or.inr (Or.inr ⟨rfl, Or.inl ⟨_, rfl⟩⟩))
  | 5, _ => exact Or.inr (Or.inr (Or.inr ⟨rfl, Or.inl ⟨_, rfl⟩⟩))
  | 6, _ => exact Or.inr (Or.inr (Or.inr ⟨rfl, Or.inl ⟨_, rfl⟩⟩))
  | 7, _ => exact Or.inr (Or.inr (Or.inr ⟨rfl, Or.inl ⟨_, rfl⟩⟩))
  | 8, _ => exact Or.inr (Or.inr (Or.inr ⟨rfl, Or.inl ⟨_, rfl⟩⟩))
  | 9, _ => exact Or.inr (Or.inr (Or.inr ⟨rfl, Or.inl ⟨_, rfl⟩⟩))
  | k + 10, hk => exact absurd hk (by simp)
theorem mv_fact4 : mvFact 4 ("RunCuts$Predicate", mvT4, 3) := by
  refine ⟨rfl, mt_u mv_u4, by decide +kernel, mvN4, mvTy4, mvTyOk4, by decide +kernel, ?_⟩
  intro k hk
  match k, hk with
  | 0, _ => exact Or.inl ⟨rfl, rfl⟩
  | 1, _ => exact Or.inl ⟨rfl, rfl⟩
  | 2, _ => exact Or.inr (Or.inr (Or.inr ⟨rfl, Or.inl ⟨_, rfl⟩⟩))
  | k + 3, hk => exact absurd hk (by simp)
theorem mv_fact5 : mvFact 5 ("RunCuts$Search", mvT5, 6) := by
  refine ⟨rfl, mt_u mv_u5, by decide +kernel, mvN5, mvTy5, mvTyOk5, by decide +kernel, ?_⟩
  intro k hk
  match k, hk with
  | 0, _ => exact Or.inr (Or.inr (Or.inl ⟨rfl, rfl⟩))
  | 1, _ => exact Or.inl ⟨rfl, rfl⟩
  | 2, _ => exact Or.inr (Or.inr (Or.inr ⟨rfl, Or.inl ⟨_, rfl⟩⟩))
  | 3, _ => exact Or.inl ⟨rfl, rfl⟩
  | 4, _ => exact Or.inl ⟨rfl, rfl⟩
  | 5, _ => exact Or.inr (Or.inr (Or.inr ⟨rfl, Or.inl ⟨_, rfl⟩⟩))
  | k + 6, hk => exact absurd hk (by simp)
theorem mv_fact6 : mvFact 6 ("RunCuts$Intervals", mvT6, 4) := by
  refine ⟨rfl, mt_u mv_u6, by decide +kernel, mvN6, mvTy6, mvTyOk6, by decide +kernel, ?_⟩
  intro k hk
  match k, hk with
  | 0, _ => exact Or.inr (Or.inr (Or.inr ⟨rfl, Or.inl ⟨_, rfl⟩⟩))
  | 1, _ => exact Or.inr (Or.inr (Or.inr ⟨rfl, Or.inl ⟨_, rfl⟩⟩))
  | 2, _ => exact Or.inr (Or.inr (Or.inr ⟨rfl, Or.inl ⟨_, rfl⟩⟩))
  | 3, _ => exact Or.inr (Or.inr (Or.inr ⟨rfl, Or.inl ⟨_, rfl⟩⟩))
  | k + 4, hk => exact absurd hk (by simp)
theorem mv_fact7 : mvFact 7 ("RunCuts$Lean", mvT7, 3) := by
  refine ⟨rfl, mt_u mv_u7, by decide +kernel, mvN7, mvTy7, mvTyOk7, by decide +kernel, ?_⟩
  intro k hk
  match k, hk with
  | 0, _ => exact Or.inr (Or.inr (Or.inr ⟨rfl, Or.inr ⟨_, rfl⟩⟩))
  | 1, _ => exact Or.inr (Or.inr (Or.inr ⟨rfl, Or.inr ⟨_, rfl⟩⟩))
  | 2, _ => exact Or.inr (Or.inr (Or.inr ⟨rfl, Or.inr ⟨_, rfl⟩⟩))
  | k + 3, hk => exact absurd hk (by simp)
theorem mv_fact8 : mvFact 8 ("RunCuts$Play", mvT8, 2) := by
  refine ⟨rfl, mt_u mv_u8, by decide +kernel, mvN8, mvTy8, mvTyOk8, by decide +kernel, ?_⟩
  intro k hk
  match k, hk with
  | 0, _ => exact Or.inl ⟨rfl, rfl⟩
  | 1, _ => exact Or.inr (Or.inr (Or.inr ⟨rfl, Or.inl ⟨_, rfl⟩⟩))
  | k + 2, hk => exact absurd hk (by simp)
theorem mv_fact9 : mvFact 9 ("RunCuts$Snapshot", mvT9, 9) := by
  refine ⟨rfl, mt_u mv_u9, by decide +kernel, mvN9, mvTy9, mvTyOk9, by decide +kernel, ?_⟩
  intro k hk
  match k, hk with
  | 0, _ => exact Or.inr (Or.inr (Or.inl ⟨rfl, rfl⟩))
  | 1, _ => exact Or.inl ⟨rfl, rfl⟩
  | 2, _ => exact Or.inl ⟨rfl, rfl⟩
  | 3, _ => exact Or.inl ⟨rfl, rfl⟩
  | 4, _ => exact Or.inl ⟨rfl, rfl⟩
  | 5, _ => exact Or.inr (Or.inr (Or.inr ⟨rfl, Or.inl ⟨_, rfl⟩⟩))
  | 6, _ => exact Or.inr (Or.inr (Or.inr ⟨rfl, Or.inl ⟨_, rfl⟩⟩))
  | 7, _ => exact Or.inr (Or.inr (Or.inr ⟨rfl, Or.inl ⟨_, rfl⟩⟩))
  | 8, _ => exact Or.inr (Or.inr (Or.inr ⟨rfl, Or.inl ⟨_, rfl⟩⟩))
  | k + 9, hk => exact absurd hk (by simp)
theorem mv_fact10 : mvFact 10 ("RunCutsModel", mvT10, 45) := by
  refine ⟨rfl, mt_u mv_u10, by decide +kernel, mvN10, mvTy10, mvTyOk10, by decide +kernel, ?_⟩
  intro k hk
  match k, hk with
  | 0, _ => exact Or.inl ⟨rfl, rfl⟩
  | 1, _ => exact Or.inr (Or.inr (Or.inr ⟨rfl, Or.inl ⟨_, rfl⟩⟩))
  | 2, _ => exact Or.inr (Or.inr (Or.inr ⟨rfl, Or.inl ⟨_, rfl⟩⟩))
  | 3, _ => exact Or.inr (Or.inr (Or.inr ⟨rfl, Or.inl ⟨_, rfl⟩⟩))
  | 4, _ => exact Or.inr (Or.inr (Or.inr ⟨rfl, Or.inl ⟨_, rfl⟩⟩))
  | 5, _ => exact Or.inr (Or.inr (Or.inr ⟨rfl, Or.inl ⟨_, rfl⟩⟩))
  | 6, _ => exact Or.inr (Or.inr (Or.inr ⟨rfl, Or.inl ⟨_, rfl⟩⟩))
  | 7, _ => exact Or.inl ⟨rfl, rfl⟩
  | 8, _ => exact Or.inl ⟨rfl, rfl⟩
  | 9, _ => exact Or.inl ⟨rfl, rfl⟩
  | 10, _ => exact Or.inr (Or.inr (Or.inl ⟨rfl, rfl⟩))
  | 11, _ => exact Or.inr (Or.inr (Or.inr ⟨rfl, Or.inl ⟨_, rfl⟩⟩))
  | 12, _ => exact Or.inr (Or.inr (Or.inl ⟨rfl, rfl⟩))
  | 13, _ => exact Or.inl ⟨rfl, rfl⟩
  | 14, _ => exact Or.inl ⟨rfl, rfl⟩
  | 15, _ => exact Or.inl ⟨rfl, rfl⟩
  | 16, _ => exact Or.inl ⟨rfl, rfl⟩
  | 17, _ => exact Or.inl ⟨rfl, rfl⟩
  | 18, _ => exact Or.inr (Or.inr (Or.inr ⟨rfl, Or.inl ⟨_, rfl⟩⟩))
  | 19, _ => exact Or.inl ⟨rfl, rfl⟩
  | 20, _ => exact Or.inl ⟨rfl, rfl⟩
  | 21, _ => exact Or.inl ⟨rfl, rfl⟩
  | 22, _ => exact Or.inr (Or.inr (Or.inr ⟨rfl, Or.inl ⟨_, rfl⟩⟩))
  | 23, _ => exact Or.inr (Or.inr (Or.inr ⟨rfl, Or.inl ⟨_, rfl⟩⟩))
  | 24, _ => exact Or.inr (Or.inr (Or.inr ⟨rfl, Or.inl ⟨_, rfl⟩⟩))
  | 25, _ => exact Or.inr (Or.inr (Or.inr ⟨rfl, Or.inl ⟨_, rfl⟩⟩))
  | 26, _ => exact Or.inr (Or.inr (Or.inr ⟨rfl, Or.inl ⟨_, rfl⟩⟩))
  | 27, _ => exact Or.inr (Or.inr (Or.inr ⟨rfl, Or.inl ⟨_, rfl⟩⟩))
  | 28, _ => exact Or.inr (Or.inr (Or.inr ⟨rfl, Or.inl ⟨_, rfl⟩⟩))
  | 29, _ => exact Or.inr (Or.inr (Or.inr ⟨rfl, Or.inl ⟨_, rfl⟩⟩))
  | 30, _ => exact Or.inr (Or.inr (Or.inr ⟨rfl, Or.inl ⟨_, rfl⟩⟩))
  | 31, _ => exact Or.inr (Or.inr (Or.inr ⟨rfl, Or.inl ⟨_, rfl⟩⟩))
  | 32, _ => exact Or.inr (Or.inr (Or.inr ⟨rfl, Or.inl ⟨_, rfl⟩⟩))
  | 33, _ => exact Or.inr (Or.inr (Or.inr ⟨rfl, Or.inl ⟨_, rfl⟩⟩))
  | 34, _ => exact Or.inr (Or.inr (Or.inr ⟨rfl, Or.inl ⟨_, rfl⟩⟩))
  | 35, _ => exact Or.inr (Or.inr (Or.inr ⟨rfl, Or.inl ⟨_, rfl⟩⟩))
  | 36, _ => exact Or.inr (Or.inr (Or.inr ⟨rfl, Or.inl ⟨_, rfl⟩⟩))
  | 37, _ => exact Or.inr (Or.inr (Or.inr ⟨rfl, Or.inl ⟨_, rfl⟩⟩))
  | 38, _ => exact Or.inr (Or.inr (Or.inr ⟨rfl, Or.inl ⟨_, rfl⟩⟩))
  | 39, _ => exact Or.inr (Or.inr (Or.inr ⟨rfl, Or.inl ⟨_, rfl⟩⟩))
  | 40, _ => exact Or.inr (Or.inl ⟨rfl, rfl⟩)
  | 41, _ => exact Or.inr (Or.inr (Or.inr ⟨rfl, Or.inl ⟨_, rfl⟩⟩))
  | 42, _ => exact Or.inr (Or.inr (Or.inr ⟨rfl, Or.inl ⟨_, rfl⟩⟩))
  | 43, _ => exact Or.inl ⟨rfl, rfl⟩
  | 44, _ => exact Or.inr (Or.inl ⟨rfl, rfl⟩)
  | k + 45, hk => exact absurd hk (by simp)
theorem mv_fact (cf : Nat) (q : vw_C) (h : mvTab[cf]? = some q) : mvFact cf q := by
  match cf, h with
  | 0, h => cases h; exact mv_fact0
  | 1, h => cases h; exact mv_fact1
  | 2, h => cases h; exact mv_fact2
  | 3, h => cases h; exact mv_fact3
  | 4, h => cases h; exact mv_fact4
  | 5, h => cases h; exact mv_fact5
  | 6, h => cases h; exact mv_fact6
  | 7, h => cases h; exact mv_fact7
  | 8, h => cases h; exact mv_fact8
  | 9, h => cases h; exact mv_fact9
  | 10, h => cases h; exact mv_fact10
  | k + 11, h => simp [mvTab] at h
theorem mvNf_of {cf : Nat} {q : vw_C} (h : mvTab[cf]? = some q) : mvNf cf = q.2.2 := by simp [mvNf, h]
theorem mvFd_of {cf : Nat} {q : vw_C} (h : mvTab[cf]? = some q) (f : Nat) : mvFd cf f = q.2.1 f := by simp [mvFd, h]
theorem mv_fl_lt : ∀ z ∈ mvFl, ∃ q, mvTab[z.2.1]? = some q ∧ z.2.2 < q.2.2 := by
  have h : ∀ z ∈ mvFl, z.2.1 < mvTab.length ∧ z.2.2 < mvNf z.2.1 := by decide +kernel
  intro z hz
  obtain ⟨h1, h2⟩ := h z hz
  have e : mvTab[z.2.1]? = some mvTab[z.2.1] := List.getElem?_eq_getElem h1
  exact ⟨_, e, by rw [← mvNf_of e]; exact h2⟩
theorem mv_kl_lt : ∀ z ∈ mvKl, ∃ q, mvTab[z.2]? = some q := by
  have h : ∀ z ∈ mvKl, z.2 < mvTab.length := by decide +kernel
  intro z hz
  exact ⟨_, List.getElem?_eq_getElem (h z hz)⟩
theorem mv_jl_ok : ∀ z ∈ mvJl, -9223372036854775808 ≤ z.2 ∧ z.2 < 9223372036854775808 := by decide +kernel
theorem mv_il_ok : ∀ z ∈ mvIl, -2147483648 ≤ z.2 ∧ z.2 < 2147483648 := by decide +kernel
theorem mv_sh_ok : ∀ q ∈ mvSHl, (q.1 = 0 → q.2.1 < mvTab.length) ∧ q.2.2 ≤ 1000 ∧ (q.1 = 0 ∨ q.1 = 1 ∨ q.1 = 2) := by decide +kernel
theorem mvSH_ok (a : Nat) : ((mvSH a).1 = 0 → ∃ q, mvTab[(mvSH a).2.1]? = some q) ∧ (mvSH a).2.2 ≤ 1000 := by
  unfold mvSH
  cases h : mvSHl[a]? with
  | none => exact ⟨(fun h => absurd h (by decide)), by decide⟩
  | some q =>
    obtain ⟨h1, h2, -⟩ := mv_sh_ok q (List.mem_of_getElem? h)
    exact ⟨fun hq => ⟨_, List.getElem?_eq_getElem (h1 hq)⟩, h2⟩
theorem mv_md_len : mvMd.length = 256 := by decide +kernel
theorem mv_cdl_len : mvCdl.length = 256 := by decide +kernel
/-- each method's decode rows -/
def mvDecAll (j : Nat) : Prop := ∀ q cd, mvMd[j]? = some q → mvCdl[j]? = some cd → ∀ x ∈ cd, decode q.2.1 x.1 = .ok (x.2.1, x.2.2)
theorem mv_zip0 : ∀ z ∈ ((mvMd.map (fun q => q.2.1)).drop 0).take 20 |>.zip ((mvCdl.drop 0).take 20), ∀ x ∈ z.2, decode z.1 x.1 = .ok (x.2.1, x.2.2) := by
  show ∀ z ∈ [(prog_1_method_3_code, mvC0), (prog_1_method_28_code, mvC1), (prog_1_method_33_code, mvC2), (prog_1_method_38_code, mvC3), (prog_1_method_46_code, mvC4), (prog_6_method_2_code, mvC5), (prog_6_method_5_code, mvC6), (prog_6_method_6_code, mvC7), (prog_2_method_3_code, mvC8), (prog_2_method_6_code, mvC9), (prog_2_method_7_code, mvC10), (prog_2_method_8_code, mvC11), (prog_2_method_9_code, mvC12), (prog_2_method_12_code, mvC13), (prog_2_method_15_code, mvC14), (prog_2_method_16_code, mvC15), (prog_2_method_17_code, mvC16), (prog_2_method_18_code, mvC17), (prog_2_method_19_code, mvC18), (prog_2_method_21_code, mvC19)], ∀ x ∈ z.2, decode z.1 x.1 = .ok (x.2.1, x.2.2)
  exact List.forall_mem_cons.mpr ⟨mvD0, List.forall_mem_cons.mpr ⟨mvD1, List.forall_mem_cons.mpr ⟨mvD2, List.forall_mem_cons.mpr ⟨mvD3, List.forall_mem_cons.mpr ⟨mvD4, List.forall_mem_cons.mpr ⟨mvD5, List.forall_mem_cons.mpr ⟨mvD6, List.forall_mem_cons.mpr ⟨mvD7, List.forall_mem_cons.mpr ⟨mvD8, List.forall_mem_cons.mpr ⟨mvD9, List.forall_mem_cons.mpr ⟨mvD10, List.forall_mem_cons.mpr ⟨mvD11, List.forall_mem_cons.mpr ⟨mvD12, List.forall_mem_cons.mpr ⟨mvD13, List.forall_mem_cons.mpr ⟨mvD14, List.forall_mem_cons.mpr ⟨mvD15, List.forall_mem_cons.mpr ⟨mvD16, List.forall_mem_cons.mpr ⟨mvD17, List.forall_mem_cons.mpr ⟨mvD18, List.forall_mem_cons.mpr ⟨mvD19, fun _ h => absurd h List.not_mem_nil⟩⟩⟩⟩⟩⟩⟩⟩⟩⟩⟩⟩⟩⟩⟩⟩⟩⟩⟩⟩
theorem mv_zip1 : ∀ z ∈ ((mvMd.map (fun q => q.2.1)).drop 20).take 20 |>.zip ((mvCdl.drop 20).take 20), ∀ x ∈ z.2, decode z.1 x.1 = .ok (x.2.1, x.2.2) := by
  show ∀ z ∈ [(prog_2_method_22_code, mvC20), (prog_2_method_23_code, mvC21), (prog_2_method_24_code, mvC22), (prog_2_method_25_code, mvC23), (prog_2_method_26_code, mvC24), (prog_2_method_31_code, mvC25), (prog_4_method_8_code, mvC26), (prog_4_method_10_code, mvC27), (prog_8_method_3_code, mvC28), (prog_9_method_5_code, mvC29), (prog_9_method_6_code, mvC30), (prog_3_method_3_code, mvC31), (prog_3_method_4_code, mvC32), (prog_3_method_5_code, mvC33), (prog_3_method_7_code, mvC34), (prog_5_method_2_code, mvC35), (prog_10_method_8_code, mvC36), (prog_10_method_10_code, mvC37), (prog_12_method_3_code, mvC38), (prog_12_method_5_code, mvC39)], ∀ x ∈ z.2, decode z.1 x.1 = .ok (x.2.1, x.2.2)
  exact List.forall_mem_cons.mpr ⟨mvD20, List.forall_mem_cons.mpr ⟨mvD21, List.forall_mem_cons.mpr ⟨mvD22, List.forall_mem_cons.mpr ⟨mvD23, List.forall_mem_cons.mpr ⟨mvD24, List.forall_mem_cons.mpr ⟨mvD25, List.forall_mem_cons.mpr ⟨mvD26, List.forall_mem_cons.mpr ⟨mvD27, List.forall_mem_cons.mpr ⟨mvD28, List.forall_mem_cons.mpr ⟨mvD29, List.forall_mem_cons.mpr ⟨mvD30, List.forall_mem_cons.mpr ⟨mvD31, List.forall_mem_cons.mpr ⟨mvD32, List.forall_mem_cons.mpr ⟨mvD33, List.forall_mem_cons.mpr ⟨mvD34, List.forall_mem_cons.mpr ⟨mvD35, List.forall_mem_cons.mpr ⟨mvD36, List.forall_mem_cons.mpr ⟨mvD37, List.forall_mem_cons.mpr ⟨mvD38, List.forall_mem_cons.mpr ⟨mvD39, fun _ h => absurd h List.not_mem_nil⟩⟩⟩⟩⟩⟩⟩⟩⟩⟩⟩⟩⟩⟩⟩⟩⟩⟩⟩⟩
theorem mv_zip2 : ∀ z ∈ ((mvMd.map (fun q => q.2.1)).drop 40).take 20 |>.zip ((mvCdl.drop 40).take 20), ∀ x ∈ z.2, decode z.1 x.1 = .ok (x.2.1, x.2.2) := by
  show ∀ z ∈ [(prog_12_method_6_code, mvC40), (prog_12_method_10_code, mvC41), (prog_12_method_11_code, mvC42), (prog_12_method_15_code, mvC43), (prog_12_method_17_code, mvC44), (prog_12_method_21_code, mvC45), (prog_12_method_24_code, mvC46), (prog_12_method_31_code, mvC47), (prog_12_method_33_code, mvC48), (prog_12_method_36_code, mvC49), (prog_12_method_37_code, mvC50), (prog_12_method_38_code, mvC51), (prog_12_method_39_code, mvC52), (prog_12_method_40_code, mvC53), (prog_12_method_42_code, mvC54), (prog_12_method_43_code, mvC55), (prog_12_method_44_code, mvC56), (prog_12_method_45_code, mvC57), (prog_12_method_46_code, mvC58), (prog_12_method_90_code, mvC59)], ∀ x ∈ z.2, decode z.1 x.1 = .ok (x.2.1, x.2.2)
  exact List.forall_mem_cons.mpr ⟨mvD40, List.forall_mem_cons.mpr ⟨mvD41, List.forall_mem_cons.mpr ⟨mvD42, List.forall_mem_cons.mpr ⟨mvD43, List.forall_mem_cons.mpr ⟨mvD44, List.forall_mem_cons.mpr ⟨mvD45, List.forall_mem_cons.mpr ⟨mvD46, List.forall_mem_cons.mpr ⟨mvD47, List.forall_mem_cons.mpr ⟨mvD48, List.forall_mem_cons.mpr ⟨mvD49, List.forall_mem_cons.mpr ⟨mvD50, List.forall_mem_cons.mpr ⟨mvD51, List.forall_mem_cons.mpr ⟨mvD52, List.forall_mem_cons.mpr ⟨mvD53, List.forall_mem_cons.mpr ⟨mvD54, List.forall_mem_cons.mpr ⟨mvD55, List.forall_mem_cons.mpr ⟨mvD56, List.forall_mem_cons.mpr ⟨mvD57, List.forall_mem_cons.mpr ⟨mvD58, List.forall_mem_cons.mpr ⟨mvD59, fun _ h => absurd h List.not_mem_nil⟩⟩⟩⟩⟩⟩⟩⟩⟩⟩⟩⟩⟩⟩⟩⟩⟩⟩⟩⟩
theorem mv_zip3 : ∀ z ∈ ((mvMd.map (fun q => q.2.1)).drop 60).take 20 |>.zip ((mvCdl.drop 60).take 20), ∀ x ∈ z.2, decode z.1 x.1 = .ok (x.2.1, x.2.2) := by
  show ∀ z ∈ [(prog_12_method_95_code, mvC60), (prog_12_method_96_code, mvC61), (prog_12_method_106_code, mvC62), (prog_12_method_108_code, mvC63), (prog_12_method_111_code, mvC64), (prog_15_method_103_code, mvC65), (prog_13_method_49_code, mvC66), (prog_1_method_2_code, mvC67), (prog_1_method_13_code, mvC68), (prog_1_method_30_code, mvC69), (prog_1_method_31_code, mvC70), (prog_1_method_36_code, mvC71), (prog_1_method_39_code, mvC72), (prog_1_method_42_code, mvC73), (prog_6_method_1_code, mvC74), (prog_6_method_3_code, mvC75), (prog_2_method_1_code, mvC76), (prog_2_method_2_code, mvC77), (prog_2_method_4_code, mvC78), (prog_2_method_5_code, mvC79)], ∀ x ∈ z.2, decode z.1 x.1 = .ok (x.2.1, x.2.2)
  exact List.forall_mem_cons.mpr ⟨mvD60, List.forall_mem_cons.mpr ⟨mvD61, List.forall_mem_cons.mpr ⟨mvD62, List.forall_mem_cons.mpr ⟨mvD63, List.forall_mem_cons.mpr ⟨mvD64, List.forall_mem_cons.mpr ⟨mvD65, List.forall_mem_cons.mpr ⟨mvD66, List.forall_mem_cons.mpr ⟨mvD67, List.forall_mem_cons.mpr ⟨mvD68, List.forall_mem_cons.mpr ⟨mvD69, List.forall_mem_cons.mpr ⟨mvD70, List.forall_mem_cons.mpr ⟨mvD71, List.forall_mem_cons.mpr ⟨mvD72, List.forall_mem_cons.mpr ⟨mvD73, List.forall_mem_cons.mpr ⟨mvD74, List.forall_mem_cons.mpr ⟨mvD75, List.forall_mem_cons.mpr ⟨mvD76, List.forall_mem_cons.mpr ⟨mvD77, List.forall_mem_cons.mpr ⟨mvD78, List.forall_mem_cons.mpr ⟨mvD79, fun _ h => absurd h List.not_mem_nil⟩⟩⟩⟩⟩⟩⟩⟩⟩⟩⟩⟩⟩⟩⟩⟩⟩⟩⟩⟩
theorem mv_zip4 : ∀ z ∈ ((mvMd.map (fun q => q.2.1)).drop 80).take 20 |>.zip ((mvCdl.drop 80).take 20), ∀ x ∈ z.2, decode z.1 x.1 = .ok (x.2.1, x.2.2) := by
  show ∀ z ∈ [(prog_2_method_11_code, mvC80), (prog_2_method_14_code, mvC81), (prog_2_method_20_code, mvC82), (prog_2_method_28_code, mvC83), (prog_2_method_29_code, mvC84), (prog_2_method_32_code, mvC85), (prog_2_method_33_code, mvC86), (prog_2_method_34_code, mvC87), (prog_4_method_1_code, mvC88), (prog_4_method_3_code, mvC89), (prog_4_method_6_code, mvC90), (prog_4_method_9_code, mvC91), (prog_4_method_11_code, mvC92), (prog_8_method_1_code, mvC93), (prog_8_method_2_code, mvC94), (prog_8_method_5_code, mvC95), (prog_8_method_6_code, mvC96), (prog_8_method_7_code, mvC97), (prog_9_method_1_code, mvC98), (prog_3_method_1_code, mvC99)], ∀ x ∈ z.2, decode z.1 x.1 = .ok (x.2.1, x.2.2)
  exact List.forall_mem_cons.mpr ⟨mvD80, List.forall_mem_cons.mpr ⟨mvD81, List.forall_mem_cons.mpr ⟨mvD82, List.forall_mem_cons.mpr ⟨mvD83, List.forall_mem_cons.mpr ⟨mvD84, List.forall_mem_cons.mpr ⟨mvD85, List.forall_mem_cons.mpr ⟨mvD86, List.forall_mem_cons.mpr ⟨mvD87, List.forall_mem_cons.mpr ⟨mvD88, List.forall_mem_cons.mpr ⟨mvD89, List.forall_mem_cons.mpr ⟨mvD90, List.forall_mem_cons.mpr ⟨mvD91, List.forall_mem_cons.mpr ⟨mvD92, List.forall_mem_cons.mpr ⟨mvD93, List.forall_mem_cons.mpr ⟨mvD94, List.forall_mem_cons.mpr ⟨mvD95, List.forall_mem_cons.mpr ⟨mvD96, List.forall_mem_cons.mpr ⟨mvD97, List.forall_mem_cons.mpr ⟨mvD98, List.forall_mem_cons.mpr ⟨mvD99, fun _ h => absurd h List.not_mem_nil⟩⟩⟩⟩⟩⟩⟩⟩⟩⟩⟩⟩⟩⟩⟩⟩⟩⟩⟩⟩
theorem mv_zip5 : ∀ z ∈ ((mvMd.map (fun q => q.2.1)).drop 100).take 20 |>.zip ((mvCdl.drop 100).take 20), ∀ x ∈ z.2, decode z.1 x.1 = .ok (x.2.1, x.2.2) := by
  show ∀ z ∈ [(prog_3_method_2_code, mvC100), (prog_3_method_9_code, mvC101), (prog_5_method_4_code, mvC102), (prog_5_method_5_code, mvC103), (prog_7_method_1_code, mvC104), (prog_7_method_3_code, mvC105), (prog_10_method_1_code, mvC106), (prog_10_method_3_code, mvC107), (prog_10_method_4_code, mvC108), (prog_10_method_5_code, mvC109), (prog_12_method_1_code, mvC110), (prog_12_method_4_code, mvC111), (prog_12_method_7_code, mvC112), (prog_12_method_12_code, mvC113), (prog_12_method_18_code, mvC114), (prog_12_method_20_code, mvC115), (prog_12_method_22_code, mvC116), (prog_12_method_25_code, mvC117), (prog_12_method_34_code, mvC118), (prog_12_method_41_code, mvC119)], ∀ x ∈ z.2, decode z.1 x.1 = .ok (x.2.1, x.2.2)
  exact List.forall_mem_cons.mpr ⟨mvD100, List.forall_mem_cons.mpr ⟨mvD101, List.forall_mem_cons.mpr ⟨mvD102, List.forall_mem_cons.mpr ⟨mvD103, List.forall_mem_cons.mpr ⟨mvD104, List.forall_mem_cons.mpr ⟨mvD105, List.forall_mem_cons.mpr ⟨mvD106, List.forall_mem_cons.mpr ⟨mvD107, List.forall_mem_cons.mpr ⟨mvD108, List.forall_mem_cons.mpr ⟨mvD109, List.forall_mem_cons.mpr ⟨mvD110, List.forall_mem_cons.mpr ⟨mvD111, List.forall_mem_cons.mpr ⟨mvD112, List.forall_mem_cons.mpr ⟨mvD113, List.forall_mem_cons.mpr ⟨mvD114, List.forall_mem_cons.mpr ⟨mvD115, List.forall_mem_cons.mpr ⟨mvD116, List.forall_mem_cons.mpr ⟨mvD117, List.forall_mem_cons.mpr ⟨mvD118, List.forall_mem_cons.mpr ⟨mvD119, fun _ h => absurd h List.not_mem_nil⟩⟩⟩⟩⟩⟩⟩⟩⟩⟩⟩⟩⟩⟩⟩⟩⟩⟩⟩⟩
theorem mv_zip6 : ∀ z ∈ ((mvMd.map (fun q => q.2.1)).drop 120).take 20 |>.zip ((mvCdl.drop 120).take 20), ∀ x ∈ z.2, decode z.1 x.1 = .ok (x.2.1, x.2.2) := by
  show ∀ z ∈ [(prog_12_method_47_code, mvC120), (prog_12_method_48_code, mvC121), (prog_12_method_50_code, mvC122), (prog_12_method_51_code, mvC123), (prog_12_method_54_code, mvC124), (prog_12_method_61_code, mvC125), (prog_12_method_64_code, mvC126), (prog_12_method_66_code, mvC127), (prog_12_method_69_code, mvC128), (prog_12_method_72_code, mvC129), (prog_12_method_74_code, mvC130), (prog_12_method_80_code, mvC131), (prog_12_method_87_code, mvC132), (prog_12_method_97_code, mvC133), (prog_12_method_99_code, mvC134), (prog_12_method_100_code, mvC135), (prog_12_method_102_code, mvC136), (prog_12_method_107_code, mvC137), (prog_12_method_109_code, mvC138), (prog_12_method_116_code, mvC139)], ∀ x ∈ z.2, decode z.1 x.1 = .ok (x.2.1, x.2.2)
  exact List.forall_mem_cons.mpr ⟨mvD120, List.forall_mem_cons.mpr ⟨mvD121, List.forall_mem_cons.mpr ⟨mvD122, List.forall_mem_cons.mpr ⟨mvD123, List.forall_mem_cons.mpr ⟨mvD124, List.forall_mem_cons.mpr ⟨mvD125, List.forall_mem_cons.mpr ⟨mvD126, List.forall_mem_cons.mpr ⟨mvD127, List.forall_mem_cons.mpr ⟨mvD128, List.forall_mem_cons.mpr ⟨mvD129, List.forall_mem_cons.mpr ⟨mvD130, List.forall_mem_cons.mpr ⟨mvD131, List.forall_mem_cons.mpr ⟨mvD132, List.forall_mem_cons.mpr ⟨mvD133, List.forall_mem_cons.mpr ⟨mvD134, List.forall_mem_cons.mpr ⟨mvD135, List.forall_mem_cons.mpr ⟨mvD136, List.forall_mem_cons.mpr ⟨mvD137, List.forall_mem_cons.mpr ⟨mvD138, List.forall_mem_cons.mpr ⟨mvD139, fun _ h => absurd h List.not_mem_nil⟩⟩⟩⟩⟩⟩⟩⟩⟩⟩⟩⟩⟩⟩⟩⟩⟩⟩⟩⟩
theorem mv_zip7 : ∀ z ∈ ((mvMd.map (fun q => q.2.1)).drop 140).take 20 |>.zip ((mvCdl.drop 140).take 20), ∀ x ∈ z.2, decode z.1 x.1 = .ok (x.2.1, x.2.2) := by
  show ∀ z ∈ [(prog_1_method_4_code, mvC140), (prog_1_method_10_code, mvC141), (prog_1_method_11_code, mvC142), (prog_1_method_19_code, mvC143), (prog_1_method_20_code, mvC144), (prog_1_method_25_code, mvC145), (prog_1_method_34_code, mvC146), (prog_1_method_41_code, mvC147), (prog_6_method_4_code, mvC148), (prog_2_method_27_code, mvC149), (prog_2_method_30_code, mvC150), (prog_4_method_4_code, mvC151), (prog_4_method_5_code, mvC152), (prog_4_method_7_code, mvC153), (prog_8_method_4_code, mvC154), (prog_9_method_3_code, mvC155), (prog_3_method_8_code, mvC156), (prog_5_method_1_code, mvC157), (prog_10_method_9_code, mvC158), (prog_12_method_8_code, mvC159)], ∀ x ∈ z.2, decode z.1 x.1 = .ok (x.2.1, x.2.2)
  exact List.forall_mem_cons.mpr ⟨mvD140, List.forall_mem_cons.mpr ⟨mvD141, List.forall_mem_cons.mpr ⟨mvD142, List.forall_mem_cons.mpr ⟨mvD143, List.forall_mem_cons.mpr ⟨mvD144, List.forall_mem_cons.mpr ⟨mvD145, List.forall_mem_cons.mpr ⟨mvD146, List.forall_mem_cons.mpr ⟨mvD147, List.forall_mem_cons.mpr ⟨mvD148, List.forall_mem_cons.mpr ⟨mvD149, List.forall_mem_cons.mpr ⟨mvD150, List.forall_mem_cons.mpr ⟨mvD151, List.forall_mem_cons.mpr ⟨mvD152, List.forall_mem_cons.mpr ⟨mvD153, List.forall_mem_cons.mpr ⟨mvD154, List.forall_mem_cons.mpr ⟨mvD155, List.forall_mem_cons.mpr ⟨mvD156, List.forall_mem_cons.mpr ⟨mvD157, List.forall_mem_cons.mpr ⟨mvD158, List.forall_mem_cons.mpr ⟨mvD159, fun _ h => absurd h List.not_mem_nil⟩⟩⟩⟩⟩⟩⟩⟩⟩⟩⟩⟩⟩⟩⟩⟩⟩⟩⟩⟩
theorem mv_zip8 : ∀ z ∈ ((mvMd.map (fun q => q.2.1)).drop 160).take 20 |>.zip ((mvCdl.drop 160).take 20), ∀ x ∈ z.2, decode z.1 x.1 = .ok (x.2.1, x.2.2) := by
  show ∀ z ∈ [(prog_12_method_13_code, mvC160), (prog_12_method_19_code, mvC161), (prog_12_method_23_code, mvC162), (prog_12_method_49_code, mvC163), (prog_12_method_55_code, mvC164), (prog_12_method_59_code, mvC165), (prog_12_method_60_code, mvC166), (prog_12_method_62_code, mvC167), (prog_12_method_63_code, mvC168), (prog_12_method_65_code, mvC169), (prog_12_method_73_code, mvC170), (prog_12_method_75_code, mvC171), (prog_12_method_78_code, mvC172), (prog_12_method_83_code, mvC173), (prog_12_method_84_code, mvC174), (prog_12_method_98_code, mvC175), (prog_12_method_101_code, mvC176), (prog_12_method_110_code, mvC177), (prog_1_method_1_code, mvC178), (prog_1_method_14_code, mvC179)], ∀ x ∈ z.2, decode z.1 x.1 = .ok (x.2.1, x.2.2)
  exact List.forall_mem_cons.mpr ⟨mvD160, List.forall_mem_cons.mpr ⟨mvD161, List.forall_mem_cons.mpr ⟨mvD162, List.forall_mem_cons.mpr ⟨mvD163, List.forall_mem_cons.mpr ⟨mvD164, List.forall_mem_cons.mpr ⟨mvD165, List.forall_mem_cons.mpr ⟨mvD166, List.forall_mem_cons.mpr ⟨mvD167, List.forall_mem_cons.mpr ⟨mvD168, List.forall_mem_cons.mpr ⟨mvD169, List.forall_mem_cons.mpr ⟨mvD170, List.forall_mem_cons.mpr ⟨mvD171, List.forall_mem_cons.mpr ⟨mvD172, List.forall_mem_cons.mpr ⟨mvD173, List.forall_mem_cons.mpr ⟨mvD174, List.forall_mem_cons.mpr ⟨mvD175, List.forall_mem_cons.mpr ⟨mvD176, List.forall_mem_cons.mpr ⟨mvD177, List.forall_mem_cons.mpr ⟨mvD178, List.forall_mem_cons.mpr ⟨mvD179, fun _ h => absurd h List.not_mem_nil⟩⟩⟩⟩⟩⟩⟩⟩⟩⟩⟩⟩⟩⟩⟩⟩⟩⟩⟩⟩
theorem mv_zip9 : ∀ z ∈ ((mvMd.map (fun q => q.2.1)).drop 180).take 20 |>.zip ((mvCdl.drop 180).take 20), ∀ x ∈ z.2, decode z.1 x.1 = .ok (x.2.1, x.2.2) := by
  show ∀ z ∈ [(prog_1_method_44_code, mvC180), (prog_1_method_45_code, mvC181), (prog_2_method_13_code, mvC182), (prog_4_method_2_code, mvC183), (prog_9_method_4_code, mvC184), (prog_3_method_6_code, mvC185), (prog_7_method_2_code, mvC186), (prog_10_method_6_code, mvC187), (prog_12_method_9_code, mvC188), (prog_12_method_16_code, mvC189), (prog_12_method_32_code, mvC190), (prog_12_method_35_code, mvC191), (prog_12_method_52_code, mvC192), (prog_12_method_85_code, mvC193), (prog_12_method_86_code, mvC194), (prog_12_method_91_code, mvC195), (prog_12_method_92_code, mvC196), (prog_12_method_103_code, mvC197), (prog_12_method_113_code, mvC198), (prog_1_method_12_code, mvC199)], ∀ x ∈ z.2, decode z.1 x.1 = .ok (x.2.1, x.2.2)
  exact List.forall_mem_cons.mpr ⟨mvD180, List.forall_mem_cons.mpr ⟨mvD181, List.forall_mem_cons.mpr ⟨mvD182, List.forall_mem_cons.mpr ⟨mvD183, List.forall_mem_cons.mpr ⟨mvD184, List.forall_mem_cons.mpr ⟨mvD185, List.forall_mem_cons.mpr ⟨mvD186, List.forall_mem_cons.mpr ⟨mvD187, List.forall_mem_cons.mpr ⟨mvD188, List.forall_mem_cons.mpr ⟨mvD189, List.forall_mem_cons.mpr ⟨mvD190, List.forall_mem_cons.mpr ⟨mvD191, List.forall_mem_cons.mpr ⟨mvD192, List.forall_mem_cons.mpr ⟨mvD193, List.forall_mem_cons.mpr ⟨mvD194, List.forall_mem_cons.mpr ⟨mvD195, List.forall_mem_cons.mpr ⟨mvD196, List.forall_mem_cons.mpr ⟨mvD197, List.forall_mem_cons.mpr ⟨mvD198, List.forall_mem_cons.mpr ⟨mvD199, fun _ h => absurd h List.not_mem_nil⟩⟩⟩⟩⟩⟩⟩⟩⟩⟩⟩⟩⟩⟩⟩⟩⟩⟩⟩⟩
theorem mv_zip10 : ∀ z ∈ ((mvMd.map (fun q => q.2.1)).drop 200).take 20 |>.zip ((mvCdl.drop 200).take 20), ∀ x ∈ z.2, decode z.1 x.1 = .ok (x.2.1, x.2.2) := by
  show ∀ z ∈ [(prog_1_method_15_code, mvC200), (prog_1_method_16_code, mvC201), (prog_1_method_17_code, mvC202), (prog_1_method_18_code, mvC203), (prog_1_method_24_code, mvC204), (prog_1_method_27_code, mvC205), (prog_1_method_35_code, mvC206), (prog_2_method_10_code, mvC207), (prog_9_method_2_code, mvC208), (prog_10_method_7_code, mvC209), (prog_12_method_14_code, mvC210), (prog_12_method_26_code, mvC211), (prog_12_method_30_code, mvC212), (prog_12_method_53_code, mvC213), (prog_12_method_88_code, mvC214), (prog_12_method_104_code, mvC215), (prog_1_method_5_code, mvC216), (prog_1_method_9_code, mvC217), (prog_1_method_40_code, mvC218), (prog_1_method_43_code, mvC219)], ∀ x ∈ z.2, decode z.1 x.1 = .ok (x.2.1, x.2.2)
  exact List.forall_mem_cons.mpr ⟨mvD200, List.forall_mem_cons.mpr ⟨mvD201, List.forall_mem_cons.mpr ⟨mvD202, List.forall_mem_cons.mpr ⟨mvD203, List.forall_mem_cons.mpr ⟨mvD204, List.forall_mem_cons.mpr ⟨mvD205, List.forall_mem_cons.mpr ⟨mvD206, List.forall_mem_cons.mpr ⟨mvD207, List.forall_mem_cons.mpr ⟨mvD208, List.forall_mem_cons.mpr ⟨mvD209, List.forall_mem_cons.mpr ⟨mvD210, List.forall_mem_cons.mpr ⟨mvD211, List.forall_mem_cons.mpr ⟨mvD212, List.forall_mem_cons.mpr ⟨mvD213, List.forall_mem_cons.mpr ⟨mvD214, List.forall_mem_cons.mpr ⟨mvD215, List.forall_mem_cons.mpr ⟨mvD216, List.forall_mem_cons.mpr ⟨mvD217, List.forall_mem_cons.mpr ⟨mvD218, List.forall_mem_cons.mpr ⟨mvD219, fun _ h => absurd h List.not_mem_nil⟩⟩⟩⟩⟩⟩⟩⟩⟩⟩⟩⟩⟩⟩⟩⟩⟩⟩⟩⟩
theorem mv_zip11 : ∀ z ∈ ((mvMd.map (fun q => q.2.1)).drop 220).take 20 |>.zip ((mvCdl.drop 220).take 20), ∀ x ∈ z.2, decode z.1 x.1 = .ok (x.2.1, x.2.2) := by
  show ∀ z ∈ [(prog_5_method_3_code, mvC220), (prog_10_method_2_code, mvC221), (prog_12_method_27_code, mvC222), (prog_12_method_28_code, mvC223), (prog_12_method_29_code, mvC224), (prog_12_method_57_code, mvC225), (prog_12_method_67_code, mvC226), (prog_12_method_70_code, mvC227), (prog_12_method_76_code, mvC228), (prog_12_method_79_code, mvC229), (prog_12_method_81_code, mvC230), (prog_12_method_89_code, mvC231), (prog_12_method_93_code, mvC232), (prog_12_method_105_code, mvC233), (prog_1_method_6_code, mvC234), (prog_1_method_7_code, mvC235), (prog_1_method_8_code, mvC236), (prog_1_method_21_code, mvC237), (prog_1_method_22_code, mvC238), (prog_1_method_23_code, mvC239)], ∀ x ∈ z.2, decode z.1 x.1 = .ok (x.2.1, x.2.2)
  exact List.forall_mem_cons.mpr ⟨mvD220, List.forall_mem_cons.mpr ⟨mvD221, List.forall_mem_cons.mpr ⟨mvD222, List.forall_mem_cons.mpr ⟨mvD223, List.forall_mem_cons.mpr ⟨mvD224, List.forall_mem_cons.mpr ⟨mvD225, List.forall_mem_cons.mpr ⟨mvD226, List.forall_mem_cons.mpr ⟨mvD227, List.forall_mem_cons.mpr ⟨mvD228, List.forall_mem_cons.mpr ⟨mvD229, List.forall_mem_cons.mpr ⟨mvD230, List.forall_mem_cons.mpr ⟨mvD231, List.forall_mem_cons.mpr ⟨mvD232, List.forall_mem_cons.mpr ⟨mvD233, List.forall_mem_cons.mpr ⟨mvD234, List.forall_mem_cons.mpr ⟨mvD235, List.forall_mem_cons.mpr ⟨mvD236, List.forall_mem_cons.mpr ⟨mvD237, List.forall_mem_cons.mpr ⟨mvD238, List.forall_mem_cons.mpr ⟨mvD239, fun _ h => absurd h List.not_mem_nil⟩⟩⟩⟩⟩⟩⟩⟩⟩⟩⟩⟩⟩⟩⟩⟩⟩⟩⟩⟩
theorem mv_zip12 : ∀ z ∈ ((mvMd.map (fun q => q.2.1)).drop 240).take 16 |>.zip ((mvCdl.drop 240).take 16), ∀ x ∈ z.2, decode z.1 x.1 = .ok (x.2.1, x.2.2) := by
  show ∀ z ∈ [(prog_1_method_26_code, mvC240), (prog_1_method_29_code, mvC241), (prog_1_method_37_code, mvC242), (prog_12_method_56_code, mvC243), (prog_12_method_68_code, mvC244), (prog_12_method_71_code, mvC245), (prog_12_method_77_code, mvC246), (prog_12_method_82_code, mvC247), (prog_12_method_94_code, mvC248), (prog_12_method_112_code, mvC249), (prog_12_method_114_code, mvC250), (prog_12_method_115_code, mvC251), (prog_1_method_32_code, mvC252), (prog_12_method_58_code, mvC253), (prog_12_method_117_code, mvC254), (code, mvC255)], ∀ x ∈ z.2, decode z.1 x.1 = .ok (x.2.1, x.2.2)
  exact List.forall_mem_cons.mpr ⟨mvD240, List.forall_mem_cons.mpr ⟨mvD241, List.forall_mem_cons.mpr ⟨mvD242, List.forall_mem_cons.mpr ⟨mvD243, List.forall_mem_cons.mpr ⟨mvD244, List.forall_mem_cons.mpr ⟨mvD245, List.forall_mem_cons.mpr ⟨mvD246, List.forall_mem_cons.mpr ⟨mvD247, List.forall_mem_cons.mpr ⟨mvD248, List.forall_mem_cons.mpr ⟨mvD249, List.forall_mem_cons.mpr ⟨mvD250, List.forall_mem_cons.mpr ⟨mvD251, List.forall_mem_cons.mpr ⟨mvD252, List.forall_mem_cons.mpr ⟨mvD253, List.forall_mem_cons.mpr ⟨mvD254, List.forall_mem_cons.mpr ⟨mvD255, fun _ h => absurd h List.not_mem_nil⟩⟩⟩⟩⟩⟩⟩⟩⟩⟩⟩⟩⟩⟩⟩⟩
theorem mv_zip : ∀ z ∈ mvMd.zip mvCdl, ∀ x ∈ z.2, decode z.1.2.1 x.1 = .ok (x.2.1, x.2.2) := by
  intro z hz
  obtain ⟨j, hj⟩ := List.getElem?_of_mem hz
  rw [List.getElem?_zip_eq_some] at hj
  have hl : j < 256 := by
    have := (List.getElem?_eq_some_iff.mp hj.2).1
    rw [mv_cdl_len] at this
    exact this
  have h1 : (mvMd.map (fun q => q.2.1))[j]? = some z.1.2.1 := by rw [List.getElem?_map, hj.1]; rfl
  have key : ∀ a n : Nat, a ≤ j → j < a + n → (z.1.2.1, z.2) ∈ (((mvMd.map (fun q => q.2.1)).drop a).take n).zip ((mvCdl.drop a).take n) := by
    intro a n h2 h3
    refine List.mem_of_getElem? (i := j - a) ?_
    rw [List.getElem?_zip_eq_some, List.getElem?_take_of_lt (by omega), List.getElem?_take_of_lt (by omega), List.getElem?_drop, List.getElem?_drop, show a + (j - a) = j by omega]
    exact ⟨h1, hj.2⟩
  rcases Nat.lt_or_ge j 20 with hc | hc
  · exact mv_zip0 _ (key 0 20 (by omega) (by omega))
  rcases Nat.lt_or_ge j 40 with hc | hc
  · exact mv_zip1 _ (key 20 20 (by omega) (by omega))
  rcases Nat.lt_or_ge j 60 with hc | hc
  · exact mv_zip2 _ (key 40 20 (by omega) (by omega))
  rcases Nat.lt_or_ge j 80 with hc | hc
  · exact mv_zip3 _ (key 60 20 (by omega) (by omega))
  rcases Nat.lt_or_ge j 100 with hc | hc
  · exact mv_zip4 _ (key 80 20 (by omega) (by omega))
  rcases Nat.lt_or_ge j 120 with hc | hc
  · exact mv_zip5 _ (key 100 20 (by omega) (by omega))
  rcases Nat.lt_or_ge j 140 with hc | hc
  · exact mv_zip6 _ (key 120 20 (by omega) (by omega))
  rcases Nat.lt_or_ge j 160 with hc | hc
  · exact mv_zip7 _ (key 140 20 (by omega) (by omega))
  rcases Nat.lt_or_ge j 180 with hc | hc
  · exact mv_zip8 _ (key 160 20 (by omega) (by omega))
  rcases Nat.lt_or_ge j 200 with hc | hc
  · exact mv_zip9 _ (key 180 20 (by omega) (by omega))
  rcases Nat.lt_or_ge j 220 with hc | hc
  · exact mv_zip10 _ (key 200 20 (by omega) (by omega))
  rcases Nat.lt_or_ge j 240 with hc | hc
  · exact mv_zip11 _ (key 220 20 (by omega) (by omega))
  exact mv_zip12 _ (key 240 16 (by omega) (by omega))
theorem mv_decAll (j : Nat) : mvDecAll j := by
  intro q cd hq hcd
  have hz : (mvMd.zip mvCdl)[j]? = some (q, cd) := by rw [List.getElem?_zip_eq_some]; exact ⟨hq, hcd⟩
  exact mv_zip _ (List.mem_of_getElem? hz)
theorem mv_dec {j pc : Nat} {q : mvMt} {ins : Instr} {len : Nat} (hq : mvMd[j]? = some q) (hd : mvDec j pc = some (ins, len)) : decode q.2.1 pc = .ok (ins, len) := by
  unfold mvDec at hd
  split at hd
  · rename_i cd hcd
    have h := mv_decAll j
    unfold mvDecAll at h
    exact h q cd hq hcd (pc, (ins, len)) (mv_lookup hd)
  · cases hd
/-- what the lists say of the methods that are called -/
theorem mv_codeAll : ∀ q ∈ mvMd, ¬ q.2.2.2.2.1 = 11 → mvWcode q ∈ lw_tbl := by
  show ∀ q ∈ mvMd0 ++ (mvMd1 ++ (mvMd2 ++ (mvMd3 ++ (mvMd4 ++ (mvMd5 ++ (mvMd6)))))), ¬ q.2.2.2.2.1 = 11 → mvWcode q ∈ lw_tbl
  exact List.forall_mem_append.mpr ⟨mv_code0, List.forall_mem_append.mpr ⟨mv_code1, List.forall_mem_append.mpr ⟨mv_code2, List.forall_mem_append.mpr ⟨mv_code3, List.forall_mem_append.mpr ⟨mv_code4, List.forall_mem_append.mpr ⟨mv_code5, mv_code6⟩⟩⟩⟩⟩⟩
theorem mt_code {q : mvMt} (h : q ∈ mvMd) (ho : ¬ q.2.2.2.2.1 = 11) : mvWcode q ∈ mvTb := mvTb_of (mv_codeAll q h ho) rfl
end
section
/-! ONE STEP of the mini machine is a step of the machine -/
def mvSl (a : Nat) : Nat := if (mvSH a).1 = 0 then mvNf (mvSH a).2.1 else (mvSH a).2.2
def mvSz : Nat → Nat
  | 0 => 0
  | n + 1 => mvSz n + mvSl n
theorem mvSz_mono {a b : Nat} (h : a ≤ b) : mvSz a ≤ mvSz b := by
  induction h with
  | refl => exact Nat.le_refl _
  | step _ ih => exact Nat.le_trans ih (Nat.le_add_right _ _)
def mvOk (v : mvV) : Prop := match v with
  | .inl x => mv32 x
  | .inr (.inl x) => mv64 x
  | .inr (.inr _) => True
def mvLf (a : Nat) (i : Int) : Prop := ∃ f : Nat, i = f ∧ (mvSH a).1 = 0 ∧ mvFt (mvSH a).2.1 f = 1
def mvOkh (h : Nat → Int → Int) : Prop := ∀ (a : Nat) (i : Int), mv64 (h a i) ∧ (¬ mvLf a i → mv32 (h a i))
def mvOks (t1 t2 : Int → Int) (σ : mvS) : Prop := 3 ≤ σ.1 ∧ mvOkh σ.2.2 ∧ σ.2.2 1 = t1 ∧ σ.2.2 2 = t2
/-- the words of nest mates -/
def mvNs (U : State) : Prop := (∀ z ∈ mvMl.filter (fun z => decide (z.2.1 = 4 ∨ z.2.1 = 6)), va_Nw (Jvm.Cond.methodLinkNest (mvCn z.1.1) z.1.2 (mvY z.2.2) "RunCuts") U) ∧ va_Nw (Jvm.Cond.fieldLinkNest "RunCuts$Events" 91 "RunCuts" "TENS" "[I" "RunCuts") U
def mvEnv (b : mvBs) (D : va_G) (cA0 cA1 : ClassId) (t1 t2 : Int → Int) (Ls : Nat) (U : State) : Prop :=
  va_K D mvTab [(cA0, .int), (cA1, .boolean)] U ∧ va_Z "RunCuts" "TENS" "[I" (.ref b.2.1) (fun q => b.1 ≤ q) U U.heap ∧ va_T .int b.2.1 4 (fun j => .int (Int32.ofInt (t1 (j : Int)))) (fun q => b.1 ≤ q) U U.heap ∧ va_X b.2.2 Ls (fun j => Int32.ofInt (t2 (j : Int))) U U.heap ∧
  b.2.1 < b.1 ∧ b.2.2 < b.1 ∧ b.1 ≤ U.heap.size ∧ (Ls : Int) = t2 (-1) ∧ Ls < 2147483648 ∧ mvNs U
/-- what stands between the mini machine's state and the machine's -/
def mvRel (b : mvBs) (D : va_G) (cA0 cA1 : ClassId) (t1 t2 : Int → Int) (s : State) (σ : mvS) (L : mvL) (S : List mvV) (H : Heap) (locs : List Loc) (ls : Array Slot) : Prop :=
  mvOks t1 t2 σ ∧ (∀ v ∈ S, mvOk v) ∧ (∀ (i : Nat) (v : mvV), mvGet L i = some v → mvOk v) ∧ H.size = b.1 + (σ.1 - 3) ∧ va_P D mvTab (mvWd b cA0 cA1 σ) H ∧ va_S (fun q => b.1 ≤ q) s.heap H locs ∧ mvLr b L ls
theorem mvRel.st {b : mvBs} {D : va_G} {cA0 cA1 : ClassId} {t1 t2 : Int → Int} {s : State} {σ : mvS} {L : mvL} {S S' : List mvV} {H : Heap} {locs : List Loc} {ls : Array Slot} (h : mvRel b D cA0 cA1 t1 t2 s σ L S H locs ls) (hS : ∀ v ∈ S', mvOk v) : mvRel b D cA0 cA1 t1 t2 s σ L S' H locs ls := ⟨h.1, hS, h.2.2⟩
theorem mvOk_set {L L' : mvL} {i : Nat} {v : mvV} (h : mvSt L i v = some L') (hL : ∀ (i : Nat) (v : mvV), mvGet L i = some v → mvOk v) (hv : mvOk v) : ∀ (i : Nat) (v : mvV), mvGet L' i = some v → mvOk v := by
  unfold mvSt at h
  split at h
  · rename_i hh
    cases h
    intro k u hk
    rw [mvGet_set hh.1] at hk
    split at hk
    · cases hk; exact hv
    · exact hL k u hk
  · cases h
theorem mvOk_set2 {L L' : mvL} {i : Nat} {v : mvV} (h : mvSt2 L i v = some L') (hL : ∀ (i : Nat) (v : mvV), mvGet L i = some v → mvOk v) (hv : mvOk v) : ∀ (i : Nat) (v : mvV), mvGet L' i = some v → mvOk v := by
  unfold mvSt2 at h
  split at h
  · rename_i hh
    cases h
    intro k u hk
    rw [mvGet_set (by rw [List.length_set]; exact hh.1)] at hk
    split at hk
    · cases hk
    · rw [mvGet_set (by omega)] at hk
      split at hk
      · cases hk; exact hv
      · exact hL k u hk
  · cases h
theorem mvLf_arr {a : Nat} {i : Int} (h : (mvSH a).1 = 1) : ¬ mvLf a i := by
  rintro ⟨f, -, h2, -⟩
  rw [h] at h2
  cases h2
theorem mvOkh_upd {h : Nat → Int → Int} {a : Nat} {i x : Int} (H : mvOkh h) (h1 : mv64 x) (h2 : ¬ mvLf a i → mv32 x) : mvOkh (mvUpd h a i x) := by
  intro k j
  unfold mvUpd
  split
  · rename_i hh
    obtain ⟨rfl, rfl⟩ := hh
    exact ⟨h1, h2⟩
  · exact H k j
theorem mvUpd_ne {h : Nat → Int → Int} {a k : Nat} {i x : Int} (hk : ¬ k = a) : mvUpd h a i x k = h k := by
  funext j
  unfold mvUpd
  rw [if_neg (fun q => hk q.1)]
theorem mvUpg_ne {g : Nat → Nat → Nat} {a f x k : Nat} (hk : ¬ k = a) : mvUpg g a f x k = g k := by
  funext j
  unfold mvUpg
  rw [if_neg (fun q => hk q.1)]
theorem mvCe_congr {b : mvBs} {cA0 cA1 : ClassId} {σ σ' : mvS} {k : Nat} (h1 : σ'.2.1 k = σ.2.1 k) (h2 : σ'.2.2 k = σ.2.2 k) : mvCe b cA0 cA1 σ' k = mvCe b cA0 cA1 σ k := by
  unfold mvCe mvFv
  rw [h1, h2]
theorem mvFs_get {b : mvBs} {σ : mvS} {a cf f N : Nat} (h : f < N) : ((List.range N).map (fun f => mvFv b σ a cf f))[f]? = some (mvFv b σ a cf f) := by
  rw [List.getElem?_map, List.getElem?_range h]
  rfl
theorem mvFs_set {b : mvBs} {σ σ' : mvS} {a cf f N : Nat} {v : Value} (ho : ∀ k, k ≠ f → mvFv b σ' a cf k = mvFv b σ a cf k) (hv : mvFv b σ' a cf f = v) : ((List.range N).map (fun f => mvFv b σ a cf f)).set f v = (List.range N).map (fun f => mvFv b σ' a cf f) := by
  apply List.ext_getElem?
  intro k
  rw [List.getElem?_set, List.getElem?_map, List.getElem?_map]
  by_cases hk : f = k
  · subst hk
    rw [if_pos rfl]
    by_cases hl : f < N
    · rw [if_pos (by simpa using hl), List.getElem?_range hl]
      simp [hv]
    · rw [if_neg (by simpa using hl)]
      have : (List.range N)[f]? = none := by rw [List.getElem?_eq_none_iff, List.length_range]; omega
      rw [this]; rfl
  · rw [if_neg hk]
    by_cases hl : k < N
    · rw [List.getElem?_range hl]
      simp [ho k (Ne.symm hk)]
    · have : (List.range N)[k]? = none := by rw [List.getElem?_eq_none_iff, List.length_range]; omega
      rw [this]; rfl
section MVS
variable {p : Program} {l : Launch} {e : Env} {R : Room} {s : State} {m : MethodId} {args : Array Value} {below : List Frame} {meth : Method} {c : Code} {Q : State → Prop}
variable {b : mvBs} {D : va_G} {cA0 cA1 : ClassId} {t1 t2 : Int → Int} {Ls n0 own rk : Nat} {ini : Bool} {cc : ByteArray}
/-- what holds of a frame all along -/
def mvCx (p : Program) (R : Room) (s : State) (m : MethodId) (args : Array Value) (meth : Method) (c : Code) (b : mvBs) (D : va_G) (cA0 cA1 : ClassId) (t1 t2 : Int → Int) (Ls : Nat) (own rk : Nat) (ini : Bool) (cc : ByteArray) : Prop :=
  p.tables.exec = Jvm.exec ∧ c.code = cc ∧ s.vm.findClass (mvCn own) = some m.cls ∧ (ini = true → meth.name = "<init>") ∧ (∀ w ∈ mvTb, w.before args s = true) ∧ rk ≤ R.frames ∧ 40 * rk ≤ R.locals ∧ mvEnv b D cA0 cA1 t1 t2 Ls s
/-- the goal at a place of the mini machine -/
def mvW (p : Program) (l : Launch) (e : Env) (R : Room) (s : State) (m : MethodId) (args : Array Value) (below : List Frame) (meth : Method) (c : Code) (Q : State → Prop) (b : mvBs) (D : va_G) (cA0 cA1 : ClassId) (t1 t2 : Int → Int) (n0 pc : Nat) (L : mvL) (S : List mvV) (σ : mvS) : Prop :=
  ∀ (H : Heap) (locs : List Loc) (ls : Array Slot), mvRel b D cA0 cA1 t1 t2 s σ L S H locs ls → W p l e R s m args below meth c H locs (σ.1 - n0) (mvSz σ.1 - mvSz n0) Q (F0 m pc ls (S.map (mvRv b)))
abbrev mvRoom (R : Room) (n0 n : Nat) : Prop := n - n0 ≤ R.cells ∧ mvSz n - mvSz n0 ≤ R.slots
theorem mvs_stI {L L' : mvL} {S : List mvV} {σ : mvS} {i len pc : Nat} {x : Int} (Cx : mvCx p R s m args meth c b D cA0 cA1 t1 t2 Ls own rk ini cc) (hst : mvSt L i (mvI x) = some L')
    (hd : (∃ k : Fin 4, decode cc pc = .ok (.istore_n k, 1) ∧ (k : Nat) = i ∧ len = 1) ∨ (decode cc pc = .ok (.istore i, 2) ∧ len = 2)) (kk : mvW p l e R s m args below meth c Q b D cA0 cA1 t1 t2 n0 (pc + len) L' S σ) : mvW p l e R s m args below meth c Q b D cA0 cA1 t1 t2 n0 pc L (mvI x :: S) σ := by
  intro H locs ls h
  obtain ⟨hx, hb, -⟩ := Cx
  obtain ⟨h1, h2, h3, h4, h5, h6, h7⟩ := h
  have hv : mvOk (mvI x) := h2 _ List.mem_cons_self
  have hn := (mvSt_spec (b := b) hst).1
  have fin : ∀ ls' : Array Slot, lv_has ls' L.length ((i, mvRv b (mvI x)) :: (mvAsc b L).filter (fun q => !(q.1 == i) && !(q.1 + 1 == i && q.2.category == 2))) → W p l e R s m args below meth c H locs (σ.1 - n0) (mvSz σ.1 - mvSz n0) Q (F0 m (pc + len) ls' (S.map (mvRv b))) := fun ls' hl => kk H locs ls' ⟨h1, fun v hv => h2 v (List.mem_cons_of_mem _ hv), mvOk_set hst h3 hv, h4, h5, h6, (mvSt_spec hst).2 ls' hl⟩
  rcases hd with ⟨k, hd, hk, rfl⟩ | ⟨hd, rfl⟩
  · exact lv_istore_n hx hb hd hk h7.has hn rfl fin
  · exact lv_istore hx hb hd h7.has hn rfl fin
theorem mvs_br {L : mvL} {S : List mvV} {σ : mvS} {pc t : Nat} {x y : Int} {cd : ClassFile.Cond} {off : Int} (Cx : mvCx p R s m args meth c b D cA0 cA1 t1 t2 Ls own rk ini cc)
    (hd : decode cc pc = .ok (.if_icmp cd off, 3)) (htg : mvTgt pc off = some t) (kk : mvW p l e R s m args below meth c Q b D cA0 cA1 t1 t2 n0 (if mvCmpB cd x y = true then t else pc + 3) L S σ) : mvW p l e R s m args below meth c Q b D cA0 cA1 t1 t2 n0 pc L (mvI y :: mvI x :: S) σ := by
  intro H locs ls h
  obtain ⟨hx, hb, -⟩ := Cx
  have hy1 : mv32 y := h.2.1 (mvI y) List.mem_cons_self
  have hx1 : mv32 x := h.2.1 (mvI x) (List.mem_cons_of_mem _ List.mem_cons_self)
  have K := kk H locs ls (h.st (fun v hv => h.2.1 v (List.mem_cons_of_mem _ (List.mem_cons_of_mem _ hv))))
  have hT : mvCmpB cd x y = true → W p l e R s m args below meth c H locs (σ.1 - n0) (mvSz σ.1 - mvSz n0) Q (F0 m t ls (S.map (mvRv b))) := fun hc => by rw [if_pos hc] at K; exact K
  have hF : ¬ mvCmpB cd x y = true → W p l e R s m args below meth c H locs (σ.1 - n0) (mvSz σ.1 - mvSz n0) Q (F0 m (pc + 3) ls (S.map (mvRv b))) := fun hc => by rw [if_neg hc] at K; exact K
  show W p l e R s m args below meth c H locs (σ.1 - n0) (mvSz σ.1 - mvSz n0) Q (F0 m pc ls (.int (Int32.ofInt y) :: .int (Int32.ofInt x) :: S.map (mvRv b)))
  have ht := mvTgt_spec htg
  cases cd
  · exact lv_icmp_eq hx hb hd ht (fun q => hT (decide_eq_true ((m_eq hx1 hy1).mp q))) (fun q => hF (fun z => q ((m_eq hx1 hy1).mpr (of_decide_eq_true z))))
  · exact lv_icmp_ne hx hb hd ht (fun q => hT (decide_eq_true (fun z => q ((m_eq hx1 hy1).mpr z)))) (fun q => hF (fun z => (of_decide_eq_true z : ¬ x = y) ((m_eq hx1 hy1).mp q)))
  · exact lv_icmp_lt hx hb hd ht (fun q => hT (decide_eq_true ((m_lt hx1 hy1).mp q))) (fun q => hF (fun z => q ((m_lt hx1 hy1).mpr (of_decide_eq_true z))))
  · exact lv_icmp_ge hx hb hd ht (fun q => hT (decide_eq_true ((m_le hy1 hx1).mp q))) (fun q => hF (fun z => q ((m_le hy1 hx1).mpr (of_decide_eq_true z))))
  · exact lv_icmp_gt hx hb hd ht (fun q => hT (decide_eq_true ((m_lt hy1 hx1).mp q))) (fun q => hF (fun z => q ((m_lt hy1 hx1).mpr (of_decide_eq_true z))))
  · exact lv_icmp_le hx hb hd ht (fun q => hT (decide_eq_true ((m_le hx1 hy1).mp q))) (fun q => hF (fun z => q ((m_le hx1 hy1).mpr (of_decide_eq_true z))))
theorem mvs_if {L : mvL} {S : List mvV} {σ : mvS} {pc t : Nat} {x : Int} {cd : ClassFile.Cond} {off : Int} (Cx : mvCx p R s m args meth c b D cA0 cA1 t1 t2 Ls own rk ini cc)
    (hd : decode cc pc = .ok (.ifCond cd off, 3)) (htg : mvTgt pc off = some t) (kk : mvW p l e R s m args below meth c Q b D cA0 cA1 t1 t2 n0 (if mvCmpB cd x 0 = true then t else pc + 3) L S σ) : mvW p l e R s m args below meth c Q b D cA0 cA1 t1 t2 n0 pc L (mvI x :: S) σ := by
  intro H locs ls h
  obtain ⟨hx, hb, -⟩ := Cx
  have hx1 : mv32 x := h.2.1 (mvI x) List.mem_cons_self
  have K := kk H locs ls (h.st (fun v hv => h.2.1 v (List.mem_cons_of_mem _ hv)))
  have hT : mvCmpB cd x 0 = true → W p l e R s m args below meth c H locs (σ.1 - n0) (mvSz σ.1 - mvSz n0) Q (F0 m t ls (S.map (mvRv b))) := fun hc => by rw [if_pos hc] at K; exact K
  have hF : ¬ mvCmpB cd x 0 = true → W p l e R s m args below meth c H locs (σ.1 - n0) (mvSz σ.1 - mvSz n0) Q (F0 m (pc + 3) ls (S.map (mvRv b))) := fun hc => by rw [if_neg hc] at K; exact K
  show W p l e R s m args below meth c H locs (σ.1 - n0) (mvSz σ.1 - mvSz n0) Q (F0 m pc ls (.int (Int32.ofInt x) :: S.map (mvRv b)))
  have ht := mvTgt_spec htg
  cases cd
  · exact lv_if_eq hx hb hd ht (fun q => hT (decide_eq_true ((mz_eq hx1).mp q))) (fun q => hF (fun z => q ((mz_eq hx1).mpr (of_decide_eq_true z))))
  · exact lv_if_ne hx hb hd ht (fun q => hT (decide_eq_true (fun z => q ((mz_eq hx1).mpr z)))) (fun q => hF (fun z => (of_decide_eq_true z : ¬ x = 0) ((mz_eq hx1).mp q)))
  · exact lv_if_lt hx hb hd ht (fun q => hT (decide_eq_true ((mz_lt hx1).mp q))) (fun q => hF (fun z => q ((mz_lt hx1).mpr (of_decide_eq_true z))))
  · exact lv_if_ge hx hb hd ht (fun q => hT (decide_eq_true ((mz_ge hx1).mp q))) (fun q => hF (fun z => q ((mz_ge hx1).mpr (of_decide_eq_true z))))
  · exact lv_if_gt hx hb hd ht (fun q => hT (decide_eq_true ((mz_gt hx1).mp q))) (fun q => hF (fun z => q ((mz_gt hx1).mpr (of_decide_eq_true z))))
  · exact lv_if_le hx hb hd ht (fun q => hT (decide_eq_true ((mz_le hx1).mp q))) (fun q => hF (fun z => q ((mz_le hx1).mpr (of_decide_eq_true z))))
/-- the top of the stack grows by a value, all else stays -/
theorem mvs_put {L : mvL} {S : List mvV} {σ : mvS} {pc' : Nat} {v : mvV} {H : Heap} {locs : List Loc} {ls : Array Slot} {S0 : List mvV} (kk : mvW p l e R s m args below meth c Q b D cA0 cA1 t1 t2 n0 pc' L (v :: S) σ) (h : mvRel b D cA0 cA1 t1 t2 s σ L S0 H locs ls) (hS : ∀ v ∈ S, mvOk v) (hv : mvOk v) : W p l e R s m args below meth c H locs (σ.1 - n0) (mvSz σ.1 - mvSz n0) Q (F0 m pc' ls (mvRv b v :: S.map (mvRv b))) :=
  kk H locs ls (h.st (List.forall_mem_cons.mpr ⟨hv, hS⟩))
theorem mvs_get {L : mvL} {S : List mvV} {σ : mvS} {pc a ix cf f : Nat} (Cx : mvCx p R s m args meth c b D cA0 cA1 t1 t2 Ls own rk ini cc) (hd : decode cc pc = .ok (.getfield ix, 3)) (hl : mvFl.lookup (own, ix) = some (cf, f)) (hi : mvIs σ.1 a = (0, cf, 0))
    {H : Heap} {locs : List Loc} {ls : Array Slot} (h : mvRel b D cA0 cA1 t1 t2 s σ L (mvR a :: S) H locs ls) (kk : W p l e R s m args below meth c H locs (σ.1 - n0) (mvSz σ.1 - mvSz n0) Q (F0 m (pc + 3) ls (mvFv b σ a cf f :: S.map (mvRv b)))) : W p l e R s m args below meth c H locs (σ.1 - n0) (mvSz σ.1 - mvSz n0) Q (F0 m pc ls ((mvR a :: S).map (mvRv b))) := by
  obtain ⟨hx, hb, hown, -, hts, -, -, hE⟩ := Cx
  obtain ⟨h1, h2, h3, h4, h5, h6, h7⟩ := h
  obtain ⟨i1, i2, i3⟩ := mvIs_spec hi (by decide)
  have hm := mv_lookup hl
  obtain ⟨q, hq, hf⟩ := mv_fl_lt _ hm
  simp only at hq hf
  obtain ⟨f1, f2, f3, -⟩ := mv_fact cf q hq
  obtain ⟨C, T, N⟩ := q
  simp only at f1 f2 f3 hf
  have hw := mt_fl _ (List.mem_map_of_mem hm)
  simp only [mvFd_of hq] at hw
  have hg := mvWd_get (b := b) (cA0 := cA0) (cA1 := cA1) i1 i2
  have hce : mvCe b cA0 cA1 σ a = .inr (cf, (List.range N).map (fun f => mvFv b σ a cf f)) := by
    unfold mvCe
    rw [i3, mvNf_of hq]
    rfl
  rw [hce] at hg
  refine va_get (ref := mvCn cf) hx hb hts f2 hown hE.1 h5 (a - 3) hg hq f hf (hts _ hw) (fun x hx => ?_) (mvFs_get hf) hd kk
  rw [← f1, ← f3 f hf]
  exact hx
theorem mv_fit {cf k : Nat} {ty : FieldType} {σ : mvS} {a : Nat} (h : (mvFt cf k = 0 ∧ ty = .int) ∨ (mvFt cf k = 1 ∧ ty = .long) ∨ (mvFt cf k = 3 ∧ ty = .boolean) ∨ (mvFt cf k = 2 ∧ ((∃ t, ty = .array t) ∨ ∃ n, ty = .object n))) (h3 : mvFt cf k = 3 → σ.2.2 a (k : Int) = 0 ∨ σ.2.2 a (k : Int) = 1) : narrow ty (mvFv b σ a cf k) = mvFv b σ a cf k ∧ fits ty (mvFv b σ a cf k) = true := by
  unfold mvFv
  rcases h with ⟨q, rfl⟩ | ⟨q, rfl⟩ | ⟨q, rfl⟩ | ⟨q, hh⟩
  · rw [if_neg (by omega), if_neg (by omega)]; exact ⟨rfl, rfl⟩
  · rw [if_neg (by omega), if_pos q]; exact ⟨rfl, rfl⟩
  · rw [if_neg (by omega), if_neg (by omega)]
    rcases h3 q with z | z <;> rw [z] <;> decide
  · rw [if_pos q]
    rcases hh with ⟨t, rfl⟩ | ⟨n, rfl⟩
    · split <;> exact ⟨rfl, rfl⟩
    · split <;> exact ⟨rfl, rfl⟩
/-- a field's new value: the mini machine's new state is said by what it holds -/
theorem mvs_setf {L : mvL} {S : List mvV} {σ σ' : mvS} {pc a ix cf f : Nat} {v : mvV} (Cx : mvCx p R s m args meth c b D cA0 cA1 t1 t2 Ls own rk ini cc) (hd : decode cc pc = .ok (.putfield ix, 3)) (hl : mvFl.lookup (own, ix) = some (cf, f)) (hi : mvIs σ.1 a = (0, cf, 0)) (hfin : mvFf cf f = true → ini = true ∧ own = cf)
    (hn : σ'.1 = σ.1) (hg1 : ∀ k, ¬ k = a → σ'.2.1 k = σ.2.1 k) (hg2 : ∀ k, ¬ k = a → σ'.2.2 k = σ.2.2 k) (hf1 : ∀ k, k ≠ f → mvFv b σ' a cf k = mvFv b σ a cf k) (hf2 : mvFv b σ' a cf f = mvRv b v) (hz : mvFt cf f = 3 → σ'.2.2 a (f : Int) = 0 ∨ σ'.2.2 a (f : Int) = 1) (hok : mvOkh σ'.2.2)
    (kk : mvW p l e R s m args below meth c Q b D cA0 cA1 t1 t2 n0 (pc + 3) L S σ') : mvW p l e R s m args below meth c Q b D cA0 cA1 t1 t2 n0 pc L (v :: mvR a :: S) σ := by
  intro H locs ls h
  obtain ⟨hx, hb, hown, hin, hts, -, -, hE⟩ := Cx
  obtain ⟨h1, h2, h3, h4, h5, h6, h7⟩ := h
  obtain ⟨i1, i2, i3⟩ := mvIs_spec hi (by decide)
  have hm := mv_lookup hl
  obtain ⟨q, hq, hf⟩ := mv_fl_lt _ hm
  simp only at hq hf
  obtain ⟨f1, f2, f3, f4, ty, f5, f6, f7⟩ := mv_fact cf q hq
  obtain ⟨C, T, N⟩ := q
  simp only at f1 f2 f3 f4 f5 f6 f7 hf
  have hw := mt_fl _ (List.mem_map_of_mem hm)
  simp only [mvFd_of hq] at hw
  have hgt := mvWd_get (b := b) (cA0 := cA0) (cA1 := cA1) i1 i2
  have hce : mvCe b cA0 cA1 σ a = .inr (cf, (List.range N).map (fun f => mvFv b σ a cf f)) := by
    unfold mvCe
    rw [i3, mvNf_of hq]
    rfl
  have hce' : mvCe b cA0 cA1 σ' a = .inr (cf, (List.range N).map (fun f => mvFv b σ' a cf f)) := by
    unfold mvCe
    rw [i3, mvNf_of hq]
    rfl
  rw [hce] at hgt
  have hset := mvFs_set (N := N) hf1 hf2
  have hw2 := mvWd_set (b := b) (cA0 := cA0) (cA1 := cA1) (σ := σ) (σ' := σ') (x := .inr (cf, ((List.range N).map (fun f => mvFv b σ a cf f)).set f (mvRv b v))) i1 hn (fun k hk => mvCe_congr (hg1 k hk) (hg2 k hk)) (by rw [hce', hset])
  have hsame : ∀ x, s.fieldFound? (T f).1 (T f).2.1 (T f).2.2.1 = some x → s.fieldFound? (mvCn cf) (T f).2.1 (T f).2.2.1 = some x := fun x hx => by
    rw [← f1, ← f3 f hf]
    exact hx
  have hfit := mv_fit (b := b) (σ := σ') (a := a) (f7 f hf) hz
  rw [hf2] at hfit
  have hlen : f < ((List.range N).map (fun f => mvFv b σ a cf f)).length := by simpa using hf
  have fin : ∀ (H1 : Heap) (locs1 : List Loc), va_P D mvTab ((mvWd b cA0 cA1 σ).set (a - 3) (mvB b a, .inr (cf, ((List.range N).map (fun f => mvFv b σ a cf f)).set f (mvRv b v)))) H1 → va_S (fun q => b.1 ≤ q) s.heap H1 locs1 → H1.size = H.size → W p l e R s m args below meth c H1 locs1 (σ.1 - n0) (mvSz σ.1 - mvSz n0) Q (F0 m (pc + 3) ls (S.map (mvRv b))) := by
    intro H1 locs1 hP hS hsz
    have K := kk H1 locs1 ls ⟨⟨by rw [hn]; exact h1.1, hok, by rw [hg2 1 (by omega)]; exact h1.2.2.1, by rw [hg2 2 (by omega)]; exact h1.2.2.2⟩, fun v hv => h2 v (List.mem_cons_of_mem _ (List.mem_cons_of_mem _ hv)), h3, by rw [hsz, hn]; exact h4, by rw [← hw2]; exact hP, hS, h7⟩
    rw [hn] at K
    exact K
  show W p l e R s m args below meth c H locs (σ.1 - n0) (mvSz σ.1 - mvSz n0) Q (F0 m pc ls (mvRv b v :: .ref (mvB b a) :: S.map (mvRv b)))
  cases hff : mvFf cf f with
  | false =>
    have hap := va_apart (own := mvCn own) hts f2 ty f5 (fun a ha b hb => f4 a ha b hb) hE.1 hq
    obtain ⟨r, r1, cell, q1, q2, q3, q4⟩ := h5 (a - 3) _ hgt
    have hr : r = (C, T, N) := Option.some.inj (r1.symm.trans hq)
    subst hr
    obtain ⟨hS, hfc, kC, hkC, hkind⟩ := hE.1.1 cf _ hq
    obtain ⟨cf', kf, fi, fd, hi', hsl⟩ := hS f hf
    have hlay := hts _ (f2 _ (u_in_lay hf))
    unfold u_lay at hlay
    rw [if_neg (by rw [f6 f hf, hff]; decide)] at hlay
    have hst := (u_facts hfc hkC (u_lays hts f2 hf) hi').1
    have h6' := u_store hfc hkC hkind hlay hi' (f5 f hf) hfit.1 hfit.2
    refine W.putK hx hb (f := fd) ⟨hown, hts _ hw, ⟨_, _, _, hsame _ hi'⟩, hst⟩ (by rw [q2]; exact h6') q1 q3 (by rw [hsl]; exact k2_hasslot (q4 f hf)) rfl rfl hd fun H' e1 e2 e3 => ?_
    rw [hsl] at e1 ⊢
    exact fin H' _ (h5.set mvWd_D hgt ⟨_, hq, t_OB.to (V := updV (vp_V _) f (mvRv b v)) ⟨_, e1, q2, q3, t_set q4 hap hf _⟩ (fun j _ => vp_updV_set hlen _ j)⟩ e3) (h6.put e2 e3 (mvWd_D.2 (a - 3) _ hgt)) e2
  | true =>
    obtain ⟨hini, howncf⟩ := hfin hff
    have hap := va_apart (own := mvCn own) hts f2 ty f5 (fun a ha b hb => f4 a ha b hb) hE.1 hq
    obtain ⟨r, r1, cell, q1, q2, q3, q4⟩ := h5 (a - 3) _ hgt
    have hr : r = (C, T, N) := Option.some.inj (r1.symm.trans hq)
    subst hr
    obtain ⟨hS, hfc, kC, hkC, hkind⟩ := hE.1.1 cf _ hq
    obtain ⟨cf', kf, fi, fd, hi', hsl⟩ := hS f hf
    have hlay := hts _ (f2 _ (u_in_lay hf))
    unfold u_lay at hlay
    rw [if_pos (by rw [f6 f hf, hff])] at hlay
    have hst := (u_facts hfc hkC (u_lays hts f2 hf) hi').1
    have hcf : m.cls = cf' := by
      obtain ⟨_, _, c', _, _, _, -, -, hf', -, -, -, hown2, -⟩ := Cond.laysFinal_spec hlay
      have e1 : c' = cf' := by have := hi'.symm.trans hf'; simp at this; exact this.1.symm
      rw [f3 f hf, f1, ← howncf] at hown2
      rw [← e1]; exact Option.some.inj (hown.symm.trans hown2)
    have h6' := u_fits hfc hkC hkind (Or.inr hlay) hi' (f5 f hf) hfit.1 hfit.2
    refine W.putFinK hx hb hown (hts _ hw) (hsame _ hi') hst hcf (hin hini) (by rw [q2]; exact h6') q1 q3 (by rw [hsl]; exact k2_hasslot (q4 f hf)) rfl rfl hd fun H' e1 e2 e3 => ?_
    rw [hsl] at e1 ⊢
    exact fin H' _ (h5.set mvWd_D hgt ⟨_, hq, t_OB.to (V := updV (vp_V _) f (mvRv b v)) ⟨_, e1, q2, q3, t_set q4 hap hf _⟩ (fun j _ => vp_updV_set hlen _ j)⟩ e3) (h6.put e2 e3 (mvWd_D.2 (a - 3) _ hgt)) e2
end MVS
end
section
section MVS
variable {p : Program} {l : Launch} {e : Env} {R : Room} {s : State} {m : MethodId} {args : Array Value} {below : List Frame} {meth : Method} {c : Code} {Q : State → Prop}
variable {b : mvBs} {D : va_G} {cA0 cA1 : ClassId} {t1 t2 : Int → Int} {Ls n0 own rk : Nat} {ini : Bool} {cc : ByteArray}
theorem mvCe_arr {σ : mvS} {a : Nat} (h : (mvSH a).1 = 1) : mvCe b cA0 cA1 σ a = .inl (if (mvSH a).2.1 = 0 then cA0 else cA1, (mvSH a).2.2, .inl (fun i => Int32.ofInt (σ.2.2 a (i : Int)))) := by
  unfold mvCe
  rw [if_neg (by omega)]
theorem mv_toNat {i : Int} (h : 0 ≤ i) : ((i.toNat : Nat) : Int) = i := Int.toNat_of_nonneg h
theorem mvArr_cases {σ : mvS} {a : Nat} (h : (mvArr σ a).1 = 1) : (a = 1 ∧ (mvArr σ a).2 = (0, 4)) ∨ (a = 2 ∧ (mvArr σ a).2 = (0, σ.2.2 2 (-1))) ∨ (3 ≤ a ∧ a < σ.1 ∧ (mvSH a).1 = 1 ∧ (mvArr σ a).2 = ((mvSH a).2.1, ((mvSH a).2.2 : Int))) := by
  unfold mvArr at h ⊢
  by_cases h1 : a = 1
  · simp [h1]
  by_cases h2 : a = 2
  · simp [h2]
  simp only [h1, h2, if_false] at h ⊢
  obtain ⟨q1, q2, q3⟩ := mvIs_arr h
  rw [q3]
  exact Or.inr (Or.inr ⟨q1, q2, h, rfl⟩)
theorem mvLf_12 {a : Nat} {i : Int} (h : a = 1 ∨ a = 2) : ¬ mvLf a i := by
  rintro ⟨f, -, h2, -⟩
  rcases h with rfl | rfl <;> exact absurd h2 (by decide)
theorem mvs_iald {L : mvL} {S : List mvV} {σ : mvS} {pc a : Nat} {i : Int} (Cx : mvCx p R s m args meth c b D cA0 cA1 t1 t2 Ls own rk ini cc) (hd : decode cc pc = .ok (.iaload, 1)) (h1 : (mvArr σ a).1 = 1) (h2 : (mvArr σ a).2.1 = 0) (h3 : 0 ≤ i) (h4 : i < (mvArr σ a).2.2)
    (kk : mvW p l e R s m args below meth c Q b D cA0 cA1 t1 t2 n0 (pc + 1) L (mvI (σ.2.2 a i) :: S) σ) : mvW p l e R s m args below meth c Q b D cA0 cA1 t1 t2 n0 pc L (mvI i :: mvR a :: S) σ := by
  intro H locs ls h
  have hi : mv32 i := h.2.1 (mvI i) List.mem_cons_self
  have hS : ∀ v ∈ S, mvOk v := fun v hv => h.2.1 v (List.mem_cons_of_mem _ (List.mem_cons_of_mem _ hv))
  obtain ⟨hx, hb, hown, hin, hts, -, -, hE⟩ := Cx
  obtain ⟨E1, E2, E3, E4, E5, E6, E7, E8, E9, E10⟩ := hE
  have hv : mvOk (mvI (σ.2.2 a i)) := (h.1.2.1 a i).2 (by
    rcases mvArr_cases h1 with ⟨q, -⟩ | ⟨q, -⟩ | ⟨-, -, q, -⟩
    · exact mvLf_12 (Or.inl q)
    · exact mvLf_12 (Or.inr q)
    · exact mvLf_arr q)
  have K := mvs_put kk h hS hv
  show W p l e R s m args below meth c H locs (σ.1 - n0) (mvSz σ.1 - mvSz n0) Q (F0 m pc ls (.int (Int32.ofInt i) :: .ref (mvB b a) :: S.map (mvRv b)))
  have hc : (((Int32.ofInt i).toNatClampNeg : Nat) : Int) = i := by rw [m_clamp hi, mv_toNat h3]
  rcases mvArr_cases h1 with ⟨rfl, q⟩ | ⟨rfl, q⟩ | ⟨q1, q2, q3, q⟩
  · rw [q] at h4
    obtain ⟨cell, y1, y2, y3, y4, y5, y6, y7⟩ := E3
    have hlt : (Int32.ofInt i).toNatClampNeg < 4 := by rw [m_clamp hi]; simp only at h4; omega
    have K' : W p l e R s m args below meth c H locs (σ.1 - n0) (mvSz σ.1 - mvSz n0) Q (F0 m (pc + 1) ls (.int (Int32.ofInt (t1 (((Int32.ofInt i).toNatClampNeg : Nat) : Int))) :: S.map (mvRv b))) := by
      rw [hc, ← h.1.2.2.1]
      exact K
    have hge : ¬ (Int32.ofInt i < 0 ∨ cell.slots.size ≤ (Int32.ofInt i).toNatClampNeg) := by
      rintro (q | q)
      · have := (mz_lt hi).mp q; omega
      · omega
    exact W.iald hx hb (show H[b.2.1]? = some cell by rw [h.2.2.2.2.2.1.2.1 b.2.1 (Array.getElem?_eq_some_iff.mp y1).1 y7]; exact y1) y2 y3 hge (y6 _ hlt) rfl rfl hd K'
  · rw [q] at h4
    have K' : W p l e R s m args below meth c H locs (σ.1 - n0) (mvSz σ.1 - mvSz n0) Q (F0 m (pc + 1) ls (.int ((fun j : Nat => Int32.ofInt (t2 (j : Int))) (Int32.ofInt i).toNatClampNeg) :: S.map (mvRv b))) := by
      show W p l e R s m args below meth c H locs (σ.1 - n0) (mvSz σ.1 - mvSz n0) Q (F0 m (pc + 1) ls (.int (Int32.ofInt (t2 (((Int32.ofInt i).toNatClampNeg : Nat) : Int))) :: S.map (mvRv b)))
      rw [hc, ← h.1.2.2.2]
      exact K
    exact va_sld hx hb E4 (Nat.lt_of_lt_of_le E6 E7) (Nat.not_le.mpr E6) h.2.2.2.2.2.1 (m_in hi h3 (by rw [E8, ← h.1.2.2.2]; exact h4)) hd K'
  · rw [q] at h2 h4
    have hg := mvWd_get (b := b) (cA0 := cA0) (cA1 := cA1) q1 q2
    rw [mvCe_arr q3, if_pos h2] at hg
    refine va_iald hx hb E1 h.2.2.2.2.1 (a - 3) 0 hg rfl (m_in hi h3 h4) hd ?_
    show W p l e R s m args below meth c H locs (σ.1 - n0) (mvSz σ.1 - mvSz n0) Q (F0 m (pc + 1) ls (.int (Int32.ofInt (σ.2.2 a (((Int32.ofInt i).toNatClampNeg : Nat) : Int))) :: S.map (mvRv b)))
    rw [hc]
    exact K
theorem mvs_bald {L : mvL} {S : List mvV} {σ : mvS} {pc a : Nat} {i : Int} (Cx : mvCx p R s m args meth c b D cA0 cA1 t1 t2 Ls own rk ini cc) (hd : decode cc pc = .ok (.baload, 1)) (h1 : (mvArr σ a).1 = 1) (h2 : (mvArr σ a).2.1 = 1) (h3 : 0 ≤ i) (h4 : i < (mvArr σ a).2.2)
    (kk : mvW p l e R s m args below meth c Q b D cA0 cA1 t1 t2 n0 (pc + 1) L (mvI (σ.2.2 a i) :: S) σ) : mvW p l e R s m args below meth c Q b D cA0 cA1 t1 t2 n0 pc L (mvI i :: mvR a :: S) σ := by
  intro H locs ls h
  have hi : mv32 i := h.2.1 (mvI i) List.mem_cons_self
  have hS : ∀ v ∈ S, mvOk v := fun v hv => h.2.1 v (List.mem_cons_of_mem _ (List.mem_cons_of_mem _ hv))
  obtain ⟨hx, hb, hown, hin, hts, -, -, hE⟩ := Cx
  have hc : (((Int32.ofInt i).toNatClampNeg : Nat) : Int) = i := by rw [m_clamp hi, mv_toNat h3]
  rcases mvArr_cases h1 with ⟨rfl, q⟩ | ⟨rfl, q⟩ | ⟨q1, q2, q3, q⟩
  · rw [q] at h2; cases h2
  · rw [q] at h2; cases h2
  · rw [q] at h2 h4
    have hv : mvOk (mvI (σ.2.2 a i)) := (h.1.2.1 a i).2 (mvLf_arr q3)
    have K := mvs_put kk h hS hv
    show W p l e R s m args below meth c H locs (σ.1 - n0) (mvSz σ.1 - mvSz n0) Q (F0 m pc ls (.int (Int32.ofInt i) :: .ref (mvB b a) :: S.map (mvRv b)))
    have hg := mvWd_get (b := b) (cA0 := cA0) (cA1 := cA1) q1 q2
    rw [mvCe_arr q3, if_neg (by simp only at h2; omega)] at hg
    refine va_zald hx hb hE.1 h.2.2.2.2.1 (a - 3) 1 hg rfl (m_in hi h3 h4) hd ?_
    show W p l e R s m args below meth c H locs (σ.1 - n0) (mvSz σ.1 - mvSz n0) Q (F0 m (pc + 1) ls (.int (Int32.ofInt (σ.2.2 a (((Int32.ofInt i).toNatClampNeg : Nat) : Int))) :: S.map (mvRv b)))
    rw [hc]
    exact K
theorem mvs_alen {L : mvL} {S : List mvV} {σ : mvS} {pc a : Nat} (Cx : mvCx p R s m args meth c b D cA0 cA1 t1 t2 Ls own rk ini cc) (hd : decode cc pc = .ok (.arraylength, 1)) (h1 : (mvArr σ a).1 = 1)
    (kk : mvW p l e R s m args below meth c Q b D cA0 cA1 t1 t2 n0 (pc + 1) L (mvI (mvArr σ a).2.2 :: S) σ) : mvW p l e R s m args below meth c Q b D cA0 cA1 t1 t2 n0 pc L (mvR a :: S) σ := by
  intro H locs ls h
  have hS : ∀ v ∈ S, mvOk v := fun v hv => h.2.1 v (List.mem_cons_of_mem _ hv)
  obtain ⟨hx, hb, hown, hin, hts, -, -, hE⟩ := Cx
  obtain ⟨E1, E2, E3, E4, E5, E6, E7, E8, E9, E10⟩ := hE
  show W p l e R s m args below meth c H locs (σ.1 - n0) (mvSz σ.1 - mvSz n0) Q (F0 m pc ls (.ref (mvB b a) :: S.map (mvRv b)))
  have hnat : ∀ n : Nat, (Int32.ofNat n) = Int32.ofInt (n : Int) := fun n => (Int32.ofInt_eq_ofNat).symm
  rcases mvArr_cases h1 with ⟨rfl, q⟩ | ⟨rfl, q⟩ | ⟨q1, q2, q3, q⟩
  · rw [q] at kk
    have K := mvs_put kk h hS (by show mv32 4; unfold mv32; omega)
    obtain ⟨cell, y1, y2, y3, y4, y5, y6, y7⟩ := E3
    exact W.alen hx hb (show H[b.2.1]? = some cell by rw [h.2.2.2.2.2.1.2.1 b.2.1 (Array.getElem?_eq_some_iff.mp y1).1 y7]; exact y1) y2 y5 rfl rfl hd K
  · rw [q] at kk
    have e1 : σ.2.2 2 (-1) = (Ls : Int) := by rw [h.1.2.2.2]; exact E8.symm
    rw [e1] at kk
    have K := mvs_put kk h hS (by show mv32 (Ls : Int); unfold mv32; omega)
    refine va_slen hx hb E4 (Nat.lt_of_lt_of_le E6 E7) (Nat.not_le.mpr E6) h.2.2.2.2.2.1 hd ?_
    rw [hnat]
    exact K
  · rw [q] at kk
    have hlen := (mvSH_ok a).2
    have K := mvs_put kk h hS (by show mv32 ((mvSH a).2.2 : Int); unfold mv32; omega)
    have hg := mvWd_get (b := b) (cA0 := cA0) (cA1 := cA1) q1 q2
    rw [mvCe_arr q3] at hg
    by_cases hty : (mvSH a).2.1 = 0
    · rw [if_pos hty] at hg
      exact va_alen hx hb E1 h.2.2.2.2.1 (a - 3) 0 hg rfl (hnat _) hd K
    · rw [if_neg hty] at hg
      exact va_alen hx hb E1 h.2.2.2.2.1 (a - 3) 1 hg rfl (hnat _) hd K
theorem mvs_ast {L : mvL} {S : List mvV} {σ : mvS} {pc a : Nat} {i x : Int} (Cx : mvCx p R s m args meth c b D cA0 cA1 t1 t2 Ls own rk ini cc) (hd : (decode cc pc = .ok (.iastore, 1) ∧ (mvIs σ.1 a).2.1 = 0) ∨ (decode cc pc = .ok (.bastore, 1) ∧ (mvIs σ.1 a).2.1 = 1 ∧ (x = 0 ∨ x = 1))) (h1 : (mvIs σ.1 a).1 = 1) (h3 : 0 ≤ i) (h4 : i < ((mvIs σ.1 a).2.2 : Int))
    (kk : mvW p l e R s m args below meth c Q b D cA0 cA1 t1 t2 n0 (pc + 1) L S (σ.1, σ.2.1, mvUpd σ.2.2 a i x)) : mvW p l e R s m args below meth c Q b D cA0 cA1 t1 t2 n0 pc L (mvI x :: mvI i :: mvR a :: S) σ := by
  intro H locs ls h
  have hx1 : mv32 x := h.2.1 (mvI x) List.mem_cons_self
  have hi : mv32 i := h.2.1 (mvI i) (List.mem_cons_of_mem _ List.mem_cons_self)
  have hS : ∀ v ∈ S, mvOk v := fun v hv => h.2.1 v (List.mem_cons_of_mem _ (List.mem_cons_of_mem _ (List.mem_cons_of_mem _ hv)))
  obtain ⟨hx, hb, hown, hin, hts, -, -, hE⟩ := Cx
  obtain ⟨g1, g2, g3, g4, g5, g6, g7⟩ := h
  obtain ⟨q1, q2, q3⟩ := mvIs_arr h1
  rw [← q3] at hd h1 h4
  have hg := mvWd_get (b := b) (cA0 := cA0) (cA1 := cA1) q1 q2
  have hc : (((Int32.ofInt i).toNatClampNeg : Nat) : Int) = i := by rw [m_clamp hi, mv_toNat h3]
  have hup : mvCe b cA0 cA1 (σ.1, σ.2.1, mvUpd σ.2.2 a i x) a = .inl (if (mvSH a).2.1 = 0 then cA0 else cA1, (mvSH a).2.2, .inl (upd (fun i => Int32.ofInt (σ.2.2 a (i : Int))) (Int32.ofInt i).toNatClampNeg (Int32.ofInt x))) := by
    rw [mvCe_arr h1]
    congr 4
    funext k
    simp only [mvUpd, upd]
    by_cases hk : k = (Int32.ofInt i).toNatClampNeg
    · rw [if_pos hk, if_pos ⟨trivial, by rw [hk, hc]⟩]
    · rw [if_neg hk, if_neg (fun z => hk (by omega))]
  have hw2 := mvWd_set (b := b) (cA0 := cA0) (cA1 := cA1) (σ := σ) (σ' := (σ.1, σ.2.1, mvUpd σ.2.2 a i x)) q1 rfl (fun k hk => mvCe_congr rfl (mvUpd_ne hk)) hup
  have fin : ∀ (H1 : Heap) (locs1 : List Loc), va_P D mvTab ((mvWd b cA0 cA1 σ).set (a - 3) (mvB b a, .inl (if (mvSH a).2.1 = 0 then cA0 else cA1, (mvSH a).2.2, .inl (upd (fun i => Int32.ofInt (σ.2.2 a (i : Int))) (Int32.ofInt i).toNatClampNeg (Int32.ofInt x))))) H1 → va_S (fun q => b.1 ≤ q) s.heap H1 locs1 → H1.size = H.size → W p l e R s m args below meth c H1 locs1 (σ.1 - n0) (mvSz σ.1 - mvSz n0) Q (F0 m (pc + 1) ls (S.map (mvRv b))) := by
    intro H1 locs1 hP hS1 hsz
    exact kk H1 locs1 ls ⟨⟨g1.1, mvOkh_upd g1.2.1 hx1.to64 (fun _ => hx1), by rw [← g1.2.2.1]; exact mvUpd_ne (by omega), by rw [← g1.2.2.2]; exact mvUpd_ne (by omega)⟩, hS, g3, by rw [hsz]; exact g4, by rw [← hw2]; exact hP, hS1, g7⟩
  rw [mvCe_arr h1] at hg
  show W p l e R s m args below meth c H locs (σ.1 - n0) (mvSz σ.1 - mvSz n0) Q (F0 m pc ls (.int (Int32.ofInt x) :: .int (Int32.ofInt i) :: .ref (mvB b a) :: S.map (mvRv b)))
  have hvin := m_in hi h3 h4
  have hcell : ∀ (H1 : Heap) (cA : ClassId) (x' : Int32), H1[mvB b a]? = some ((vp_cell cA ((mvSH a).2.2, .inl (fun i => Int32.ofInt (σ.2.2 a (i : Int))))).setSlot (Int32.ofInt i).toNatClampNeg (.int x')) → va_at D mvTab (mvB b a, .inl (cA, (mvSH a).2.2, .inl (upd (fun i => Int32.ofInt (σ.2.2 a (i : Int))) (Int32.ofInt i).toNatClampNeg x'))) H1 := by
    intro H1 cA x' he
    show H1[mvB b a]? = some (vp_cell _ _)
    rw [he, vp_cell_i, vp_cell_i, arrV_store]
    congr 2
    funext q
    by_cases hq : q = (Int32.ofInt i).toNatClampNeg
    · subst hq; simp [updV, upd]
    · simp [updV, upd, hq]
  rcases hd with ⟨hd, hty⟩ | ⟨hd, hty, hx01⟩
  · rw [if_pos hty] at hg fin
    refine W.iast hx hb (g5 (a - 3) _ hg) ((hE.1.2 0 _ rfl).1 _ (fun j => .int (Int32.ofInt (σ.2.2 a (j : Int))))) (fun q => by cases q) (by show ¬ (Int32.ofInt i < 0 ∨ (arrV _ _ _).slots.size ≤ _); rw [arrV_size]; exact hvin) rfl rfl hd fun H1 e1 z oq => ?_
    exact fin H1 _ (g5.set mvWd_D hg (hcell H1 _ _ e1) oq) (g6.put z oq (mvWd_D.2 (a - 3) _ hg)) z
  · rw [if_neg (by omega)] at hg fin
    refine W.zast hx hb (g5 (a - 3) _ hg) ((hE.1.2 1 _ rfl).1 _ (fun j => .int (Int32.ofInt (σ.2.2 a (j : Int))))) (fun q => by cases q) (by show ¬ (Int32.ofInt i < 0 ∨ (arrV _ _ _).slots.size ≤ _); rw [arrV_size]; exact hvin) rfl rfl hd fun H1 e1 z oq => ?_
    have hnn : Int32.ofInt x &&& 1 = Int32.ofInt x := by rcases hx01 with rfl | rfl <;> decide
    exact fin H1 _ (g5.set mvWd_D hg (hcell H1 _ _ (by rw [← hnn]; exact e1)) oq) (g6.put z oq (mvWd_D.2 (a - 3) _ hg)) z
end MVS
end
section
section MVS
variable {p : Program} {l : Launch} {e : Env} {R : Room} {s : State} {m : MethodId} {args : Array Value} {below : List Frame} {meth : Method} {c : Code} {Q : State → Prop}
variable {b : mvBs} {D : va_G} {cA0 cA1 : ClassId} {t1 t2 : Int → Int} {Ls n0 own rk : Nat} {ini : Bool} {cc : ByteArray}
theorem mvWd_new {σ : mvS} (h3 : 3 ≤ σ.1) : mvWd b cA0 cA1 (mvNew σ) = mvWd b cA0 cA1 σ ++ [(mvB b σ.1, mvCe b cA0 cA1 (mvNew σ) σ.1)] := by
  unfold mvWd
  show List.map _ (List.range (σ.1 + 1 - 3)) = _
  rw [show σ.1 + 1 - 3 = (σ.1 - 3) + 1 by omega, List.range_succ, List.map_append]
  congr 1
  · refine List.map_congr_left fun i hi => ?_
    rw [List.mem_range] at hi
    rw [mvCe_congr (σ := σ) (σ' := mvNew σ) (k := i + 3)]
    · funext f; show (if i + 3 = σ.1 then 0 else σ.2.1 (i + 3) f) = _; rw [if_neg (by omega)]
    · funext f; show (if i + 3 = σ.1 then 0 else σ.2.2 (i + 3) f) = _; rw [if_neg (by omega)]
  · simp only [List.map_cons, List.map_nil]
    rw [show σ.1 - 3 + 3 = σ.1 by omega]
    unfold mvB
    rw [if_neg (by omega), if_neg (by omega)]
theorem mvNew_ok {σ : mvS} (h : mvOks t1 t2 σ) : mvOks t1 t2 (mvNew σ) := by
  obtain ⟨h1, h2, h3, h4⟩ := h
  refine ⟨Nat.le_succ_of_le h1, fun a i => ?_, ?_, ?_⟩
  · show mv64 (if a = σ.1 then 0 else σ.2.2 a i) ∧ (_ → mv32 (if a = σ.1 then 0 else σ.2.2 a i))
    split
    · exact ⟨mv64_0, fun _ => mv32_0⟩
    · exact h2 a i
  · funext i; show (if 1 = σ.1 then 0 else σ.2.2 1 i) = _; rw [if_neg (by omega), h3]
  · funext i; show (if 2 = σ.1 then 0 else σ.2.2 2 i) = _; rw [if_neg (by omega), h4]
/-- the world behind a new cell -/
theorem mvs_fresh {L : mvL} {S : List mvV} {σ : mvS} {pc' : Nat} {H H1 : Heap} {locs : List Loc} {ls : Array Slot} {S0 : List mvV} (h : mvRel b D cA0 cA1 t1 t2 s σ L S0 H locs ls) (hS : ∀ v ∈ S, mvOk v) (hn0 : n0 ≤ σ.1) (z1 : H1.size = H.size + 1) (o1 : ∀ q, q < H.size → H1[q]? = H[q]?) (hB : b.1 ≤ s.heap.size)
    (he : va_at D mvTab (H.size, mvCe b cA0 cA1 (mvNew σ) σ.1) H1) (kk : mvW p l e R s m args below meth c Q b D cA0 cA1 t1 t2 n0 pc' L (mvR σ.1 :: S) (mvNew σ)) : W p l e R s m args below meth c H1 locs (σ.1 - n0 + 1) (mvSz σ.1 - mvSz n0 + mvSl σ.1) Q (F0 m pc' ls (.ref H.size :: S.map (mvRv b))) := by
  obtain ⟨g1, g2, g3, g4, g5, g6, g7⟩ := h
  have hadr : mvB b σ.1 = H.size := by
    unfold mvB
    have := g1.1
    rw [if_neg (by omega), if_neg (by omega), g4]
  have hk : ∀ (k : Nat) (x : Nat × va_E), (mvWd b cA0 cA1 σ)[k]? = some x → H1[x.1]? = H[x.1]? := fun k x hx => o1 x.1 ((g5 k x hx).lt)
  have K := kk H1 locs ls ⟨mvNew_ok g1, List.forall_mem_cons.mpr ⟨trivial, hS⟩, g3, by rw [z1, g4]; show _ = b.1 + (σ.1 + 1 - 3); have := g1.1; omega, by
    rw [mvWd_new g1.1]
    refine (g5.kept hk).app (fun k x hx => ?_)
    have hz : k < 1 := (List.getElem?_eq_some_iff.mp hx).1
    rw [show k = 0 by omega] at hx
    cases hx
    rw [hadr]
    exact he, ⟨Nat.le_trans g6.1 (by omega), fun x h1 h2 => (o1 x (Nat.lt_of_lt_of_le h1 g6.1)).trans (g6.2.1 x h1 h2), g6.2.2⟩, g7⟩
  have e1 : (mvNew σ).1 - n0 = σ.1 - n0 + 1 := by show σ.1 + 1 - n0 = _; omega
  have e2 : mvSz (mvNew σ).1 - mvSz n0 = mvSz σ.1 - mvSz n0 + mvSl σ.1 := by
    show mvSz σ.1 + mvSl σ.1 - mvSz n0 = _
    have := mvSz_mono hn0
    omega
  rw [e1, e2] at K
  have e3 : (mvR σ.1 :: S).map (mvRv b) = .ref H.size :: S.map (mvRv b) := by rw [← hadr]; rfl
  rw [e3] at K
  exact K
theorem mvs_newarr {L : mvL} {S : List mvV} {σ : mvS} {pc : Nat} {n : Int} {ty : ClassFile.ArrayType} (Cx : mvCx p R s m args meth c b D cA0 cA1 t1 t2 Ls own rk ini cc) (hd : decode cc pc = .ok (.newarray ty, 2)) (h1 : (mvSH σ.1).1 = 1) (h2 : n = ((mvSH σ.1).2.2 : Int)) (h3 : ty = .int ∧ (mvSH σ.1).2.1 = 0 ∨ ty = .boolean ∧ (mvSH σ.1).2.1 = 1)
    (hn0 : n0 ≤ σ.1) (hR : mvRoom R n0 (σ.1 + 1)) (kk : mvW p l e R s m args below meth c Q b D cA0 cA1 t1 t2 n0 (pc + 2) L (mvR σ.1 :: S) (mvNew σ)) : mvW p l e R s m args below meth c Q b D cA0 cA1 t1 t2 n0 pc L (mvI n :: S) σ := by
  intro H locs ls h
  have hn : mv32 n := h.2.1 (mvI n) List.mem_cons_self
  have hS : ∀ v ∈ S, mvOk v := fun v hv => h.2.1 v (List.mem_cons_of_mem _ hv)
  obtain ⟨hx, hb, hown, hin, hts, -, -, hE⟩ := Cx
  have hlen := (mvSH_ok σ.1).2
  have hsl : mvSl σ.1 = (mvSH σ.1).2.2 := by unfold mvSl; rw [if_neg (by omega)]
  have hRs : mvSz σ.1 - mvSz n0 + mvSl σ.1 ≤ R.slots := by
    have := hR.2
    have := mvSz_mono hn0
    show mvSz σ.1 - mvSz n0 + mvSl σ.1 ≤ R.slots
    have e : mvSz (σ.1 + 1) = mvSz σ.1 + mvSl σ.1 := rfl
    omega
  have hRc : σ.1 - n0 + 1 ≤ R.cells := by have := hR.1; omega
  have hcl : (Int32.ofInt n).toNatClampNeg = mvSl σ.1 := by rw [m_clamp hn, hsl]; omega
  have hneg : ¬ Int32.ofInt n < 0 := fun q => by have := (mz_lt hn).mp q; omega
  show W p l e R s m args below meth c H locs (σ.1 - n0) (mvSz σ.1 - mvSz n0) Q (F0 m pc ls (.int (Int32.ofInt n) :: S.map (mvRv b)))
  have hce : ∀ cA, cA = (if (mvSH σ.1).2.1 = 0 then cA0 else cA1) → ∀ H1 : Heap, H1[H.size]? = some (arrV cA (mvSl σ.1) (fun _ => .int 0)) → va_at D mvTab (H.size, mvCe b cA0 cA1 (mvNew σ) σ.1) H1 := by
    intro cA hcA H1 e1
    rw [mvCe_arr h1]
    show H1[H.size]? = some (vp_cell _ _)
    rw [e1, vp_cell_i, hcA, hsl]
    congr 2
    funext j
    show Value.int 0 = .int (Int32.ofInt (if σ.1 = σ.1 then 0 else σ.2.2 σ.1 j))
    rw [if_pos rfl]
    rfl
  rcases h3 with ⟨rfl, hty⟩ | ⟨rfl, hty⟩
  · refine va_newaK (atype := .int) hx hb (hts _ mt_arrI) rfl hd rfl hneg hcl (by show mvSl σ.1 * 4 ≤ 536870912; omega) hRc hRs rfl fun H1 cA e1 z1 o1 hAr hNm => ?_
    have hcA : cA = cA0 := by
      have := (hE.1.2 0 _ rfl).2
      exact Option.some.inj (hNm.symm.trans this)
    exact mvs_fresh h hS hn0 z1 o1 hE.2.2.2.2.2.2.1 (hce cA (by rw [if_pos hty]; exact hcA) H1 e1) kk
  · refine va_newaK (atype := .boolean) hx hb (hts _ mt_arrB) rfl hd rfl hneg hcl (by show mvSl σ.1 * 1 ≤ 536870912; omega) hRc hRs rfl fun H1 cA e1 z1 o1 hAr hNm => ?_
    have hcA : cA = cA1 := by
      have := (hE.1.2 1 _ rfl).2
      exact Option.some.inj (hNm.symm.trans this)
    exact mvs_fresh h hS hn0 z1 o1 hE.2.2.2.2.2.2.1 (hce cA (by rw [if_neg (by omega)]; exact hcA) H1 e1) kk
theorem mvs_newobj {L : mvL} {S : List mvV} {σ : mvS} {pc ix cf : Nat} (Cx : mvCx p R s m args meth c b D cA0 cA1 t1 t2 Ls own rk ini cc) (hd : decode cc pc = .ok (.new ix, 3)) (hl : mvKl.lookup (own, ix) = some cf) (h1 : mvSH σ.1 = (0, cf, 0))
    (hn0 : n0 ≤ σ.1) (hR : mvRoom R n0 (σ.1 + 1)) (kk : mvW p l e R s m args below meth c Q b D cA0 cA1 t1 t2 n0 (pc + 3) L (mvR σ.1 :: S) (mvNew σ)) : mvW p l e R s m args below meth c Q b D cA0 cA1 t1 t2 n0 pc L S σ := by
  intro H locs ls h
  have hS := h.2.1
  obtain ⟨hx, hb, hown, hin, hts, -, -, hE⟩ := Cx
  have hm := mv_lookup hl
  obtain ⟨q, hq⟩ := mv_kl_lt _ hm
  simp only at hq
  obtain ⟨f1, f2, f3, f4, ty, f5, f6, f7⟩ := mv_fact cf q hq
  obtain ⟨C, T, N⟩ := q
  simp only at f1 f2 f3 f4 f5 f6 f7
  have hsl : mvSl σ.1 = N := by unfold mvSl; rw [h1, if_pos rfl, mvNf_of hq]
  have hRs : mvSz σ.1 - mvSz n0 + N ≤ R.slots := by
    have := hR.2
    have := mvSz_mono hn0
    have e : mvSz (σ.1 + 1) = mvSz σ.1 + mvSl σ.1 := rfl
    omega
  have hRc : σ.1 - n0 + 1 ≤ R.cells := by have := hR.1; omega
  have hmem : (C, T, N) ∈ mvTab := List.mem_of_getElem? hq
  have hKn := hE.1.1 cf _ hq
  have hw := mt_kl _ (List.mem_map_of_mem hm)
  simp only [← f1] at hw
  refine W.newcK hx hb hown (hts _ hw) (hts _ (mt_inst _ (List.mem_map_of_mem hmem))) (hts _ (mt_ini2 _ (List.mem_map_of_mem hmem))) rfl hd hRc hRs hKn.2.1 rfl fun H1 kC hkC e1 z1 o1 => ?_
  have hfs : ∀ j, j < N → defaultValue (ty j) = vp_V ((List.range N).map (fun f => mvFv b (mvNew σ) σ.1 cf f)) j := by
    intro j hj
    have e0 : (mvNew σ).2.1 σ.1 j = 0 := by show (if σ.1 = σ.1 then 0 else σ.2.1 σ.1 j) = 0; rw [if_pos rfl]
    have e2 : (mvNew σ).2.2 σ.1 (j : Int) = 0 := by show (if σ.1 = σ.1 then 0 else σ.2.2 σ.1 j) = 0; rw [if_pos rfl]
    unfold vp_V
    rw [List.getD_eq_getElem?_getD, mvFs_get hj]
    simp only [Option.getD_some]
    unfold mvFv
    rw [e0, e2]
    rcases f7 j hj with ⟨q1, q2⟩ | ⟨q1, q2⟩ | ⟨q1, q2⟩ | ⟨q1, ⟨t, q2⟩ | ⟨t, q2⟩⟩ <;> rw [q1, q2] <;> rfl
  have he : va_at D mvTab (H.size, mvCe b cA0 cA1 (mvNew σ) σ.1) H1 := by
    unfold mvCe
    rw [h1, if_pos rfl, mvNf_of hq]
    exact ⟨_, hq, (u_born ty hts f2 hKn hkC e1 f5).to hfs⟩
  have K := mvs_fresh (S := S) h hS hn0 z1 o1 hE.2.2.2.2.2.2.1 he kk
  rw [hsl] at K
  exact K
end MVS
end
section
section MVS
variable {p : Program} {l : Launch} {e : Env} {R : Room} {s : State} {m : MethodId} {args : Array Value} {below : List Frame} {meth : Method} {c : Code} {Q : State → Prop}
variable {b : mvBs} {D : va_G} {cA0 cA1 : ClassId} {t1 t2 : Int → Int} {Ls n0 own rk : Nat} {ini : Bool} {cc : ByteArray}
theorem mv_hd {x : mvV} {l : List mvV} (h : ∀ v ∈ x :: l, mvOk v) : mvOk x := h _ List.mem_cons_self
theorem mv_tl {α : Type} {P : α → Prop} {x : α} {l : List α} (h : ∀ v ∈ x :: l, P v) : ∀ v ∈ l, P v := fun v hv => h v (List.mem_cons_of_mem _ hv)
theorem mvUpd_s {h : Nat → Int → Int} {a : Nat} {i x : Int} : mvUpd h a i x a i = x := by simp [mvUpd]
theorem mvUpd_o {h : Nat → Int → Int} {a : Nat} {i j x : Int} (hj : ¬ j = i) : mvUpd h a i x a j = h a j := by simp [mvUpd, hj]
theorem mvUpg_s {g : Nat → Nat → Nat} {a f x : Nat} : mvUpg g a f x a f = x := by simp [mvUpg]
theorem mvUpg_o {g : Nat → Nat → Nat} {a f k x : Nat} (hj : ¬ k = f) : mvUpg g a f x a k = g a k := by simp [mvUpg, hj]
set_option maxHeartbeats 4000000 in
theorem mvs_step {L L' : mvL} {S S' : List mvV} {σ σ' : mvS} {pc pc' len : Nat} {ins : Instr} (Cx : mvCx p R s m args meth c b D cA0 cA1 t1 t2 Ls own rk ini cc) (hd : decode cc pc = .ok (ins, len)) (hs : mvStep own ini rk pc ins len L S σ = some (pc', L', S', σ'))
    (hln : L.length = c.maxLocals) (hn0 : n0 ≤ σ.1) (hR : mvRoom R n0 σ'.1) (kk : mvW p l e R s m args below meth c Q b D cA0 cA1 t1 t2 n0 pc' L' S' σ') : mvW p l e R s m args below meth c Q b D cA0 cA1 t1 t2 n0 pc L S σ := by
  have hx := Cx.1
  have hb := Cx.2.1
  have hown := Cx.2.2.1
  have hts := Cx.2.2.2.2.1
  unfold mvStep at hs
  split at hs
  · -- aload_n
    rename_i k
    obtain ⟨x, h1, h2⟩ := mvLdR_spec hs
    cases h2
    intro H locs ls h
    exact lv_aload_n hx hb hd rfl (h.2.2.2.2.2.2.2.2 _ _ h1) (mvs_put kk h h.2.1 (h.2.2.1 _ _ h1))
  · rename_i k
    obtain ⟨x, h1, h2⟩ := mvLdR_spec hs
    cases h2
    intro H locs ls h
    exact lv_aload hx hb hd (h.2.2.2.2.2.2.2.2 _ _ h1) (mvs_put kk h h.2.1 (h.2.2.1 _ _ h1))
  · rename_i k
    obtain ⟨x, h1, h2⟩ := mvLdI_spec hs
    cases h2
    intro H locs ls h
    exact lv_iload_n hx hb hd rfl (h.2.2.2.2.2.2.2.2 _ _ h1) (mvs_put kk h h.2.1 (h.2.2.1 _ _ h1))
  · rename_i k
    obtain ⟨x, h1, h2⟩ := mvLdI_spec hs
    cases h2
    intro H locs ls h
    exact lv_iload hx hb hd (h.2.2.2.2.2.2.2.2 _ _ h1) (mvs_put kk h h.2.1 (h.2.2.1 _ _ h1))
  · rename_i k
    obtain ⟨x, h1, h2⟩ := mvLdJ_spec hs
    cases h2
    intro H locs ls h
    exact lv_lload_n hx hb hd rfl (h.2.2.2.2.2.2.2.2 _ _ h1) (mvs_put kk h h.2.1 (h.2.2.1 _ _ h1))
  · -- istore_n
    rename_i k
    split at hs
    · rename_i x S1
      obtain ⟨L1, h1, h2⟩ := mvToL_spec hs
      cases h2
      exact mvs_stI Cx h1 (Or.inl ⟨k, hd, rfl, rfl⟩) kk
    · cases hs
  · rename_i k
    split at hs
    · rename_i x S1
      obtain ⟨L1, h1, h2⟩ := mvToL_spec hs
      cases h2
      exact mvs_stI Cx h1 (Or.inr ⟨hd, rfl⟩) kk
    · cases hs
  · -- astore_n
    rename_i k
    split at hs
    · rename_i x S1
      obtain ⟨L1, h1, h2⟩ := mvToL_spec hs
      cases h2
      intro H locs ls h
      have hn := (mvSt_spec (b := b) h1).1
      exact lv_astore_n hx hb hd rfl h.2.2.2.2.2.2.has hn rfl (fun ls' hl => kk H locs ls' ⟨h.1, mv_tl h.2.1, mvOk_set h1 h.2.2.1 trivial, h.2.2.2.1, h.2.2.2.2.1, h.2.2.2.2.2.1, (mvSt_spec h1).2 ls' hl⟩)
    · cases hs
  · -- lstore_n
    rename_i k
    split at hs
    · rename_i x S1
      obtain ⟨L1, h1, h2⟩ := mvToL_spec hs
      cases h2
      intro H locs ls h
      have hn := (mvSt2_spec (b := b) h1).1
      exact lv_lstore_n hx hb hd rfl h.2.2.2.2.2.2.has hn rfl (fun ls' hl => kk H locs ls' ⟨h.1, mv_tl h.2.1, mvOk_set2 h1 h.2.2.1 (mv_hd h.2.1), h.2.2.2.1, h.2.2.2.2.1, h.2.2.2.2.2.1, (mvSt2_spec h1).2 ls' hl⟩)
    · cases hs
  · -- iconst
    rename_i n
    split at hs
    · rename_i hh
      cases hs
      intro H locs ls h
      exact lv_iconst hx hb hd rfl (mvs_put kk h h.2.1 (by show mv32 n; unfold mv32; omega))
    · cases hs
  · rename_i n
    split at hs
    · rename_i hh
      cases hs
      intro H locs ls h
      exact lv_bipush hx hb hd (m_bi hh) (mvs_put kk h h.2.1 (by show mv32 n; unfold mv32; omega))
    · cases hs
  · rename_i n
    split at hs
    · rename_i hh
      cases hs
      intro H locs ls h
      exact lv_sipush hx hb hd (m_si hh) (mvs_put kk h h.2.1 (by show mv32 n; unfold mv32; omega))
    · cases hs
  · -- lconst
    rename_i n
    cases hs
    intro H locs ls h
    exact lv_lconst hx hb hd rfl (mvs_put kk h h.2.1 (by show mv64 ((n : Nat) : Int); have := n.isLt; unfold mv64; omega))
  · -- ldc_w
    rename_i ix
    split at hs
    · rename_i x hl
      cases hs
      intro H locs ls h
      have hm := mv_lookup hl
      exact lv_ldcw hx hb hown (hts _ (mt_il _ (List.mem_map_of_mem hm))) hd (mvs_put kk h h.2.1 (mv_il_ok _ hm))
    · cases hs
  · rename_i ix
    split at hs
    · rename_i x hl
      cases hs
      intro H locs ls h
      have hm := mv_lookup hl
      exact lv_ldc2 hx hb hown (hts _ (mt_jl _ (List.mem_map_of_mem hm))) hd (mvs_put kk h h.2.1 (mv_jl_ok _ hm))
    · cases hs
  · -- iinc
    rename_i i n
    split at hs
    · rename_i x hg
      obtain ⟨L1, h1, h2⟩ := mvToL_spec hs
      cases h2
      intro H locs ls h
      have hn := (mvSt_spec (b := b) h1).1
      obtain ⟨k, hk⟩ := List.getElem?_of_mem (mvAsc_mem (b := b) (L := L) (q := (i, .int (Int32.ofInt x))) |>.mpr ⟨_, hg, rfl⟩)
      exact lv_iinc hx hb hd h.2.2.2.2.2.2.has hk (m_add x n) hn rfl (fun ls' hl => kk H locs ls' ⟨h.1, h.2.1, mvOk_set h1 h.2.2.1 (mw_ok _), h.2.2.2.1, h.2.2.2.2.1, h.2.2.2.2.2.1, (mvSt_spec h1).2 ls' hl⟩)
    · cases hs
  · -- iadd
    split at hs
    · rename_i y x S1
      cases hs
      intro H locs ls h
      refine lv_iadd hx hb hd ?_
      rw [m_add]
      exact mvs_put kk h (mv_tl (mv_tl h.2.1)) (mw_ok _)
    · cases hs
  · split at hs
    · rename_i y x S1
      cases hs
      intro H locs ls h
      refine lv_isub hx hb hd ?_
      rw [m_sub]
      exact mvs_put kk h (mv_tl (mv_tl h.2.1)) (mw_ok _)
    · cases hs
  · split at hs
    · rename_i y x S1
      cases hs
      intro H locs ls h
      refine lv_imul hx hb hd ?_
      rw [m_mul]
      exact mvs_put kk h (mv_tl (mv_tl h.2.1)) (mw_ok _)
    · cases hs
  · -- idiv
    split at hs
    · rename_i y x S1
      split at hs
      · cases hs
      · rename_i hy
        cases hs
        intro H locs ls h
        have hy1 : mv32 y := mv_hd h.2.1
        have hx1 : mv32 x := mv_hd (mv_tl h.2.1)
        refine lv_idiv hx hb hd (fun q => hy ((mz_eq hy1).mp q)) ?_
        rw [m_div hx1 hy1]
        exact mvs_put kk h (mv_tl (mv_tl h.2.1)) (mw_ok _)
    · cases hs
  · split at hs
    · rename_i y x S1
      split at hs
      · cases hs
      · rename_i hy
        cases hs
        intro H locs ls h
        have hy1 : mv32 y := mv_hd h.2.1
        have hx1 : mv32 x := mv_hd (mv_tl h.2.1)
        refine lv_irem hx hb hd (fun q => hy ((mz_eq hy1).mp q)) ?_
        rw [m_rem hx1 hy1]
        exact mvs_put kk h (mv_tl (mv_tl h.2.1)) (mv_tmod32 hx1)
    · cases hs
  · split at hs
    · rename_i y x S1
      cases hs
      intro H locs ls h
      refine lv_iand hx hb hd ?_
      rw [m_and]
      exact mvs_put kk h (mv_tl (mv_tl h.2.1)) (mv_i32 _)
    · cases hs
  · split at hs
    · rename_i y x S1
      cases hs
      intro H locs ls h
      refine lv_ior hx hb hd ?_
      rw [m_or]
      exact mvs_put kk h (mv_tl (mv_tl h.2.1)) (mv_i32 _)
    · cases hs
  · split at hs
    · rename_i y x S1
      cases hs
      intro H locs ls h
      refine lv_ishl hx hb hd ?_
      rw [m_shl]
      exact mvs_put kk h (mv_tl (mv_tl h.2.1)) (mv_i32 _)
    · cases hs
  · split at hs
    · rename_i y x S1
      cases hs
      intro H locs ls h
      refine lv_ishr hx hb hd ?_
      rw [m_shr]
      exact mvs_put kk h (mv_tl (mv_tl h.2.1)) (mv_i32 _)
    · cases hs
  · split at hs
    · rename_i y x S1
      cases hs
      intro H locs ls h
      exact lv_iushr hx hb hd (m_ushr x y) (mvs_put kk h (mv_tl (mv_tl h.2.1)) (mv_i32 _))
    · cases hs
  · -- ladd
    split at hs
    · rename_i y x S1
      cases hs
      intro H locs ls h
      refine lv_ladd hx hb hd ?_
      rw [ml_add]
      exact mvs_put kk h (mv_tl (mv_tl h.2.1)) (mwl_ok _)
    · cases hs
  · split at hs
    · rename_i y x S1
      cases hs
      intro H locs ls h
      refine lv_lmul hx hb hd ?_
      rw [ml_mul]
      exact mvs_put kk h (mv_tl (mv_tl h.2.1)) (mwl_ok _)
    · cases hs
  · split at hs
    · rename_i y x S1
      split at hs
      · cases hs
      · rename_i hy
        cases hs
        intro H locs ls h
        have hy1 : mv64 y := mv_hd h.2.1
        have hx1 : mv64 x := mv_hd (mv_tl h.2.1)
        refine lv_ldiv hx hb hd (fun q => hy ((ml_eq0 hy1).mp q)) ?_
        rw [ml_div hx1 hy1]
        exact mvs_put kk h (mv_tl (mv_tl h.2.1)) (mwl_ok _)
    · cases hs
  · split at hs
    · rename_i y x S1
      split at hs
      · cases hs
      · rename_i hy
        cases hs
        intro H locs ls h
        have hy1 : mv64 y := mv_hd h.2.1
        have hx1 : mv64 x := mv_hd (mv_tl h.2.1)
        refine lv_lrem hx hb hd (fun q => hy ((ml_eq0 hy1).mp q)) ?_
        rw [ml_rem hx1 hy1]
        exact mvs_put kk h (mv_tl (mv_tl h.2.1)) (mv_tmod64 hx1)
    · cases hs
  · -- lcmp
    split at hs
    · rename_i y x S1
      cases hs
      intro H locs ls h
      refine W.lcmp hx hb hd ?_
      rw [m_lcmp]
      exact mvs_put kk h (mv_tl (mv_tl h.2.1)) (mv_i32 _)
    · cases hs
  · -- i2l
    split at hs
    · rename_i x S1
      cases hs
      intro H locs ls h
      have hx1 : mv32 x := mv_hd h.2.1
      exact lv_i2l hx hb hd (m_i2l hx1) (mvs_put kk h (mv_tl h.2.1) hx1.to64)
    · cases hs
  · split at hs
    · rename_i x S1
      cases hs
      intro H locs ls h
      exact lv_l2i hx hb hd (m_l2i x) (mvs_put kk h (mv_tl h.2.1) (mw_ok _))
    · cases hs
  · -- dup
    split at hs
    · rename_i v S1
      split at hs
      · rename_i hv
        cases hs
        intro H locs ls h
        exact lv_dup hx hb hd (by rw [mvRv_cat]; exact hv) (mvs_put kk h h.2.1 (mv_hd h.2.1))
      · cases hs
    · cases hs
  · -- dup2
    split at hs
    · rename_i v u S1
      split at hs
      · rename_i hv
        cases hs
        intro H locs ls h
        exact lv_dup2_11 hx hb hd (by rw [mvRv_cat]; exact hv.1) (by rw [mvRv_cat]; exact hv.2) (mvs_put kk h (List.forall_mem_cons.mpr ⟨mv_hd (mv_tl h.2.1), h.2.1⟩) (mv_hd h.2.1))
      · cases hs
    · cases hs
  · -- pop
    split at hs
    · rename_i v S1
      split at hs
      · rename_i hv
        cases hs
        intro H locs ls h
        exact lv_pop hx hb hd (by rw [mvRv_cat]; exact hv) (kk H locs ls (h.st (mv_tl h.2.1)))
      · cases hs
    · cases hs
  · -- goto
    obtain ⟨u, h1, h2⟩ := mvGo_spec hs
    cases h2
    intro H locs ls h
    exact lv_goto hx hb hd (mvTgt_spec h1) (kk H locs ls h)
  · -- if_icmp
    split at hs
    · rename_i y x S1
      split at hs
      · rename_i t ht
        cases hs
        exact mvs_br Cx hd ht kk
      · cases hs
    · cases hs
  · split at hs
    · rename_i x S1
      split at hs
      · rename_i t ht
        cases hs
        exact mvs_if Cx hd ht kk
      · cases hs
    · cases hs
  · -- tableswitch
    rename_i dflt lo hi offs
    split at hs
    · rename_i x S1
      split at hs
      · rename_i hh
        obtain ⟨u, h1, h2⟩ := mvGo_spec hs
        cases h2
        intro H locs ls h
        have hx1 : mv32 x := mv_hd h.2.1
        exact lv_tableOut hx hb hd (by rw [m32 hx1]; exact hh) (mvTgt_spec h1) (kk H locs ls (h.st (mv_tl h.2.1)))
      · rename_i hh
        split at hs
        · rename_i off hoff
          obtain ⟨u, h1, h2⟩ := mvGo_spec hs
          cases h2
          intro H locs ls h
          have hx1 : mv32 x := mv_hd h.2.1
          exact lv_tableIn hx hb hd (by rw [m32 hx1]; exact fun q => hh (Or.inl q)) (by rw [m32 hx1]; exact fun q => hh (Or.inr q)) (by rw [m32 hx1]; exact hoff) (mvTgt_spec h1) (kk H locs ls (h.st (mv_tl h.2.1)))
        · cases hs
    · cases hs
  · -- getfield
    rename_i ix
    split at hs
    · rename_i a S1
      split at hs
      · rename_i cf f hl
        split at hs
        · rename_i hi
          split at hs
          · rename_i hft
            split at hs
            · cases hs
            · rename_i hg0
              cases hs
              intro H locs ls h
              refine mvs_get Cx hd hl hi h ?_
              have e : mvFv b σ a cf f = mvRv b (mvR (σ.2.1 a f)) := by unfold mvFv; rw [if_pos hft, if_neg hg0]; rfl
              rw [e]
              exact mvs_put kk h (mv_tl h.2.1) trivial
          · rename_i hft
            split at hs
            · rename_i hft1
              cases hs
              intro H locs ls h
              refine mvs_get Cx hd hl hi h ?_
              have e : mvFv b σ a cf f = mvRv b (mvJ (σ.2.2 a (f : Int))) := by unfold mvFv; rw [if_neg hft, if_pos hft1]; rfl
              rw [e]
              exact mvs_put kk h (mv_tl h.2.1) (h.1.2.1 a f).1
            · rename_i hft1
              cases hs
              intro H locs ls h
              refine mvs_get Cx hd hl hi h ?_
              have e : mvFv b σ a cf f = mvRv b (mvI (σ.2.2 a (f : Int))) := by unfold mvFv; rw [if_neg hft, if_neg hft1]; rfl
              rw [e]
              refine mvs_put kk h (mv_tl h.2.1) ((h.1.2.1 a f).2 ?_)
              rintro ⟨f', h1, h2, h3⟩
              obtain ⟨-, -, i3⟩ := mvIs_spec hi (by decide)
              rw [i3] at h3
              have : f = f' := by omega
              subst this
              exact hft1 h3
        · cases hs
      · cases hs
    · cases hs
  · -- putfield
    rename_i ix
    split at hs
    · rename_i v a S1
      split at hs
      · rename_i cf f hl
        split at hs
        · rename_i hh
          obtain ⟨hi, hfin⟩ := hh
          obtain ⟨-, -, i3⟩ := mvIs_spec hi (by decide)
          split at hs
          · rename_i x
            split at hs
            · rename_i hft
              cases hs
              intro H locs ls h
              have hx1 : mv32 x := mv_hd h.2.1
              refine mvs_setf (σ' := (σ.1, σ.2.1, mvUpd σ.2.2 a (f : Int) x)) (v := mvI x) Cx hd hl hi hfin rfl (fun _ _ => rfl) (fun k hk => mvUpd_ne hk) ?_ ?_ ?_ (mvOkh_upd h.1.2.1 hx1.to64 (fun _ => hx1)) kk H locs ls h
              · intro k hk
                unfold mvFv
                dsimp only
                rw [mvUpd_o (show ¬ (k : Int) = (f : Int) by omega)]
              · unfold mvFv
                dsimp only
                rw [mvUpd_s, if_neg (by omega), if_neg (by omega)]
                rfl
              · intro h3
                dsimp only
                rw [mvUpd_s]
                rcases hft with q | q
                · omega
                · exact q.2
            · cases hs
          · rename_i x
            split at hs
            · rename_i hft
              cases hs
              intro H locs ls h
              have hx1 : mv64 x := mv_hd h.2.1
              refine mvs_setf (σ' := (σ.1, σ.2.1, mvUpd σ.2.2 a (f : Int) x)) (v := mvJ x) Cx hd hl hi hfin rfl (fun _ _ => rfl) (fun k hk => mvUpd_ne hk) ?_ ?_ ?_ (mvOkh_upd h.1.2.1 hx1 (fun z => absurd ⟨f, rfl, by rw [i3], by rw [i3]; exact hft⟩ z)) kk H locs ls h
              · intro k hk
                unfold mvFv
                dsimp only
                rw [mvUpd_o (show ¬ (k : Int) = (f : Int) by omega)]
              · unfold mvFv
                dsimp only
                rw [mvUpd_s, if_neg (by omega), if_pos hft]
                rfl
              · intro h3
                omega
            · cases hs
          · rename_i x
            split at hs
            · rename_i hft
              cases hs
              intro H locs ls h
              refine mvs_setf (σ' := (σ.1, mvUpg σ.2.1 a f x, σ.2.2)) (v := mvR x) Cx hd hl hi hfin rfl (fun k hk => mvUpg_ne hk) (fun _ _ => rfl) ?_ ?_ ?_ h.1.2.1 kk H locs ls h
              · intro k hk
                unfold mvFv
                dsimp only
                simp only [mvUpg_o hk]
              · unfold mvFv
                dsimp only
                simp only [mvUpg_s, if_pos hft.1, if_neg hft.2]
                rfl
              · intro h3
                omega
            · cases hs
        · cases hs
      · cases hs
    · cases hs
  · -- getstatic
    rename_i ix
    split at hs
    · rename_i hh
      obtain ⟨ho, hix⟩ := hh
      cases hs
      subst ho
      subst hix
      intro H locs ls h
      obtain ⟨E1, E2, E3, E4, E5, E6, E7, E8, E9, E10⟩ := Cx.2.2.2.2.2.2.2
      exact va_getsN hx hb E2 h.2.2.2.2.2.1 hown (va_Nw.use rfl E10.2) (fun _ z => z) hd (mvs_put kk h h.2.1 trivial)
    · cases hs
  · -- iaload
    split at hs
    · rename_i i a S1
      split at hs
      · rename_i hh
        cases hs
        exact mvs_iald Cx hd hh.1 hh.2.1 hh.2.2.1 hh.2.2.2 kk
      · cases hs
    · cases hs
  · split at hs
    · rename_i i a S1
      split at hs
      · rename_i hh
        cases hs
        exact mvs_bald Cx hd hh.1 hh.2.1 hh.2.2.1 hh.2.2.2 kk
      · cases hs
    · cases hs
  · split at hs
    · rename_i x i a S1
      split at hs
      · rename_i hh
        cases hs
        exact mvs_ast Cx (Or.inl ⟨hd, hh.2.1⟩) hh.1 hh.2.2.1 hh.2.2.2 kk
      · cases hs
    · cases hs
  · split at hs
    · rename_i x i a S1
      split at hs
      · rename_i hh
        cases hs
        exact mvs_ast Cx (Or.inr ⟨hd, hh.2.1, hh.2.2.2⟩) hh.1 hh.2.2.1.1 hh.2.2.1.2 kk
      · cases hs
    · cases hs
  · -- arraylength
    split at hs
    · rename_i a S1
      split at hs
      · rename_i hh
        cases hs
        exact mvs_alen Cx hd hh kk
      · cases hs
    · cases hs
  · -- newarray
    rename_i ty
    split at hs
    · rename_i n S1
      split at hs
      · rename_i hh
        cases hs
        exact mvs_newarr Cx hd hh.1 hh.2.1 hh.2.2 hn0 hR kk
      · cases hs
    · cases hs
  · -- new
    rename_i ix
    split at hs
    · rename_i cf hl
      split at hs
      · rename_i hh
        cases hs
        exact mvs_newobj Cx hd hl hh hn0 hR kk
      · cases hs
    · cases hs
  · -- Object.<init>
    rename_i ix
    split at hs
    · rename_i a S1
      split at hs
      · rename_i z hl
        split at hs
        · rename_i hh
          cases hs
          intro H locs ls h
          have hm := mv_lookup hl
          have hw := mt_mo _ (List.mem_map_of_mem (List.mem_filter.mpr ⟨hm, by simp⟩))
          have hfr := Cx.2.2.2.2.2.1
          have hlo := Cx.2.2.2.2.2.2.1
          have hlsz : ls.size = c.maxLocals := h.2.2.2.2.2.2.1.trans hln
          have hcats : 2 * (F0 m pc ls ((mvR a :: S').map (mvRv b))).monitorRoom + ((S'.map (mvRv b)).map fun v => v.category).sum ≤ 8 := by
            refine lv_room ?_
            have e : ((S'.map (mvRv b)).map fun v => v.category) = S'.map mvCat := by
              rw [List.map_map]
              exact List.map_congr_left fun v _ => mvRv_cat b v
            rw [e]
            exact hh.2
          exact W.objInit hx hb hown (hts _ hw) (hts _ mt_objI) (hts _ mt_objC) rfl hlsz rfl hd (by omega) (Nat.le_trans (Nat.add_le_add_right hcats 12) (by have := hh.1; omega)) (kk H locs ls (h.st (mv_tl h.2.1)))
        · cases hs
      · cases hs
    · cases hs
  · -- Math.max, Math.min
    rename_i ix
    split at hs
    · rename_i y x S1
      have hroom : n0 ≤ σ.1 → σ.1 - n0 ≤ R.cells → mvSz σ.1 - mvSz n0 ≤ R.slots → 1 ≤ rk → mvCats S1 ≤ 8 → ∀ (rest : List Value), rest = S1.map (mvRv b) → 1 ≤ R.frames ∧ (rest.map fun v => v.category).sum + 13 ≤ R.locals := by
        intro _ _ _ h1 h2 rest hrest
        have hfr := Cx.2.2.2.2.2.1
        have hlo := Cx.2.2.2.2.2.2.1
        have e : (rest.map fun v => v.category) = S1.map mvCat := by
          rw [hrest, List.map_map]
          exact List.map_congr_left fun v _ => mvRv_cat b v
        rw [e]
        unfold mvCats at h2
        exact ⟨by omega, by omega⟩
      split at hs
      · rename_i z hl
        split at hs
        · rename_i hh
          cases hs
          intro H locs ls h
          have hm := mv_lookup hl
          have hw := mt_mx _ (List.mem_map_of_mem (List.mem_filter.mpr ⟨hm, by simp⟩))
          have hy1 : mv32 y := mv_hd h.2.1
          have hx1 : mv32 x := mv_hd (mv_tl h.2.1)
          obtain ⟨r1, r2⟩ := hroom hn0 hR.1 hR.2 hh.1 hh.2 _ rfl
          refine va_mmax hx hb (hln.symm.trans h.2.2.2.2.2.2.1.symm) hown (hts _ hw) (hts _ mt_mxS) (hts _ mt_mI) (hts _ mt_mxC) r1 r2 hR.1 hR.2 hd ?_
          have e : (if Int32.ofInt x < Int32.ofInt y then Int32.ofInt y else Int32.ofInt x) = Int32.ofInt (if x < y then y else x) := by
            by_cases q : x < y
            · rw [if_pos q, if_pos ((m_lt hx1 hy1).mpr q)]
            · rw [if_neg q, if_neg (fun z => q ((m_lt hx1 hy1).mp z))]
          rw [e]
          exact mvs_put kk h (mv_tl (mv_tl h.2.1)) (by show mv32 _; split <;> assumption)
        · cases hs
      · rename_i z hl
        split at hs
        · rename_i hh
          cases hs
          intro H locs ls h
          have hm := mv_lookup hl
          have hw := mt_mi _ (List.mem_map_of_mem (List.mem_filter.mpr ⟨hm, by simp⟩))
          have hy1 : mv32 y := mv_hd h.2.1
          have hx1 : mv32 x := mv_hd (mv_tl h.2.1)
          obtain ⟨r1, r2⟩ := hroom hn0 hR.1 hR.2 hh.1 hh.2 _ rfl
          refine va_mmin hx hb (hln.symm.trans h.2.2.2.2.2.2.1.symm) hown (hts _ hw) (hts _ mt_miS) (hts _ mt_mI) (hts _ mt_miC) r1 r2 hR.1 hR.2 hd ?_
          have e : (if Int32.ofInt y < Int32.ofInt x then Int32.ofInt y else Int32.ofInt x) = Int32.ofInt (if y < x then y else x) := by
            by_cases q : y < x
            · rw [if_pos q, if_pos ((m_lt hy1 hx1).mpr q)]
            · rw [if_neg q, if_neg (fun z => q ((m_lt hy1 hx1).mp z))]
          rw [e]
          exact mvs_put kk h (mv_tl (mv_tl h.2.1)) (by show mv32 _; split <;> assumption)
        · cases hs
      · cases hs
    · cases hs
  · cases hs
theorem mvSt_len {L L' : mvL} {i : Nat} {v : mvV} (h : mvSt L i v = some L') : L'.length = L.length := by
  unfold mvSt at h
  split at h
  · cases h; exact List.length_set
  · cases h
theorem mvSt2_len {L L' : mvL} {i : Nat} {v : mvV} (h : mvSt2 L i v = some L') : L'.length = L.length := by
  unfold mvSt2 at h
  split at h
  · cases h; rw [List.length_set, List.length_set]
  · cases h
set_option maxHeartbeats 4000000 in
theorem mvStep_len {L L' : mvL} {S S' : List mvV} {σ σ' : mvS} {pc pc' len : Nat} {ins : Instr} (hs : mvStep own ini rk pc ins len L S σ = some (pc', L', S', σ')) : L'.length = L.length ∧ σ.1 ≤ σ'.1 := by
  unfold mvStep at hs
  split at hs
  all_goals first
    | (cases hs; done)
    | (obtain ⟨x, -, h2⟩ := mvLdR_spec hs; cases h2; exact ⟨rfl, Nat.le_refl _⟩)
    | (obtain ⟨x, -, h2⟩ := mvLdI_spec hs; cases h2; exact ⟨rfl, Nat.le_refl _⟩)
    | (obtain ⟨x, -, h2⟩ := mvLdJ_spec hs; cases h2; exact ⟨rfl, Nat.le_refl _⟩)
    | (obtain ⟨x, -, h2⟩ := mvGo_spec hs; cases h2; exact ⟨rfl, Nat.le_refl _⟩)
    | (cases hs; exact ⟨rfl, Nat.le_refl _⟩)
    | (split at hs
       all_goals first
         | (cases hs; done)
         | (obtain ⟨x, h1, h2⟩ := mvToL_spec hs; cases h2; exact ⟨mvSt_len h1, Nat.le_refl _⟩)
         | (obtain ⟨x, h1, h2⟩ := mvToL_spec hs; cases h2; exact ⟨mvSt2_len h1, Nat.le_refl _⟩)
         | (cases hs; exact ⟨rfl, Nat.le_refl _⟩)
         | (cases hs; exact ⟨rfl, Nat.le_succ _⟩)
         | (split at hs
            all_goals first
              | (cases hs; done)
              | (cases hs; exact ⟨rfl, Nat.le_refl _⟩)
              | (cases hs; exact ⟨rfl, Nat.le_succ _⟩)
              | (obtain ⟨x, -, h2⟩ := mvGo_spec hs; cases h2; exact ⟨rfl, Nat.le_refl _⟩)
              | (split at hs
                 all_goals first
                   | (cases hs; done)
                   | (cases hs; exact ⟨rfl, Nat.le_refl _⟩)
                   | (cases hs; exact ⟨rfl, Nat.le_succ _⟩)
                   | (obtain ⟨x, -, h2⟩ := mvGo_spec hs; cases h2; exact ⟨rfl, Nat.le_refl _⟩)
                   | (split at hs
                      all_goals first
                        | (cases hs; done)
                        | (cases hs; exact ⟨rfl, Nat.le_refl _⟩)
                        | (split at hs
                           all_goals first
                             | (cases hs; done)
                             | (cases hs; exact ⟨rfl, Nat.le_refl _⟩))))))
end MVS
end
section
/-! calls; and the whole run -/
theorem mvRun_mono : ∀ (n j pc : Nat) (L : mvL) (S : List mvV) (σ : mvS) (r : Option mvV) (σ' : mvS), mvRun n j pc L S σ = some (r, σ') → σ.1 ≤ σ'.1 := by
  intro n
  induction n with
  | zero => intro j pc L S σ r σ' h; cases h
  | succ n ih =>
    intro j pc L S σ r σ' h
    unfold mvRun at h
    split at h
    · split at h
      · rename_i hs
        exact Nat.le_trans (mvStep_len hs).2 (ih _ _ _ _ _ _ _ h)
      · split at h
        · split at h
          · split at h
            · rename_i hr
              exact Nat.le_trans (ih _ _ _ _ _ _ _ hr) (ih _ _ _ _ _ _ _ h)
            · cases h
          · cases h
        · split at h
          · cases h; exact Nat.le_refl _
          · cases h
    · cases h
def mvSlot (b : mvBs) (o : Option mvV) : Slot := match o with
  | some v => .val (mvRv b v)
  | none => .second
theorem mvFlat_sl (b : mvBs) (as : List mvV) : lg_sl (as.map (mvRv b)) = (mvFlat as).map (mvSlot b) := by
  induction as with
  | nil => rfl
  | cons v as ih =>
    have e : mvFlat (v :: as) = (if mvCat v = 2 then [some v, none] else [some v]) ++ mvFlat as := rfl
    have e2 : lg_sl ((v :: as).map (mvRv b)) = (if (mvRv b v).category = 2 then [.val (mvRv b v), .second] else [.val (mvRv b v)]) ++ lg_sl (as.map (mvRv b)) := rfl
    rw [e, e2, ih, List.map_append, mvRv_cat]
    congr 1
    split <;> rfl
theorem mvFlat_ok {as : List mvV} (h : ∀ v ∈ as, mvOk v) : ∀ o ∈ mvFlat as, ∀ v, o = some v → mvOk v := by
  intro o ho v hv
  subst hv
  unfold mvFlat at ho
  obtain ⟨u, hu, hm⟩ := List.mem_flatMap.mp ho
  split at hm
  · simp at hm
    rw [hm]; exact h u hu
  · simp at hm
    rw [hm]; exact h u hu
theorem mvEntry_len {n : Nat} {as : List mvV} (h : (mvFlat as).length ≤ n) : (mvEntry n as).length = n := by
  unfold mvEntry
  rw [List.length_append, List.length_replicate]
  omega
theorem mvEntry_get {n i : Nat} {as : List mvV} {v : mvV} (h : mvGet (mvEntry n as) i = some v) : (mvFlat as)[i]? = some (some v) := by
  unfold mvGet mvEntry at h
  rw [List.getElem?_append] at h
  split at h
  · rename_i u hu
    split at hu
    · cases h; exact hu
    · rw [List.getElem?_replicate] at hu
      split at hu <;> cases hu
  · cases h
theorem mvEntry_ok {n : Nat} {as : List mvV} (h : ∀ v ∈ as, mvOk v) : ∀ (i : Nat) (v : mvV), mvGet (mvEntry n as) i = some v → mvOk v := fun i v hv => mvFlat_ok h _ (List.mem_of_getElem? (mvEntry_get hv)) v rfl
theorem mvEntry_lr (b : mvBs) {n : Nat} {as : List mvV} (h : (mvFlat as).length ≤ n) : mvLr b (mvEntry n as) ((lg_sl (as.map (mvRv b)) ++ List.replicate (n - (lg_sl (as.map (mvRv b))).length) Slot.unset).toArray) := by
  have hl : (lg_sl (as.map (mvRv b))).length = (mvFlat as).length := by rw [mvFlat_sl, List.length_map]
  have hh := lv_entry (as.map (mvRv b)) (n := n) (by rw [hl]; exact h)
  refine ⟨by rw [mvEntry_len h]; exact hh.1, hh.2.1, fun i v hv => ?_⟩
  have hg := mvEntry_get hv
  have hi : i < (mvFlat as).length := (List.getElem?_eq_some_iff.mp hg).1
  rw [List.getElem?_toArray, List.getElem?_append_left (by rw [hl]; exact hi), mvFlat_sl, List.getElem?_map, hg]
  rfl
/-- what the lists say of every method -/
theorem mv_md_ok : ∀ q ∈ mvMd, plainName q.1.cls = true ∧ mvCn (mvOwn q) = q.1.cls ∧ (q.1.cls ≠ "java/lang/invoke/MethodHandle" ∧ q.1.cls ≠ "java/lang/invoke/VarHandle" ∧ (parseMethodDescriptor q.1.desc).map (fun d => d.parameters.length) = some (mvNa q)) ∧ (mvKd q = 2 → q.1.name = "<init>" ∧ q.2.2.2.1 = none) ∧ q.2.2.1 + 19 ≤ 40 := by decide +kernel
theorem mv_md_own : ∀ q ∈ mvMt0, ¬ mvOwn q = 11 := by decide +kernel
theorem mv_ml_lt : ∀ z ∈ mvMl, z.2.2 < 255 ∧ (z.2.1 = 0 → (mvMd[z.2.2]?).map mvKd = some 0) ∧ ((z.2.1 = 2 ∨ z.2.1 = 6) → (mvMd[z.2.2]?).map mvKd = some 2) ∧ ((z.2.1 = 1 ∨ z.2.1 = 4) → (mvMd[z.2.2]?).map mvKd = some 1) := by decide +kernel
theorem mv_take {j : Nat} {q : mvMt} (hj : j < 255) (hq : mvMd[j]? = some q) : q ∈ mvMt0 := by
  refine List.mem_of_getElem? (i := j) ?_
  show (mvMd.take 255)[j]? = some q
  rw [List.getElem?_take_of_lt hj, hq]
def mvWs (q : mvMt) : List Jvm.Cond := mvWcode q :: mvTb
def mvRm (q : mvMt) (n n' : Nat) : Room := { frames := mvRk q, cells := n' - n, slots := mvSz n' - mvSz n, locals := 40 * mvRk q }
theorem mvTb_good : GoodIn mvTb mvTb := fun w hw => ⟨hw, good_of_word (List.mem_filter.mp hw).2⟩
theorem mvWs_good {q : mvMt} (h : mvWcode q ∈ mvTb) : GoodIn mvTb (mvWs q) := by
  intro w hw
  rcases List.mem_cons.mp hw with rfl | hw
  · exact ⟨h, Or.inl rfl⟩
  · exact mvTb_good w hw
section MVS
variable {p : Program} {l : Launch} {e : Env} {R : Room} {s : State} {m : MethodId} {args : Array Value} {below : List Frame} {meth : Method} {c : Code} {Q : State → Prop}
variable {b : mvBs} {D : va_G} {cA0 cA1 : ClassId} {t1 t2 : Int → Int} {Ls n0 own rk : Nat} {ini : Bool} {cc : ByteArray}
theorem mvNs_warm {s U : State} (hW : s.WarmedH U.vm) (h : mvNs s) : mvNs U := ⟨fun z hz => va_Nw.warmM hW (h.1 z hz), va_Nw.warmF hW h.2⟩
theorem mvNs_same {u U : State} (hv : u.vm = U.vm) (h : mvNs u) : mvNs U := ⟨fun z hz => va_Nw.same rfl hv (h.1 z hz), va_Nw.same rfl hv h.2⟩
theorem mvEnv_to {u U : State} (hvm : u.vm.Alike U.vm) (hN : mvNs u → mvNs U) (hz : u.heap.size ≤ U.heap.size) (hk : ∀ q : Nat, q < u.heap.size → ¬ b.1 ≤ q → U.heap[q]? = u.heap[q]?) (h : mvEnv b D cA0 cA1 t1 t2 Ls u) : mvEnv b D cA0 cA1 t1 t2 Ls U := by
  obtain ⟨E1, E2, E3, E4, E5, E6, E7, E8, E9, E10⟩ := h
  exact ⟨va_K.moved hvm E1, (E2.moved hvm).kept (fun a h1 h2 => hk a h1 h2), (E3.moved hvm).kept (fun a h1 h2 => hk a h1 h2), (E4.moved hvm).kept (hk _ (Nat.lt_of_lt_of_le E6 E7) (Nat.not_le.mpr E6)), E5, E6, Nat.le_trans E7 hz, E8, E9, hN E10⟩
def mvU (b : mvBs) (D : va_G) (cA0 cA1 : ClassId) (t1 t2 : Int → Int) (Ls : Nat) (σ : mvS) (U : State) : Prop := mvOks t1 t2 σ ∧ mvEnv b D cA0 cA1 t1 t2 Ls U ∧ U.heap.size = b.1 + (σ.1 - 3) ∧ va_P D mvTab (mvWd b cA0 cA1 σ) U.heap
def mvPc (b : mvBs) (D : va_G) (cA0 cA1 : ClassId) (t1 t2 : Int → Int) (Ls : Nat) (as : List mvV) (σ : mvS) : Array Value → State → Prop := fun v U => v = (as.map (mvRv b)).toArray ∧ mvU b D cA0 cA1 t1 t2 Ls σ U
def mvQc (b : mvBs) (D : va_G) (cA0 cA1 : ClassId) (t1 t2 : Int → Int) (Ls : Nat) (r : Option mvV) (σ' : mvS) : Array Value → State → Outcome → State → Prop := fun _ st o t => (o = .returned (r.map (mvRv b)) ∧ (∀ v, r = some v → mvOk v) ∧ mvU b D cA0 cA1 t1 t2 Ls σ' t) ∧ va_F (fun q => b.1 ≤ q) st t
theorem mvPc_blind {as : List mvV} {σ : mvS} : FrameBlind (mvPc b D cA0 cA1 t1 t2 Ls as σ) := by
  intro a U g mk h
  obtain ⟨h1, h2, h3, h4, h5⟩ := h
  exact ⟨h1, h2, mvEnv_to (u := U) (U := U.calling g mk a) (Vm.Alike.refl U.vm) (mvNs_same rfl) (Nat.le_refl _) (fun _ _ _ => rfl) h3, h4, h5⟩
theorem mvPc_at {as : List mvV} {σ : mvS} {L : mvL} {S : List mvV} {H : Heap} {locs : List Loc} {ls : Array Slot} (hE : mvEnv b D cA0 cA1 t1 t2 Ls s) (h : mvRel b D cA0 cA1 t1 t2 s σ L S H locs ls) (U : State) (hU : U.heap = H) (hW : s.WarmedH U.vm) : mvPc b D cA0 cA1 t1 t2 Ls as σ (as.map (mvRv b)).toArray U := by
  obtain ⟨g1, g2, g3, g4, g5, g6, g7⟩ := h
  refine ⟨rfl, g1, mvEnv_to hW.alike (mvNs_warm hW) (by rw [hU]; exact g6.1) (fun q h1 h2 => by rw [hU]; exact g6.2.1 q h1 h2) hE, by rw [hU]; exact g4, by rw [hU]; exact g5⟩
/-- behind a call -/
theorem mvs_back {L : mvL} {S S' : List mvV} {σ σ1 : mvS} {pc : Nat} {r : Option mvV} {a : Array Value} {H : Heap} {locs : List Loc} {ls : Array Slot} {st0 : List Value} (h : mvRel b D cA0 cA1 t1 t2 s σ L S H locs ls) (hS' : ∀ v ∈ S', mvOk v) (hn0 : n0 ≤ σ.1) (h01 : σ.1 ≤ σ1.1)
    (hr : va_Run p l e R s m args below meth c H locs (σ.1 - n0) (mvSz σ.1 - mvSz n0) (σ1.1 - σ.1) (mvSz σ1.1 - mvSz σ.1) (F0 m pc ls st0) (S'.map (mvRv b)) (mvQc b D cA0 cA1 t1 t2 Ls r σ1 a) (fun q => b.1 ≤ q))
    (kk : mvW p l e R s m args below meth c Q b D cA0 cA1 t1 t2 n0 (pc + 3) L (r.toList ++ S') σ1) : W p l e R s m args below meth c H locs (σ.1 - n0) (mvSz σ.1 - mvSz n0) Q (F0 m pc ls st0) := by
  obtain ⟨g1, g2, g3, g4, g5, g6, g7⟩ := h
  intro T hT X
  obtain ⟨v, st₀, t, T', L', h0, X', hL, e1, e2, ⟨⟨hv, hok, u1, u2, u3, u4⟩, hz, hk⟩, st⟩ := hr T hT X
  have hv' : v = r.map (mvRv b) := by injection hv
  subst hv'
  rw [h0] at hz hk
  have K := kk T'.heap (locs ++ L') ls ⟨u1, ?_, g3, by rw [e1]; exact u3, by rw [e1]; exact u4, ⟨Nat.le_trans g6.1 (by rw [e1]; exact hz), fun q h1 h2 => by rw [e1, hk q (Nat.lt_of_lt_of_le h1 g6.1) h2]; exact g6.2.1 q h1 h2, fun q hq => ?_⟩, g7⟩
  · have ec : σ1.1 - n0 = σ.1 - n0 + (σ1.1 - σ.1) := by omega
    have es : mvSz σ1.1 - mvSz n0 = mvSz σ.1 - mvSz n0 + (mvSz σ1.1 - mvSz σ.1) := by
      have := mvSz_mono hn0
      have := mvSz_mono h01
      omega
    rw [ec, es] at K
    obtain ⟨t2, a1, b1⟩ := K T' rfl X'
    have ers : (r.toList ++ S').map (mvRv b) = (r.map (mvRv b)).toList ++ S'.map (mvRv b) := by
      cases r <;> simp
    rw [ers] at a1
    exact ⟨t2, st t2 a1, b1⟩
  · intro v hv2
    rcases List.mem_append.mp hv2 with q | q
    · exact hok v (by simpa using q)
    · exact hS' v q
  · rcases List.mem_append.mp hq with q1 | q1
    · exact g6.2.2 q q1
    · exact hL q q1
end MVS
end
section
section MVS
variable {p : Program} {l : Launch} {e : Env} {R : Room} {s : State} {m : MethodId} {args : Array Value} {below : List Frame} {meth : Method} {c : Code} {Q : State → Prop}
variable {b : mvBs} {D : va_G} {cA0 cA1 : ClassId} {t1 t2 : Int → Int} {Ls n0 own rk : Nat} {ini : Bool} {cc : ByteArray}
/-- a run of the mini machine from a frame is one of the machine, to its return -/
def mvSim (l : Launch) (b : mvBs) (D : va_G) (cA0 cA1 : ClassId) (t1 t2 : Int → Int) (Ls n : Nat) : Prop :=
  ∀ (p : Program) (e : Env) (R : Room) (s : State) (m : MethodId) (args : Array Value) (below : List Frame) (meth : Method) (c : Code) (Q : State → Prop) (n0 j : Nat) (q : mvMt) (pc : Nat) (L : mvL) (S : List mvV) (σ : mvS) (r : Option mvV) (σ' : mvS),
    mvMd[j]? = some q → mvCx p R s m args meth c b D cA0 cA1 t1 t2 Ls (mvOwn q) (mvRk q) (mvKd q == 2) q.2.1 → L.length = c.maxLocals → n0 ≤ σ.1 → mvRoom R n0 σ'.1 → mvRun n j pc L S σ = some (r, σ') →
    (∀ (pc' : Nat) (L' : mvL) (S' : List mvV) (ins : Instr) (len : Nat), decode q.2.1 pc' = .ok (ins, len) → mvRet q.2.2.2.1 ins len S' = some r → mvW p l e R s m args below meth c Q b D cA0 cA1 t1 t2 n0 pc' L' S' σ') →
    mvW p l e R s m args below meth c Q b D cA0 cA1 t1 t2 n0 pc L S σ
theorem mv_ret_end {q : mvMt} {r : Option mvV} {σ' : mvS} {n0 pc : Nat} {L : mvL} {S : List mvV} {ins : Instr} {len : Nat} (Cx : mvCx p R s m args meth c b D cA0 cA1 t1 t2 Ls (mvOwn q) (mvRk q) (mvKd q == 2) q.2.1) (hr : meth.sig.returnType = q.2.2.2.1) (hlocks : meth.locks = false)
    (hd : decode q.2.1 pc = .ok (ins, len)) (ht : mvRet q.2.2.2.1 ins len S = some r) : mvW p l e R s m args below meth c (MQ below (mvQc b D cA0 cA1 t1 t2 Ls r σ') args s (σ'.1 - n0) (mvSz σ'.1 - mvSz n0) (fun q => b.1 ≤ q)) b D cA0 cA1 t1 t2 n0 pc L S σ' := by
  intro H locs ls h
  obtain ⟨g1, g2, g3, g4, g5, g6, g7⟩ := h
  obtain ⟨hx, hb, -, -, -, -, -, hE⟩ := Cx
  have fin : (∀ v, r = some v → mvOk v) → ∀ t : State, t.heap = H → s.WarmedH t.vm → mvQc b D cA0 cA1 t1 t2 Ls r σ' args s (.returned (r.map (mvRv b))) t := fun hok t ht hW =>
    ⟨⟨rfl, hok, g1, mvEnv_to hW.alike (mvNs_warm hW) (by rw [ht]; exact g6.1) (fun q h1 h2 => by rw [ht]; exact g6.2.1 q h1 h2) hE, by rw [ht]; exact g4, by rw [ht]; exact g5⟩, va_S.F g6 ht⟩
  unfold mvRet at ht
  split at ht
  · split at ht
    · rename_i x
      split at ht
      · rename_i hh
        cases ht
        have hx1 : mv32 x := g2 (mvI x) List.mem_cons_self
        rcases hh with hh | ⟨hh, h01⟩
        · exact W.zret hx hb (hr.trans hh) rfl (fin (fun v hv => by cases hv; exact hx1)) g6.2.2 hd hlocks
        · exact W.zret hx hb (hr.trans hh) (by rcases h01 with rfl | rfl <;> rfl) (fin (fun v hv => by cases hv; exact hx1)) g6.2.2 hd hlocks
      · cases ht
    · cases ht
  · split at ht
    · rename_i x
      split at ht
      · rename_i hh
        cases ht
        have hx1 : mv64 x := g2 (mvJ x) List.mem_cons_self
        exact W.lret hx hb (hr.trans hh) (fin (fun v hv => by cases hv; exact hx1)) g6.2.2 hd hlocks
      · cases ht
    · cases ht
  · split at ht
    · split at ht
      · rename_i hh
        cases ht
        exact W.vret hx hb (hr.trans hh) (fin (fun v hv => by cases hv)) g6.2.2 hd hlocks
      · cases ht
    · cases ht
  · cases ht
/-- a method's contract out of its run -/
theorem mv_met {n : Nat} (IH : mvSim l b D cA0 cA1 t1 t2 Ls n) {j : Nat} {q : mvMt} {as : List mvV} {σ σ' : mvS} {r : Option mvV} (hq : mvMd[j]? = some q) (hrun : mvRun n j 0 (mvEntry q.2.2.1 as) [] σ = some (r, σ')) (hok : ∀ v ∈ as, mvOk v) (hfl : (mvFlat as).length ≤ q.2.2.1) :
    Met l q.1 (mvWs q) (mvRm q σ.1 σ'.1) (mvPc b D cA0 cA1 t1 t2 Ls as σ) (mvQc b D cA0 cA1 t1 t2 Ls r σ') (σ'.1 - σ.1) (mvSz σ'.1 - mvSz σ.1) (fun q => b.1 ≤ q) := by
  have hmem := List.mem_of_getElem? hq
  obtain ⟨k1, k2, k3, k4, k5⟩ := mv_md_ok q hmem
  refine Met.ofW (cc := q.2.1) (maxL := q.2.2.1) (ret := q.2.2.2.1) k1 rfl ?_
  intro p e s m args below meth c s₁ B hml hv
  obtain ⟨rfl, g1, hE, g4, g5⟩ := hv
  have hts0 := atoms_spec (ws := mvWs q) B.pre
  have hts : ∀ w ∈ mvTb, w.before (as.map (mvRv b)).toArray s = true := fun w hw => hts0 w (List.mem_cons_of_mem _ hw)
  have hown : s.vm.findClass (mvCn (mvOwn q)) = some m.cls := by rw [k2]; exact findClass_of_methodNamed B.named
  have hnm := (name_of_methodNamed B.named B.method).1
  have Cx : mvCx p (headSpec (mvWs q) (mvRm q σ.1 σ'.1)).room s m (as.map (mvRv b)).toArray meth c b D cA0 cA1 t1 t2 Ls (mvOwn q) (mvRk q) (mvKd q == 2) q.2.1 :=
    ⟨B.exec, B.bytes, hown, fun hk => hnm.trans (k4 (beq_iff_eq.mp hk)).1, hts, Nat.le_refl _, Nat.le_refl _, hE⟩
  have K := IH p e (headSpec (mvWs q) (mvRm q σ.1 σ'.1)).room s m (as.map (mvRv b)).toArray below meth c (MQ below (mvQc b D cA0 cA1 t1 t2 Ls r σ') (as.map (mvRv b)).toArray s (σ'.1 - σ.1) (mvSz σ'.1 - mvSz σ.1) (fun q => b.1 ≤ q)) σ.1 j q 0 (mvEntry q.2.2.1 as) [] σ r σ' hq Cx (by rw [mvEntry_len hfl, hml]) (Nat.le_refl _) ⟨Nat.le_refl _, Nat.le_refl _⟩ hrun
    (fun pc' L' S' ins len hd ht => mv_ret_end Cx B.returns B.notSynchronized hd ht)
  have K2 := K s.heap [] _ ⟨g1, fun _ h => absurd h List.not_mem_nil, mvEntry_ok hok, g4, g5, va_S.rf, mvEntry_lr b hfl⟩
  rw [Nat.sub_self, Nat.sub_self] at K2
  rw [lg_entry_eq]
  exact K2
theorem mv_rev {α : Type} {S : List α} {n : Nat} : S = (S.take n).reverse.reverse ++ S.drop n := by rw [List.reverse_reverse, List.take_append_drop]
theorem mv_sum_cat {S : List mvV} : ((S.map (mvRv b)).map fun v => v.category).sum = mvCats S := by
  unfold mvCats
  rw [List.map_map]
  congr 1
  exact List.map_congr_left fun v _ => mvRv_cat b v
theorem mvCallN_spec {k j j' : Nat} {S as S' : List mvV} (h : mvCallN rk k j S = some (j', as, S')) : ∃ q, mvMd[j]? = some q ∧ j' = j ∧ mvRk q < rk ∧ as.length = k + mvNa q ∧ S = as.reverse ++ S' ∧ mvCats S' ≤ 8 ∧ (mvFlat as).length ≤ q.2.2.1 ∧ (if k = 1 then ¬ mvKd q = 1 else mvKd q = 1) := by
  unfold mvCallN at h
  split at h
  · rename_i q hq
    by_cases hh : mvRk q < rk ∧ k + mvNa q ≤ S.length ∧ mvCats (S.drop (k + mvNa q)) ≤ 8 ∧ (mvFlat (S.take (k + mvNa q)).reverse).length ≤ q.2.2.1 ∧ (if k = 1 then ¬ mvKd q = 1 else mvKd q = 1)
    · rw [if_pos hh] at h
      obtain ⟨h1, h2, h3, h4, h5⟩ := hh
      cases h
      refine ⟨q, hq, rfl, h1, ?_, mv_rev, h3, h4, h5⟩
      rw [List.length_reverse, List.length_take]
      omega
    · rw [if_neg hh] at h; cases h
  · cases h
/-- the call itself, by its kind -/
theorem mvs_call {n : Nat} (IH : mvSim l b D cA0 cA1 t1 t2 Ls n) {j' : Nat} {q' : mvMt} {L : mvL} {S as S' : List mvV} {σ σ1 : mvS} {r1 : Option mvV} {pc len : Nat} {ins : Instr} (Cx : mvCx p R s m args meth c b D cA0 cA1 t1 t2 Ls own rk ini cc) (hd : decode cc pc = .ok (ins, len)) (hc : mvCall own rk ins len S σ = some (j', as, S')) (hq : mvMd[j']? = some q')
    (hln : L.length = c.maxLocals) (hrun : mvRun n j' 0 (mvEntry q'.2.2.1 as) [] σ = some (r1, σ1)) (hn0 : n0 ≤ σ.1) (hR : mvRoom R n0 σ1.1) (kk : mvW p l e R s m args below meth c Q b D cA0 cA1 t1 t2 n0 (pc + 3) L (r1.toList ++ S') σ1) : mvW p l e R s m args below meth c Q b D cA0 cA1 t1 t2 n0 pc L S σ := by
  intro H locs ls h
  have h01 : σ.1 ≤ σ1.1 := mvRun_mono _ _ _ _ _ _ _ _ hrun
  have hx := Cx.1
  have hb := Cx.2.1
  have hown := Cx.2.2.1
  have hts := Cx.2.2.2.2.1
  have hfr := Cx.2.2.2.2.2.1
  have hlo := Cx.2.2.2.2.2.2.1
  have hE := Cx.2.2.2.2.2.2.2
  have hlsz : ls.size = c.maxLocals := h.2.2.2.2.2.2.1.trans hln
  have hmem := List.mem_of_getElem? hq
  obtain ⟨k1, k2, k3, k4, k5⟩ := mv_md_ok q' hmem
  have hcells : (σ.1 - n0) + (σ1.1 - σ.1) ≤ R.cells ∧ (mvSz σ.1 - mvSz n0) + (mvSz σ1.1 - mvSz σ.1) ≤ R.slots := by
    have a1 := hR.1
    have a2 := hR.2
    have a3 := mvSz_mono hn0
    have a4 := mvSz_mono h01
    exact ⟨by omega, by omega⟩
  have Sx : CallFix p m c cc ls.size s args mvTb (mvCn own) := ⟨hx, hb, hlsz.symm, hown, hts⟩
  -- what every kind has in common
  have common : ∀ (jj k : Nat) (hj : jj < 255), mvCallN rk k jj S = some (j', as, S') → mvWcode q' ∈ mvTb ∧ q' ∈ mvMt0 ∧ mvRk q' + 1 ≤ R.frames ∧ 8 + (q'.2.2.1 + 11) + 40 * mvRk q' ≤ R.locals ∧ as.length = k + mvNa q' ∧ S = as.reverse ++ S' ∧ mvCats S' ≤ 8 ∧ (mvFlat as).length ≤ q'.2.2.1 ∧ (if k = 1 then ¬ mvKd q' = 1 else mvKd q' = 1) ∧ jj = j' := by
    intro jj k hj hN
    obtain ⟨q, hq2, rfl, c1, c2, c3, c4, c5, c6⟩ := mvCallN_spec hN
    cases hq.symm.trans hq2
    have hm0 := mv_take hj hq
    exact ⟨mt_code hmem (mv_md_own q' hm0), hm0, by omega, by omega, c2, c3, c4, c5, c6, rfl⟩
  have hok : S = as.reverse ++ S' → (∀ v ∈ as, mvOk v) ∧ ∀ v ∈ S', mvOk v := fun e => ⟨fun v hv => h.2.1 v (by rw [e]; exact List.mem_append_left _ (List.mem_reverse.mpr hv)), fun v hv => h.2.1 v (by rw [e]; exact List.mem_append_right _ hv)⟩
  have hroom : mvCats S' ≤ 8 → ∀ st, 2 * (F0 m pc ls st).monitorRoom + ((S'.map (mvRv b)).map fun v => v.category).sum ≤ 8 := fun hc8 st => lv_room (by rw [mv_sum_cat]; exact hc8)
  have hyj : mvY j' = q'.1 := by unfold mvY; rw [hq]; rfl
  -- calls on an object
  have onobj : ∀ (jj : Nat) (hj : jj < 255) (hN : mvCallN rk 1 jj S = some (j', as, S')) (hrc : mvRecvB σ j' as = true), ∃ (a : Nat) (as' : List mvV), as = mvR a :: as' ∧ as'.length = mvNa q' ∧ (∃ cell : Cell, H[mvB b a]? = some cell ∧ cell.vm.isStatics = false ∧ s.vm.findClass q'.1.cls = some cell.cls) ∧ (S.map (mvRv b)) = (as'.map (mvRv b)).reverse ++ .ref (mvB b a) :: S'.map (mvRv b) := by
    intro jj hj hN hrc
    obtain ⟨-, -, -, -, e1, e2, -, -, -, rfl⟩ := common jj 1 hj hN
    unfold mvRecvB at hrc
    split at hrc
    · rename_i a as'
      have hrc := of_decide_eq_true hrc
      rw [hq] at hrc
      simp only [Option.map_some, Option.getD_some] at hrc
      obtain ⟨i1, i2, i3⟩ := mvIs_spec hrc (by decide)
      have hg := mvWd_get (b := b) (cA0 := cA0) (cA1 := cA1) i1 i2
      obtain ⟨tq, htq⟩ := (mvSH_ok a).1 (by rw [i3])
      rw [i3] at htq
      simp only at htq
      have hce : mvCe b cA0 cA1 σ a = .inr (mvOwn q', (List.range (mvNf (mvOwn q'))).map (fun f => mvFv b σ a (mvOwn q') f)) := by
        unfold mvCe
        rw [i3]
        rfl
      rw [hce] at hg
      have hre := va_recv hE.1 h.2.2.2.2.1 htq hg
      have hf1 := (mv_fact _ _ htq).1
      refine ⟨a, as', rfl, ?_, ?_, ?_⟩
      · have e1' : as'.length + 1 = 1 + mvNa q' := e1
        omega
      · rw [← k2, ← hf1]; exact hre
      · rw [e2, List.reverse_cons]
        simp [mvRv]
    · cases hrc
  unfold mvCall at hc
  split at hc
  · -- invokevirtual
    rename_i ix
    split at hc
    · rename_i jj hl
      have hm := mv_lookup hl
      obtain ⟨z1, z2, z3, z4⟩ := mv_ml_lt _ hm
      simp only at z1 z2
      split at hc
      · rename_i j2 as2 S2 hN
        split at hc
        · rename_i hrc
          cases hc
          obtain ⟨c1, c2, c3, c4, c5, c6, c7, c8, c9, rfl⟩ := common jj 1 z1 hN
          obtain ⟨a, as', rfl, e1, e2, e3⟩ := onobj jj z1 hN hrc
          have hkd : mvKd q' = 0 := by have := z2 trivial; rw [hq] at this; simpa using this
          have hw := mt_ml _ (List.mem_map_of_mem (List.mem_filter.mpr ⟨hm, by simp⟩))
          simp only [hyj] at hw
          have hi := mt_in _ (List.mem_map_of_mem (List.mem_filter.mpr ⟨c2, by
            have : q'.2.2.2.2.2.2.1 = 0 := hkd
            simp [this]⟩))
          have hse := mt_se _ (List.mem_map_of_mem (List.mem_filter.mpr ⟨c2, by
            have : q'.2.2.2.2.2.2.1 = 0 := hkd
            simp [this]⟩))
          have hini := mt_ini _ (List.mem_map_of_mem c2)
          have hM := mv_met IH hq hrun (hok c6).1 c8
          refine mvs_back (r := r1) h (hok c6).2 hn0 h01 (va_runV (As := as'.map (mvRv b)) (b := mvB b a) Sx hM ⟨callB_of (mvNa q') hts (mvWs_good c1) rfl rfl rfl (hts _ hini) (hts _ hw) k3 ⟨c3, c4⟩, hts _ hi, hts _ hse⟩ ⟨mvPc_blind, e2, fun U hU hW => ?_⟩ rfl (by rw [List.length_map]; exact e1) rfl e3 (hroom c7 _) hd hcells) kk
          exact mvPc_at (as := mvR a :: as') hE h U hU hW
        · cases hc
      · cases hc
    · cases hc
  · -- invokespecial
    rename_i ix
    split at hc
    · rename_i jj hl
      have hm := mv_lookup hl
      obtain ⟨z1, z2, z3, z4⟩ := mv_ml_lt _ hm
      simp only at z1 z3
      split at hc
      · rename_i j2 as2 S2 hN
        split at hc
        · rename_i hrc
          cases hc
          obtain ⟨c1, c2, c3, c4, c5, c6, c7, c8, c9, rfl⟩ := common jj 1 z1 hN
          obtain ⟨a, as', rfl, e1, e2, e3⟩ := onobj jj z1 hN hrc
          have hkd : mvKd q' = 2 := by have := z3 (Or.inl trivial); rw [hq] at this; simpa using this
          have hw := mt_ml _ (List.mem_map_of_mem (List.mem_filter.mpr ⟨hm, by simp⟩))
          simp only [hyj] at hw
          have hi := mt_in _ (List.mem_map_of_mem (List.mem_filter.mpr ⟨c2, by
            have : q'.2.2.2.2.2.2.1 = 2 := hkd
            simp [this]⟩))
          have hini := mt_ini _ (List.mem_map_of_mem c2)
          have hM := mv_met IH hq hrun (hok c6).1 c8
          have hB := callB_of (R := R) (rm := mvRm q' σ.1 σ1.1) (mvNa q') hts (mvWs_good c1) rfl rfl rfl (hts _ hini) (hts _ hw) k3 ⟨c3, c4⟩
          rw [(k4 hkd).2] at hB
          refine mvs_back (r := r1) h (hok c6).2 hn0 h01 (va_runI (As := as'.map (mvRv b)) (b := mvB b a) Sx hM ⟨hB, (k4 hkd).1, hts _ hi⟩ ⟨mvPc_blind, fun U hU hW => ?_⟩ rfl (by rw [List.length_map]; exact e1) rfl e3 (hroom c7 _) hd hcells) kk
          exact mvPc_at (as := mvR a :: as') hE h U hU hW
        · cases hc
      · cases hc
    · rename_i jj hl
      have hm := mv_lookup hl
      obtain ⟨z1, z2, z3, z4⟩ := mv_ml_lt _ hm
      simp only at z1 z3
      split at hc
      · rename_i j2 as2 S2 hN
        split at hc
        · rename_i hrc
          cases hc
          obtain ⟨c1, c2, c3, c4, c5, c6, c7, c8, c9, rfl⟩ := common jj 1 z1 hN
          obtain ⟨a, as', rfl, e1, e2, e3⟩ := onobj jj z1 hN hrc
          have hkd : mvKd q' = 2 := by have := z3 (Or.inr trivial); rw [hq] at this; simpa using this
          have hw := hE.2.2.2.2.2.2.2.2.2.1 _ (List.mem_filter.mpr ⟨hm, by simp⟩)
          simp only [hyj] at hw
          have hi := mt_in _ (List.mem_map_of_mem (List.mem_filter.mpr ⟨c2, by
            have : q'.2.2.2.2.2.2.1 = 2 := hkd
            simp [this]⟩))
          have hini := mt_ini _ (List.mem_map_of_mem c2)
          have hM := mv_met IH hq hrun (hok c6).1 c8
          have hB := va_cnB (R := R) (rm := mvRm q' σ.1 σ1.1) (mvNa q') hts (mvWs_good c1) rfl rfl rfl hw (hts _ hini) k3 ⟨c3, c4⟩
          rw [(k4 hkd).2] at hB
          refine mvs_back (r := r1) h (hok c6).2 hn0 h01 (va_runIN (As := as'.map (mvRv b)) (b := mvB b a) Sx hM ⟨hB, (k4 hkd).1, hts _ hi⟩ ⟨mvPc_blind, fun U hU hW => ?_⟩ rfl (by rw [List.length_map]; exact e1) rfl e3 (hroom c7 _) hd hcells) kk
          exact mvPc_at (as := mvR a :: as') hE h U hU hW
        · cases hc
      · cases hc
    · cases hc
  · -- invokestatic
    rename_i ix
    split at hc
    · rename_i jj hl
      have hm := mv_lookup hl
      obtain ⟨z1, z2, z3, z4⟩ := mv_ml_lt _ hm
      simp only at z1 z4
      obtain ⟨c1, c2, c3, c4, c5, c6, c7, c8, c9, rfl⟩ := common jj 0 z1 hc
      have hkd : mvKd q' = 1 := by have := z4 (Or.inl trivial); rw [hq] at this; simpa using this
      have hw := mt_ml _ (List.mem_map_of_mem (List.mem_filter.mpr ⟨hm, by simp⟩))
      simp only [hyj] at hw
      have hi := mt_st _ (List.mem_map_of_mem (List.mem_filter.mpr ⟨c2, by
        have : q'.2.2.2.2.2.2.1 = 1 := hkd
        simp [this]⟩))
      have hini := mt_ini _ (List.mem_map_of_mem c2)
      have hM := mv_met IH hq hrun (hok c6).1 c8
      refine mvs_back (r := r1) h (hok c6).2 hn0 h01 (va_runS (As := as.map (mvRv b)) Sx hM ⟨callB_of (mvNa q') hts (mvWs_good c1) rfl rfl rfl (hts _ hini) (hts _ hw) k3 ⟨c3, c4⟩, hts _ hi⟩ ⟨mvPc_blind, fun U hU hW => mvPc_at hE h U hU hW⟩ rfl (by rw [List.length_map]; omega) rfl (by rw [c6]; simp) (hroom c7 _) hd hcells) kk
    · rename_i jj hl
      have hm := mv_lookup hl
      obtain ⟨z1, z2, z3, z4⟩ := mv_ml_lt _ hm
      simp only at z1 z4
      obtain ⟨c1, c2, c3, c4, c5, c6, c7, c8, c9, rfl⟩ := common jj 0 z1 hc
      have hkd : mvKd q' = 1 := by have := z4 (Or.inr trivial); rw [hq] at this; simpa using this
      have hw := hE.2.2.2.2.2.2.2.2.2.1 _ (List.mem_filter.mpr ⟨hm, by simp⟩)
      simp only [hyj] at hw
      have hi := mt_st _ (List.mem_map_of_mem (List.mem_filter.mpr ⟨c2, by
        have : q'.2.2.2.2.2.2.1 = 1 := hkd
        simp [this]⟩))
      have hini := mt_ini _ (List.mem_map_of_mem c2)
      have hM := mv_met IH hq hrun (hok c6).1 c8
      refine mvs_back (r := r1) h (hok c6).2 hn0 h01 (va_runSN (As := as.map (mvRv b)) Sx hM ⟨va_cnB (mvNa q') hts (mvWs_good c1) rfl rfl rfl hw (hts _ hini) k3 ⟨c3, c4⟩, hts _ hi, trivial⟩ ⟨mvPc_blind, fun U hU hW => mvPc_at hE h U hU hW⟩ rfl (by rw [List.length_map]; omega) rfl (by rw [c6]; simp) (hroom c7 _) hd hcells) kk
    · cases hc
  · cases hc
theorem mv_sim : ∀ n : Nat, mvSim l b D cA0 cA1 t1 t2 Ls n := by
  intro n
  induction n with
  | zero => intro p e R s m args below meth c Q n0 j q pc L S σ r σ' _ _ _ _ _ hrun; cases hrun
  | succ n IH =>
    intro p e R s m args below meth c Q n0 j q pc L S σ r σ' hq Cx hln hn0 hR hrun hret
    unfold mvRun at hrun
    rw [hq] at hrun
    split at hrun
    · rename_i q2 ins len e1 e2
      cases e1
      have hd := mv_dec hq e2
      split at hrun
      · rename_i pc' L' S' σ1 hs
        have h1 := mvStep_len hs
        have h2 := mvRun_mono _ _ _ _ _ _ _ _ hrun
        have hR1 : mvRoom R n0 σ1.1 := ⟨by have := hR.1; omega, by have := hR.2; have := mvSz_mono h2; omega⟩
        exact mvs_step Cx hd hs hln hn0 hR1 (IH p e R s m args below meth c Q n0 j _ pc' L' S' σ1 r σ' hq Cx (h1.1.trans hln) (Nat.le_trans hn0 h1.2) hR hrun hret)
      · split at hrun
        · rename_i j' as S' hc
          split at hrun
          · rename_i q' hq'
            split at hrun
            · rename_i r1 σ1 hr1
              have h1 := mvRun_mono _ _ _ _ _ _ _ _ hr1
              have h2 := mvRun_mono _ _ _ _ _ _ _ _ hrun
              have hR1 : mvRoom R n0 σ1.1 := ⟨by have := hR.1; omega, by have := hR.2; have := mvSz_mono h2; omega⟩
              exact mvs_call IH Cx hd hc hq' hln hr1 hn0 hR1 (IH p e R s m args below meth c Q n0 j _ (pc + 3) L (r1.toList ++ S') σ1 r σ' hq Cx hln (Nat.le_trans hn0 h1) hR hrun hret)
            · cases hrun
          · cases hrun
        · split at hrun
          · rename_i r1 ht
            cases hrun
            exact hret pc L S ins len hd ht
          · cases hrun
    · cases hrun
end MVS
end
section
/-! reaching an end: the mini machine's runs, backwards -/
/-- what a run does at a place, with the run of what follows as a parameter -/
def mvRunK (f : Nat → Nat → mvL → List mvV → mvS → Option (Option mvV × mvS)) (j pc : Nat) (L : mvL) (S : List mvV) (σ : mvS) : Option (Option mvV × mvS) := match mvMd[j]?, mvDec j pc with
    | some q, some (ins, len) => match mvStep (mvOwn q) (mvKd q == 2) (mvRk q) pc ins len L S σ with
      | some (pc', L', S', σ') => f j pc' L' S' σ'
      | none => match mvCall (mvOwn q) (mvRk q) ins len S σ with
        | some (j', as, S') => match mvMd[j']? with
          | some q' => match f j' 0 (mvEntry q'.2.2.1 as) [] σ with
            | some (r, σ') => f j (pc + 3) L (r.toList ++ S') σ'
            | none => none
          | none => none
        | none => match mvRet q.2.2.2.1 ins len S with
          | some r => some (r, σ)
          | none => none
    | _, _ => none
theorem mvRun_eq (n j pc : Nat) (L : mvL) (S : List mvV) (σ : mvS) : mvRun (n + 1) j pc L S σ = mvRunK (mvRun n) j pc L S σ := rfl
theorem mvRunK_mono {f g : Nat → Nat → mvL → List mvV → mvS → Option (Option mvV × mvS)} (hfg : ∀ j pc L S σ z, f j pc L S σ = some z → g j pc L S σ = some z) {j pc : Nat} {L : mvL} {S : List mvV} {σ : mvS} {z : Option mvV × mvS} (h : mvRunK f j pc L S σ = some z) : mvRunK g j pc L S σ = some z := by
  unfold mvRunK at h ⊢
  cases hq : mvMd[j]? with
  | none => rw [hq] at h; cases h
  | some q =>
    cases hd : mvDec j pc with
    | none => rw [hq, hd] at h; cases h
    | some d =>
      obtain ⟨ins, len⟩ := d
      rw [hq, hd] at h
      simp only at h ⊢
      cases hs : mvStep (mvOwn q) (mvKd q == 2) (mvRk q) pc ins len L S σ with
      | some x => rw [hs] at h; exact hfg _ _ _ _ _ _ h
      | none =>
        rw [hs] at h
        simp only at h ⊢
        cases hc : mvCall (mvOwn q) (mvRk q) ins len S σ with
        | none => rw [hc] at h; exact h
        | some x =>
          obtain ⟨j', as, S'⟩ := x
          rw [hc] at h
          simp only at h ⊢
          cases hq' : mvMd[j']? with
          | none => rw [hq'] at h; cases h
          | some q' =>
            rw [hq'] at h
            simp only at h ⊢
            cases hf : f j' 0 (mvEntry q'.2.2.1 as) [] σ with
            | none => rw [hf] at h; cases h
            | some y =>
              rw [hf] at h
              rw [hfg _ _ _ _ _ _ hf]
              exact hfg _ _ _ _ _ _ h
theorem mvRun_fuel : ∀ (n j pc : Nat) (L : mvL) (S : List mvV) (σ : mvS) (z : Option mvV × mvS), mvRun n j pc L S σ = some z → mvRun (n + 1) j pc L S σ = some z := by
  intro n
  induction n with
  | zero => intro j pc L S σ z h; cases h
  | succ n ih =>
    intro j pc L S σ z h
    rw [mvRun_eq] at h ⊢
    exact mvRunK_mono ih h
theorem mvRun_le {n m j pc : Nat} {L : mvL} {S : List mvV} {σ : mvS} {z : Option mvV × mvS} (h : mvRun n j pc L S σ = some z) (hm : n ≤ m) : mvRun m j pc L S σ = some z := by
  induction hm with
  | refl => exact h
  | step _ ih => exact mvRun_fuel _ _ _ _ _ _ _ ih
def Rch (j pc : Nat) (L : mvL) (S : List mvV) (σ : mvS) (Q : Option mvV → mvS → Prop) : Prop := ∃ (n : Nat) (r : Option mvV) (σ' : mvS), mvRun n j pc L S σ = some (r, σ') ∧ Q r σ'
/-- what a rule asks of the method: own class, kind, rank, locals, arguments, what it returns -/
def mvMq (j own kd rk mL na : Nat) (rt : Option FieldType) : Prop := ∃ q, mvMd[j]? = some q ∧ mvOwn q = own ∧ mvKd q = kd ∧ mvRk q = rk ∧ q.2.2.1 = mL ∧ mvNa q = na ∧ q.2.2.2.1 = rt
theorem mvDec_of {j pc : Nat} {cd : List (Nat × Instr × Nat)} {x : Instr × Nat} (h : mvCdl[j]? = some cd) (h2 : cd.lookup pc = some x) : mvDec j pc = some x := by
  unfold mvDec
  rw [h]
  exact h2
section RC
variable {j own kd rk mL na : Nat} {rt : Option FieldType} {pc : Nat} {L : mvL} {S : List mvV} {σ : mvS} {Q : Option mvV → mvS → Prop}
theorem rc_step {ins : Instr} {len pc' : Nat} {L' : mvL} {S' : List mvV} {σ' : mvS} (M : mvMq j own kd rk mL na rt) (hd : mvDec j pc = some (ins, len)) (hs : mvStep own (kd == 2) rk pc ins len L S σ = some (pc', L', S', σ')) (k : Rch j pc' L' S' σ' Q) : Rch j pc L S σ Q := by
  obtain ⟨q, hq, rfl, rfl, rfl, -⟩ := M
  obtain ⟨n, r, σ2, h1, h2⟩ := k
  refine ⟨n + 1, r, σ2, ?_, h2⟩
  rw [mvRun_eq]
  unfold mvRunK
  simp only [hq, hd, hs]
  exact h1
theorem rc_callG {ins : Instr} {len j' : Nat} {as S' : List mvV} {q' : mvMt} (M : mvMq j own kd rk mL na rt) (hd : mvDec j pc = some (ins, len)) (hs : mvStep own (kd == 2) rk pc ins len L S σ = none) (hc : mvCall own rk ins len S σ = some (j', as, S')) (hq' : mvMd[j']? = some q')
    (k : Rch j' 0 (mvEntry q'.2.2.1 as) [] σ (fun r σ' => Rch j (pc + 3) L (r.toList ++ S') σ' Q)) : Rch j pc L S σ Q := by
  obtain ⟨q, hq, rfl, rfl, rfl, -⟩ := M
  obtain ⟨n, r, σ2, h1, n2, r2, σ3, h2, h3⟩ := k
  refine ⟨(n + n2) + 1, r2, σ3, ?_, h3⟩
  rw [mvRun_eq]
  unfold mvRunK
  simp only [hq, hd, hs, hc, hq', mvRun_le h1 (Nat.le_add_right n n2)]
  exact mvRun_le h2 (Nat.le_add_left n2 n)
theorem rc_retG {ins : Instr} {len : Nat} {r : Option mvV} (M : mvMq j own kd rk mL na rt) (hd : mvDec j pc = some (ins, len)) (hs : mvStep own (kd == 2) rk pc ins len L S σ = none) (hc : mvCall own rk ins len S σ = none) (hr : mvRet rt ins len S = some r) (k : Q r σ) : Rch j pc L S σ Q := by
  obtain ⟨q, hq, rfl, rfl, rfl, -, -, rfl⟩ := M
  refine ⟨0 + 1, r, σ, ?_, k⟩
  rw [mvRun_eq]
  unfold mvRunK
  simp only [hq, hd, hs, hc, hr]
theorem rc_mono {Q' : Option mvV → mvS → Prop} (h : Rch j pc L S σ Q) (hQ : ∀ r σ', Q r σ' → Q' r σ') : Rch j pc L S σ Q' := by
  obtain ⟨n, r, σ', h1, h2⟩ := h
  exact ⟨n, r, σ', h1, hQ _ _ h2⟩
theorem rc_iload_n {k : Fin 4} {x : Int} (M : mvMq j own kd rk mL na rt) (hd : mvDec j pc = some (.iload_n k, 1)) (hg : mvGet L k = some (mvI x)) (kk : Rch j (pc + 1) L (mvI x :: S) σ Q) : Rch j pc L S σ Q := rc_step M hd (show mvLdI (mvGet L k) (pc + 1) L S σ = _ by rw [hg]; rfl) kk
theorem rc_iload {k : Nat} {x : Int} (M : mvMq j own kd rk mL na rt) (hd : mvDec j pc = some (.iload k, 2)) (hg : mvGet L k = some (mvI x)) (kk : Rch j (pc + 2) L (mvI x :: S) σ Q) : Rch j pc L S σ Q := rc_step M hd (show mvLdI (mvGet L k) (pc + 2) L S σ = _ by rw [hg]; rfl) kk
theorem rc_lload_n {k : Fin 4} {x : Int} (M : mvMq j own kd rk mL na rt) (hd : mvDec j pc = some (.lload_n k, 1)) (hg : mvGet L k = some (mvJ x)) (kk : Rch j (pc + 1) L (mvJ x :: S) σ Q) : Rch j pc L S σ Q := rc_step M hd (show mvLdJ (mvGet L k) (pc + 1) L S σ = _ by rw [hg]; rfl) kk
theorem rc_aload_n {k : Fin 4} {x : Nat} (M : mvMq j own kd rk mL na rt) (hd : mvDec j pc = some (.aload_n k, 1)) (hg : mvGet L k = some (mvR x)) (kk : Rch j (pc + 1) L (mvR x :: S) σ Q) : Rch j pc L S σ Q := rc_step M hd (show mvLdR (mvGet L k) (pc + 1) L S σ = _ by rw [hg]; rfl) kk
theorem rc_aload {k : Nat} {x : Nat} (M : mvMq j own kd rk mL na rt) (hd : mvDec j pc = some (.aload k, 2)) (hg : mvGet L k = some (mvR x)) (kk : Rch j (pc + 2) L (mvR x :: S) σ Q) : Rch j pc L S σ Q := rc_step M hd (show mvLdR (mvGet L k) (pc + 2) L S σ = _ by rw [hg]; rfl) kk
theorem rc_istore_n {k : Fin 4} {x : Int} (L' : mvL) (M : mvMq j own kd rk mL na rt) (hd : mvDec j pc = some (.istore_n k, 1)) (hs : mvSt L k (mvI x) = some L') (kk : Rch j (pc + 1) L' S σ Q) : Rch j pc L (mvI x :: S) σ Q := rc_step M hd (show mvToL (mvSt L k (mvI x)) (pc + 1) S σ = _ by rw [hs]; rfl) kk
theorem rc_istore {k : Nat} {x : Int} (L' : mvL) (M : mvMq j own kd rk mL na rt) (hd : mvDec j pc = some (.istore k, 2)) (hs : mvSt L k (mvI x) = some L') (kk : Rch j (pc + 2) L' S σ Q) : Rch j pc L (mvI x :: S) σ Q := rc_step M hd (show mvToL (mvSt L k (mvI x)) (pc + 2) S σ = _ by rw [hs]; rfl) kk
theorem rc_astore_n {k : Fin 4} {x : Nat} (L' : mvL) (M : mvMq j own kd rk mL na rt) (hd : mvDec j pc = some (.astore_n k, 1)) (hs : mvSt L k (mvR x) = some L') (kk : Rch j (pc + 1) L' S σ Q) : Rch j pc L (mvR x :: S) σ Q := rc_step M hd (show mvToL (mvSt L k (mvR x)) (pc + 1) S σ = _ by rw [hs]; rfl) kk
theorem rc_lstore_n {k : Fin 4} {x : Int} (L' : mvL) (M : mvMq j own kd rk mL na rt) (hd : mvDec j pc = some (.lstore_n k, 1)) (hs : mvSt2 L k (mvJ x) = some L') (kk : Rch j (pc + 1) L' S σ Q) : Rch j pc L (mvJ x :: S) σ Q := rc_step M hd (show mvToL (mvSt2 L k (mvJ x)) (pc + 1) S σ = _ by rw [hs]; rfl) kk
theorem rc_iconst {n : Int} (M : mvMq j own kd rk mL na rt) (hd : mvDec j pc = some (.iconst n, 1)) (hn : -1 ≤ n ∧ n ≤ 5) (kk : Rch j (pc + 1) L (mvI n :: S) σ Q) : Rch j pc L S σ Q := rc_step M hd (show (if -1 ≤ n ∧ n ≤ 5 then some (pc + 1, L, mvI n :: S, σ) else none) = _ by rw [if_pos hn]) kk
theorem rc_bipush {n : Int} (M : mvMq j own kd rk mL na rt) (hd : mvDec j pc = some (.bipush n, 2)) (hn : -128 ≤ n ∧ n ≤ 127) (kk : Rch j (pc + 2) L (mvI n :: S) σ Q) : Rch j pc L S σ Q := rc_step M hd (show (if -128 ≤ n ∧ n ≤ 127 then some (pc + 2, L, mvI n :: S, σ) else none) = _ by rw [if_pos hn]) kk
theorem rc_sipush {n : Int} (M : mvMq j own kd rk mL na rt) (hd : mvDec j pc = some (.sipush n, 3)) (hn : -32768 ≤ n ∧ n ≤ 32767) (kk : Rch j (pc + 3) L (mvI n :: S) σ Q) : Rch j pc L S σ Q := rc_step M hd (show (if -32768 ≤ n ∧ n ≤ 32767 then some (pc + 3, L, mvI n :: S, σ) else none) = _ by rw [if_pos hn]) kk
theorem rc_lconst {n : Fin 2} (M : mvMq j own kd rk mL na rt) (hd : mvDec j pc = some (.lconst n, 1)) (kk : Rch j (pc + 1) L (mvJ ((n : Nat) : Int) :: S) σ Q) : Rch j pc L S σ Q := rc_step M hd rfl kk
theorem rc_ldcw {ix : Nat} {x : Int} (M : mvMq j own kd rk mL na rt) (hd : mvDec j pc = some (.ldc_w ix, 3)) (hl : mvIl.lookup (own, ix) = some x) (kk : Rch j (pc + 3) L (mvI x :: S) σ Q) : Rch j pc L S σ Q := rc_step M hd (show (match mvIl.lookup (own, ix) with | some x => some (pc + 3, L, mvI x :: S, σ) | none => none) = _ by rw [hl]) kk
theorem rc_ldc2 {ix : Nat} {x : Int} (M : mvMq j own kd rk mL na rt) (hd : mvDec j pc = some (.ldc2_w ix, 3)) (hl : mvJl.lookup (own, ix) = some x) (kk : Rch j (pc + 3) L (mvJ x :: S) σ Q) : Rch j pc L S σ Q := rc_step M hd (show (match mvJl.lookup (own, ix) with | some x => some (pc + 3, L, mvJ x :: S, σ) | none => none) = _ by rw [hl]) kk
theorem rc_iinc {i : Nat} {n x : Int} (L' : mvL) (M : mvMq j own kd rk mL na rt) (hd : mvDec j pc = some (.iinc i n, 3)) (hg : mvGet L i = some (mvI x)) (hs : mvSt L i (mvI (mw (x + n))) = some L') (kk : Rch j (pc + 3) L' S σ Q) : Rch j pc L S σ Q := rc_step M hd (show (match mvGet L i with | some (.inl x) => mvToL (mvSt L i (mvI (mw (x + n)))) (pc + 3) S σ | _ => none) = _ by rw [hg]; show mvToL (mvSt L i (mvI (mw (x + n)))) (pc + 3) S σ = _; rw [hs]; rfl) kk
theorem rc_iadd {x y : Int} (M : mvMq j own kd rk mL na rt) (hd : mvDec j pc = some (.iadd, 1)) (kk : Rch j (pc + 1) L (mvI (mw (x + y)) :: S) σ Q) : Rch j pc L (mvI y :: mvI x :: S) σ Q := rc_step M hd rfl kk
theorem rc_isub {x y : Int} (M : mvMq j own kd rk mL na rt) (hd : mvDec j pc = some (.isub, 1)) (kk : Rch j (pc + 1) L (mvI (mw (x - y)) :: S) σ Q) : Rch j pc L (mvI y :: mvI x :: S) σ Q := rc_step M hd rfl kk
theorem rc_imul {x y : Int} (M : mvMq j own kd rk mL na rt) (hd : mvDec j pc = some (.imul, 1)) (kk : Rch j (pc + 1) L (mvI (mw (x * y)) :: S) σ Q) : Rch j pc L (mvI y :: mvI x :: S) σ Q := rc_step M hd rfl kk
theorem rc_iand {x y : Int} (M : mvMq j own kd rk mL na rt) (hd : mvDec j pc = some (.iand, 1)) (kk : Rch j (pc + 1) L (mvI (mvAnd x y) :: S) σ Q) : Rch j pc L (mvI y :: mvI x :: S) σ Q := rc_step M hd rfl kk
theorem rc_ior {x y : Int} (M : mvMq j own kd rk mL na rt) (hd : mvDec j pc = some (.ior, 1)) (kk : Rch j (pc + 1) L (mvI (mvOr x y) :: S) σ Q) : Rch j pc L (mvI y :: mvI x :: S) σ Q := rc_step M hd rfl kk
theorem rc_ishl {x y : Int} (M : mvMq j own kd rk mL na rt) (hd : mvDec j pc = some (.ishl, 1)) (kk : Rch j (pc + 1) L (mvI (mvShl x y) :: S) σ Q) : Rch j pc L (mvI y :: mvI x :: S) σ Q := rc_step M hd rfl kk
theorem rc_ishr {x y : Int} (M : mvMq j own kd rk mL na rt) (hd : mvDec j pc = some (.ishr, 1)) (kk : Rch j (pc + 1) L (mvI (mvShr x y) :: S) σ Q) : Rch j pc L (mvI y :: mvI x :: S) σ Q := rc_step M hd rfl kk
theorem rc_iushr {x y : Int} (M : mvMq j own kd rk mL na rt) (hd : mvDec j pc = some (.iushr, 1)) (kk : Rch j (pc + 1) L (mvI (mvUshr x y) :: S) σ Q) : Rch j pc L (mvI y :: mvI x :: S) σ Q := rc_step M hd rfl kk
theorem rc_ladd {x y : Int} (M : mvMq j own kd rk mL na rt) (hd : mvDec j pc = some (.ladd, 1)) (kk : Rch j (pc + 1) L (mvJ (mwl (x + y)) :: S) σ Q) : Rch j pc L (mvJ y :: mvJ x :: S) σ Q := rc_step M hd rfl kk
theorem rc_lmul {x y : Int} (M : mvMq j own kd rk mL na rt) (hd : mvDec j pc = some (.lmul, 1)) (kk : Rch j (pc + 1) L (mvJ (mwl (x * y)) :: S) σ Q) : Rch j pc L (mvJ y :: mvJ x :: S) σ Q := rc_step M hd rfl kk
theorem rc_lcmp {x y : Int} (M : mvMq j own kd rk mL na rt) (hd : mvDec j pc = some (.lcmp, 1)) (kk : Rch j (pc + 1) L (mvI (mvLcmp x y) :: S) σ Q) : Rch j pc L (mvJ y :: mvJ x :: S) σ Q := rc_step M hd rfl kk
theorem rc_idiv {x y : Int} (M : mvMq j own kd rk mL na rt) (hd : mvDec j pc = some (.idiv, 1)) (hy : ¬ y = 0) (kk : Rch j (pc + 1) L (mvI (mw (x.tdiv y)) :: S) σ Q) : Rch j pc L (mvI y :: mvI x :: S) σ Q := rc_step M hd (show (if y = 0 then none else some (pc + 1, L, mvI (mw (x.tdiv y)) :: S, σ)) = _ by rw [if_neg hy]) kk
theorem rc_irem {x y : Int} (M : mvMq j own kd rk mL na rt) (hd : mvDec j pc = some (.irem, 1)) (hy : ¬ y = 0) (kk : Rch j (pc + 1) L (mvI (x.tmod y) :: S) σ Q) : Rch j pc L (mvI y :: mvI x :: S) σ Q := rc_step M hd (show (if y = 0 then none else some (pc + 1, L, mvI (x.tmod y) :: S, σ)) = _ by rw [if_neg hy]) kk
theorem rc_ldiv {x y : Int} (M : mvMq j own kd rk mL na rt) (hd : mvDec j pc = some (.ldiv, 1)) (hy : ¬ y = 0) (kk : Rch j (pc + 1) L (mvJ (mwl (x.tdiv y)) :: S) σ Q) : Rch j pc L (mvJ y :: mvJ x :: S) σ Q := rc_step M hd (show (if y = 0 then none else some (pc + 1, L, mvJ (mwl (x.tdiv y)) :: S, σ)) = _ by rw [if_neg hy]) kk
theorem rc_lrem {x y : Int} (M : mvMq j own kd rk mL na rt) (hd : mvDec j pc = some (.lrem, 1)) (hy : ¬ y = 0) (kk : Rch j (pc + 1) L (mvJ (x.tmod y) :: S) σ Q) : Rch j pc L (mvJ y :: mvJ x :: S) σ Q := rc_step M hd (show (if y = 0 then none else some (pc + 1, L, mvJ (x.tmod y) :: S, σ)) = _ by rw [if_neg hy]) kk
theorem rc_i2l {x : Int} (M : mvMq j own kd rk mL na rt) (hd : mvDec j pc = some (.i2l, 1)) (kk : Rch j (pc + 1) L (mvJ x :: S) σ Q) : Rch j pc L (mvI x :: S) σ Q := rc_step M hd rfl kk
theorem rc_l2i {x : Int} (M : mvMq j own kd rk mL na rt) (hd : mvDec j pc = some (.l2i, 1)) (kk : Rch j (pc + 1) L (mvI (mw x) :: S) σ Q) : Rch j pc L (mvJ x :: S) σ Q := rc_step M hd rfl kk
theorem rc_dup {v : mvV} (M : mvMq j own kd rk mL na rt) (hd : mvDec j pc = some (.dup, 1)) (hv : mvCat v = 1) (kk : Rch j (pc + 1) L (v :: v :: S) σ Q) : Rch j pc L (v :: S) σ Q := rc_step M hd (show (if mvCat v = 1 then some (pc + 1, L, v :: v :: S, σ) else none) = _ by rw [if_pos hv]) kk
theorem rc_dup2 {v u : mvV} (M : mvMq j own kd rk mL na rt) (hd : mvDec j pc = some (.dup2, 1)) (hv : mvCat v = 1) (hu : mvCat u = 1) (kk : Rch j (pc + 1) L (v :: u :: v :: u :: S) σ Q) : Rch j pc L (v :: u :: S) σ Q := rc_step M hd (show (if mvCat v = 1 ∧ mvCat u = 1 then some (pc + 1, L, v :: u :: v :: u :: S, σ) else none) = _ by rw [if_pos ⟨hv, hu⟩]) kk
theorem rc_pop {v : mvV} (M : mvMq j own kd rk mL na rt) (hd : mvDec j pc = some (.pop, 1)) (hv : mvCat v = 1) (kk : Rch j (pc + 1) L S σ Q) : Rch j pc L (v :: S) σ Q := rc_step M hd (show (if mvCat v = 1 then some (pc + 1, L, S, σ) else none) = _ by rw [if_pos hv]) kk
theorem rc_goto {off : Int} {t : Nat} (M : mvMq j own kd rk mL na rt) (hd : mvDec j pc = some (.goto off, 3)) (ht : mvTgt pc off = some t) (kk : Rch j t L S σ Q) : Rch j pc L S σ Q := rc_step M hd (show mvGo (mvTgt pc off) L S σ = _ by rw [ht]; rfl) kk
theorem rc_br {x y : Int} {cd : ClassFile.Cond} {off : Int} {t : Nat} (M : mvMq j own kd rk mL na rt) (hd : mvDec j pc = some (.if_icmp cd off, 3)) (ht : mvTgt pc off = some t) (kk : Rch j (if mvCmpB cd x y = true then t else pc + 3) L S σ Q) : Rch j pc L (mvI y :: mvI x :: S) σ Q := rc_step M hd (show (match mvTgt pc off with | some t => some (if mvCmpB cd x y = true then t else pc + 3, L, S, σ) | none => none) = _ by rw [ht]) kk
theorem rc_brz {x : Int} {cd : ClassFile.Cond} {off : Int} {t : Nat} (M : mvMq j own kd rk mL na rt) (hd : mvDec j pc = some (.ifCond cd off, 3)) (ht : mvTgt pc off = some t) (kk : Rch j (if mvCmpB cd x 0 = true then t else pc + 3) L S σ Q) : Rch j pc L (mvI x :: S) σ Q := rc_step M hd (show (match mvTgt pc off with | some t => some (if mvCmpB cd x 0 = true then t else pc + 3, L, S, σ) | none => none) = _ by rw [ht]) kk
theorem rc_icmp_eq {x y off : Int} {t : Nat} (M : mvMq j own kd rk mL na rt) (hd : mvDec j pc = some (.if_icmp .eq off, 3)) (ht : mvTgt pc off = some t) (kt : x = y → Rch j t L S σ Q) (kf : ¬ x = y → Rch j (pc + 3) L S σ Q) : Rch j pc L (mvI y :: mvI x :: S) σ Q := rc_br M hd ht (by
  by_cases h : x = y
  · rw [if_pos (show mvCmpB .eq x y = true from decide_eq_true h)]; exact kt h
  · rw [if_neg (show ¬ mvCmpB .eq x y = true from fun z => h (of_decide_eq_true z))]; exact kf (by omega))
theorem rc_if_eq {x off : Int} {t : Nat} (M : mvMq j own kd rk mL na rt) (hd : mvDec j pc = some (.ifCond .eq off, 3)) (ht : mvTgt pc off = some t) (kt : x = 0 → Rch j t L S σ Q) (kf : ¬ x = 0 → Rch j (pc + 3) L S σ Q) : Rch j pc L (mvI x :: S) σ Q := rc_brz M hd ht (by
  by_cases h : x = 0
  · rw [if_pos (show mvCmpB .eq x 0 = true from decide_eq_true h)]; exact kt h
  · rw [if_neg (show ¬ mvCmpB .eq x 0 = true from fun z => h (of_decide_eq_true z))]; exact kf (by omega))
theorem rc_icmp_ne {x y off : Int} {t : Nat} (M : mvMq j own kd rk mL na rt) (hd : mvDec j pc = some (.if_icmp .ne off, 3)) (ht : mvTgt pc off = some t) (kt : ¬ x = y → Rch j t L S σ Q) (kf : x = y → Rch j (pc + 3) L S σ Q) : Rch j pc L (mvI y :: mvI x :: S) σ Q := rc_br M hd ht (by
  by_cases h : ¬ x = y
  · rw [if_pos (show mvCmpB .ne x y = true from decide_eq_true h)]; exact kt h
  · rw [if_neg (show ¬ mvCmpB .ne x y = true from fun z => h (of_decide_eq_true z))]; exact kf (by omega))
theorem rc_if_ne {x off : Int} {t : Nat} (M : mvMq j own kd rk mL na rt) (hd : mvDec j pc = some (.ifCond .ne off, 3)) (ht : mvTgt pc off = some t) (kt : ¬ x = 0 → Rch j t L S σ Q) (kf : x = 0 → Rch j (pc + 3) L S σ Q) : Rch j pc L (mvI x :: S) σ Q := rc_brz M hd ht (by
  by_cases h : ¬ x = 0
  · rw [if_pos (show mvCmpB .ne x 0 = true from decide_eq_true h)]; exact kt h
  · rw [if_neg (show ¬ mvCmpB .ne x 0 = true from fun z => h (of_decide_eq_true z))]; exact kf (by omega))
theorem rc_icmp_lt {x y off : Int} {t : Nat} (M : mvMq j own kd rk mL na rt) (hd : mvDec j pc = some (.if_icmp .lt off, 3)) (ht : mvTgt pc off = some t) (kt : x < y → Rch j t L S σ Q) (kf : y ≤ x → Rch j (pc + 3) L S σ Q) : Rch j pc L (mvI y :: mvI x :: S) σ Q := rc_br M hd ht (by
  by_cases h : x < y
  · rw [if_pos (show mvCmpB .lt x y = true from decide_eq_true h)]; exact kt h
  · rw [if_neg (show ¬ mvCmpB .lt x y = true from fun z => h (of_decide_eq_true z))]; exact kf (by omega))
theorem rc_if_lt {x off : Int} {t : Nat} (M : mvMq j own kd rk mL na rt) (hd : mvDec j pc = some (.ifCond .lt off, 3)) (ht : mvTgt pc off = some t) (kt : x < 0 → Rch j t L S σ Q) (kf : 0 ≤ x → Rch j (pc + 3) L S σ Q) : Rch j pc L (mvI x :: S) σ Q := rc_brz M hd ht (by
  by_cases h : x < 0
  · rw [if_pos (show mvCmpB .lt x 0 = true from decide_eq_true h)]; exact kt h
  · rw [if_neg (show ¬ mvCmpB .lt x 0 = true from fun z => h (of_decide_eq_true z))]; exact kf (by omega))
theorem rc_icmp_ge {x y off : Int} {t : Nat} (M : mvMq j own kd rk mL na rt) (hd : mvDec j pc = some (.if_icmp .ge off, 3)) (ht : mvTgt pc off = some t) (kt : y ≤ x → Rch j t L S σ Q) (kf : x < y → Rch j (pc + 3) L S σ Q) : Rch j pc L (mvI y :: mvI x :: S) σ Q := rc_br M hd ht (by
  by_cases h : y ≤ x
  · rw [if_pos (show mvCmpB .ge x y = true from decide_eq_true h)]; exact kt h
  · rw [if_neg (show ¬ mvCmpB .ge x y = true from fun z => h (of_decide_eq_true z))]; exact kf (by omega))
theorem rc_if_ge {x off : Int} {t : Nat} (M : mvMq j own kd rk mL na rt) (hd : mvDec j pc = some (.ifCond .ge off, 3)) (ht : mvTgt pc off = some t) (kt : 0 ≤ x → Rch j t L S σ Q) (kf : x < 0 → Rch j (pc + 3) L S σ Q) : Rch j pc L (mvI x :: S) σ Q := rc_brz M hd ht (by
  by_cases h : 0 ≤ x
  · rw [if_pos (show mvCmpB .ge x 0 = true from decide_eq_true h)]; exact kt h
  · rw [if_neg (show ¬ mvCmpB .ge x 0 = true from fun z => h (of_decide_eq_true z))]; exact kf (by omega))
theorem rc_icmp_gt {x y off : Int} {t : Nat} (M : mvMq j own kd rk mL na rt) (hd : mvDec j pc = some (.if_icmp .gt off, 3)) (ht : mvTgt pc off = some t) (kt : y < x → Rch j t L S σ Q) (kf : x ≤ y → Rch j (pc + 3) L S σ Q) : Rch j pc L (mvI y :: mvI x :: S) σ Q := rc_br M hd ht (by
  by_cases h : y < x
  · rw [if_pos (show mvCmpB .gt x y = true from decide_eq_true h)]; exact kt h
  · rw [if_neg (show ¬ mvCmpB .gt x y = true from fun z => h (of_decide_eq_true z))]; exact kf (by omega))
theorem rc_if_gt {x off : Int} {t : Nat} (M : mvMq j own kd rk mL na rt) (hd : mvDec j pc = some (.ifCond .gt off, 3)) (ht : mvTgt pc off = some t) (kt : 0 < x → Rch j t L S σ Q) (kf : x ≤ 0 → Rch j (pc + 3) L S σ Q) : Rch j pc L (mvI x :: S) σ Q := rc_brz M hd ht (by
  by_cases h : 0 < x
  · rw [if_pos (show mvCmpB .gt x 0 = true from decide_eq_true h)]; exact kt h
  · rw [if_neg (show ¬ mvCmpB .gt x 0 = true from fun z => h (of_decide_eq_true z))]; exact kf (by omega))
theorem rc_icmp_le {x y off : Int} {t : Nat} (M : mvMq j own kd rk mL na rt) (hd : mvDec j pc = some (.if_icmp .le off, 3)) (ht : mvTgt pc off = some t) (kt : x ≤ y → Rch j t L S σ Q) (kf : y < x → Rch j (pc + 3) L S σ Q) : Rch j pc L (mvI y :: mvI x :: S) σ Q := rc_br M hd ht (by
  by_cases h : x ≤ y
  · rw [if_pos (show mvCmpB .le x y = true from decide_eq_true h)]; exact kt h
  · rw [if_neg (show ¬ mvCmpB .le x y = true from fun z => h (of_decide_eq_true z))]; exact kf (by omega))
theorem rc_if_le {x off : Int} {t : Nat} (M : mvMq j own kd rk mL na rt) (hd : mvDec j pc = some (.ifCond .le off, 3)) (ht : mvTgt pc off = some t) (kt : x ≤ 0 → Rch j t L S σ Q) (kf : 0 < x → Rch j (pc + 3) L S σ Q) : Rch j pc L (mvI x :: S) σ Q := rc_brz M hd ht (by
  by_cases h : x ≤ 0
  · rw [if_pos (show mvCmpB .le x 0 = true from decide_eq_true h)]; exact kt h
  · rw [if_neg (show ¬ mvCmpB .le x 0 = true from fun z => h (of_decide_eq_true z))]; exact kf (by omega))
theorem rc_icmpT {x y off : Int} {cd : ClassFile.Cond} {t : Nat} (M : mvMq j own kd rk mL na rt) (hd : mvDec j pc = some (.if_icmp cd off, 3)) (ht : mvTgt pc off = some t) (hc : mvCmpB cd x y = true) (kk : Rch j t L S σ Q) : Rch j pc L (mvI y :: mvI x :: S) σ Q := rc_br M hd ht (by rw [if_pos hc]; exact kk)
theorem rc_icmpF {x y off : Int} {cd : ClassFile.Cond} {t : Nat} (M : mvMq j own kd rk mL na rt) (hd : mvDec j pc = some (.if_icmp cd off, 3)) (ht : mvTgt pc off = some t) (hc : mvCmpB cd x y = false) (kk : Rch j (pc + 3) L S σ Q) : Rch j pc L (mvI y :: mvI x :: S) σ Q := rc_br M hd ht (by rw [if_neg (by rw [hc]; decide)]; exact kk)
theorem rc_ifT {x off : Int} {cd : ClassFile.Cond} {t : Nat} (M : mvMq j own kd rk mL na rt) (hd : mvDec j pc = some (.ifCond cd off, 3)) (ht : mvTgt pc off = some t) (hc : mvCmpB cd x 0 = true) (kk : Rch j t L S σ Q) : Rch j pc L (mvI x :: S) σ Q := rc_brz M hd ht (by rw [if_pos hc]; exact kk)
theorem rc_ifF {x off : Int} {cd : ClassFile.Cond} {t : Nat} (M : mvMq j own kd rk mL na rt) (hd : mvDec j pc = some (.ifCond cd off, 3)) (ht : mvTgt pc off = some t) (hc : mvCmpB cd x 0 = false) (kk : Rch j (pc + 3) L S σ Q) : Rch j pc L (mvI x :: S) σ Q := rc_brz M hd ht (by rw [if_neg (by rw [hc]; decide)]; exact kk)
theorem rc_swD {x dflt lo hi : Int} {offs : Array Int} {len t : Nat} (M : mvMq j own kd rk mL na rt) (hd : mvDec j pc = some (.tableswitch dflt lo hi offs, len)) (hx : x < lo ∨ hi < x) (ht : mvTgt pc dflt = some t) (kk : Rch j t L S σ Q) : Rch j pc L (mvI x :: S) σ Q := rc_step M hd (show (if x < lo ∨ hi < x then mvGo (mvTgt pc dflt) L S σ else match offs[(x - lo).toNat]? with | some off => mvGo (mvTgt pc off) L S σ | none => none) = _ by rw [if_pos hx, ht]; rfl) kk
theorem rc_swI {x dflt lo hi off : Int} {offs : Array Int} {len t : Nat} (M : mvMq j own kd rk mL na rt) (hd : mvDec j pc = some (.tableswitch dflt lo hi offs, len)) (hx : ¬ (x < lo ∨ hi < x)) (ho : offs[(x - lo).toNat]? = some off) (ht : mvTgt pc off = some t) (kk : Rch j t L S σ Q) : Rch j pc L (mvI x :: S) σ Q := rc_step M hd (show (if x < lo ∨ hi < x then mvGo (mvTgt pc dflt) L S σ else match offs[(x - lo).toNat]? with | some off => mvGo (mvTgt pc off) L S σ | none => none) = _ by rw [if_neg hx, ho]; show mvGo (mvTgt pc off) L S σ = _; rw [ht]; rfl) kk
end RC
section RCS
variable {j own kd rk mL na : Nat} {rt : Option FieldType} {pc n : Nat} {L : mvL} {S : List mvV} {g : Nat → Nat → Nat} {h : Nat → Int → Int} {Q : Option mvV → mvS → Prop}
theorem rc_getI {ix a cf f : Nat} (M : mvMq j own kd rk mL na rt) (hd : mvDec j pc = some (.getfield ix, 3)) (hl : mvFl.lookup (own, ix) = some (cf, f)) (hi : mvIs n a = (0, cf, 0)) (hf : ¬ mvFt cf f = 2) (hf1 : ¬ mvFt cf f = 1) (kk : Rch j (pc + 3) L (mvI (h a (f : Int)) :: S) (n, g, h) Q) : Rch j pc L (mvR a :: S) (n, g, h) Q := rc_step M hd (show (match mvFl.lookup (own, ix) with | some (cf, f) => if mvIs n a = (0, cf, 0) then if mvFt cf f = 2 then (if g a f = 0 then none else some (pc + 3, L, mvR (g a f) :: S, (n, g, h))) else if mvFt cf f = 1 then some (pc + 3, L, mvJ (h a (f : Int)) :: S, (n, g, h)) else some (pc + 3, L, mvI (h a (f : Int)) :: S, (n, g, h)) else none | none => none) = _ by rw [hl]; show (if mvIs n a = (0, cf, 0) then _ else none) = _; rw [if_pos hi, if_neg hf, if_neg hf1]) kk
theorem rc_getJ {ix a cf f : Nat} (M : mvMq j own kd rk mL na rt) (hd : mvDec j pc = some (.getfield ix, 3)) (hl : mvFl.lookup (own, ix) = some (cf, f)) (hi : mvIs n a = (0, cf, 0)) (hf : ¬ mvFt cf f = 2) (hf1 : mvFt cf f = 1) (kk : Rch j (pc + 3) L (mvJ (h a (f : Int)) :: S) (n, g, h) Q) : Rch j pc L (mvR a :: S) (n, g, h) Q := rc_step M hd (show (match mvFl.lookup (own, ix) with | some (cf, f) => if mvIs n a = (0, cf, 0) then if mvFt cf f = 2 then (if g a f = 0 then none else some (pc + 3, L, mvR (g a f) :: S, (n, g, h))) else if mvFt cf f = 1 then some (pc + 3, L, mvJ (h a (f : Int)) :: S, (n, g, h)) else some (pc + 3, L, mvI (h a (f : Int)) :: S, (n, g, h)) else none | none => none) = _ by rw [hl]; show (if mvIs n a = (0, cf, 0) then _ else none) = _; rw [if_pos hi, if_neg hf, if_pos hf1]) kk
theorem rc_getR {ix a cf f : Nat} (a' : Nat) (M : mvMq j own kd rk mL na rt) (hd : mvDec j pc = some (.getfield ix, 3)) (hl : mvFl.lookup (own, ix) = some (cf, f)) (hi : mvIs n a = (0, cf, 0)) (hf : mvFt cf f = 2) (hg : g a f = a') (h0 : ¬ a' = 0) (kk : Rch j (pc + 3) L (mvR a' :: S) (n, g, h) Q) : Rch j pc L (mvR a :: S) (n, g, h) Q := by
  subst hg
  exact rc_step M hd (show (match mvFl.lookup (own, ix) with | some (cf, f) => if mvIs n a = (0, cf, 0) then if mvFt cf f = 2 then (if g a f = 0 then none else some (pc + 3, L, mvR (g a f) :: S, (n, g, h))) else if mvFt cf f = 1 then some (pc + 3, L, mvJ (h a (f : Int)) :: S, (n, g, h)) else some (pc + 3, L, mvI (h a (f : Int)) :: S, (n, g, h)) else none | none => none) = _ by rw [hl]; show (if mvIs n a = (0, cf, 0) then _ else none) = _; rw [if_pos hi, if_pos hf, if_neg h0]) kk
theorem rc_putI {ix a cf f : Nat} {x : Int} (M : mvMq j own kd rk mL na rt) (hd : mvDec j pc = some (.putfield ix, 3)) (hl : mvFl.lookup (own, ix) = some (cf, f)) (hi : mvIs n a = (0, cf, 0)) (hfin : mvFf cf f = true → (kd == 2) = true ∧ own = cf) (hf : mvFt cf f = 0 ∨ mvFt cf f = 3 ∧ (x = 0 ∨ x = 1)) (kk : Rch j (pc + 3) L S (n, g, mvUpd h a (f : Int) x) Q) : Rch j pc L (mvI x :: mvR a :: S) (n, g, h) Q := rc_step M hd (show (match mvFl.lookup (own, ix) with | some (cf, f) => if mvIs n a = (0, cf, 0) ∧ (mvFf cf f = true → (kd == 2) = true ∧ own = cf) then (if mvFt cf f = 0 ∨ mvFt cf f = 3 ∧ (x = 0 ∨ x = 1) then some (pc + 3, L, S, (n, g, mvUpd h a (f : Int) x)) else none) else none | none => none) = _ by rw [hl]; show (if mvIs n a = (0, cf, 0) ∧ (mvFf cf f = true → (kd == 2) = true ∧ own = cf) then _ else none) = _; rw [if_pos ⟨hi, hfin⟩, if_pos hf]) kk
theorem rc_putJ {ix a cf f : Nat} {x : Int} (M : mvMq j own kd rk mL na rt) (hd : mvDec j pc = some (.putfield ix, 3)) (hl : mvFl.lookup (own, ix) = some (cf, f)) (hi : mvIs n a = (0, cf, 0)) (hfin : mvFf cf f = true → (kd == 2) = true ∧ own = cf) (hf : mvFt cf f = 1) (kk : Rch j (pc + 3) L S (n, g, mvUpd h a (f : Int) x) Q) : Rch j pc L (mvJ x :: mvR a :: S) (n, g, h) Q := rc_step M hd (show (match mvFl.lookup (own, ix) with | some (cf, f) => if mvIs n a = (0, cf, 0) ∧ (mvFf cf f = true → (kd == 2) = true ∧ own = cf) then (if mvFt cf f = 1 then some (pc + 3, L, S, (n, g, mvUpd h a (f : Int) x)) else none) else none | none => none) = _ by rw [hl]; show (if mvIs n a = (0, cf, 0) ∧ (mvFf cf f = true → (kd == 2) = true ∧ own = cf) then _ else none) = _; rw [if_pos ⟨hi, hfin⟩, if_pos hf]) kk
theorem rc_putR {ix a cf f b : Nat} (M : mvMq j own kd rk mL na rt) (hd : mvDec j pc = some (.putfield ix, 3)) (hl : mvFl.lookup (own, ix) = some (cf, f)) (hi : mvIs n a = (0, cf, 0)) (hfin : mvFf cf f = true → (kd == 2) = true ∧ own = cf) (hf : mvFt cf f = 2 ∧ ¬ b = 0) (kk : Rch j (pc + 3) L S (n, mvUpg g a f b, h) Q) : Rch j pc L (mvR b :: mvR a :: S) (n, g, h) Q := rc_step M hd (show (match mvFl.lookup (own, ix) with | some (cf, f) => if mvIs n a = (0, cf, 0) ∧ (mvFf cf f = true → (kd == 2) = true ∧ own = cf) then (if mvFt cf f = 2 ∧ ¬ b = 0 then some (pc + 3, L, S, (n, mvUpg g a f b, h)) else none) else none | none => none) = _ by rw [hl]; show (if mvIs n a = (0, cf, 0) ∧ (mvFf cf f = true → (kd == 2) = true ∧ own = cf) then _ else none) = _; rw [if_pos ⟨hi, hfin⟩, if_pos hf]) kk
theorem rc_gstat {ix : Nat} (M : mvMq j own kd rk mL na rt) (hd : mvDec j pc = some (.getstatic ix, 3)) (ho : own = 2 ∧ ix = 91) (kk : Rch j (pc + 3) L (mvR 1 :: S) (n, g, h) Q) : Rch j pc L S (n, g, h) Q := rc_step M hd (show (if own = 2 ∧ ix = 91 then some (pc + 3, L, mvR 1 :: S, (n, g, h)) else none) = _ by rw [if_pos ho]) kk
theorem mvArr_is {n a t : Nat} {len : Nat} {g : Nat → Nat → Nat} {h : Nat → Int → Int} (hi : mvIs n a = (1, t, len)) : mvArr (n, g, h) a = (1, t, (len : Int)) := by
  have h3 : 3 ≤ a := by
    unfold mvIs at hi
    split at hi
    · rename_i hh; exact hh.1
    · cases hi
  unfold mvArr
  rw [if_neg (by omega), if_neg (by omega)]
  show ((mvIs n a).1, (mvIs n a).2.1, ((mvIs n a).2.2 : Int)) = _
  rw [hi]
theorem rc_iald {a len : Nat} {i : Int} (M : mvMq j own kd rk mL na rt) (hd : mvDec j pc = some (.iaload, 1)) (hi : mvIs n a = (1, 0, len)) (h0 : 0 ≤ i) (h1 : i < (len : Int)) (kk : Rch j (pc + 1) L (mvI (h a i) :: S) (n, g, h) Q) : Rch j pc L (mvI i :: mvR a :: S) (n, g, h) Q := rc_step M hd (show (if (mvArr (n, g, h) a).1 = 1 ∧ (mvArr (n, g, h) a).2.1 = 0 ∧ 0 ≤ i ∧ i < (mvArr (n, g, h) a).2.2 then some (pc + 1, L, mvI (h a i) :: S, (n, g, h)) else none) = _ by rw [mvArr_is hi, if_pos ⟨rfl, rfl, h0, h1⟩]) kk
theorem rc_bald {a len : Nat} {i : Int} (M : mvMq j own kd rk mL na rt) (hd : mvDec j pc = some (.baload, 1)) (hi : mvIs n a = (1, 1, len)) (h0 : 0 ≤ i) (h1 : i < (len : Int)) (kk : Rch j (pc + 1) L (mvI (h a i) :: S) (n, g, h) Q) : Rch j pc L (mvI i :: mvR a :: S) (n, g, h) Q := rc_step M hd (show (if (mvArr (n, g, h) a).1 = 1 ∧ (mvArr (n, g, h) a).2.1 = 1 ∧ 0 ≤ i ∧ i < (mvArr (n, g, h) a).2.2 then some (pc + 1, L, mvI (h a i) :: S, (n, g, h)) else none) = _ by rw [mvArr_is hi, if_pos ⟨rfl, rfl, h0, h1⟩]) kk
theorem rc_ialdT {i : Int} (M : mvMq j own kd rk mL na rt) (hd : mvDec j pc = some (.iaload, 1)) (h0 : 0 ≤ i) (h1 : i < 4) (kk : Rch j (pc + 1) L (mvI (h 1 i) :: S) (n, g, h) Q) : Rch j pc L (mvI i :: mvR 1 :: S) (n, g, h) Q := rc_step M hd (show (if (mvArr (n, g, h) 1).1 = 1 ∧ (mvArr (n, g, h) 1).2.1 = 0 ∧ 0 ≤ i ∧ i < (mvArr (n, g, h) 1).2.2 then some (pc + 1, L, mvI (h 1 i) :: S, (n, g, h)) else none) = _ by rw [if_pos ⟨rfl, rfl, h0, h1⟩]) kk
theorem rc_ialdS {i : Int} (M : mvMq j own kd rk mL na rt) (hd : mvDec j pc = some (.iaload, 1)) (h0 : 0 ≤ i) (h1 : i < h 2 (-1)) (kk : Rch j (pc + 1) L (mvI (h 2 i) :: S) (n, g, h) Q) : Rch j pc L (mvI i :: mvR 2 :: S) (n, g, h) Q := rc_step M hd (show (if (mvArr (n, g, h) 2).1 = 1 ∧ (mvArr (n, g, h) 2).2.1 = 0 ∧ 0 ≤ i ∧ i < (mvArr (n, g, h) 2).2.2 then some (pc + 1, L, mvI (h 2 i) :: S, (n, g, h)) else none) = _ by rw [if_pos ⟨rfl, rfl, h0, h1⟩]) kk
theorem rc_iast {a len : Nat} {i x : Int} (M : mvMq j own kd rk mL na rt) (hd : mvDec j pc = some (.iastore, 1)) (hi : mvIs n a = (1, 0, len)) (h0 : 0 ≤ i) (h1 : i < (len : Int)) (kk : Rch j (pc + 1) L S (n, g, mvUpd h a i x) Q) : Rch j pc L (mvI x :: mvI i :: mvR a :: S) (n, g, h) Q := rc_step M hd (show (if (mvIs n a).1 = 1 ∧ (mvIs n a).2.1 = 0 ∧ 0 ≤ i ∧ i < ((mvIs n a).2.2 : Int) then some (pc + 1, L, S, (n, g, mvUpd h a i x)) else none) = _ by rw [hi, if_pos ⟨rfl, rfl, h0, h1⟩]) kk
theorem rc_bast {a len : Nat} {i x : Int} (M : mvMq j own kd rk mL na rt) (hd : mvDec j pc = some (.bastore, 1)) (hi : mvIs n a = (1, 1, len)) (h0 : 0 ≤ i) (h1 : i < (len : Int)) (hx : x = 0 ∨ x = 1) (kk : Rch j (pc + 1) L S (n, g, mvUpd h a i x) Q) : Rch j pc L (mvI x :: mvI i :: mvR a :: S) (n, g, h) Q := rc_step M hd (show (if (mvIs n a).1 = 1 ∧ (mvIs n a).2.1 = 1 ∧ (0 ≤ i ∧ i < ((mvIs n a).2.2 : Int)) ∧ (x = 0 ∨ x = 1) then some (pc + 1, L, S, (n, g, mvUpd h a i x)) else none) = _ by rw [hi, if_pos ⟨rfl, rfl, ⟨h0, h1⟩, hx⟩]) kk
theorem rc_alen {a t len : Nat} (M : mvMq j own kd rk mL na rt) (hd : mvDec j pc = some (.arraylength, 1)) (hi : mvIs n a = (1, t, len)) (kk : Rch j (pc + 1) L (mvI (len : Int) :: S) (n, g, h) Q) : Rch j pc L (mvR a :: S) (n, g, h) Q := rc_step M hd (show (if (mvArr (n, g, h) a).1 = 1 then some (pc + 1, L, mvI (mvArr (n, g, h) a).2.2 :: S, (n, g, h)) else none) = _ by rw [mvArr_is hi, if_pos rfl]) kk
theorem rc_alenS  (M : mvMq j own kd rk mL na rt) (hd : mvDec j pc = some (.arraylength, 1)) (kk : Rch j (pc + 1) L (mvI (h 2 (-1)) :: S) (n, g, h) Q) : Rch j pc L (mvR 2 :: S) (n, g, h) Q := rc_step M hd rfl kk
theorem rc_newa {t len : Nat} {x : Int} {ty : ClassFile.ArrayType} (M : mvMq j own kd rk mL na rt) (hd : mvDec j pc = some (.newarray ty, 2)) (hi : mvSH n = (1, t, len)) (hx : x = (len : Int)) (ht : ty = .int ∧ t = 0 ∨ ty = .boolean ∧ t = 1) (kk : Rch j (pc + 2) L (mvR n :: S) (mvNew (n, g, h)) Q) : Rch j pc L (mvI x :: S) (n, g, h) Q := rc_step M hd (show (if (mvSH n).1 = 1 ∧ x = ((mvSH n).2.2 : Int) ∧ (ty = .int ∧ (mvSH n).2.1 = 0 ∨ ty = .boolean ∧ (mvSH n).2.1 = 1) then some (pc + 2, L, mvR n :: S, mvNew (n, g, h)) else none) = _ by rw [hi, if_pos ⟨rfl, hx, ht⟩]) kk
theorem rc_new {ix cf : Nat} (M : mvMq j own kd rk mL na rt) (hd : mvDec j pc = some (.new ix, 3)) (hl : mvKl.lookup (own, ix) = some cf) (hi : mvSH n = (0, cf, 0)) (kk : Rch j (pc + 3) L (mvR n :: S) (mvNew (n, g, h)) Q) : Rch j pc L S (n, g, h) Q := rc_step M hd (show (match mvKl.lookup (own, ix) with | some cf => if mvSH n = (0, cf, 0) then some (pc + 3, L, mvR n :: S, mvNew (n, g, h)) else none | none => none) = _ by rw [hl]; show (if mvSH n = (0, cf, 0) then _ else none) = _; rw [if_pos hi]) kk
theorem rc_obj {ix a z : Nat} (M : mvMq j own kd rk mL na rt) (hd : mvDec j pc = some (.invokespecial ix, 3)) (hl : mvMl.lookup (own, ix) = some (5, z)) (hr : 1 ≤ rk ∧ mvCats S ≤ 8) (kk : Rch j (pc + 3) L S (n, g, h) Q) : Rch j pc L (mvR a :: S) (n, g, h) Q := rc_step M hd (show (match mvMl.lookup (own, ix) with | some (5, _) => if 1 ≤ rk ∧ mvCats S ≤ 8 then some (pc + 3, L, S, (n, g, h)) else none | _ => none) = _ by rw [hl]; show (if 1 ≤ rk ∧ mvCats S ≤ 8 then _ else none) = _; rw [if_pos hr]) kk
theorem rc_max {ix z : Nat} {x y : Int} (M : mvMq j own kd rk mL na rt) (hd : mvDec j pc = some (.invokestatic ix, 3)) (hl : mvMl.lookup (own, ix) = some (7, z)) (hr : 1 ≤ rk ∧ mvCats S ≤ 8) (kk : Rch j (pc + 3) L (mvI (if x < y then y else x) :: S) (n, g, h) Q) : Rch j pc L (mvI y :: mvI x :: S) (n, g, h) Q := rc_step M hd (show (match mvMl.lookup (own, ix) with | some (7, _) => if 1 ≤ rk ∧ mvCats S ≤ 8 then some (pc + 3, L, mvI (if x < y then y else x) :: S, (n, g, h)) else none | some (8, _) => if 1 ≤ rk ∧ mvCats S ≤ 8 then some (pc + 3, L, mvI (if y < x then y else x) :: S, (n, g, h)) else none | _ => none) = _ by rw [hl]; show (if 1 ≤ rk ∧ mvCats S ≤ 8 then _ else none) = _; rw [if_pos hr]) kk
theorem rc_min {ix z : Nat} {x y : Int} (M : mvMq j own kd rk mL na rt) (hd : mvDec j pc = some (.invokestatic ix, 3)) (hl : mvMl.lookup (own, ix) = some (8, z)) (hr : 1 ≤ rk ∧ mvCats S ≤ 8) (kk : Rch j (pc + 3) L (mvI (if y < x then y else x) :: S) (n, g, h) Q) : Rch j pc L (mvI y :: mvI x :: S) (n, g, h) Q := rc_step M hd (show (match mvMl.lookup (own, ix) with | some (7, _) => if 1 ≤ rk ∧ mvCats S ≤ 8 then some (pc + 3, L, mvI (if x < y then y else x) :: S, (n, g, h)) else none | some (8, _) => if 1 ≤ rk ∧ mvCats S ≤ 8 then some (pc + 3, L, mvI (if y < x then y else x) :: S, (n, g, h)) else none | _ => none) = _ by rw [hl]; show (if 1 ≤ rk ∧ mvCats S ≤ 8 then _ else none) = _; rw [if_pos hr]) kk
theorem mvCallN_of {rk k j' own' kd' rk' mL' na' : Nat} {rt' : Option FieldType} {S as S' : List mvV} (M' : mvMq j' own' kd' rk' mL' na' rt') (hr : rk' < rk) (hS : S = as.reverse ++ S') (hn : as.length = k + na') (hc : mvCats S' ≤ 8) (hf : (mvFlat as).length ≤ mL') (hk : if k = 1 then ¬ kd' = 1 else kd' = 1) : mvCallN rk k j' S = some (j', as, S') := by
  obtain ⟨q, hq, rfl, rfl, rfl, rfl, rfl, rfl⟩ := M'
  unfold mvCallN
  rw [hq]
  have e1 : S.take (k + mvNa q) = as.reverse := by rw [hS, ← hn, ← List.length_reverse, List.take_left]
  have e2 : S.drop (k + mvNa q) = S' := by rw [hS, ← hn, ← List.length_reverse, List.drop_left]
  have e3 : k + mvNa q ≤ S.length := by rw [hS, List.length_append, List.length_reverse]; omega
  have key : mvRk q < rk ∧ k + mvNa q ≤ S.length ∧ mvCats (S.drop (k + mvNa q)) ≤ 8 ∧ (mvFlat (S.take (k + mvNa q)).reverse).length ≤ q.2.2.1 ∧ (if k = 1 then ¬ mvKd q = 1 else mvKd q = 1) := by
    rw [e1, e2, List.reverse_reverse]
    exact ⟨hr, e3, hc, hf, hk⟩
  show (if _ then _ else none) = _
  rw [if_pos key, e1, e2, List.reverse_reverse]
theorem rc_callV {ix j' own' kd' rk' mL' na' : Nat} {rt' : Option FieldType} {a : Nat} {as' : List mvV} (as S' : List mvV) (E : mvL) (M : mvMq j own kd rk mL na rt) (hd : mvDec j pc = some (.invokevirtual ix, 3)) (hl : mvMl.lookup (own, ix) = some (0, j')) (M' : mvMq j' own' kd' rk' mL' na' rt') (hr : rk' < rk) (hS : S = as.reverse ++ S') (hn : as.length = 1 + na') (hc : mvCats S' ≤ 8) (hf : (mvFlat as).length ≤ mL') (hk : ¬ kd' = 1) (has : as = mvR a :: as') (hi : mvIs n a = (0, own', 0)) (hE : mvEntry mL' as = E)
    (kk : Rch j' 0 E [] (n, g, h) (fun r σ' => Rch j (pc + 3) L (r.toList ++ S') σ' Q)) : Rch j pc L S (n, g, h) Q := by
  have hk : if 1 = 1 then ¬ kd' = 1 else kd' = 1 := by rw [if_pos rfl]; exact hk
  have hcall : mvCall own rk (.invokevirtual ix) 3 S (n, g, h) = some (j', as, S') := by
    show (match mvMl.lookup (own, ix) with | some (0, j) => (match mvCallN rk 1 j S with | some (j, as, S') => if mvRecvB (n, g, h) j as = true then some (j, as, S') else none | none => none) | _ => none) = _
    rw [hl]
    show (match mvCallN rk 1 j' S with | some (j, as, S') => if mvRecvB (n, g, h) j as = true then some (j, as, S') else none | none => none) = _
    rw [mvCallN_of M' hr hS hn hc hf hk]
    have hrec : mvRecvB (n, g, h) j' as = true := by
      obtain ⟨q, hq, ho, -⟩ := M'
      rw [has]
      show decide (mvIs n a = (0, ((mvMd[j']?).map mvOwn).getD 99, 0)) = true
      exact decide_eq_true (by
        rw [hq, hi]
        show (0, own', 0) = (0, mvOwn q, 0)
        rw [ho])
    show (if mvRecvB (n, g, h) j' as = true then _ else none) = _
    rw [if_pos hrec]
  have hnone : mvStep own (kd == 2) rk pc (.invokevirtual ix) 3 L S (n, g, h) = none := rfl
  obtain ⟨q, hq, -, -, -, e2, -⟩ := M'
  subst hE
  rw [← e2] at kk
  exact rc_callG M hd hnone hcall hq kk
theorem rc_callI {ix j' own' kd' rk' mL' na' : Nat} {rt' : Option FieldType} {a : Nat} {as' : List mvV} (as S' : List mvV) (E : mvL) (M : mvMq j own kd rk mL na rt) (hd : mvDec j pc = some (.invokespecial ix, 3)) (hl : mvMl.lookup (own, ix) = some (2, j')) (M' : mvMq j' own' kd' rk' mL' na' rt') (hr : rk' < rk) (hS : S = as.reverse ++ S') (hn : as.length = 1 + na') (hc : mvCats S' ≤ 8) (hf : (mvFlat as).length ≤ mL') (hk : ¬ kd' = 1) (has : as = mvR a :: as') (hi : mvIs n a = (0, own', 0)) (hE : mvEntry mL' as = E)
    (kk : Rch j' 0 E [] (n, g, h) (fun r σ' => Rch j (pc + 3) L (r.toList ++ S') σ' Q)) : Rch j pc L S (n, g, h) Q := by
  have hk : if 1 = 1 then ¬ kd' = 1 else kd' = 1 := by rw [if_pos rfl]; exact hk
  have hcall : mvCall own rk (.invokespecial ix) 3 S (n, g, h) = some (j', as, S') := by
    show (match mvMl.lookup (own, ix) with | some (2, j) => (match mvCallN rk 1 j S with | some (j, as, S') => if mvRecvB (n, g, h) j as = true then some (j, as, S') else none | none => none) | some (6, j) => (match mvCallN rk 1 j S with | some (j, as, S') => if mvRecvB (n, g, h) j as = true then some (j, as, S') else none | none => none) | _ => none) = _
    rw [hl]
    show (match mvCallN rk 1 j' S with | some (j, as, S') => if mvRecvB (n, g, h) j as = true then some (j, as, S') else none | none => none) = _
    rw [mvCallN_of M' hr hS hn hc hf hk]
    have hrec : mvRecvB (n, g, h) j' as = true := by
      obtain ⟨q, hq, ho, -⟩ := M'
      rw [has]
      show decide (mvIs n a = (0, ((mvMd[j']?).map mvOwn).getD 99, 0)) = true
      exact decide_eq_true (by
        rw [hq, hi]
        show (0, own', 0) = (0, mvOwn q, 0)
        rw [ho])
    show (if mvRecvB (n, g, h) j' as = true then _ else none) = _
    rw [if_pos hrec]
  have hnone : mvStep own (kd == 2) rk pc (.invokespecial ix) 3 L S (n, g, h) = none := by
    cases S with
    | nil => rfl
    | cons v S2 =>
      rcases v with x | x | x
      · rfl
      · rfl
      · show (match mvMl.lookup (own, ix) with | some (5, _) => if 1 ≤ rk ∧ mvCats S2 ≤ 8 then some (pc + 3, L, S2, (n, g, h)) else none | _ => none) = none
        first | (rw [hl]; done) | (rw [hl]; rfl)
  obtain ⟨q, hq, -, -, -, e2, -⟩ := M'
  subst hE
  rw [← e2] at kk
  exact rc_callG M hd hnone hcall hq kk
theorem rc_callIN {ix j' own' kd' rk' mL' na' : Nat} {rt' : Option FieldType} {a : Nat} {as' : List mvV} (as S' : List mvV) (E : mvL) (M : mvMq j own kd rk mL na rt) (hd : mvDec j pc = some (.invokespecial ix, 3)) (hl : mvMl.lookup (own, ix) = some (6, j')) (M' : mvMq j' own' kd' rk' mL' na' rt') (hr : rk' < rk) (hS : S = as.reverse ++ S') (hn : as.length = 1 + na') (hc : mvCats S' ≤ 8) (hf : (mvFlat as).length ≤ mL') (hk : ¬ kd' = 1) (has : as = mvR a :: as') (hi : mvIs n a = (0, own', 0)) (hE : mvEntry mL' as = E)
    (kk : Rch j' 0 E [] (n, g, h) (fun r σ' => Rch j (pc + 3) L (r.toList ++ S') σ' Q)) : Rch j pc L S (n, g, h) Q := by
  have hk : if 1 = 1 then ¬ kd' = 1 else kd' = 1 := by rw [if_pos rfl]; exact hk
  have hcall : mvCall own rk (.invokespecial ix) 3 S (n, g, h) = some (j', as, S') := by
    show (match mvMl.lookup (own, ix) with | some (2, j) => (match mvCallN rk 1 j S with | some (j, as, S') => if mvRecvB (n, g, h) j as = true then some (j, as, S') else none | none => none) | some (6, j) => (match mvCallN rk 1 j S with | some (j, as, S') => if mvRecvB (n, g, h) j as = true then some (j, as, S') else none | none => none) | _ => none) = _
    rw [hl]
    show (match mvCallN rk 1 j' S with | some (j, as, S') => if mvRecvB (n, g, h) j as = true then some (j, as, S') else none | none => none) = _
    rw [mvCallN_of M' hr hS hn hc hf hk]
    have hrec : mvRecvB (n, g, h) j' as = true := by
      obtain ⟨q, hq, ho, -⟩ := M'
      rw [has]
      show decide (mvIs n a = (0, ((mvMd[j']?).map mvOwn).getD 99, 0)) = true
      exact decide_eq_true (by
        rw [hq, hi]
        show (0, own', 0) = (0, mvOwn q, 0)
        rw [ho])
    show (if mvRecvB (n, g, h) j' as = true then _ else none) = _
    rw [if_pos hrec]
  have hnone : mvStep own (kd == 2) rk pc (.invokespecial ix) 3 L S (n, g, h) = none := by
    cases S with
    | nil => rfl
    | cons v S2 =>
      rcases v with x | x | x
      · rfl
      · rfl
      · show (match mvMl.lookup (own, ix) with | some (5, _) => if 1 ≤ rk ∧ mvCats S2 ≤ 8 then some (pc + 3, L, S2, (n, g, h)) else none | _ => none) = none
        first | (rw [hl]; done) | (rw [hl]; rfl)
  obtain ⟨q, hq, -, -, -, e2, -⟩ := M'
  subst hE
  rw [← e2] at kk
  exact rc_callG M hd hnone hcall hq kk
theorem rc_callS {ix j' own' kd' rk' mL' na' : Nat} {rt' : Option FieldType} (as S' : List mvV) (E : mvL) (M : mvMq j own kd rk mL na rt) (hd : mvDec j pc = some (.invokestatic ix, 3)) (hl : mvMl.lookup (own, ix) = some (1, j')) (M' : mvMq j' own' kd' rk' mL' na' rt') (hr : rk' < rk) (hS : S = as.reverse ++ S') (hn : as.length = 0 + na') (hc : mvCats S' ≤ 8) (hf : (mvFlat as).length ≤ mL') (hk : kd' = 1) (hE : mvEntry mL' as = E)
    (kk : Rch j' 0 E [] (n, g, h) (fun r σ' => Rch j (pc + 3) L (r.toList ++ S') σ' Q)) : Rch j pc L S (n, g, h) Q := by
  have hk : if 0 = 1 then ¬ kd' = 1 else kd' = 1 := by rw [if_neg (by decide)]; exact hk
  have hcall : mvCall own rk (.invokestatic ix) 3 S (n, g, h) = some (j', as, S') := by
    show (match mvMl.lookup (own, ix) with | some (1, j) => mvCallN rk 0 j S | some (4, j) => mvCallN rk 0 j S | _ => none) = _
    rw [hl]
    exact mvCallN_of M' hr hS hn hc hf hk
  have hnone : mvStep own (kd == 2) rk pc (.invokestatic ix) 3 L S (n, g, h) = none := by
    have key : ∀ (x y : Int) (S2 : List mvV), (match mvMl.lookup (own, ix) with | some (7, _) => if 1 ≤ rk ∧ mvCats S2 ≤ 8 then some (pc + 3, L, mvI (if x < y then y else x) :: S2, (n, g, h)) else none | some (8, _) => if 1 ≤ rk ∧ mvCats S2 ≤ 8 then some (pc + 3, L, mvI (if y < x then y else x) :: S2, (n, g, h)) else none | _ => none) = none := by
      intro x y S2
      first | (rw [hl]; done) | (rw [hl]; rfl)
    rcases S with _ | ⟨v, S2⟩
    · rfl
    · rcases v with x | x | x
      · rcases S2 with _ | ⟨u, S3⟩
        · rfl
        · rcases u with z | z | z
          · exact key z x S3
          · rfl
          · rfl
      · rfl
      · rfl
  obtain ⟨q, hq, -, -, -, e2, -⟩ := M'
  subst hE
  rw [← e2] at kk
  exact rc_callG M hd hnone hcall hq kk
theorem rc_callSN {ix j' own' kd' rk' mL' na' : Nat} {rt' : Option FieldType} (as S' : List mvV) (E : mvL) (M : mvMq j own kd rk mL na rt) (hd : mvDec j pc = some (.invokestatic ix, 3)) (hl : mvMl.lookup (own, ix) = some (4, j')) (M' : mvMq j' own' kd' rk' mL' na' rt') (hr : rk' < rk) (hS : S = as.reverse ++ S') (hn : as.length = 0 + na') (hc : mvCats S' ≤ 8) (hf : (mvFlat as).length ≤ mL') (hk : kd' = 1) (hE : mvEntry mL' as = E)
    (kk : Rch j' 0 E [] (n, g, h) (fun r σ' => Rch j (pc + 3) L (r.toList ++ S') σ' Q)) : Rch j pc L S (n, g, h) Q := by
  have hk : if 0 = 1 then ¬ kd' = 1 else kd' = 1 := by rw [if_neg (by decide)]; exact hk
  have hcall : mvCall own rk (.invokestatic ix) 3 S (n, g, h) = some (j', as, S') := by
    show (match mvMl.lookup (own, ix) with | some (1, j) => mvCallN rk 0 j S | some (4, j) => mvCallN rk 0 j S | _ => none) = _
    rw [hl]
    exact mvCallN_of M' hr hS hn hc hf hk
  have hnone : mvStep own (kd == 2) rk pc (.invokestatic ix) 3 L S (n, g, h) = none := by
    have key : ∀ (x y : Int) (S2 : List mvV), (match mvMl.lookup (own, ix) with | some (7, _) => if 1 ≤ rk ∧ mvCats S2 ≤ 8 then some (pc + 3, L, mvI (if x < y then y else x) :: S2, (n, g, h)) else none | some (8, _) => if 1 ≤ rk ∧ mvCats S2 ≤ 8 then some (pc + 3, L, mvI (if y < x then y else x) :: S2, (n, g, h)) else none | _ => none) = none := by
      intro x y S2
      first | (rw [hl]; done) | (rw [hl]; rfl)
    rcases S with _ | ⟨v, S2⟩
    · rfl
    · rcases v with x | x | x
      · rcases S2 with _ | ⟨u, S3⟩
        · rfl
        · rcases u with z | z | z
          · exact key z x S3
          · rfl
          · rfl
      · rfl
      · rfl
  obtain ⟨q, hq, -, -, -, e2, -⟩ := M'
  subst hE
  rw [← e2] at kk
  exact rc_callG M hd hnone hcall hq kk
theorem rc_iret {x : Int} (M : mvMq j own kd rk mL na (some .int)) (hd : mvDec j pc = some (.ireturn, 1)) (kk : Q (some (mvI x)) (n, g, h)) : Rch j pc L [mvI x] (n, g, h) Q := rc_retG M hd rfl rfl (show (if (some FieldType.int) = some .int ∨ (some FieldType.int) = some .boolean ∧ (x = 0 ∨ x = 1) then some (some (mvI x)) else none) = _ by rw [if_pos (Or.inl rfl)]) kk
theorem rc_zret {x : Int} (M : mvMq j own kd rk mL na (some .boolean)) (hd : mvDec j pc = some (.ireturn, 1)) (hx : x = 0 ∨ x = 1) (kk : Q (some (mvI x)) (n, g, h)) : Rch j pc L [mvI x] (n, g, h) Q := rc_retG M hd rfl rfl (show (if (some FieldType.boolean) = some .int ∨ (some FieldType.boolean) = some .boolean ∧ (x = 0 ∨ x = 1) then some (some (mvI x)) else none) = _ by rw [if_pos (Or.inr ⟨rfl, hx⟩)]) kk
theorem rc_lret {x : Int} (M : mvMq j own kd rk mL na (some .long)) (hd : mvDec j pc = some (.lreturn, 1)) (kk : Q (some (mvJ x)) (n, g, h)) : Rch j pc L [mvJ x] (n, g, h) Q := rc_retG M hd rfl rfl rfl kk
theorem rc_vret (M : mvMq j own kd rk mL na none) (hd : mvDec j pc = some (.return_, 1)) (kk : Q none (n, g, h)) : Rch j pc L [] (n, g, h) Q := rc_retG M hd rfl rfl rfl kk
end RCS
/-- ends: an int, a long, nothing; what else there is stays as it is, but for the numbers -/
abbrev RI (j pc : Nat) (L : mvL) (S : List mvV) (g : Nat → Nat → Nat) (h : Nat → Int → Int) (K : Int → (Nat → Int → Int) → Prop) : Prop := Rch j pc L S (97, g, h) (fun r σ' => ∃ (x : Int) (h' : Nat → Int → Int), r = some (mvI x) ∧ σ' = (97, g, h') ∧ K x h')
abbrev RJ (j pc : Nat) (L : mvL) (S : List mvV) (g : Nat → Nat → Nat) (h : Nat → Int → Int) (K : Int → (Nat → Int → Int) → Prop) : Prop := Rch j pc L S (97, g, h) (fun r σ' => ∃ (x : Int) (h' : Nat → Int → Int), r = some (mvJ x) ∧ σ' = (97, g, h') ∧ K x h')
abbrev RV (j pc : Nat) (L : mvL) (S : List mvV) (g : Nat → Nat → Nat) (h : Nat → Int → Int) (K : (Nat → Int → Int) → Prop) : Prop := Rch j pc L S (97, g, h) (fun r σ' => ∃ (h' : Nat → Int → Int), r = none ∧ σ' = (97, g, h') ∧ K h')
theorem ri_bind {j pc j' pc' : Nat} {L L' : mvL} {S S' : List mvV} {g : Nat → Nat → Nat} {h : Nat → Int → Int} {K : Int → (Nat → Int → Int) → Prop} {Q : Option mvV → mvS → Prop} (H : RI j pc L S g h K) (k : ∀ x h', K x h' → Rch j' pc' L' (mvI x :: S') (97, g, h') Q) : Rch j pc L S (97, g, h) (fun r σ' => Rch j' pc' L' (r.toList ++ S') σ' Q) := rc_mono H (by
  rintro r σ' ⟨x, h', rfl, rfl, hk⟩
  exact k x h' hk)
theorem rj_bind {j pc j' pc' : Nat} {L L' : mvL} {S S' : List mvV} {g : Nat → Nat → Nat} {h : Nat → Int → Int} {K : Int → (Nat → Int → Int) → Prop} {Q : Option mvV → mvS → Prop} (H : RJ j pc L S g h K) (k : ∀ x h', K x h' → Rch j' pc' L' (mvJ x :: S') (97, g, h') Q) : Rch j pc L S (97, g, h) (fun r σ' => Rch j' pc' L' (r.toList ++ S') σ' Q) := rc_mono H (by
  rintro r σ' ⟨x, h', rfl, rfl, hk⟩
  exact k x h' hk)
theorem rv_bind {j pc j' pc' : Nat} {L L' : mvL} {S S' : List mvV} {g : Nat → Nat → Nat} {h : Nat → Int → Int} {K : (Nat → Int → Int) → Prop} {Q : Option mvV → mvS → Prop} (H : RV j pc L S g h K) (k : ∀ h', K h' → Rch j' pc' L' S' (97, g, h') Q) : Rch j pc L S (97, g, h) (fun r σ' => Rch j' pc' L' (r.toList ++ S') σ' Q) := rc_mono H (by
  rintro r σ' ⟨h', rfl, rfl, hk⟩
  exact k h' hk)
end
