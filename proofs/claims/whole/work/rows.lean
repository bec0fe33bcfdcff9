section
-- ===== PART A: goes FIRST, ahead of the names: the tables' words, and 'selects' of the private methods out of them =====
/-- a private method of a class that the tables say can be made, by its rows of tables_1 -/
def lw_okq (q : MethodName × Nat) : Prop := (q.1.cls ≠ "java/lang/invoke/MethodHandle" ∧ q.1.cls ≠ "java/lang/invoke/VarHandle") ∧ Cond.instantiable q.1.cls q.2 ∈ tables_1 ∧ Cond.privateMethod q.1 ∈ tables_1 ∧ Cond.instanceMethod q.1 ∈ tables_1
theorem lw_p0 : lw_okq (⟨"ScreeCourt", "found", "(I)I"⟩, 16) := ⟨⟨by decide +kernel, by decide +kernel⟩, List.mem_of_getElem? (i := 16) (by decide +kernel), List.mem_of_getElem? (i := 308) (by decide +kernel), List.mem_of_getElem? (i := 309) (by decide +kernel)⟩
theorem lw_p1 : lw_okq (⟨"ScreeCourt$Slope", "endOf", "(I)I"⟩, 4) := ⟨⟨by decide +kernel, by decide +kernel⟩, List.mem_of_getElem? (i := 24) (by decide +kernel), List.mem_of_getElem? (i := 343) (by decide +kernel), List.mem_of_getElem? (i := 344) (by decide +kernel)⟩
theorem lw_p2 : lw_okq (⟨"ScreeCourt$Slope", "hasDitch", "(I)Z"⟩, 4) := ⟨⟨by decide +kernel, by decide +kernel⟩, List.mem_of_getElem? (i := 24) (by decide +kernel), List.mem_of_getElem? (i := 359) (by decide +kernel), List.mem_of_getElem? (i := 360) (by decide +kernel)⟩
theorem lw_p3 : lw_okq (⟨"ScreeCourt$Heap", "timesAtOnce", "(I)I"⟩, 4) := ⟨⟨by decide +kernel, by decide +kernel⟩, List.mem_of_getElem? (i := 60) (by decide +kernel), List.mem_of_getElem? (i := 452) (by decide +kernel), List.mem_of_getElem? (i := 453) (by decide +kernel)⟩
theorem lw_p4 : lw_okq (⟨"ScreeCourt$Chooser", "firstInOrder", "()I"⟩, 7) := ⟨⟨by decide +kernel, by decide +kernel⟩, List.mem_of_getElem? (i := 86) (by decide +kernel), List.mem_of_getElem? (i := 492) (by decide +kernel), List.mem_of_getElem? (i := 493) (by decide +kernel)⟩
theorem lw_p5 : lw_okq (⟨"ScreeCourt$Chooser", "drawLot", "(I)I"⟩, 7) := ⟨⟨by decide +kernel, by decide +kernel⟩, List.mem_of_getElem? (i := 86) (by decide +kernel), List.mem_of_getElem? (i := 497) (by decide +kernel), List.mem_of_getElem? (i := 498) (by decide +kernel)⟩
theorem lw_p6 : lw_okq (⟨"ScreeCourt$Chooser", "askOn", "()I"⟩, 7) := ⟨⟨by decide +kernel, by decide +kernel⟩, List.mem_of_getElem? (i := 86) (by decide +kernel), List.mem_of_getElem? (i := 505) (by decide +kernel), List.mem_of_getElem? (i := 506) (by decide +kernel)⟩
theorem lw_p7 : lw_okq (⟨"ScreeCourt$Chooser", "askAll", "()V"⟩, 7) := ⟨⟨by decide +kernel, by decide +kernel⟩, List.mem_of_getElem? (i := 86) (by decide +kernel), List.mem_of_getElem? (i := 509) (by decide +kernel), List.mem_of_getElem? (i := 510) (by decide +kernel)⟩
theorem lw_p8 : lw_okq (⟨"ScreeCourt$Chooser", "takeFirst", "()I"⟩, 7) := ⟨⟨by decide +kernel, by decide +kernel⟩, List.mem_of_getElem? (i := 86) (by decide +kernel), List.mem_of_getElem? (i := 513) (by decide +kernel), List.mem_of_getElem? (i := 514) (by decide +kernel)⟩
theorem lw_p9 : lw_okq (⟨"ScreeCourt$Chooser", "askAhead", "(I)V"⟩, 7) := ⟨⟨by decide +kernel, by decide +kernel⟩, List.mem_of_getElem? (i := 86) (by decide +kernel), List.mem_of_getElem? (i := 529) (by decide +kernel), List.mem_of_getElem? (i := 530) (by decide +kernel)⟩
theorem lw_p10 : lw_okq (⟨"ScreeCourt$Chooser", "isNewEnd", "(II)Z"⟩, 7) := ⟨⟨by decide +kernel, by decide +kernel⟩, List.mem_of_getElem? (i := 86) (by decide +kernel), List.mem_of_getElem? (i := 533) (by decide +kernel), List.mem_of_getElem? (i := 534) (by decide +kernel)⟩
theorem lw_p11 : lw_okq (⟨"ScreeCourt$Chooser", "askBehind", "(I)V"⟩, 7) := ⟨⟨by decide +kernel, by decide +kernel⟩, List.mem_of_getElem? (i := 86) (by decide +kernel), List.mem_of_getElem? (i := 537) (by decide +kernel), List.mem_of_getElem? (i := 538) (by decide +kernel)⟩
theorem lw_p12 : lw_okq (⟨"ScreeCourt$Fire", "nextToBurn", "(LScreeCourt$Slope;[II)I"⟩, 3) := ⟨⟨by decide +kernel, by decide +kernel⟩, List.mem_of_getElem? (i := 163) (by decide +kernel), List.mem_of_getElem? (i := 571) (by decide +kernel), List.mem_of_getElem? (i := 572) (by decide +kernel)⟩
theorem lw_p13 : lw_okq (⟨"ScreeCourt", "fillSlot", "(ILScreeCourt$Heap;)I"⟩, 16) := ⟨⟨by decide +kernel, by decide +kernel⟩, List.mem_of_getElem? (i := 16) (by decide +kernel), List.mem_of_getElem? (i := 587) (by decide +kernel), List.mem_of_getElem? (i := 588) (by decide +kernel)⟩
theorem lw_p14 : lw_okq (⟨"ScreeCourt", "settleInto", "(I)I"⟩, 16) := ⟨⟨by decide +kernel, by decide +kernel⟩, List.mem_of_getElem? (i := 16) (by decide +kernel), List.mem_of_getElem? (i := 609) (by decide +kernel), List.mem_of_getElem? (i := 610) (by decide +kernel)⟩
theorem lw_p15 : lw_okq (⟨"ScreeCourt$Heap", "isOverfilled", "()Z"⟩, 4) := ⟨⟨by decide +kernel, by decide +kernel⟩, List.mem_of_getElem? (i := 60) (by decide +kernel), List.mem_of_getElem? (i := 617) (by decide +kernel), List.mem_of_getElem? (i := 618) (by decide +kernel)⟩
def lw_privs_1 : List (MethodName × Nat) := [(⟨"ScreeCourt", "found", "(I)I"⟩, 16), (⟨"ScreeCourt$Slope", "endOf", "(I)I"⟩, 4), (⟨"ScreeCourt$Slope", "hasDitch", "(I)Z"⟩, 4), (⟨"ScreeCourt$Heap", "timesAtOnce", "(I)I"⟩, 4), (⟨"ScreeCourt$Chooser", "firstInOrder", "()I"⟩, 7), (⟨"ScreeCourt$Chooser", "drawLot", "(I)I"⟩, 7), (⟨"ScreeCourt$Chooser", "askOn", "()I"⟩, 7), (⟨"ScreeCourt$Chooser", "askAll", "()V"⟩, 7), (⟨"ScreeCourt$Chooser", "takeFirst", "()I"⟩, 7), (⟨"ScreeCourt$Chooser", "askAhead", "(I)V"⟩, 7), (⟨"ScreeCourt$Chooser", "isNewEnd", "(II)Z"⟩, 7), (⟨"ScreeCourt$Chooser", "askBehind", "(I)V"⟩, 7), (⟨"ScreeCourt$Fire", "nextToBurn", "(LScreeCourt$Slope;[II)I"⟩, 3), (⟨"ScreeCourt", "fillSlot", "(ILScreeCourt$Heap;)I"⟩, 16), (⟨"ScreeCourt", "settleInto", "(I)I"⟩, 16), (⟨"ScreeCourt$Heap", "isOverfilled", "()Z"⟩, 4)]
theorem lw_r1 : ∀ q ∈ lw_privs_1, lw_okq q := List.forall_mem_cons.mpr ⟨lw_p0, List.forall_mem_cons.mpr ⟨lw_p1, List.forall_mem_cons.mpr ⟨lw_p2, List.forall_mem_cons.mpr ⟨lw_p3, List.forall_mem_cons.mpr ⟨lw_p4, List.forall_mem_cons.mpr ⟨lw_p5, List.forall_mem_cons.mpr ⟨lw_p6, List.forall_mem_cons.mpr ⟨lw_p7, List.forall_mem_cons.mpr ⟨lw_p8, List.forall_mem_cons.mpr ⟨lw_p9, List.forall_mem_cons.mpr ⟨lw_p10, List.forall_mem_cons.mpr ⟨lw_p11, List.forall_mem_cons.mpr ⟨lw_p12, List.forall_mem_cons.mpr ⟨lw_p13, List.forall_mem_cons.mpr ⟨lw_p14, List.forall_mem_cons.mpr ⟨lw_p15, fun _ h => absurd h List.not_mem_nil⟩⟩⟩⟩⟩⟩⟩⟩⟩⟩⟩⟩⟩⟩⟩⟩
theorem lw_p16 : lw_okq (⟨"ScreeCourt", "findLeftOfA", "()Z"⟩, 16) := ⟨⟨by decide +kernel, by decide +kernel⟩, List.mem_of_getElem? (i := 16) (by decide +kernel), List.mem_of_getElem? (i := 629) (by decide +kernel), List.mem_of_getElem? (i := 630) (by decide +kernel)⟩
theorem lw_p17 : lw_okq (⟨"ScreeCourt$Tally", "fill", "(LScreeCourt$Slope;I)V"⟩, 1) := ⟨⟨by decide +kernel, by decide +kernel⟩, List.mem_of_getElem? (i := 205) (by decide +kernel), List.mem_of_getElem? (i := 648) (by decide +kernel), List.mem_of_getElem? (i := 649) (by decide +kernel)⟩
theorem lw_p18 : lw_okq (⟨"ScreeCourt$Tally", "pivotOf", "(II)I"⟩, 1) := ⟨⟨by decide +kernel, by decide +kernel⟩, List.mem_of_getElem? (i := 205) (by decide +kernel), List.mem_of_getElem? (i := 655) (by decide +kernel), List.mem_of_getElem? (i := 656) (by decide +kernel)⟩
theorem lw_p19 : lw_okq (⟨"ScreeCourt$Tally", "swapRows", "(III)V"⟩, 1) := ⟨⟨by decide +kernel, by decide +kernel⟩, List.mem_of_getElem? (i := 205) (by decide +kernel), List.mem_of_getElem? (i := 659) (by decide +kernel), List.mem_of_getElem? (i := 660) (by decide +kernel)⟩
theorem lw_p20 : lw_okq (⟨"ScreeCourt$Tally", "clearBelow", "(III)V"⟩, 1) := ⟨⟨by decide +kernel, by decide +kernel⟩, List.mem_of_getElem? (i := 205) (by decide +kernel), List.mem_of_getElem? (i := 663) (by decide +kernel), List.mem_of_getElem? (i := 664) (by decide +kernel)⟩
theorem lw_p21 : lw_okq (⟨"ScreeCourt$Roster", "leastFrom", "(LScreeCourt$Slope;I)V"⟩, 4) := ⟨⟨by decide +kernel, by decide +kernel⟩, List.mem_of_getElem? (i := 183) (by decide +kernel), List.mem_of_getElem? (i := 678) (by decide +kernel), List.mem_of_getElem? (i := 679) (by decide +kernel)⟩
theorem lw_p22 : lw_okq (⟨"ScreeCourt$Roster", "stepOn", "(LScreeCourt$Slope;)Z"⟩, 4) := ⟨⟨by decide +kernel, by decide +kernel⟩, List.mem_of_getElem? (i := 183) (by decide +kernel), List.mem_of_getElem? (i := 685) (by decide +kernel), List.mem_of_getElem? (i := 686) (by decide +kernel)⟩
theorem lw_p23 : lw_okq (⟨"ScreeCourt", "foundByPut", "(I)J"⟩, 16) := ⟨⟨by decide +kernel, by decide +kernel⟩, List.mem_of_getElem? (i := 16) (by decide +kernel), List.mem_of_getElem? (i := 715) (by decide +kernel), List.mem_of_getElem? (i := 716) (by decide +kernel)⟩
theorem lw_p24 : lw_okq (⟨"ScreeCourt", "weighCounts", "()I"⟩, 16) := ⟨⟨by decide +kernel, by decide +kernel⟩, List.mem_of_getElem? (i := 16) (by decide +kernel), List.mem_of_getElem? (i := 755) (by decide +kernel), List.mem_of_getElem? (i := 756) (by decide +kernel)⟩
theorem lw_p25 : lw_okq (⟨"ScreeCourt", "grainsAfterCounts", "(I)J"⟩, 16) := ⟨⟨by decide +kernel, by decide +kernel⟩, List.mem_of_getElem? (i := 16) (by decide +kernel), List.mem_of_getElem? (i := 759) (by decide +kernel), List.mem_of_getElem? (i := 760) (by decide +kernel)⟩
theorem lw_p26 : lw_okq (⟨"ScreeCourt", "followPairs", "()I"⟩, 16) := ⟨⟨by decide +kernel, by decide +kernel⟩, List.mem_of_getElem? (i := 16) (by decide +kernel), List.mem_of_getElem? (i := 767) (by decide +kernel), List.mem_of_getElem? (i := 768) (by decide +kernel)⟩
theorem lw_p27 : lw_okq (⟨"ScreeCourtModel", "found", "(I)I"⟩, 37) := ⟨⟨by decide +kernel, by decide +kernel⟩, List.mem_of_getElem? (i := 787) (by decide +kernel), List.mem_of_getElem? (i := 909) (by decide +kernel), List.mem_of_getElem? (i := 910) (by decide +kernel)⟩
theorem lw_p28 : lw_okq (⟨"ScreeCourtModel", "isPlace", "(I)Z"⟩, 37) := ⟨⟨by decide +kernel, by decide +kernel⟩, List.mem_of_getElem? (i := 787) (by decide +kernel), List.mem_of_getElem? (i := 920) (by decide +kernel), List.mem_of_getElem? (i := 921) (by decide +kernel)⟩
theorem lw_p29 : lw_okq (⟨"ScreeCourtModel", "load", "(I)I"⟩, 37) := ⟨⟨by decide +kernel, by decide +kernel⟩, List.mem_of_getElem? (i := 787) (by decide +kernel), List.mem_of_getElem? (i := 924) (by decide +kernel), List.mem_of_getElem? (i := 925) (by decide +kernel)⟩
theorem lw_p30 : lw_okq (⟨"ScreeCourtModel", "weightOf", "(II)I"⟩, 37) := ⟨⟨by decide +kernel, by decide +kernel⟩, List.mem_of_getElem? (i := 787) (by decide +kernel), List.mem_of_getElem? (i := 928) (by decide +kernel), List.mem_of_getElem? (i := 929) (by decide +kernel)⟩
theorem lw_p31 : lw_okq (⟨"ScreeCourtModel", "store", "()V"⟩, 37) := ⟨⟨by decide +kernel, by decide +kernel⟩, List.mem_of_getElem? (i := 787) (by decide +kernel), List.mem_of_getElem? (i := 957) (by decide +kernel), List.mem_of_getElem? (i := 958) (by decide +kernel)⟩
def lw_privs_2 : List (MethodName × Nat) := [(⟨"ScreeCourt", "findLeftOfA", "()Z"⟩, 16), (⟨"ScreeCourt$Tally", "fill", "(LScreeCourt$Slope;I)V"⟩, 1), (⟨"ScreeCourt$Tally", "pivotOf", "(II)I"⟩, 1), (⟨"ScreeCourt$Tally", "swapRows", "(III)V"⟩, 1), (⟨"ScreeCourt$Tally", "clearBelow", "(III)V"⟩, 1), (⟨"ScreeCourt$Roster", "leastFrom", "(LScreeCourt$Slope;I)V"⟩, 4), (⟨"ScreeCourt$Roster", "stepOn", "(LScreeCourt$Slope;)Z"⟩, 4), (⟨"ScreeCourt", "foundByPut", "(I)J"⟩, 16), (⟨"ScreeCourt", "weighCounts", "()I"⟩, 16), (⟨"ScreeCourt", "grainsAfterCounts", "(I)J"⟩, 16), (⟨"ScreeCourt", "followPairs", "()I"⟩, 16), (⟨"ScreeCourtModel", "found", "(I)I"⟩, 37), (⟨"ScreeCourtModel", "isPlace", "(I)Z"⟩, 37), (⟨"ScreeCourtModel", "load", "(I)I"⟩, 37), (⟨"ScreeCourtModel", "weightOf", "(II)I"⟩, 37), (⟨"ScreeCourtModel", "store", "()V"⟩, 37)]
theorem lw_r2 : ∀ q ∈ lw_privs_2, lw_okq q := List.forall_mem_cons.mpr ⟨lw_p16, List.forall_mem_cons.mpr ⟨lw_p17, List.forall_mem_cons.mpr ⟨lw_p18, List.forall_mem_cons.mpr ⟨lw_p19, List.forall_mem_cons.mpr ⟨lw_p20, List.forall_mem_cons.mpr ⟨lw_p21, List.forall_mem_cons.mpr ⟨lw_p22, List.forall_mem_cons.mpr ⟨lw_p23, List.forall_mem_cons.mpr ⟨lw_p24, List.forall_mem_cons.mpr ⟨lw_p25, List.forall_mem_cons.mpr ⟨lw_p26, List.forall_mem_cons.mpr ⟨lw_p27, List.forall_mem_cons.mpr ⟨lw_p28, List.forall_mem_cons.mpr ⟨lw_p29, List.forall_mem_cons.mpr ⟨lw_p30, List.forall_mem_cons.mpr ⟨lw_p31, fun _ h => absurd h List.not_mem_nil⟩⟩⟩⟩⟩⟩⟩⟩⟩⟩⟩⟩⟩⟩⟩⟩
theorem lw_p32 : lw_okq (⟨"ScreeCourtModel", "dueMany", "()I"⟩, 37) := ⟨⟨by decide +kernel, by decide +kernel⟩, List.mem_of_getElem? (i := 787) (by decide +kernel), List.mem_of_getElem? (i := 969) (by decide +kernel), List.mem_of_getElem? (i := 970) (by decide +kernel)⟩
theorem lw_p33 : lw_okq (⟨"ScreeCourtModel", "isTooMuch", "([JI)Z"⟩, 37) := ⟨⟨by decide +kernel, by decide +kernel⟩, List.mem_of_getElem? (i := 787) (by decide +kernel), List.mem_of_getElem? (i := 980) (by decide +kernel), List.mem_of_getElem? (i := 981) (by decide +kernel)⟩
theorem lw_p34 : lw_okq (⟨"ScreeCourtModel", "times", "([JI)J"⟩, 37) := ⟨⟨by decide +kernel, by decide +kernel⟩, List.mem_of_getElem? (i := 787) (by decide +kernel), List.mem_of_getElem? (i := 984) (by decide +kernel), List.mem_of_getElem? (i := 985) (by decide +kernel)⟩
theorem lw_p35 : lw_okq (⟨"ScreeCourtModel", "isShelf", "(I)Z"⟩, 37) := ⟨⟨by decide +kernel, by decide +kernel⟩, List.mem_of_getElem? (i := 787) (by decide +kernel), List.mem_of_getElem? (i := 988) (by decide +kernel), List.mem_of_getElem? (i := 989) (by decide +kernel)⟩
theorem lw_p36 : lw_okq (⟨"ScreeCourtModel", "slides", "([JI)J"⟩, 37) := ⟨⟨by decide +kernel, by decide +kernel⟩, List.mem_of_getElem? (i := 787) (by decide +kernel), List.mem_of_getElem? (i := 992) (by decide +kernel), List.mem_of_getElem? (i := 993) (by decide +kernel)⟩
theorem lw_p37 : lw_okq (⟨"ScreeCourtModel", "next", "()I"⟩, 37) := ⟨⟨by decide +kernel, by decide +kernel⟩, List.mem_of_getElem? (i := 787) (by decide +kernel), List.mem_of_getElem? (i := 1004) (by decide +kernel), List.mem_of_getElem? (i := 1005) (by decide +kernel)⟩
theorem lw_p38 : lw_okq (⟨"ScreeCourtModel", "asks", "(I)V"⟩, 37) := ⟨⟨by decide +kernel, by decide +kernel⟩, List.mem_of_getElem? (i := 787) (by decide +kernel), List.mem_of_getElem? (i := 1012) (by decide +kernel), List.mem_of_getElem? (i := 1013) (by decide +kernel)⟩
theorem lw_p39 : lw_okq (⟨"ScreeCourtModel", "isAsked", "(I)Z"⟩, 37) := ⟨⟨by decide +kernel, by decide +kernel⟩, List.mem_of_getElem? (i := 787) (by decide +kernel), List.mem_of_getElem? (i := 1016) (by decide +kernel), List.mem_of_getElem? (i := 1017) (by decide +kernel)⟩
theorem lw_p40 : lw_okq (⟨"ScreeCourtModel", "isTwoWay", "()Z"⟩, 37) := ⟨⟨by decide +kernel, by decide +kernel⟩, List.mem_of_getElem? (i := 787) (by decide +kernel), List.mem_of_getElem? (i := 1032) (by decide +kernel), List.mem_of_getElem? (i := 1033) (by decide +kernel)⟩
theorem lw_p41 : lw_okq (⟨"ScreeCourtModel", "burns", "([J)I"⟩, 37) := ⟨⟨by decide +kernel, by decide +kernel⟩, List.mem_of_getElem? (i := 787) (by decide +kernel), List.mem_of_getElem? (i := 1040) (by decide +kernel), List.mem_of_getElem? (i := 1041) (by decide +kernel)⟩
theorem lw_p42 : lw_okq (⟨"ScreeCourtModel", "stored", "(I[J)I"⟩, 37) := ⟨⟨by decide +kernel, by decide +kernel⟩, List.mem_of_getElem? (i := 787) (by decide +kernel), List.mem_of_getElem? (i := 1055) (by decide +kernel), List.mem_of_getElem? (i := 1056) (by decide +kernel)⟩
theorem lw_p43 : lw_okq (⟨"ScreeCourtModel", "settles", "()Z"⟩, 37) := ⟨⟨by decide +kernel, by decide +kernel⟩, List.mem_of_getElem? (i := 787) (by decide +kernel), List.mem_of_getElem? (i := 1067) (by decide +kernel), List.mem_of_getElem? (i := 1068) (by decide +kernel)⟩
theorem lw_p44 : lw_okq (⟨"ScreeCourtModel", "greatest", "()V"⟩, 37) := ⟨⟨by decide +kernel, by decide +kernel⟩, List.mem_of_getElem? (i := 787) (by decide +kernel), List.mem_of_getElem? (i := 1075) (by decide +kernel), List.mem_of_getElem? (i := 1076) (by decide +kernel)⟩
def lw_privs_3 : List (MethodName × Nat) := [(⟨"ScreeCourtModel", "dueMany", "()I"⟩, 37), (⟨"ScreeCourtModel", "isTooMuch", "([JI)Z"⟩, 37), (⟨"ScreeCourtModel", "times", "([JI)J"⟩, 37), (⟨"ScreeCourtModel", "isShelf", "(I)Z"⟩, 37), (⟨"ScreeCourtModel", "slides", "([JI)J"⟩, 37), (⟨"ScreeCourtModel", "next", "()I"⟩, 37), (⟨"ScreeCourtModel", "asks", "(I)V"⟩, 37), (⟨"ScreeCourtModel", "isAsked", "(I)Z"⟩, 37), (⟨"ScreeCourtModel", "isTwoWay", "()Z"⟩, 37), (⟨"ScreeCourtModel", "burns", "([J)I"⟩, 37), (⟨"ScreeCourtModel", "stored", "(I[J)I"⟩, 37), (⟨"ScreeCourtModel", "settles", "()Z"⟩, 37), (⟨"ScreeCourtModel", "greatest", "()V"⟩, 37)]
theorem lw_r3 : ∀ q ∈ lw_privs_3, lw_okq q := List.forall_mem_cons.mpr ⟨lw_p32, List.forall_mem_cons.mpr ⟨lw_p33, List.forall_mem_cons.mpr ⟨lw_p34, List.forall_mem_cons.mpr ⟨lw_p35, List.forall_mem_cons.mpr ⟨lw_p36, List.forall_mem_cons.mpr ⟨lw_p37, List.forall_mem_cons.mpr ⟨lw_p38, List.forall_mem_cons.mpr ⟨lw_p39, List.forall_mem_cons.mpr ⟨lw_p40, List.forall_mem_cons.mpr ⟨lw_p41, List.forall_mem_cons.mpr ⟨lw_p42, List.forall_mem_cons.mpr ⟨lw_p43, List.forall_mem_cons.mpr ⟨lw_p44, fun _ h => absurd h List.not_mem_nil⟩⟩⟩⟩⟩⟩⟩⟩⟩⟩⟩⟩⟩
def lw_privs : List (MethodName × Nat) := lw_privs_1 ++ (lw_privs_2 ++ (lw_privs_3))
def lw_tbl : List Cond := k2_sels lw_privs ++ tables_1
theorem lw_privs_ok : ∀ q ∈ lw_privs, lw_okq q := by
  show ∀ q ∈ lw_privs_1 ++ (lw_privs_2 ++ (lw_privs_3)), lw_okq q
  exact List.forall_mem_append.mpr ⟨lw_r1, List.forall_mem_append.mpr ⟨lw_r2, lw_r3⟩⟩
/-! ===== BEGIN words of one list among another's, by their places ===== -/
theorem goodIn_r {big : List Cond} (ws : List Cond) (ps : List Nat) (hp : ws = ps.filterMap (fun i => big[i]?)) (h : ws.all goodWord = true) : GoodIn big ws := by
  intro w hw
  have h1 := List.all_eq_true.mp h w hw
  rw [hp] at hw
  obtain ⟨i, -, hi⟩ := List.mem_filterMap.mp hw
  have hm : w ∈ big := by first | exact List.mem_of_getElem? hi | exact List.getElem?_mem hi
  exact ⟨hm, good_of_word h1⟩
theorem goodIn_app {big a b : List Cond} (ha : GoodIn big a) (hb : GoodIn big b) : GoodIn big (a ++ b) := fun w h => (List.mem_append.mp h).elim (ha w) (hb w)
theorem goodIn_ca {big a b : List Cond} {c : Cond} (ha : GoodIn big (c :: a)) (hb : GoodIn big b) : GoodIn big (c :: (a ++ b)) := fun w h => (List.mem_cons.mp h).elim (fun e => ha w (List.mem_cons.mpr (Or.inl e))) (fun h => (List.mem_append.mp h).elim (fun h => ha w (List.mem_cons.mpr (Or.inr h))) (hb w))
theorem goodIn_sub {big ws : List Cond} (hm : ∀ w ∈ ws, w ∈ big) (h : ws.all goodWord = true) : GoodIn big ws := fun w hw => ⟨hm w hw, good_of_word (List.all_eq_true.mp h w hw)⟩
/-! ===== END ===== -/
end
section
def RX0 : String := "ScreeCourt$Chooser"
def TX0 : u_T := fun k => match k with
  | 0 => ("ScreeCourt$Chooser", "slope", "LScreeCourt$Slope;", true)
  | 1 => ("ScreeCourt$Chooser", "heap", "LScreeCourt$Heap;", true)
  | 2 => ("ScreeCourt$Chooser", "order", "[I", true)
  | 3 => ("ScreeCourt$Chooser", "row", "[I", true)
  | 4 => ("ScreeCourt$Chooser", "rowSize", "I", false)
  | 5 => ("ScreeCourt$Chooser", "manner", "I", false)
  | _ => ("ScreeCourt$Chooser", "seed", "J", false)
def tyX0 : Nat → FieldType := fun k => match k with
  | 0 => .object "ScreeCourt$Slope"
  | 1 => .object "ScreeCourt$Heap"
  | 2 => .array .int
  | 3 => .array .int
  | 4 => .int
  | 5 => .int
  | _ => .long
theorem nmX0 : ∀ a, a < 7 → ∀ b, b < 7 → a ≠ b → (TX0 a).2.1 ≠ (TX0 b).2.1 := by decide +kernel
theorem tyX0_ok : ∀ k, k < 7 → parseFieldDescriptor (TX0 k).2.2.1 = some (tyX0 k) := by decide +kernel
abbrev cX0_init : ByteArray := prog_2_method_1_code
def yX0_init : MethodName := ⟨RX0, "<init>", "(LScreeCourt$Slope;LScreeCourt$Heap;)V"⟩
abbrev cX0_clear : ByteArray := prog_2_method_2_code
def yX0_clear : MethodName := ⟨RX0, "clear", "()V"⟩
abbrev cX0_takeOrder : ByteArray := prog_2_method_3_code
def yX0_takeOrder : MethodName := ⟨RX0, "takeOrder", "(LScreeCourt$Queue;)V"⟩
abbrev cX0_chooseNext : ByteArray := prog_2_method_4_code
def yX0_chooseNext : MethodName := ⟨RX0, "chooseNext", "()I"⟩
abbrev cX0_firstInOrder : ByteArray := prog_2_method_5_code
def yX0_firstInOrder : MethodName := ⟨RX0, "firstInOrder", "()I"⟩
abbrev cX0_drawLot : ByteArray := prog_2_method_6_code
def yX0_drawLot : MethodName := ⟨RX0, "drawLot", "(I)I"⟩
abbrev cX0_askOn : ByteArray := prog_2_method_7_code
def yX0_askOn : MethodName := ⟨RX0, "askOn", "()I"⟩
abbrev cX0_askAll : ByteArray := prog_2_method_8_code
def yX0_askAll : MethodName := ⟨RX0, "askAll", "()V"⟩
abbrev cX0_takeFirst : ByteArray := prog_2_method_9_code
def yX0_takeFirst : MethodName := ⟨RX0, "takeFirst", "()I"⟩
abbrev cX0_hearOfSlide : ByteArray := prog_2_method_10_code
def yX0_hearOfSlide : MethodName := ⟨RX0, "hearOfSlide", "(I)V"⟩
abbrev cX0_askBehind : ByteArray := prog_2_method_11_code
def yX0_askBehind : MethodName := ⟨RX0, "askBehind", "(I)V"⟩
abbrev cX0_askAhead : ByteArray := prog_2_method_12_code
def yX0_askAhead : MethodName := ⟨RX0, "askAhead", "(I)V"⟩
abbrev cX0_isNewEnd : ByteArray := prog_2_method_13_code
def yX0_isNewEnd : MethodName := ⟨RX0, "isNewEnd", "(II)Z"⟩
def RX1 : String := "ScreeCourt$Fire"
def TX1 : u_T := fun k => match k with
  | 0 => ("ScreeCourt$Fire", "order", "[I", true)
  | 1 => ("ScreeCourt$Fire", "count", "I", false)
  | _ => ("ScreeCourt$Fire", "unburnt", "I", false)
def tyX1 : Nat → FieldType := fun k => match k with
  | 0 => .array .int
  | 1 => .int
  | _ => .int
theorem nmX1 : ∀ a, a < 3 → ∀ b, b < 3 → a ≠ b → (TX1 a).2.1 ≠ (TX1 b).2.1 := by decide +kernel
theorem tyX1_ok : ∀ k, k < 3 → parseFieldDescriptor (TX1 k).2.2.1 = some (tyX1 k) := by decide +kernel
abbrev cX1_init : ByteArray := prog_3_method_1_code
def yX1_init : MethodName := ⟨RX1, "<init>", "()V"⟩
abbrev cX1_clear : ByteArray := prog_3_method_2_code
def yX1_clear : MethodName := ⟨RX1, "clear", "()V"⟩
abbrev cX1_light : ByteArray := prog_3_method_3_code
def yX1_light : MethodName := ⟨RX1, "light", "(LScreeCourt$Slope;[II)V"⟩
abbrev cX1_nextToBurn : ByteArray := prog_3_method_4_code
def yX1_nextToBurn : MethodName := ⟨RX1, "nextToBurn", "(LScreeCourt$Slope;[II)I"⟩
def RX2 : String := "ScreeCourt$Heap"
def TX2 : u_T := fun k => match k with
  | 0 => ("ScreeCourt$Heap", "slope", "LScreeCourt$Slope;", true)
  | 1 => ("ScreeCourt$Heap", "grains", "[I", true)
  | 2 => ("ScreeCourt$Heap", "ditches", "[J", true)
  | _ => ("ScreeCourt$Heap", "slid", "[J", true)
def tyX2 : Nat → FieldType := fun k => match k with
  | 0 => .object "ScreeCourt$Slope"
  | 1 => .array .int
  | 2 => .array .long
  | _ => .array .long
theorem nmX2 : ∀ a, a < 4 → ∀ b, b < 4 → a ≠ b → (TX2 a).2.1 ≠ (TX2 b).2.1 := by decide +kernel
theorem tyX2_ok : ∀ k, k < 4 → parseFieldDescriptor (TX2 k).2.2.1 = some (tyX2 k) := by decide +kernel
abbrev cX2_init : ByteArray := prog_4_method_1_code
def yX2_init : MethodName := ⟨RX2, "<init>", "(LScreeCourt$Slope;)V"⟩
abbrev cX2_clear : ByteArray := prog_4_method_2_code
def yX2_clear : MethodName := ⟨RX2, "clear", "()V"⟩
abbrev cX2_takeGrains : ByteArray := prog_4_method_3_code
def yX2_takeGrains : MethodName := ⟨RX2, "takeGrains", "([I)V"⟩
abbrev cX2_sum : ByteArray := prog_4_method_4_code
def yX2_sum : MethodName := ⟨RX2, "sum", "()I"⟩
abbrev cX2_isDue : ByteArray := prog_4_method_5_code
def yX2_isDue : MethodName := ⟨RX2, "isDue", "(I)Z"⟩
abbrev cX2_countDue : ByteArray := prog_4_method_6_code
def yX2_countDue : MethodName := ⟨RX2, "countDue", "()I"⟩
abbrev cX2_lowestDue : ByteArray := prog_4_method_7_code
def yX2_lowestDue : MethodName := ⟨RX2, "lowestDue", "()I"⟩
abbrev cX2_fullestDue : ByteArray := prog_4_method_8_code
def yX2_fullestDue : MethodName := ⟨RX2, "fullestDue", "()I"⟩
abbrev cX2_stands : ByteArray := prog_4_method_9_code
def yX2_stands : MethodName := ⟨RX2, "stands", "()Z"⟩
abbrev cX2_timesAtOnce : ByteArray := prog_4_method_10_code
def yX2_timesAtOnce : MethodName := ⟨RX2, "timesAtOnce", "(I)I"⟩
abbrev cX2_wouldOverfill : ByteArray := prog_4_method_11_code
def yX2_wouldOverfill : MethodName := ⟨RX2, "wouldOverfill", "(I)Z"⟩
abbrev cX2_letSlide : ByteArray := prog_4_method_12_code
def yX2_letSlide : MethodName := ⟨RX2, "letSlide", "(I)I"⟩
abbrev cX2_isOverfilled : ByteArray := prog_4_method_13_code
def yX2_isOverfilled : MethodName := ⟨RX2, "isOverfilled", "()Z"⟩
abbrev cX2_settle : ByteArray := prog_4_method_14_code
def yX2_settle : MethodName := ⟨RX2, "settle", "()Z"⟩
def RX3 : String := "ScreeCourt$History"
def TX3 : u_T := fun k => match k with
  | 0 => ("ScreeCourt$History", "ring", "[LScreeCourt$Moment;", true)
  | 1 => ("ScreeCourt$History", "next", "I", false)
  | _ => ("ScreeCourt$History", "count", "I", false)
def tyX3 : Nat → FieldType := fun k => match k with
  | 0 => .array (.object "ScreeCourt$Moment")
  | 1 => .int
  | _ => .int
theorem nmX3 : ∀ a, a < 3 → ∀ b, b < 3 → a ≠ b → (TX3 a).2.1 ≠ (TX3 b).2.1 := by decide +kernel
theorem tyX3_ok : ∀ k, k < 3 → parseFieldDescriptor (TX3 k).2.2.1 = some (tyX3 k) := by decide +kernel
abbrev cX3_init : ByteArray := prog_5_method_1_code
def yX3_init : MethodName := ⟨RX3, "<init>", "()V"⟩
abbrev cX3_clear : ByteArray := prog_5_method_2_code
def yX3_clear : MethodName := ⟨RX3, "clear", "()V"⟩
abbrev cX3_note : ByteArray := prog_5_method_3_code
def yX3_note : MethodName := ⟨RX3, "note", "(LScreeCourt$Heap;LScreeCourt$Chooser;)V"⟩
abbrev cX3_goBack : ByteArray := prog_5_method_4_code
def yX3_goBack : MethodName := ⟨RX3, "goBack", "(LScreeCourt$Heap;LScreeCourt$Chooser;)V"⟩
def RX4 : String := "ScreeCourt$Moment"
def TX4 : u_T := fun k => match k with
  | 0 => ("ScreeCourt$Moment", "grains", "[I", true)
  | 1 => ("ScreeCourt$Moment", "ditches", "[J", true)
  | 2 => ("ScreeCourt$Moment", "slid", "[J", true)
  | 3 => ("ScreeCourt$Moment", "row", "[I", true)
  | 4 => ("ScreeCourt$Moment", "rowSize", "I", false)
  | _ => ("ScreeCourt$Moment", "seed", "J", false)
def tyX4 : Nat → FieldType := fun k => match k with
  | 0 => .array .int
  | 1 => .array .long
  | 2 => .array .long
  | 3 => .array .int
  | 4 => .int
  | _ => .long
theorem nmX4 : ∀ a, a < 6 → ∀ b, b < 6 → a ≠ b → (TX4 a).2.1 ≠ (TX4 b).2.1 := by decide +kernel
theorem tyX4_ok : ∀ k, k < 6 → parseFieldDescriptor (TX4 k).2.2.1 = some (tyX4 k) := by decide +kernel
abbrev cX4_init : ByteArray := prog_6_method_1_code
def yX4_init : MethodName := ⟨RX4, "<init>", "()V"⟩
abbrev cX4_takeFrom : ByteArray := prog_6_method_2_code
def yX4_takeFrom : MethodName := ⟨RX4, "takeFrom", "(LScreeCourt$Heap;LScreeCourt$Chooser;)V"⟩
abbrev cX4_giveTo : ByteArray := prog_6_method_3_code
def yX4_giveTo : MethodName := ⟨RX4, "giveTo", "(LScreeCourt$Heap;LScreeCourt$Chooser;)V"⟩
def RX5 : String := "ScreeCourt$Queue"
def TX5 : u_T := fun k => match k with
  | 0 => ("ScreeCourt$Queue", "numbers", "[I", true)
  | _ => ("ScreeCourt$Queue", "size", "I", false)
def tyX5 : Nat → FieldType := fun k => match k with
  | 0 => .array .int
  | _ => .int
theorem nmX5 : ∀ a, a < 2 → ∀ b, b < 2 → a ≠ b → (TX5 a).2.1 ≠ (TX5 b).2.1 := by decide +kernel
theorem tyX5_ok : ∀ k, k < 2 → parseFieldDescriptor (TX5 k).2.2.1 = some (tyX5 k) := by decide +kernel
abbrev cX5_init : ByteArray := prog_7_method_1_code
def yX5_init : MethodName := ⟨RX5, "<init>", "()V"⟩
abbrev cX5_clear : ByteArray := prog_7_method_2_code
def yX5_clear : MethodName := ⟨RX5, "clear", "()V"⟩
abbrev cX5_add : ByteArray := prog_7_method_3_code
def yX5_add : MethodName := ⟨RX5, "add", "(I)I"⟩
abbrev cX5_isOrderOf : ByteArray := prog_7_method_4_code
def yX5_isOrderOf : MethodName := ⟨RX5, "isOrderOf", "(I)Z"⟩
def RX6 : String := "ScreeCourt$Roster"
def TX6 : u_T := fun k => match k with
  | 0 => ("ScreeCourt$Roster", "fire", "LScreeCourt$Fire;", true)
  | 1 => ("ScreeCourt$Roster", "row", "[I", true)
  | 2 => ("ScreeCourt$Roster", "rows", "[I", true)
  | _ => ("ScreeCourt$Roster", "count", "I", false)
def tyX6 : Nat → FieldType := fun k => match k with
  | 0 => .object "ScreeCourt$Fire"
  | 1 => .array .int
  | 2 => .array .int
  | _ => .int
theorem nmX6 : ∀ a, a < 4 → ∀ b, b < 4 → a ≠ b → (TX6 a).2.1 ≠ (TX6 b).2.1 := by decide +kernel
theorem tyX6_ok : ∀ k, k < 4 → parseFieldDescriptor (TX6 k).2.2.1 = some (tyX6 k) := by decide +kernel
abbrev cX6_init : ByteArray := prog_8_method_1_code
def yX6_init : MethodName := ⟨RX6, "<init>", "()V"⟩
abbrev cX6_clear : ByteArray := prog_8_method_2_code
def yX6_clear : MethodName := ⟨RX6, "clear", "()V"⟩
abbrev cX6_grainsOf : ByteArray := prog_8_method_3_code
def yX6_grainsOf : MethodName := ⟨RX6, "grainsOf", "(II)I"⟩
abbrev cX6_gather : ByteArray := prog_8_method_4_code
def yX6_gather : MethodName := ⟨RX6, "gather", "(LScreeCourt$Slope;)Z"⟩
abbrev cX6_leastFrom : ByteArray := prog_8_method_5_code
def yX6_leastFrom : MethodName := ⟨RX6, "leastFrom", "(LScreeCourt$Slope;I)V"⟩
abbrev cX6_stepOn : ByteArray := prog_8_method_6_code
def yX6_stepOn : MethodName := ⟨RX6, "stepOn", "(LScreeCourt$Slope;)Z"⟩
def RX7 : String := "ScreeCourt$Slope"
def TX7 : u_T := fun k => match k with
  | 0 => ("ScreeCourt$Slope", "kinds", "[I", true)
  | 1 => ("ScreeCourt$Slope", "weights", "[[I", true)
  | 2 => ("ScreeCourt$Slope", "loads", "[I", true)
  | _ => ("ScreeCourt$Slope", "size", "I", false)
def tyX7 : Nat → FieldType := fun k => match k with
  | 0 => .array .int
  | 1 => .array (.array .int)
  | 2 => .array .int
  | _ => .int
theorem nmX7 : ∀ a, a < 4 → ∀ b, b < 4 → a ≠ b → (TX7 a).2.1 ≠ (TX7 b).2.1 := by decide +kernel
theorem tyX7_ok : ∀ k, k < 4 → parseFieldDescriptor (TX7 k).2.2.1 = some (tyX7 k) := by decide +kernel
abbrev cX7_init : ByteArray := prog_9_method_1_code
def yX7_init : MethodName := ⟨RX7, "<init>", "()V"⟩
abbrev cX7_clear : ByteArray := prog_9_method_2_code
def yX7_clear : MethodName := ⟨RX7, "clear", "()V"⟩
abbrev cX7_has : ByteArray := prog_9_method_3_code
def yX7_has : MethodName := ⟨RX7, "has", "(I)Z"⟩
abbrev cX7_isDitch : ByteArray := prog_9_method_4_code
def yX7_isDitch : MethodName := ⟨RX7, "isDitch", "(I)Z"⟩
abbrev cX7_hasEnd : ByteArray := prog_9_method_5_code
def yX7_hasEnd : MethodName := ⟨RX7, "hasEnd", "(I)Z"⟩
abbrev cX7_endOf : ByteArray := prog_9_method_6_code
def yX7_endOf : MethodName := ⟨RX7, "endOf", "(I)I"⟩
abbrev cX7_addPlace : ByteArray := prog_9_method_7_code
def yX7_addPlace : MethodName := ⟨RX7, "addPlace", "(I)I"⟩
abbrev cX7_addWay : ByteArray := prog_9_method_8_code
def yX7_addWay : MethodName := ⟨RX7, "addWay", "(III)I"⟩
abbrev cX7_weightBetween : ByteArray := prog_9_method_9_code
def yX7_weightBetween : MethodName := ⟨RX7, "weightBetween", "(II)I"⟩
abbrev cX7_isOf : ByteArray := prog_9_method_10_code
def yX7_isOf : MethodName := ⟨RX7, "isOf", "(II)Z"⟩
abbrev cX7_bitsOfAll : ByteArray := prog_9_method_11_code
def yX7_bitsOfAll : MethodName := ⟨RX7, "bitsOfAll", "()I"⟩
abbrev cX7_weightToPlaces : ByteArray := prog_9_method_12_code
def yX7_weightToPlaces : MethodName := ⟨RX7, "weightToPlaces", "(II)I"⟩
abbrev cX7_hasDitch : ByteArray := prog_9_method_13_code
def yX7_hasDitch : MethodName := ⟨RX7, "hasDitch", "(I)Z"⟩
abbrev cX7_bitsOfLost : ByteArray := prog_9_method_14_code
def yX7_bitsOfLost : MethodName := ⟨RX7, "bitsOfLost", "()I"⟩
abbrev cX7_isTwoWay : ByteArray := prog_9_method_15_code
def yX7_isTwoWay : MethodName := ⟨RX7, "isTwoWay", "()Z"⟩
def RX8 : String := "ScreeCourt$Tally"
def TX8 : u_T := fun k => match k with
  | _ => ("ScreeCourt$Tally", "matrix", "[[J", true)
def tyX8 : Nat → FieldType := fun k => match k with
  | _ => .array (.array .long)
theorem nmX8 : ∀ a, a < 1 → ∀ b, b < 1 → a ≠ b → (TX8 a).2.1 ≠ (TX8 b).2.1 := by decide +kernel
theorem tyX8_ok : ∀ k, k < 1 → parseFieldDescriptor (TX8 k).2.2.1 = some (tyX8 k) := by decide +kernel
abbrev cX8_init : ByteArray := prog_10_method_1_code
def yX8_init : MethodName := ⟨RX8, "<init>", "()V"⟩
abbrev cX8_countRows : ByteArray := prog_10_method_2_code
def yX8_countRows : MethodName := ⟨RX8, "countRows", "(LScreeCourt$Slope;I)I"⟩
abbrev cX8_fill : ByteArray := prog_10_method_3_code
def yX8_fill : MethodName := ⟨RX8, "fill", "(LScreeCourt$Slope;I)V"⟩
abbrev cX8_pivotOf : ByteArray := prog_10_method_4_code
def yX8_pivotOf : MethodName := ⟨RX8, "pivotOf", "(II)I"⟩
abbrev cX8_swapRows : ByteArray := prog_10_method_5_code
def yX8_swapRows : MethodName := ⟨RX8, "swapRows", "(III)V"⟩
abbrev cX8_clearBelow : ByteArray := prog_10_method_6_code
def yX8_clearBelow : MethodName := ⟨RX8, "clearBelow", "(III)V"⟩
abbrev cX8_power : ByteArray := prog_10_method_7_code
def yX8_power : MethodName := ⟨RX8, "power", "(JII)J"⟩
def RX9 : String := "ScreeCourt$Terrace"
def TX9 : u_T := fun k => match k with
  | 0 => ("ScreeCourt$Terrace", "numbers", "[J", true)
  | 1 => ("ScreeCourt$Terrace", "bits", "I", false)
  | _ => ("ScreeCourt$Terrace", "length", "I", false)
def tyX9 : Nat → FieldType := fun k => match k with
  | 0 => .array .long
  | 1 => .int
  | _ => .int
theorem nmX9 : ∀ a, a < 3 → ∀ b, b < 3 → a ≠ b → (TX9 a).2.1 ≠ (TX9 b).2.1 := by decide +kernel
theorem tyX9_ok : ∀ k, k < 3 → parseFieldDescriptor (TX9 k).2.2.1 = some (tyX9 k) := by decide +kernel
abbrev cX9_init : ByteArray := prog_11_method_1_code
def yX9_init : MethodName := ⟨RX9, "<init>", "()V"⟩
abbrev cX9_isMissing : ByteArray := prog_11_method_2_code
def yX9_isMissing : MethodName := ⟨RX9, "isMissing", "()Z"⟩
abbrev cX9_build : ByteArray := prog_11_method_3_code
def yX9_build : MethodName := ⟨RX9, "build", "(II)I"⟩
abbrev cX9_store : ByteArray := prog_11_method_4_code
def yX9_store : MethodName := ⟨RX9, "store", "(IJ)J"⟩
def RX10 : String := "ScreeCourt"
def TX10 : u_T := fun k => match k with
  | 0 => ("ScreeCourt", "slope", "LScreeCourt$Slope;", true)
  | 1 => ("ScreeCourt", "heap", "LScreeCourt$Heap;", true)
  | 2 => ("ScreeCourt", "trial", "LScreeCourt$Heap;", true)
  | 3 => ("ScreeCourt", "chooser", "LScreeCourt$Chooser;", true)
  | 4 => ("ScreeCourt", "history", "LScreeCourt$History;", true)
  | 5 => ("ScreeCourt", "latestFire", "LScreeCourt$Fire;", true)
  | 6 => ("ScreeCourt", "roster", "LScreeCourt$Roster;", true)
  | 7 => ("ScreeCourt", "tally", "LScreeCourt$Tally;", true)
  | 8 => ("ScreeCourt", "slots", "[[I", true)
  | 9 => ("ScreeCourt", "slotFilled", "[Z", true)
  | 10 => ("ScreeCourt", "terraces", "[LScreeCourt$Terrace;", true)
  | 11 => ("ScreeCourt", "waiting", "LScreeCourt$Queue;", true)
  | 12 => ("ScreeCourt", "leftOfA", "[I", true)
  | 13 => ("ScreeCourt", "begun", "Z", false)
  | 14 => ("ScreeCourt", "lostBits", "I", false)
  | _ => ("ScreeCourt", "findings", "I", false)
def tyX10 : Nat → FieldType := fun k => match k with
  | 0 => .object "ScreeCourt$Slope"
  | 1 => .object "ScreeCourt$Heap"
  | 2 => .object "ScreeCourt$Heap"
  | 3 => .object "ScreeCourt$Chooser"
  | 4 => .object "ScreeCourt$History"
  | 5 => .object "ScreeCourt$Fire"
  | 6 => .object "ScreeCourt$Roster"
  | 7 => .object "ScreeCourt$Tally"
  | 8 => .array (.array .int)
  | 9 => .array .boolean
  | 10 => .array (.object "ScreeCourt$Terrace")
  | 11 => .object "ScreeCourt$Queue"
  | 12 => .array .int
  | 13 => .boolean
  | 14 => .int
  | _ => .int
theorem nmX10 : ∀ a, a < 16 → ∀ b, b < 16 → a ≠ b → (TX10 a).2.1 ≠ (TX10 b).2.1 := by decide +kernel
theorem tyX10_ok : ∀ k, k < 16 → parseFieldDescriptor (TX10 k).2.2.1 = some (tyX10 k) := by decide +kernel
abbrev cX10_init : ByteArray := prog_1_method_1_code
def yX10_init : MethodName := ⟨RX10, "<init>", "()V"⟩
abbrev cX10_place : ByteArray := prog_1_method_2_code
def yX10_place : MethodName := ⟨RX10, "place", "(I)I"⟩
abbrev cX10_way : ByteArray := prog_1_method_3_code
def yX10_way : MethodName := ⟨RX10, "way", "(III)I"⟩
abbrev cX10_begin : ByteArray := prog_1_method_4_code
def yX10_begin : MethodName := ⟨RX10, "begin", "()I"⟩
abbrev cX10_anew : ByteArray := prog_1_method_5_code
def yX10_anew : MethodName := ⟨RX10, "anew", "()I"⟩
abbrev cX10_as : ByteArray := prog_1_method_6_code
def yX10_as : MethodName := ⟨RX10, "as", "(II)I"⟩
abbrev cX10_weight : ByteArray := prog_1_method_7_code
def yX10_weight : MethodName := ⟨RX10, "weight", "(II)I"⟩
abbrev cX10_lay : ByteArray := prog_1_method_8_code
def yX10_lay : MethodName := ⟨RX10, "lay", "(II)I"⟩
abbrev cX10_grains : ByteArray := prog_1_method_9_code
def yX10_grains : MethodName := ⟨RX10, "grains", "(I)J"⟩
abbrev cX10_due : ByteArray := prog_1_method_10_code
def yX10_due : MethodName := ⟨RX10, "due", "()I"⟩
abbrev cX10_slide : ByteArray := prog_1_method_11_code
def yX10_slide : MethodName := ⟨RX10, "slide", "(I)I"⟩
abbrev cX10_manner : ByteArray := prog_1_method_12_code
def yX10_manner : MethodName := ⟨RX10, "manner", "(II)I"⟩
abbrev cX10_run : ByteArray := prog_1_method_13_code
def yX10_run : MethodName := ⟨RX10, "run", "(I)I"⟩
abbrev cX10_odometer : ByteArray := prog_1_method_14_code
def yX10_odometer : MethodName := ⟨RX10, "odometer", "(I)J"⟩
abbrev cX10_reset : ByteArray := prog_1_method_15_code
def yX10_reset : MethodName := ⟨RX10, "reset", "()I"⟩
abbrev cX10_twoWay : ByteArray := prog_1_method_16_code
def yX10_twoWay : MethodName := ⟨RX10, "twoWay", "()I"⟩
abbrev cX10_burn : ByteArray := prog_1_method_17_code
def yX10_burn : MethodName := ⟨RX10, "burn", "()I"⟩
abbrev cX10_burnt : ByteArray := prog_1_method_18_code
def yX10_burnt : MethodName := ⟨RX10, "burnt", "(I)I"⟩
abbrev cX10_keep : ByteArray := prog_1_method_19_code
def yX10_keep : MethodName := ⟨RX10, "keep", "(I)I"⟩
abbrev cX10_bring : ByteArray := prog_1_method_20_code
def yX10_bring : MethodName := ⟨RX10, "bring", "(I)I"⟩
abbrev cX10_plus : ByteArray := prog_1_method_21_code
def yX10_plus : MethodName := ⟨RX10, "plus", "(III)I"⟩
abbrev cX10_nought : ByteArray := prog_1_method_22_code
def yX10_nought : MethodName := ⟨RX10, "nought", "(I)I"⟩
abbrev cX10_contrary : ByteArray := prog_1_method_23_code
def yX10_contrary : MethodName := ⟨RX10, "contrary", "(II)I"⟩
abbrev cX10_many : ByteArray := prog_1_method_24_code
def yX10_many : MethodName := ⟨RX10, "many", "(I)I"⟩
abbrev cX10_list : ByteArray := prog_1_method_25_code
def yX10_list : MethodName := ⟨RX10, "list", "()I"⟩
abbrev cX10_listed : ByteArray := prog_1_method_26_code
def yX10_listed : MethodName := ⟨RX10, "listed", "(II)I"⟩
abbrev cX10_terrace : ByteArray := prog_1_method_27_code
def yX10_terrace : MethodName := ⟨RX10, "terrace", "(III)I"⟩
abbrev cX10_put : ByteArray := prog_1_method_28_code
def yX10_put : MethodName := ⟨RX10, "put", "(IIJ)J"⟩
abbrev cX10_copy : ByteArray := prog_1_method_29_code
def yX10_copy : MethodName := ⟨RX10, "copy", "(IIIII)I"⟩
abbrev cX10_spread : ByteArray := prog_1_method_30_code
def yX10_spread : MethodName := ⟨RX10, "spread", "(IIII)I"⟩
abbrev cX10_tell : ByteArray := prog_1_method_31_code
def yX10_tell : MethodName := ⟨RX10, "tell", "(I)I"⟩
abbrev cX10_enough : ByteArray := prog_1_method_32_code
def yX10_enough : MethodName := ⟨RX10, "enough", "()I"⟩
abbrev cX10_check : ByteArray := prog_1_method_33_code
def yX10_check : MethodName := ⟨RX10, "check", "()I"⟩
abbrev cX10_undo : ByteArray := prog_1_method_34_code
def yX10_undo : MethodName := ⟨RX10, "undo", "()I"⟩
abbrev cX10_told : ByteArray := prog_1_method_35_code
def yX10_told : MethodName := ⟨RX10, "told", "(I)I"⟩
abbrev cX10_found : ByteArray := prog_1_method_36_code
def yX10_found : MethodName := ⟨RX10, "found", "(I)I"⟩
abbrev cX10_foundByPut : ByteArray := prog_1_method_37_code
def yX10_foundByPut : MethodName := ⟨RX10, "foundByPut", "(I)J"⟩
abbrev cX10_fillSlot : ByteArray := prog_1_method_38_code
def yX10_fillSlot : MethodName := ⟨RX10, "fillSlot", "(ILScreeCourt$Heap;)I"⟩
abbrev cX10_settleInto : ByteArray := prog_1_method_39_code
def yX10_settleInto : MethodName := ⟨RX10, "settleInto", "(I)I"⟩
abbrev cX10_findLeftOfA : ByteArray := prog_1_method_40_code
def yX10_findLeftOfA : MethodName := ⟨RX10, "findLeftOfA", "()Z"⟩
abbrev cX10_weighCounts : ByteArray := prog_1_method_41_code
def yX10_weighCounts : MethodName := ⟨RX10, "weighCounts", "()I"⟩
abbrev cX10_grainsAfterCounts : ByteArray := prog_1_method_42_code
def yX10_grainsAfterCounts : MethodName := ⟨RX10, "grainsAfterCounts", "(I)J"⟩
abbrev cX10_followPairs : ByteArray := prog_1_method_43_code
def yX10_followPairs : MethodName := ⟨RX10, "followPairs", "()I"⟩
abbrev cX10_isSlot : ByteArray := prog_1_method_44_code
def yX10_isSlot : MethodName := ⟨RX10, "isSlot", "(I)Z"⟩
abbrev cX10_isTerrace : ByteArray := prog_1_method_45_code
def yX10_isTerrace : MethodName := ⟨RX10, "isTerrace", "(I)Z"⟩
abbrev cX10_isWidth : ByteArray := prog_1_method_46_code
def yX10_isWidth : MethodName := ⟨RX10, "isWidth", "(I)Z"⟩
abbrev cX10_isStretch : ByteArray := prog_1_method_47_code
def yX10_isStretch : MethodName := ⟨RX10, "isStretch", "(III)Z"⟩
abbrev cX10_hasDebt : ByteArray := prog_1_method_48_code
def yX10_hasDebt : MethodName := ⟨RX10, "hasDebt", "([JII)Z"⟩
abbrev cX10_isPrimeInRange : ByteArray := prog_1_method_49_code
def yX10_isPrimeInRange : MethodName := ⟨RX10, "isPrimeInRange", "(I)Z"⟩
def RX11 : String := "ScreeCourtModel"
def TX11 : u_T := fun k => match k with
  | 0 => ("ScreeCourtModel", "places", "I", false)
  | 1 => ("ScreeCourtModel", "kinds", "[I", true)
  | 2 => ("ScreeCourtModel", "weights", "[I", true)
  | 3 => ("ScreeCourtModel", "begun", "Z", false)
  | 4 => ("ScreeCourtModel", "grains", "[J", true)
  | 5 => ("ScreeCourtModel", "odometer", "[J", true)
  | 6 => ("ScreeCourtModel", "manner", "I", false)
  | 7 => ("ScreeCourtModel", "lostBits", "I", false)
  | 8 => ("ScreeCourtModel", "seed", "J", false)
  | 9 => ("ScreeCourtModel", "order", "[I", true)
  | 10 => ("ScreeCourtModel", "asked", "[I", true)
  | 11 => ("ScreeCourtModel", "askedMany", "I", false)
  | 12 => ("ScreeCourtModel", "burntRow", "[I", true)
  | 13 => ("ScreeCourtModel", "burntMany", "I", false)
  | 14 => ("ScreeCourtModel", "unburnt", "I", false)
  | 15 => ("ScreeCourtModel", "slots", "[J", true)
  | 16 => ("ScreeCourtModel", "isKept", "[Z", true)
  | 17 => ("ScreeCourtModel", "list", "[I", true)
  | 18 => ("ScreeCourtModel", "listedMany", "I", false)
  | 19 => ("ScreeCourtModel", "bits", "[I", true)
  | 20 => ("ScreeCourtModel", "sizes", "[I", true)
  | 21 => ("ScreeCourtModel", "terraces", "[J", true)
  | 22 => ("ScreeCourtModel", "waits", "[I", true)
  | 23 => ("ScreeCourtModel", "waiting", "I", false)
  | 24 => ("ScreeCourtModel", "findings", "I", false)
  | 25 => ("ScreeCourtModel", "thenGrains", "[J", true)
  | 26 => ("ScreeCourtModel", "thenOdometer", "[J", true)
  | 27 => ("ScreeCourtModel", "thenSeed", "[J", true)
  | 28 => ("ScreeCourtModel", "thenAsked", "[I", true)
  | 29 => ("ScreeCourtModel", "thenAskedMany", "[I", true)
  | 30 => ("ScreeCourtModel", "kept", "I", false)
  | 31 => ("ScreeCourtModel", "burning", "[I", true)
  | 32 => ("ScreeCourtModel", "work", "[J", true)
  | 33 => ("ScreeCourtModel", "first", "[J", true)
  | 34 => ("ScreeCourtModel", "table", "[J", true)
  | 35 => ("ScreeCourtModel", "found0", "[I", true)
  | _ => ("ScreeCourtModel", "carried", "[J", true)
def tyX11 : Nat → FieldType := fun k => match k with
  | 0 => .int
  | 1 => .array .int
  | 2 => .array .int
  | 3 => .boolean
  | 4 => .array .long
  | 5 => .array .long
  | 6 => .int
  | 7 => .int
  | 8 => .long
  | 9 => .array .int
  | 10 => .array .int
  | 11 => .int
  | 12 => .array .int
  | 13 => .int
  | 14 => .int
  | 15 => .array .long
  | 16 => .array .boolean
  | 17 => .array .int
  | 18 => .int
  | 19 => .array .int
  | 20 => .array .int
  | 21 => .array .long
  | 22 => .array .int
  | 23 => .int
  | 24 => .int
  | 25 => .array .long
  | 26 => .array .long
  | 27 => .array .long
  | 28 => .array .int
  | 29 => .array .int
  | 30 => .int
  | 31 => .array .int
  | 32 => .array .long
  | 33 => .array .long
  | 34 => .array .long
  | 35 => .array .int
  | _ => .array .long
theorem nmX11 : ∀ a, a < 37 → ∀ b, b < 37 → a ≠ b → (TX11 a).2.1 ≠ (TX11 b).2.1 := by decide +kernel
theorem tyX11_ok : ∀ k, k < 37 → parseFieldDescriptor (TX11 k).2.2.1 = some (tyX11 k) := by decide +kernel
abbrev cX11_init : ByteArray := prog_13_method_1_code
def yX11_init : MethodName := ⟨RX11, "<init>", "()V"⟩
abbrev cX11_in : ByteArray := prog_13_method_3_code
def yX11_in : MethodName := ⟨RX11, "in", "(III)Z"⟩
abbrev cX11_found : ByteArray := prog_13_method_4_code
def yX11_found : MethodName := ⟨RX11, "found", "(I)I"⟩
abbrev cX11_isPlace : ByteArray := prog_13_method_5_code
def yX11_isPlace : MethodName := ⟨RX11, "isPlace", "(I)Z"⟩
abbrev cX11_weightOf : ByteArray := prog_13_method_6_code
def yX11_weightOf : MethodName := ⟨RX11, "weightOf", "(II)I"⟩
abbrev cX11_load : ByteArray := prog_13_method_7_code
def yX11_load : MethodName := ⟨RX11, "load", "(I)I"⟩
abbrev cX11_isShelf : ByteArray := prog_13_method_8_code
def yX11_isShelf : MethodName := ⟨RX11, "isShelf", "(I)Z"⟩
abbrev cX11_isDue : ByteArray := prog_13_method_9_code
def yX11_isDue : MethodName := ⟨RX11, "isDue", "(JI)Z"⟩
abbrev cX11_dueMany : ByteArray := prog_13_method_10_code
def yX11_dueMany : MethodName := ⟨RX11, "dueMany", "()I"⟩
abbrev cX11_place : ByteArray := prog_13_method_11_code
def yX11_place : MethodName := ⟨RX11, "place", "(I)I"⟩
abbrev cX11_way : ByteArray := prog_13_method_12_code
def yX11_way : MethodName := ⟨RX11, "way", "(III)I"⟩
abbrev cX11_begin : ByteArray := prog_13_method_13_code
def yX11_begin : MethodName := ⟨RX11, "begin", "()I"⟩
abbrev cX11_anew : ByteArray := prog_13_method_14_code
def yX11_anew : MethodName := ⟨RX11, "anew", "()I"⟩
abbrev cX11_as : ByteArray := prog_13_method_15_code
def yX11_as : MethodName := ⟨RX11, "as", "(II)I"⟩
abbrev cX11_weight : ByteArray := prog_13_method_16_code
def yX11_weight : MethodName := ⟨RX11, "weight", "(II)I"⟩
abbrev cX11_store : ByteArray := prog_13_method_17_code
def yX11_store : MethodName := ⟨RX11, "store", "()V"⟩
abbrev cX11_undo : ByteArray := prog_13_method_18_code
def yX11_undo : MethodName := ⟨RX11, "undo", "()I"⟩
abbrev cX11_lay : ByteArray := prog_13_method_19_code
def yX11_lay : MethodName := ⟨RX11, "lay", "(II)I"⟩
abbrev cX11_grains : ByteArray := prog_13_method_20_code
def yX11_grains : MethodName := ⟨RX11, "grains", "(I)J"⟩
abbrev cX11_due : ByteArray := prog_13_method_21_code
def yX11_due : MethodName := ⟨RX11, "due", "()I"⟩
abbrev cX11_times : ByteArray := prog_13_method_22_code
def yX11_times : MethodName := ⟨RX11, "times", "([JI)J"⟩
abbrev cX11_isTooMuch : ByteArray := prog_13_method_23_code
def yX11_isTooMuch : MethodName := ⟨RX11, "isTooMuch", "([JI)Z"⟩
abbrev cX11_slides : ByteArray := prog_13_method_24_code
def yX11_slides : MethodName := ⟨RX11, "slides", "([JI)J"⟩
abbrev cX11_slide : ByteArray := prog_13_method_25_code
def yX11_slide : MethodName := ⟨RX11, "slide", "(I)I"⟩
abbrev cX11_manner : ByteArray := prog_13_method_26_code
def yX11_manner : MethodName := ⟨RX11, "manner", "(II)I"⟩
abbrev cX11_isAsked : ByteArray := prog_13_method_27_code
def yX11_isAsked : MethodName := ⟨RX11, "isAsked", "(I)Z"⟩
abbrev cX11_next : ByteArray := prog_13_method_28_code
def yX11_next : MethodName := ⟨RX11, "next", "()I"⟩
abbrev cX11_asks : ByteArray := prog_13_method_29_code
def yX11_asks : MethodName := ⟨RX11, "asks", "(I)V"⟩
abbrev cX11_run : ByteArray := prog_13_method_30_code
def yX11_run : MethodName := ⟨RX11, "run", "(I)I"⟩
abbrev cX11_odometer : ByteArray := prog_13_method_31_code
def yX11_odometer : MethodName := ⟨RX11, "odometer", "(I)J"⟩
abbrev cX11_reset : ByteArray := prog_13_method_32_code
def yX11_reset : MethodName := ⟨RX11, "reset", "()I"⟩
abbrev cX11_isTwoWay : ByteArray := prog_13_method_33_code
def yX11_isTwoWay : MethodName := ⟨RX11, "isTwoWay", "()Z"⟩
abbrev cX11_twoWay : ByteArray := prog_13_method_34_code
def yX11_twoWay : MethodName := ⟨RX11, "twoWay", "()I"⟩
abbrev cX11_burns : ByteArray := prog_13_method_35_code
def yX11_burns : MethodName := ⟨RX11, "burns", "([J)I"⟩
abbrev cX11_burn : ByteArray := prog_13_method_36_code
def yX11_burn : MethodName := ⟨RX11, "burn", "()I"⟩
abbrev cX11_burnt : ByteArray := prog_13_method_37_code
def yX11_burnt : MethodName := ⟨RX11, "burnt", "(I)I"⟩
abbrev cX11_isSlot : ByteArray := prog_13_method_38_code
def yX11_isSlot : MethodName := ⟨RX11, "isSlot", "(I)Z"⟩
abbrev cX11_stored : ByteArray := prog_13_method_39_code
def yX11_stored : MethodName := ⟨RX11, "stored", "(I[J)I"⟩
abbrev cX11_keep : ByteArray := prog_13_method_40_code
def yX11_keep : MethodName := ⟨RX11, "keep", "(I)I"⟩
abbrev cX11_bring : ByteArray := prog_13_method_41_code
def yX11_bring : MethodName := ⟨RX11, "bring", "(I)I"⟩
abbrev cX11_settles : ByteArray := prog_13_method_42_code
def yX11_settles : MethodName := ⟨RX11, "settles", "()Z"⟩
abbrev cX11_plus : ByteArray := prog_13_method_43_code
def yX11_plus : MethodName := ⟨RX11, "plus", "(III)I"⟩
abbrev cX11_greatest : ByteArray := prog_13_method_44_code
def yX11_greatest : MethodName := ⟨RX11, "greatest", "()V"⟩
abbrev cX11_nought : ByteArray := prog_13_method_45_code
def yX11_nought : MethodName := ⟨RX11, "nought", "(I)I"⟩
abbrev cX11_contrary : ByteArray := prog_13_method_46_code
def yX11_contrary : MethodName := ⟨RX11, "contrary", "(II)I"⟩
abbrev cX11_isPrime : ByteArray := prog_13_method_47_code
def yX11_isPrime : MethodName := ⟨RX11, "isPrime", "(I)Z"⟩
abbrev cX11_many : ByteArray := prog_13_method_48_code
def yX11_many : MethodName := ⟨RX11, "many", "(I)I"⟩
abbrev cX11_list : ByteArray := prog_13_method_49_code
def yX11_list : MethodName := ⟨RX11, "list", "()I"⟩
abbrev cX11_listed : ByteArray := prog_13_method_50_code
def yX11_listed : MethodName := ⟨RX11, "listed", "(II)I"⟩
abbrev cX11_isTerrace : ByteArray := prog_13_method_51_code
def yX11_isTerrace : MethodName := ⟨RX11, "isTerrace", "(I)Z"⟩
abbrev cX11_terrace : ByteArray := prog_13_method_52_code
def yX11_terrace : MethodName := ⟨RX11, "terrace", "(III)I"⟩
abbrev cX11_put : ByteArray := prog_13_method_53_code
def yX11_put : MethodName := ⟨RX11, "put", "(IIJ)J"⟩
abbrev cX11_copy : ByteArray := prog_13_method_54_code
def yX11_copy : MethodName := ⟨RX11, "copy", "(IIIII)I"⟩
abbrev cX11_spread : ByteArray := prog_13_method_55_code
def yX11_spread : MethodName := ⟨RX11, "spread", "(IIII)I"⟩
abbrev cX11_tell : ByteArray := prog_13_method_56_code
def yX11_tell : MethodName := ⟨RX11, "tell", "(I)I"⟩
abbrev cX11_enough : ByteArray := prog_13_method_57_code
def yX11_enough : MethodName := ⟨RX11, "enough", "()I"⟩
abbrev cX11_check : ByteArray := prog_13_method_58_code
def yX11_check : MethodName := ⟨RX11, "check", "()I"⟩
abbrev cX11_told : ByteArray := prog_13_method_59_code
def yX11_told : MethodName := ⟨RX11, "told", "(I)I"⟩
def RL : String := "ScreeCourtLaw"
abbrev cL_law : ByteArray := code
def yL_law : MethodName := ⟨RL, "law", "([I)Z"⟩
abbrev vwCl : List vw_C := [(RX0, TX0, 7), (RX1, TX1, 3), (RX2, TX2, 4), (RX3, TX3, 3), (RX4, TX4, 6), (RX5, TX5, 2), (RX6, TX6, 4), (RX7, TX7, 4), (RX8, TX8, 1), (RX9, TX9, 3), (RX10, TX10, 16), (RX11, TX11, 37)]
end
section
theorem dX0_init_0 : decode cX0_init 0 = .ok (.aload_n 0, 1) := by decide +kernel
theorem dX0_init_1 : decode cX0_init 1 = .ok (.invokespecial 3, 3) := by decide +kernel
theorem dX0_init_4 : decode cX0_init 4 = .ok (.aload_n 0, 1) := by decide +kernel
theorem dX0_init_5 : decode cX0_init 5 = .ok (.bipush 12, 2) := by decide +kernel
theorem dX0_init_7 : decode cX0_init 7 = .ok (.newarray .int, 2) := by decide +kernel
theorem dX0_init_9 : decode cX0_init 9 = .ok (.putfield 9, 3) := by decide +kernel
theorem dX0_init_12 : decode cX0_init 12 = .ok (.aload_n 0, 1) := by decide +kernel
theorem dX0_init_13 : decode cX0_init 13 = .ok (.bipush 12, 2) := by decide +kernel
theorem dX0_init_15 : decode cX0_init 15 = .ok (.newarray .int, 2) := by decide +kernel
theorem dX0_init_17 : decode cX0_init 17 = .ok (.putfield 15, 3) := by decide +kernel
theorem dX0_init_20 : decode cX0_init 20 = .ok (.aload_n 0, 1) := by decide +kernel
theorem dX0_init_21 : decode cX0_init 21 = .ok (.iconst 0, 1) := by decide +kernel
theorem dX0_init_22 : decode cX0_init 22 = .ok (.putfield 18, 3) := by decide +kernel
theorem dX0_init_25 : decode cX0_init 25 = .ok (.aload_n 0, 1) := by decide +kernel
theorem dX0_init_26 : decode cX0_init 26 = .ok (.lconst 1, 1) := by decide +kernel
theorem dX0_init_27 : decode cX0_init 27 = .ok (.putfield 22, 3) := by decide +kernel
theorem dX0_init_30 : decode cX0_init 30 = .ok (.aload_n 0, 1) := by decide +kernel
theorem dX0_init_31 : decode cX0_init 31 = .ok (.aload_n 1, 1) := by decide +kernel
theorem dX0_init_32 : decode cX0_init 32 = .ok (.putfield 26, 3) := by decide +kernel
theorem dX0_init_35 : decode cX0_init 35 = .ok (.aload_n 0, 1) := by decide +kernel
theorem dX0_init_36 : decode cX0_init 36 = .ok (.aload_n 2, 1) := by decide +kernel
theorem dX0_init_37 : decode cX0_init 37 = .ok (.putfield 30, 3) := by decide +kernel
theorem dX0_init_40 : decode cX0_init 40 = .ok (.return_, 1) := by decide +kernel
theorem dX0_clear_0 : decode cX0_clear 0 = .ok (.aload_n 0, 1) := by decide +kernel
theorem dX0_clear_1 : decode cX0_clear 1 = .ok (.iconst 0, 1) := by decide +kernel
theorem dX0_clear_2 : decode cX0_clear 2 = .ok (.putfield 34, 3) := by decide +kernel
theorem dX0_clear_5 : decode cX0_clear 5 = .ok (.aload_n 0, 1) := by decide +kernel
theorem dX0_clear_6 : decode cX0_clear 6 = .ok (.iconst 0, 1) := by decide +kernel
theorem dX0_clear_7 : decode cX0_clear 7 = .ok (.putfield 18, 3) := by decide +kernel
theorem dX0_clear_10 : decode cX0_clear 10 = .ok (.aload_n 0, 1) := by decide +kernel
theorem dX0_clear_11 : decode cX0_clear 11 = .ok (.lconst 1, 1) := by decide +kernel
theorem dX0_clear_12 : decode cX0_clear 12 = .ok (.putfield 22, 3) := by decide +kernel
theorem dX0_clear_15 : decode cX0_clear 15 = .ok (.return_, 1) := by decide +kernel
theorem dX0_takeOrder_0 : decode cX0_takeOrder 0 = .ok (.aload_n 1, 1) := by decide +kernel
theorem dX0_takeOrder_1 : decode cX0_takeOrder 1 = .ok (.getfield 37, 3) := by decide +kernel
theorem dX0_takeOrder_4 : decode cX0_takeOrder 4 = .ok (.iconst 0, 1) := by decide +kernel
theorem dX0_takeOrder_5 : decode cX0_takeOrder 5 = .ok (.aload_n 0, 1) := by decide +kernel
theorem dX0_takeOrder_6 : decode cX0_takeOrder 6 = .ok (.getfield 9, 3) := by decide +kernel
theorem dX0_takeOrder_9 : decode cX0_takeOrder 9 = .ok (.iconst 0, 1) := by decide +kernel
theorem dX0_takeOrder_10 : decode cX0_takeOrder 10 = .ok (.bipush 12, 2) := by decide +kernel
theorem dX0_takeOrder_12 : decode cX0_takeOrder 12 = .ok (.invokestatic 42, 3) := by decide +kernel
theorem dX0_takeOrder_15 : decode cX0_takeOrder 15 = .ok (.return_, 1) := by decide +kernel
theorem dX0_chooseNext_0 : decode cX0_chooseNext 0 = .ok (.aload_n 0, 1) := by decide +kernel
theorem dX0_chooseNext_1 : decode cX0_chooseNext 1 = .ok (.getfield 30, 3) := by decide +kernel
theorem dX0_chooseNext_4 : decode cX0_chooseNext 4 = .ok (.invokevirtual 48, 3) := by decide +kernel
theorem dX0_chooseNext_7 : decode cX0_chooseNext 7 = .ok (.istore_n 1, 1) := by decide +kernel
theorem dX0_chooseNext_8 : decode cX0_chooseNext 8 = .ok (.iload_n 1, 1) := by decide +kernel
theorem dX0_chooseNext_9 : decode cX0_chooseNext 9 = .ok (.ifCond .ne 5, 3) := by decide +kernel
theorem dX0_chooseNext_12 : decode cX0_chooseNext 12 = .ok (.iconst (-1), 1) := by decide +kernel
theorem dX0_chooseNext_13 : decode cX0_chooseNext 13 = .ok (.ireturn, 1) := by decide +kernel
theorem dX0_chooseNext_14 : decode cX0_chooseNext 14 = .ok (.aload_n 0, 1) := by decide +kernel
theorem dX0_chooseNext_15 : decode cX0_chooseNext 15 = .ok (.getfield 18, 3) := by decide +kernel
theorem dX0_chooseNext_18 : decode cX0_chooseNext 18 = .ok (.tableswitch 54 1 4 #[30, 38, 43, 49], 30) := by decide +kernel
theorem dX0_chooseNext_48 : decode cX0_chooseNext 48 = .ok (.aload_n 0, 1) := by decide +kernel
theorem dX0_chooseNext_49 : decode cX0_chooseNext 49 = .ok (.getfield 30, 3) := by decide +kernel
theorem dX0_chooseNext_52 : decode cX0_chooseNext 52 = .ok (.invokevirtual 54, 3) := by decide +kernel
theorem dX0_chooseNext_55 : decode cX0_chooseNext 55 = .ok (.ireturn, 1) := by decide +kernel
theorem dX0_chooseNext_56 : decode cX0_chooseNext 56 = .ok (.aload_n 0, 1) := by decide +kernel
theorem dX0_chooseNext_57 : decode cX0_chooseNext 57 = .ok (.invokevirtual 57, 3) := by decide +kernel
theorem dX0_chooseNext_60 : decode cX0_chooseNext 60 = .ok (.ireturn, 1) := by decide +kernel
theorem dX0_chooseNext_61 : decode cX0_chooseNext 61 = .ok (.aload_n 0, 1) := by decide +kernel
theorem dX0_chooseNext_62 : decode cX0_chooseNext 62 = .ok (.iload_n 1, 1) := by decide +kernel
theorem dX0_chooseNext_63 : decode cX0_chooseNext 63 = .ok (.invokevirtual 60, 3) := by decide +kernel
theorem dX0_chooseNext_66 : decode cX0_chooseNext 66 = .ok (.ireturn, 1) := by decide +kernel
theorem dX0_chooseNext_67 : decode cX0_chooseNext 67 = .ok (.aload_n 0, 1) := by decide +kernel
theorem dX0_chooseNext_68 : decode cX0_chooseNext 68 = .ok (.invokevirtual 64, 3) := by decide +kernel
theorem dX0_chooseNext_71 : decode cX0_chooseNext 71 = .ok (.ireturn, 1) := by decide +kernel
theorem dX0_chooseNext_72 : decode cX0_chooseNext 72 = .ok (.aload_n 0, 1) := by decide +kernel
theorem dX0_chooseNext_73 : decode cX0_chooseNext 73 = .ok (.getfield 30, 3) := by decide +kernel
theorem dX0_chooseNext_76 : decode cX0_chooseNext 76 = .ok (.invokevirtual 67, 3) := by decide +kernel
theorem dX0_chooseNext_79 : decode cX0_chooseNext 79 = .ok (.ireturn, 1) := by decide +kernel
theorem dX0_firstInOrder_0 : decode cX0_firstInOrder 0 = .ok (.iconst 0, 1) := by decide +kernel
theorem dX0_firstInOrder_1 : decode cX0_firstInOrder 1 = .ok (.istore_n 1, 1) := by decide +kernel
theorem dX0_firstInOrder_2 : decode cX0_firstInOrder 2 = .ok (.iload_n 1, 1) := by decide +kernel
theorem dX0_firstInOrder_3 : decode cX0_firstInOrder 3 = .ok (.aload_n 0, 1) := by decide +kernel
theorem dX0_firstInOrder_4 : decode cX0_firstInOrder 4 = .ok (.getfield 26, 3) := by decide +kernel
theorem dX0_firstInOrder_7 : decode cX0_firstInOrder 7 = .ok (.getfield 70, 3) := by decide +kernel
theorem dX0_firstInOrder_10 : decode cX0_firstInOrder 10 = .ok (.if_icmp .ge 32, 3) := by decide +kernel
theorem dX0_firstInOrder_13 : decode cX0_firstInOrder 13 = .ok (.aload_n 0, 1) := by decide +kernel
theorem dX0_firstInOrder_14 : decode cX0_firstInOrder 14 = .ok (.getfield 30, 3) := by decide +kernel
theorem dX0_firstInOrder_17 : decode cX0_firstInOrder 17 = .ok (.aload_n 0, 1) := by decide +kernel
theorem dX0_firstInOrder_18 : decode cX0_firstInOrder 18 = .ok (.getfield 9, 3) := by decide +kernel
theorem dX0_firstInOrder_21 : decode cX0_firstInOrder 21 = .ok (.iload_n 1, 1) := by decide +kernel
theorem dX0_firstInOrder_22 : decode cX0_firstInOrder 22 = .ok (.iaload, 1) := by decide +kernel
theorem dX0_firstInOrder_23 : decode cX0_firstInOrder 23 = .ok (.invokevirtual 75, 3) := by decide +kernel
theorem dX0_firstInOrder_26 : decode cX0_firstInOrder 26 = .ok (.ifCond .eq 10, 3) := by decide +kernel
theorem dX0_firstInOrder_29 : decode cX0_firstInOrder 29 = .ok (.aload_n 0, 1) := by decide +kernel
theorem dX0_firstInOrder_30 : decode cX0_firstInOrder 30 = .ok (.getfield 9, 3) := by decide +kernel
theorem dX0_firstInOrder_33 : decode cX0_firstInOrder 33 = .ok (.iload_n 1, 1) := by decide +kernel
theorem dX0_firstInOrder_34 : decode cX0_firstInOrder 34 = .ok (.iaload, 1) := by decide +kernel
theorem dX0_firstInOrder_35 : decode cX0_firstInOrder 35 = .ok (.ireturn, 1) := by decide +kernel
theorem dX0_firstInOrder_36 : decode cX0_firstInOrder 36 = .ok (.iinc 1 1, 3) := by decide +kernel
theorem dX0_firstInOrder_39 : decode cX0_firstInOrder 39 = .ok (.goto (-37), 3) := by decide +kernel
theorem dX0_firstInOrder_42 : decode cX0_firstInOrder 42 = .ok (.iconst (-1), 1) := by decide +kernel
theorem dX0_firstInOrder_43 : decode cX0_firstInOrder 43 = .ok (.ireturn, 1) := by decide +kernel
theorem dX0_drawLot_0 : decode cX0_drawLot 0 = .ok (.aload_n 0, 1) := by decide +kernel
theorem dX0_drawLot_1 : decode cX0_drawLot 1 = .ok (.aload_n 0, 1) := by decide +kernel
theorem dX0_drawLot_2 : decode cX0_drawLot 2 = .ok (.getfield 22, 3) := by decide +kernel
theorem dX0_drawLot_5 : decode cX0_drawLot 5 = .ok (.ldc2_w 79, 3) := by decide +kernel
theorem dX0_drawLot_8 : decode cX0_drawLot 8 = .ok (.lmul, 1) := by decide +kernel
theorem dX0_drawLot_9 : decode cX0_drawLot 9 = .ok (.ldc2_w 81, 3) := by decide +kernel
theorem dX0_drawLot_12 : decode cX0_drawLot 12 = .ok (.ladd, 1) := by decide +kernel
theorem dX0_drawLot_13 : decode cX0_drawLot 13 = .ok (.ldc2_w 83, 3) := by decide +kernel
theorem dX0_drawLot_16 : decode cX0_drawLot 16 = .ok (.lrem, 1) := by decide +kernel
theorem dX0_drawLot_17 : decode cX0_drawLot 17 = .ok (.putfield 22, 3) := by decide +kernel
theorem dX0_drawLot_20 : decode cX0_drawLot 20 = .ok (.iload_n 1, 1) := by decide +kernel
theorem dX0_drawLot_21 : decode cX0_drawLot 21 = .ok (.ifCond .le 17, 3) := by decide +kernel
theorem dX0_drawLot_24 : decode cX0_drawLot 24 = .ok (.aload_n 0, 1) := by decide +kernel
theorem dX0_drawLot_25 : decode cX0_drawLot 25 = .ok (.getfield 22, 3) := by decide +kernel
theorem dX0_drawLot_28 : decode cX0_drawLot 28 = .ok (.ldc2_w 85, 3) := by decide +kernel
theorem dX0_drawLot_31 : decode cX0_drawLot 31 = .ok (.ldiv, 1) := by decide +kernel
theorem dX0_drawLot_32 : decode cX0_drawLot 32 = .ok (.iload_n 1, 1) := by decide +kernel
theorem dX0_drawLot_33 : decode cX0_drawLot 33 = .ok (.i2l, 1) := by decide +kernel
theorem dX0_drawLot_34 : decode cX0_drawLot 34 = .ok (.lrem, 1) := by decide +kernel
theorem dX0_drawLot_35 : decode cX0_drawLot 35 = .ok (.goto 4, 3) := by decide +kernel
theorem dX0_drawLot_38 : decode cX0_drawLot 38 = .ok (.lconst 0, 1) := by decide +kernel
theorem dX0_drawLot_39 : decode cX0_drawLot 39 = .ok (.lstore_n 2, 1) := by decide +kernel
theorem dX0_drawLot_40 : decode cX0_drawLot 40 = .ok (.iconst 0, 1) := by decide +kernel
theorem dX0_drawLot_41 : decode cX0_drawLot 41 = .ok (.istore 4, 2) := by decide +kernel
theorem dX0_drawLot_43 : decode cX0_drawLot 43 = .ok (.iload 4, 2) := by decide +kernel
theorem dX0_drawLot_45 : decode cX0_drawLot 45 = .ok (.aload_n 0, 1) := by decide +kernel
theorem dX0_drawLot_46 : decode cX0_drawLot 46 = .ok (.getfield 26, 3) := by decide +kernel
theorem dX0_drawLot_49 : decode cX0_drawLot 49 = .ok (.getfield 70, 3) := by decide +kernel
theorem dX0_drawLot_52 : decode cX0_drawLot 52 = .ok (.if_icmp .ge 34, 3) := by decide +kernel
theorem dX0_drawLot_55 : decode cX0_drawLot 55 = .ok (.aload_n 0, 1) := by decide +kernel
theorem dX0_drawLot_56 : decode cX0_drawLot 56 = .ok (.getfield 30, 3) := by decide +kernel
theorem dX0_drawLot_59 : decode cX0_drawLot 59 = .ok (.iload 4, 2) := by decide +kernel
theorem dX0_drawLot_61 : decode cX0_drawLot 61 = .ok (.invokevirtual 75, 3) := by decide +kernel
theorem dX0_drawLot_64 : decode cX0_drawLot 64 = .ok (.ifCond .eq 16, 3) := by decide +kernel
theorem dX0_drawLot_67 : decode cX0_drawLot 67 = .ok (.lload_n 2, 1) := by decide +kernel
theorem dX0_drawLot_68 : decode cX0_drawLot 68 = .ok (.lconst 0, 1) := by decide +kernel
theorem dX0_drawLot_69 : decode cX0_drawLot 69 = .ok (.lcmp, 1) := by decide +kernel
theorem dX0_drawLot_70 : decode cX0_drawLot 70 = .ok (.ifCond .ne 6, 3) := by decide +kernel
theorem dX0_drawLot_73 : decode cX0_drawLot 73 = .ok (.iload 4, 2) := by decide +kernel
theorem dX0_drawLot_75 : decode cX0_drawLot 75 = .ok (.ireturn, 1) := by decide +kernel
theorem dX0_drawLot_76 : decode cX0_drawLot 76 = .ok (.lload_n 2, 1) := by decide +kernel
theorem dX0_drawLot_77 : decode cX0_drawLot 77 = .ok (.lconst 1, 1) := by decide +kernel
theorem dX0_drawLot_78 : decode cX0_drawLot 78 = .ok (.lsub, 1) := by decide +kernel
theorem dX0_drawLot_79 : decode cX0_drawLot 79 = .ok (.lstore_n 2, 1) := by decide +kernel
theorem dX0_drawLot_80 : decode cX0_drawLot 80 = .ok (.iinc 4 1, 3) := by decide +kernel
theorem dX0_drawLot_83 : decode cX0_drawLot 83 = .ok (.goto (-40), 3) := by decide +kernel
theorem dX0_drawLot_86 : decode cX0_drawLot 86 = .ok (.iconst (-1), 1) := by decide +kernel
theorem dX0_drawLot_87 : decode cX0_drawLot 87 = .ok (.ireturn, 1) := by decide +kernel
theorem dX0_askOn_0 : decode cX0_askOn 0 = .ok (.iconst 0, 1) := by decide +kernel
theorem dX0_askOn_1 : decode cX0_askOn 1 = .ok (.istore_n 1, 1) := by decide +kernel
theorem dX0_askOn_2 : decode cX0_askOn 2 = .ok (.iload_n 1, 1) := by decide +kernel
theorem dX0_askOn_3 : decode cX0_askOn 3 = .ok (.bipush 24, 2) := by decide +kernel
theorem dX0_askOn_5 : decode cX0_askOn 5 = .ok (.if_icmp .ge 38, 3) := by decide +kernel
theorem dX0_askOn_8 : decode cX0_askOn 8 = .ok (.aload_n 0, 1) := by decide +kernel
theorem dX0_askOn_9 : decode cX0_askOn 9 = .ok (.getfield 34, 3) := by decide +kernel
theorem dX0_askOn_12 : decode cX0_askOn 12 = .ok (.ifCond .ne 7, 3) := by decide +kernel
theorem dX0_askOn_15 : decode cX0_askOn 15 = .ok (.aload_n 0, 1) := by decide +kernel
theorem dX0_askOn_16 : decode cX0_askOn 16 = .ok (.invokevirtual 87, 3) := by decide +kernel
theorem dX0_askOn_19 : decode cX0_askOn 19 = .ok (.aload_n 0, 1) := by decide +kernel
theorem dX0_askOn_20 : decode cX0_askOn 20 = .ok (.invokevirtual 90, 3) := by decide +kernel
theorem dX0_askOn_23 : decode cX0_askOn 23 = .ok (.istore_n 2, 1) := by decide +kernel
theorem dX0_askOn_24 : decode cX0_askOn 24 = .ok (.aload_n 0, 1) := by decide +kernel
theorem dX0_askOn_25 : decode cX0_askOn 25 = .ok (.getfield 30, 3) := by decide +kernel
theorem dX0_askOn_28 : decode cX0_askOn 28 = .ok (.iload_n 2, 1) := by decide +kernel
theorem dX0_askOn_29 : decode cX0_askOn 29 = .ok (.invokevirtual 75, 3) := by decide +kernel
theorem dX0_askOn_32 : decode cX0_askOn 32 = .ok (.ifCond .eq 5, 3) := by decide +kernel
theorem dX0_askOn_35 : decode cX0_askOn 35 = .ok (.iload_n 2, 1) := by decide +kernel
theorem dX0_askOn_36 : decode cX0_askOn 36 = .ok (.ireturn, 1) := by decide +kernel
theorem dX0_askOn_37 : decode cX0_askOn 37 = .ok (.iinc 1 1, 3) := by decide +kernel
theorem dX0_askOn_40 : decode cX0_askOn 40 = .ok (.goto (-38), 3) := by decide +kernel
theorem dX0_askOn_43 : decode cX0_askOn 43 = .ok (.iconst (-1), 1) := by decide +kernel
theorem dX0_askOn_44 : decode cX0_askOn 44 = .ok (.ireturn, 1) := by decide +kernel
theorem dX0_askAll_0 : decode cX0_askAll 0 = .ok (.iconst 0, 1) := by decide +kernel
theorem dX0_askAll_1 : decode cX0_askAll 1 = .ok (.istore_n 1, 1) := by decide +kernel
theorem dX0_askAll_2 : decode cX0_askAll 2 = .ok (.iload_n 1, 1) := by decide +kernel
theorem dX0_askAll_3 : decode cX0_askAll 3 = .ok (.aload_n 0, 1) := by decide +kernel
theorem dX0_askAll_4 : decode cX0_askAll 4 = .ok (.getfield 26, 3) := by decide +kernel
theorem dX0_askAll_7 : decode cX0_askAll 7 = .ok (.getfield 70, 3) := by decide +kernel
theorem dX0_askAll_10 : decode cX0_askAll 10 = .ok (.if_icmp .ge 16, 3) := by decide +kernel
theorem dX0_askAll_13 : decode cX0_askAll 13 = .ok (.aload_n 0, 1) := by decide +kernel
theorem dX0_askAll_14 : decode cX0_askAll 14 = .ok (.getfield 15, 3) := by decide +kernel
theorem dX0_askAll_17 : decode cX0_askAll 17 = .ok (.iload_n 1, 1) := by decide +kernel
theorem dX0_askAll_18 : decode cX0_askAll 18 = .ok (.iload_n 1, 1) := by decide +kernel
theorem dX0_askAll_19 : decode cX0_askAll 19 = .ok (.iastore, 1) := by decide +kernel
theorem dX0_askAll_20 : decode cX0_askAll 20 = .ok (.iinc 1 1, 3) := by decide +kernel
theorem dX0_askAll_23 : decode cX0_askAll 23 = .ok (.goto (-21), 3) := by decide +kernel
theorem dX0_askAll_26 : decode cX0_askAll 26 = .ok (.aload_n 0, 1) := by decide +kernel
theorem dX0_askAll_27 : decode cX0_askAll 27 = .ok (.aload_n 0, 1) := by decide +kernel
theorem dX0_askAll_28 : decode cX0_askAll 28 = .ok (.getfield 26, 3) := by decide +kernel
theorem dX0_askAll_31 : decode cX0_askAll 31 = .ok (.getfield 70, 3) := by decide +kernel
theorem dX0_askAll_34 : decode cX0_askAll 34 = .ok (.putfield 34, 3) := by decide +kernel
theorem dX0_askAll_37 : decode cX0_askAll 37 = .ok (.return_, 1) := by decide +kernel
theorem dX0_takeFirst_0 : decode cX0_takeFirst 0 = .ok (.aload_n 0, 1) := by decide +kernel
theorem dX0_takeFirst_1 : decode cX0_takeFirst 1 = .ok (.getfield 15, 3) := by decide +kernel
theorem dX0_takeFirst_4 : decode cX0_takeFirst 4 = .ok (.iconst 0, 1) := by decide +kernel
theorem dX0_takeFirst_5 : decode cX0_takeFirst 5 = .ok (.iaload, 1) := by decide +kernel
theorem dX0_takeFirst_6 : decode cX0_takeFirst 6 = .ok (.istore_n 1, 1) := by decide +kernel
theorem dX0_takeFirst_7 : decode cX0_takeFirst 7 = .ok (.iconst 1, 1) := by decide +kernel
theorem dX0_takeFirst_8 : decode cX0_takeFirst 8 = .ok (.istore_n 2, 1) := by decide +kernel
theorem dX0_takeFirst_9 : decode cX0_takeFirst 9 = .ok (.iload_n 2, 1) := by decide +kernel
theorem dX0_takeFirst_10 : decode cX0_takeFirst 10 = .ok (.aload_n 0, 1) := by decide +kernel
theorem dX0_takeFirst_11 : decode cX0_takeFirst 11 = .ok (.getfield 34, 3) := by decide +kernel
theorem dX0_takeFirst_14 : decode cX0_takeFirst 14 = .ok (.if_icmp .ge 23, 3) := by decide +kernel
theorem dX0_takeFirst_17 : decode cX0_takeFirst 17 = .ok (.aload_n 0, 1) := by decide +kernel
theorem dX0_takeFirst_18 : decode cX0_takeFirst 18 = .ok (.getfield 15, 3) := by decide +kernel
theorem dX0_takeFirst_21 : decode cX0_takeFirst 21 = .ok (.iload_n 2, 1) := by decide +kernel
theorem dX0_takeFirst_22 : decode cX0_takeFirst 22 = .ok (.iconst 1, 1) := by decide +kernel
theorem dX0_takeFirst_23 : decode cX0_takeFirst 23 = .ok (.isub, 1) := by decide +kernel
theorem dX0_takeFirst_24 : decode cX0_takeFirst 24 = .ok (.aload_n 0, 1) := by decide +kernel
theorem dX0_takeFirst_25 : decode cX0_takeFirst 25 = .ok (.getfield 15, 3) := by decide +kernel
theorem dX0_takeFirst_28 : decode cX0_takeFirst 28 = .ok (.iload_n 2, 1) := by decide +kernel
theorem dX0_takeFirst_29 : decode cX0_takeFirst 29 = .ok (.iaload, 1) := by decide +kernel
theorem dX0_takeFirst_30 : decode cX0_takeFirst 30 = .ok (.iastore, 1) := by decide +kernel
theorem dX0_takeFirst_31 : decode cX0_takeFirst 31 = .ok (.iinc 2 1, 3) := by decide +kernel
theorem dX0_takeFirst_34 : decode cX0_takeFirst 34 = .ok (.goto (-25), 3) := by decide +kernel
theorem dX0_takeFirst_37 : decode cX0_takeFirst 37 = .ok (.aload_n 0, 1) := by decide +kernel
theorem dX0_takeFirst_38 : decode cX0_takeFirst 38 = .ok (.iconst 0, 1) := by decide +kernel
theorem dX0_takeFirst_39 : decode cX0_takeFirst 39 = .ok (.aload_n 0, 1) := by decide +kernel
theorem dX0_takeFirst_40 : decode cX0_takeFirst 40 = .ok (.getfield 34, 3) := by decide +kernel
theorem dX0_takeFirst_43 : decode cX0_takeFirst 43 = .ok (.iconst 1, 1) := by decide +kernel
theorem dX0_takeFirst_44 : decode cX0_takeFirst 44 = .ok (.isub, 1) := by decide +kernel
theorem dX0_takeFirst_45 : decode cX0_takeFirst 45 = .ok (.invokestatic 93, 3) := by decide +kernel
theorem dX0_takeFirst_48 : decode cX0_takeFirst 48 = .ok (.putfield 34, 3) := by decide +kernel
theorem dX0_takeFirst_51 : decode cX0_takeFirst 51 = .ok (.iload_n 1, 1) := by decide +kernel
theorem dX0_takeFirst_52 : decode cX0_takeFirst 52 = .ok (.ireturn, 1) := by decide +kernel
theorem dX0_hearOfSlide_0 : decode cX0_hearOfSlide 0 = .ok (.aload_n 0, 1) := by decide +kernel
theorem dX0_hearOfSlide_1 : decode cX0_hearOfSlide 1 = .ok (.getfield 18, 3) := by decide +kernel
theorem dX0_hearOfSlide_4 : decode cX0_hearOfSlide 4 = .ok (.iconst 4, 1) := by decide +kernel
theorem dX0_hearOfSlide_5 : decode cX0_hearOfSlide 5 = .ok (.if_icmp .eq 4, 3) := by decide +kernel
theorem dX0_hearOfSlide_8 : decode cX0_hearOfSlide 8 = .ok (.return_, 1) := by decide +kernel
theorem dX0_hearOfSlide_9 : decode cX0_hearOfSlide 9 = .ok (.aload_n 0, 1) := by decide +kernel
theorem dX0_hearOfSlide_10 : decode cX0_hearOfSlide 10 = .ok (.getfield 26, 3) := by decide +kernel
theorem dX0_hearOfSlide_13 : decode cX0_hearOfSlide 13 = .ok (.iload_n 1, 1) := by decide +kernel
theorem dX0_hearOfSlide_14 : decode cX0_hearOfSlide 14 = .ok (.iconst 4, 1) := by decide +kernel
theorem dX0_hearOfSlide_15 : decode cX0_hearOfSlide 15 = .ok (.invokevirtual 99, 3) := by decide +kernel
theorem dX0_hearOfSlide_18 : decode cX0_hearOfSlide 18 = .ok (.ifCond .eq 11, 3) := by decide +kernel
theorem dX0_hearOfSlide_21 : decode cX0_hearOfSlide 21 = .ok (.aload_n 0, 1) := by decide +kernel
theorem dX0_hearOfSlide_22 : decode cX0_hearOfSlide 22 = .ok (.iload_n 1, 1) := by decide +kernel
theorem dX0_hearOfSlide_23 : decode cX0_hearOfSlide 23 = .ok (.invokevirtual 103, 3) := by decide +kernel
theorem dX0_hearOfSlide_26 : decode cX0_hearOfSlide 26 = .ok (.goto 8, 3) := by decide +kernel
theorem dX0_hearOfSlide_29 : decode cX0_hearOfSlide 29 = .ok (.aload_n 0, 1) := by decide +kernel
theorem dX0_hearOfSlide_30 : decode cX0_hearOfSlide 30 = .ok (.iload_n 1, 1) := by decide +kernel
theorem dX0_hearOfSlide_31 : decode cX0_hearOfSlide 31 = .ok (.invokevirtual 107, 3) := by decide +kernel
theorem dX0_hearOfSlide_34 : decode cX0_hearOfSlide 34 = .ok (.return_, 1) := by decide +kernel
theorem dX0_askBehind_0 : decode cX0_askBehind 0 = .ok (.iconst 0, 1) := by decide +kernel
theorem dX0_askBehind_1 : decode cX0_askBehind 1 = .ok (.istore_n 2, 1) := by decide +kernel
theorem dX0_askBehind_2 : decode cX0_askBehind 2 = .ok (.iload_n 2, 1) := by decide +kernel
theorem dX0_askBehind_3 : decode cX0_askBehind 3 = .ok (.aload_n 0, 1) := by decide +kernel
theorem dX0_askBehind_4 : decode cX0_askBehind 4 = .ok (.getfield 26, 3) := by decide +kernel
theorem dX0_askBehind_7 : decode cX0_askBehind 7 = .ok (.getfield 70, 3) := by decide +kernel
theorem dX0_askBehind_10 : decode cX0_askBehind 10 = .ok (.if_icmp .ge 38, 3) := by decide +kernel
theorem dX0_askBehind_13 : decode cX0_askBehind 13 = .ok (.aload_n 0, 1) := by decide +kernel
theorem dX0_askBehind_14 : decode cX0_askBehind 14 = .ok (.iload_n 1, 1) := by decide +kernel
theorem dX0_askBehind_15 : decode cX0_askBehind 15 = .ok (.iload_n 2, 1) := by decide +kernel
theorem dX0_askBehind_16 : decode cX0_askBehind 16 = .ok (.invokevirtual 110, 3) := by decide +kernel
theorem dX0_askBehind_19 : decode cX0_askBehind 19 = .ok (.ifCond .eq 23, 3) := by decide +kernel
theorem dX0_askBehind_22 : decode cX0_askBehind 22 = .ok (.aload_n 0, 1) := by decide +kernel
theorem dX0_askBehind_23 : decode cX0_askBehind 23 = .ok (.getfield 15, 3) := by decide +kernel
theorem dX0_askBehind_26 : decode cX0_askBehind 26 = .ok (.aload_n 0, 1) := by decide +kernel
theorem dX0_askBehind_27 : decode cX0_askBehind 27 = .ok (.getfield 34, 3) := by decide +kernel
theorem dX0_askBehind_30 : decode cX0_askBehind 30 = .ok (.iload_n 2, 1) := by decide +kernel
theorem dX0_askBehind_31 : decode cX0_askBehind 31 = .ok (.iastore, 1) := by decide +kernel
theorem dX0_askBehind_32 : decode cX0_askBehind 32 = .ok (.aload_n 0, 1) := by decide +kernel
theorem dX0_askBehind_33 : decode cX0_askBehind 33 = .ok (.dup, 1) := by decide +kernel
theorem dX0_askBehind_34 : decode cX0_askBehind 34 = .ok (.getfield 34, 3) := by decide +kernel
theorem dX0_askBehind_37 : decode cX0_askBehind 37 = .ok (.iconst 1, 1) := by decide +kernel
theorem dX0_askBehind_38 : decode cX0_askBehind 38 = .ok (.iadd, 1) := by decide +kernel
theorem dX0_askBehind_39 : decode cX0_askBehind 39 = .ok (.putfield 34, 3) := by decide +kernel
theorem dX0_askBehind_42 : decode cX0_askBehind 42 = .ok (.iinc 2 1, 3) := by decide +kernel
theorem dX0_askBehind_45 : decode cX0_askBehind 45 = .ok (.goto (-43), 3) := by decide +kernel
theorem dX0_askBehind_48 : decode cX0_askBehind 48 = .ok (.return_, 1) := by decide +kernel
theorem dX0_askAhead_0 : decode cX0_askAhead 0 = .ok (.aload_n 0, 1) := by decide +kernel
theorem dX0_askAhead_1 : decode cX0_askAhead 1 = .ok (.getfield 26, 3) := by decide +kernel
theorem dX0_askAhead_4 : decode cX0_askAhead 4 = .ok (.getfield 70, 3) := by decide +kernel
theorem dX0_askAhead_7 : decode cX0_askAhead 7 = .ok (.iconst 1, 1) := by decide +kernel
theorem dX0_askAhead_8 : decode cX0_askAhead 8 = .ok (.isub, 1) := by decide +kernel
theorem dX0_askAhead_9 : decode cX0_askAhead 9 = .ok (.istore_n 2, 1) := by decide +kernel
theorem dX0_askAhead_10 : decode cX0_askAhead 10 = .ok (.iload_n 2, 1) := by decide +kernel
theorem dX0_askAhead_11 : decode cX0_askAhead 11 = .ok (.ifCond .lt 64, 3) := by decide +kernel
theorem dX0_askAhead_14 : decode cX0_askAhead 14 = .ok (.aload_n 0, 1) := by decide +kernel
theorem dX0_askAhead_15 : decode cX0_askAhead 15 = .ok (.iload_n 1, 1) := by decide +kernel
theorem dX0_askAhead_16 : decode cX0_askAhead 16 = .ok (.iload_n 2, 1) := by decide +kernel
theorem dX0_askAhead_17 : decode cX0_askAhead 17 = .ok (.invokevirtual 110, 3) := by decide +kernel
theorem dX0_askAhead_20 : decode cX0_askAhead 20 = .ok (.ifCond .eq 49, 3) := by decide +kernel
theorem dX0_askAhead_23 : decode cX0_askAhead 23 = .ok (.aload_n 0, 1) := by decide +kernel
theorem dX0_askAhead_24 : decode cX0_askAhead 24 = .ok (.getfield 34, 3) := by decide +kernel
theorem dX0_askAhead_27 : decode cX0_askAhead 27 = .ok (.istore_n 3, 1) := by decide +kernel
theorem dX0_askAhead_28 : decode cX0_askAhead 28 = .ok (.iload_n 3, 1) := by decide +kernel
theorem dX0_askAhead_29 : decode cX0_askAhead 29 = .ok (.ifCond .le 23, 3) := by decide +kernel
theorem dX0_askAhead_32 : decode cX0_askAhead 32 = .ok (.aload_n 0, 1) := by decide +kernel
theorem dX0_askAhead_33 : decode cX0_askAhead 33 = .ok (.getfield 15, 3) := by decide +kernel
theorem dX0_askAhead_36 : decode cX0_askAhead 36 = .ok (.iload_n 3, 1) := by decide +kernel
theorem dX0_askAhead_37 : decode cX0_askAhead 37 = .ok (.aload_n 0, 1) := by decide +kernel
theorem dX0_askAhead_38 : decode cX0_askAhead 38 = .ok (.getfield 15, 3) := by decide +kernel
theorem dX0_askAhead_41 : decode cX0_askAhead 41 = .ok (.iload_n 3, 1) := by decide +kernel
theorem dX0_askAhead_42 : decode cX0_askAhead 42 = .ok (.iconst 1, 1) := by decide +kernel
theorem dX0_askAhead_43 : decode cX0_askAhead 43 = .ok (.isub, 1) := by decide +kernel
theorem dX0_askAhead_44 : decode cX0_askAhead 44 = .ok (.iaload, 1) := by decide +kernel
theorem dX0_askAhead_45 : decode cX0_askAhead 45 = .ok (.iastore, 1) := by decide +kernel
theorem dX0_askAhead_46 : decode cX0_askAhead 46 = .ok (.iinc 3 (-1), 3) := by decide +kernel
theorem dX0_askAhead_49 : decode cX0_askAhead 49 = .ok (.goto (-21), 3) := by decide +kernel
theorem dX0_askAhead_52 : decode cX0_askAhead 52 = .ok (.aload_n 0, 1) := by decide +kernel
theorem dX0_askAhead_53 : decode cX0_askAhead 53 = .ok (.getfield 15, 3) := by decide +kernel
theorem dX0_askAhead_56 : decode cX0_askAhead 56 = .ok (.iconst 0, 1) := by decide +kernel
theorem dX0_askAhead_57 : decode cX0_askAhead 57 = .ok (.iload_n 2, 1) := by decide +kernel
theorem dX0_askAhead_58 : decode cX0_askAhead 58 = .ok (.iastore, 1) := by decide +kernel
theorem dX0_askAhead_59 : decode cX0_askAhead 59 = .ok (.aload_n 0, 1) := by decide +kernel
theorem dX0_askAhead_60 : decode cX0_askAhead 60 = .ok (.dup, 1) := by decide +kernel
theorem dX0_askAhead_61 : decode cX0_askAhead 61 = .ok (.getfield 34, 3) := by decide +kernel
theorem dX0_askAhead_64 : decode cX0_askAhead 64 = .ok (.iconst 1, 1) := by decide +kernel
theorem dX0_askAhead_65 : decode cX0_askAhead 65 = .ok (.iadd, 1) := by decide +kernel
theorem dX0_askAhead_66 : decode cX0_askAhead 66 = .ok (.putfield 34, 3) := by decide +kernel
theorem dX0_askAhead_69 : decode cX0_askAhead 69 = .ok (.iinc 2 (-1), 3) := by decide +kernel
theorem dX0_askAhead_72 : decode cX0_askAhead 72 = .ok (.goto (-62), 3) := by decide +kernel
theorem dX0_askAhead_75 : decode cX0_askAhead 75 = .ok (.return_, 1) := by decide +kernel
theorem dX0_isNewEnd_0 : decode cX0_isNewEnd 0 = .ok (.aload_n 0, 1) := by decide +kernel
theorem dX0_isNewEnd_1 : decode cX0_isNewEnd 1 = .ok (.getfield 26, 3) := by decide +kernel
theorem dX0_isNewEnd_4 : decode cX0_isNewEnd 4 = .ok (.getfield 113, 3) := by decide +kernel
theorem dX0_isNewEnd_7 : decode cX0_isNewEnd 7 = .ok (.iload_n 1, 1) := by decide +kernel
theorem dX0_isNewEnd_8 : decode cX0_isNewEnd 8 = .ok (.aaload, 1) := by decide +kernel
theorem dX0_isNewEnd_9 : decode cX0_isNewEnd 9 = .ok (.iload_n 2, 1) := by decide +kernel
theorem dX0_isNewEnd_10 : decode cX0_isNewEnd 10 = .ok (.iaload, 1) := by decide +kernel
theorem dX0_isNewEnd_11 : decode cX0_isNewEnd 11 = .ok (.ifCond .eq 12, 3) := by decide +kernel
theorem dX0_isNewEnd_14 : decode cX0_isNewEnd 14 = .ok (.aload_n 0, 1) := by decide +kernel
theorem dX0_isNewEnd_15 : decode cX0_isNewEnd 15 = .ok (.getfield 34, 3) := by decide +kernel
theorem dX0_isNewEnd_18 : decode cX0_isNewEnd 18 = .ok (.bipush 12, 2) := by decide +kernel
theorem dX0_isNewEnd_20 : decode cX0_isNewEnd 20 = .ok (.if_icmp .lt 5, 3) := by decide +kernel
theorem dX0_isNewEnd_23 : decode cX0_isNewEnd 23 = .ok (.iconst 0, 1) := by decide +kernel
theorem dX0_isNewEnd_24 : decode cX0_isNewEnd 24 = .ok (.ireturn, 1) := by decide +kernel
theorem dX0_isNewEnd_25 : decode cX0_isNewEnd 25 = .ok (.iconst 0, 1) := by decide +kernel
theorem dX0_isNewEnd_26 : decode cX0_isNewEnd 26 = .ok (.istore_n 3, 1) := by decide +kernel
theorem dX0_isNewEnd_27 : decode cX0_isNewEnd 27 = .ok (.iload_n 3, 1) := by decide +kernel
theorem dX0_isNewEnd_28 : decode cX0_isNewEnd 28 = .ok (.aload_n 0, 1) := by decide +kernel
theorem dX0_isNewEnd_29 : decode cX0_isNewEnd 29 = .ok (.getfield 34, 3) := by decide +kernel
theorem dX0_isNewEnd_32 : decode cX0_isNewEnd 32 = .ok (.if_icmp .ge 21, 3) := by decide +kernel
theorem dX0_isNewEnd_35 : decode cX0_isNewEnd 35 = .ok (.aload_n 0, 1) := by decide +kernel
theorem dX0_isNewEnd_36 : decode cX0_isNewEnd 36 = .ok (.getfield 15, 3) := by decide +kernel
theorem dX0_isNewEnd_39 : decode cX0_isNewEnd 39 = .ok (.iload_n 3, 1) := by decide +kernel
theorem dX0_isNewEnd_40 : decode cX0_isNewEnd 40 = .ok (.iaload, 1) := by decide +kernel
theorem dX0_isNewEnd_41 : decode cX0_isNewEnd 41 = .ok (.iload_n 2, 1) := by decide +kernel
theorem dX0_isNewEnd_42 : decode cX0_isNewEnd 42 = .ok (.if_icmp .ne 5, 3) := by decide +kernel
theorem dX0_isNewEnd_45 : decode cX0_isNewEnd 45 = .ok (.iconst 0, 1) := by decide +kernel
theorem dX0_isNewEnd_46 : decode cX0_isNewEnd 46 = .ok (.ireturn, 1) := by decide +kernel
theorem dX0_isNewEnd_47 : decode cX0_isNewEnd 47 = .ok (.iinc 3 1, 3) := by decide +kernel
theorem dX0_isNewEnd_50 : decode cX0_isNewEnd 50 = .ok (.goto (-23), 3) := by decide +kernel
theorem dX0_isNewEnd_53 : decode cX0_isNewEnd 53 = .ok (.iconst 1, 1) := by decide +kernel
theorem dX0_isNewEnd_54 : decode cX0_isNewEnd 54 = .ok (.ireturn, 1) := by decide +kernel
theorem dX1_init_0 : decode cX1_init 0 = .ok (.aload_n 0, 1) := by decide +kernel
theorem dX1_init_1 : decode cX1_init 1 = .ok (.invokespecial 3, 3) := by decide +kernel
theorem dX1_init_4 : decode cX1_init 4 = .ok (.aload_n 0, 1) := by decide +kernel
theorem dX1_init_5 : decode cX1_init 5 = .ok (.bipush 12, 2) := by decide +kernel
theorem dX1_init_7 : decode cX1_init 7 = .ok (.newarray .int, 2) := by decide +kernel
theorem dX1_init_9 : decode cX1_init 9 = .ok (.putfield 9, 3) := by decide +kernel
theorem dX1_init_12 : decode cX1_init 12 = .ok (.return_, 1) := by decide +kernel
theorem dX1_clear_0 : decode cX1_clear 0 = .ok (.aload_n 0, 1) := by decide +kernel
theorem dX1_clear_1 : decode cX1_clear 1 = .ok (.iconst 0, 1) := by decide +kernel
theorem dX1_clear_2 : decode cX1_clear 2 = .ok (.putfield 15, 3) := by decide +kernel
theorem dX1_clear_5 : decode cX1_clear 5 = .ok (.aload_n 0, 1) := by decide +kernel
theorem dX1_clear_6 : decode cX1_clear 6 = .ok (.iconst 0, 1) := by decide +kernel
theorem dX1_clear_7 : decode cX1_clear 7 = .ok (.putfield 19, 3) := by decide +kernel
theorem dX1_clear_10 : decode cX1_clear 10 = .ok (.return_, 1) := by decide +kernel
theorem dX1_light_0 : decode cX1_light 0 = .ok (.aload_n 0, 1) := by decide +kernel
theorem dX1_light_1 : decode cX1_light 1 = .ok (.iconst 0, 1) := by decide +kernel
theorem dX1_light_2 : decode cX1_light 2 = .ok (.putfield 15, 3) := by decide +kernel
theorem dX1_light_5 : decode cX1_light 5 = .ok (.aload_n 0, 1) := by decide +kernel
theorem dX1_light_6 : decode cX1_light 6 = .ok (.aload_n 1, 1) := by decide +kernel
theorem dX1_light_7 : decode cX1_light 7 = .ok (.invokevirtual 22, 3) := by decide +kernel
theorem dX1_light_10 : decode cX1_light 10 = .ok (.putfield 19, 3) := by decide +kernel
theorem dX1_light_13 : decode cX1_light 13 = .ok (.iconst 0, 1) := by decide +kernel
theorem dX1_light_14 : decode cX1_light 14 = .ok (.istore 4, 2) := by decide +kernel
theorem dX1_light_16 : decode cX1_light 16 = .ok (.iload 4, 2) := by decide +kernel
theorem dX1_light_18 : decode cX1_light 18 = .ok (.aload_n 1, 1) := by decide +kernel
theorem dX1_light_19 : decode cX1_light 19 = .ok (.getfield 28, 3) := by decide +kernel
theorem dX1_light_22 : decode cX1_light 22 = .ok (.if_icmp .ge 61, 3) := by decide +kernel
theorem dX1_light_25 : decode cX1_light 25 = .ok (.aload_n 0, 1) := by decide +kernel
theorem dX1_light_26 : decode cX1_light 26 = .ok (.aload_n 1, 1) := by decide +kernel
theorem dX1_light_27 : decode cX1_light 27 = .ok (.aload_n 2, 1) := by decide +kernel
theorem dX1_light_28 : decode cX1_light 28 = .ok (.iload_n 3, 1) := by decide +kernel
theorem dX1_light_29 : decode cX1_light 29 = .ok (.invokevirtual 31, 3) := by decide +kernel
theorem dX1_light_32 : decode cX1_light 32 = .ok (.istore 5, 2) := by decide +kernel
theorem dX1_light_34 : decode cX1_light 34 = .ok (.iload 5, 2) := by decide +kernel
theorem dX1_light_36 : decode cX1_light 36 = .ok (.iconst (-1), 1) := by decide +kernel
theorem dX1_light_37 : decode cX1_light 37 = .ok (.if_icmp .ne 4, 3) := by decide +kernel
theorem dX1_light_40 : decode cX1_light 40 = .ok (.return_, 1) := by decide +kernel
theorem dX1_light_41 : decode cX1_light 41 = .ok (.aload_n 0, 1) := by decide +kernel
theorem dX1_light_42 : decode cX1_light 42 = .ok (.getfield 9, 3) := by decide +kernel
theorem dX1_light_45 : decode cX1_light 45 = .ok (.aload_n 0, 1) := by decide +kernel
theorem dX1_light_46 : decode cX1_light 46 = .ok (.getfield 15, 3) := by decide +kernel
theorem dX1_light_49 : decode cX1_light 49 = .ok (.iload 5, 2) := by decide +kernel
theorem dX1_light_51 : decode cX1_light 51 = .ok (.iastore, 1) := by decide +kernel
theorem dX1_light_52 : decode cX1_light 52 = .ok (.aload_n 0, 1) := by decide +kernel
theorem dX1_light_53 : decode cX1_light 53 = .ok (.dup, 1) := by decide +kernel
theorem dX1_light_54 : decode cX1_light 54 = .ok (.getfield 15, 3) := by decide +kernel
theorem dX1_light_57 : decode cX1_light 57 = .ok (.iconst 1, 1) := by decide +kernel
theorem dX1_light_58 : decode cX1_light 58 = .ok (.iadd, 1) := by decide +kernel
theorem dX1_light_59 : decode cX1_light 59 = .ok (.putfield 15, 3) := by decide +kernel
theorem dX1_light_62 : decode cX1_light 62 = .ok (.aload_n 0, 1) := by decide +kernel
theorem dX1_light_63 : decode cX1_light 63 = .ok (.dup, 1) := by decide +kernel
theorem dX1_light_64 : decode cX1_light 64 = .ok (.getfield 19, 3) := by decide +kernel
theorem dX1_light_67 : decode cX1_light 67 = .ok (.iconst 1, 1) := by decide +kernel
theorem dX1_light_68 : decode cX1_light 68 = .ok (.iload 5, 2) := by decide +kernel
theorem dX1_light_70 : decode cX1_light 70 = .ok (.ishl, 1) := by decide +kernel
theorem dX1_light_71 : decode cX1_light 71 = .ok (.iconst (-1), 1) := by decide +kernel
theorem dX1_light_72 : decode cX1_light 72 = .ok (.ixor, 1) := by decide +kernel
theorem dX1_light_73 : decode cX1_light 73 = .ok (.iand, 1) := by decide +kernel
theorem dX1_light_74 : decode cX1_light 74 = .ok (.putfield 19, 3) := by decide +kernel
theorem dX1_light_77 : decode cX1_light 77 = .ok (.iinc 4 1, 3) := by decide +kernel
theorem dX1_light_80 : decode cX1_light 80 = .ok (.goto (-64), 3) := by decide +kernel
theorem dX1_light_83 : decode cX1_light 83 = .ok (.return_, 1) := by decide +kernel
theorem dX1_nextToBurn_0 : decode cX1_nextToBurn 0 = .ok (.iconst 0, 1) := by decide +kernel
theorem dX1_nextToBurn_1 : decode cX1_nextToBurn 1 = .ok (.istore 4, 2) := by decide +kernel
theorem dX1_nextToBurn_3 : decode cX1_nextToBurn 3 = .ok (.iload 4, 2) := by decide +kernel
theorem dX1_nextToBurn_5 : decode cX1_nextToBurn 5 = .ok (.aload_n 1, 1) := by decide +kernel
theorem dX1_nextToBurn_6 : decode cX1_nextToBurn 6 = .ok (.getfield 28, 3) := by decide +kernel
theorem dX1_nextToBurn_9 : decode cX1_nextToBurn 9 = .ok (.if_icmp .ge 59, 3) := by decide +kernel
theorem dX1_nextToBurn_12 : decode cX1_nextToBurn 12 = .ok (.aload_n 0, 1) := by decide +kernel
theorem dX1_nextToBurn_13 : decode cX1_nextToBurn 13 = .ok (.getfield 19, 3) := by decide +kernel
theorem dX1_nextToBurn_16 : decode cX1_nextToBurn 16 = .ok (.iconst 1, 1) := by decide +kernel
theorem dX1_nextToBurn_17 : decode cX1_nextToBurn 17 = .ok (.iload 4, 2) := by decide +kernel
theorem dX1_nextToBurn_19 : decode cX1_nextToBurn 19 = .ok (.ishl, 1) := by decide +kernel
theorem dX1_nextToBurn_20 : decode cX1_nextToBurn 20 = .ok (.iand, 1) := by decide +kernel
theorem dX1_nextToBurn_21 : decode cX1_nextToBurn 21 = .ok (.ifCond .ne 7, 3) := by decide +kernel
theorem dX1_nextToBurn_24 : decode cX1_nextToBurn 24 = .ok (.iconst 1, 1) := by decide +kernel
theorem dX1_nextToBurn_25 : decode cX1_nextToBurn 25 = .ok (.goto 4, 3) := by decide +kernel
theorem dX1_nextToBurn_28 : decode cX1_nextToBurn 28 = .ok (.iconst 0, 1) := by decide +kernel
theorem dX1_nextToBurn_29 : decode cX1_nextToBurn 29 = .ok (.istore 5, 2) := by decide +kernel
theorem dX1_nextToBurn_31 : decode cX1_nextToBurn 31 = .ok (.iload 5, 2) := by decide +kernel
theorem dX1_nextToBurn_33 : decode cX1_nextToBurn 33 = .ok (.ifCond .ne 29, 3) := by decide +kernel
theorem dX1_nextToBurn_36 : decode cX1_nextToBurn 36 = .ok (.iload 4, 2) := by decide +kernel
theorem dX1_nextToBurn_38 : decode cX1_nextToBurn 38 = .ok (.iload_n 3, 1) := by decide +kernel
theorem dX1_nextToBurn_39 : decode cX1_nextToBurn 39 = .ok (.if_icmp .eq 23, 3) := by decide +kernel
theorem dX1_nextToBurn_42 : decode cX1_nextToBurn 42 = .ok (.aload_n 2, 1) := by decide +kernel
theorem dX1_nextToBurn_43 : decode cX1_nextToBurn 43 = .ok (.iload 4, 2) := by decide +kernel
theorem dX1_nextToBurn_45 : decode cX1_nextToBurn 45 = .ok (.iaload, 1) := by decide +kernel
theorem dX1_nextToBurn_46 : decode cX1_nextToBurn 46 = .ok (.aload_n 1, 1) := by decide +kernel
theorem dX1_nextToBurn_47 : decode cX1_nextToBurn 47 = .ok (.iload 4, 2) := by decide +kernel
theorem dX1_nextToBurn_49 : decode cX1_nextToBurn 49 = .ok (.aload_n 0, 1) := by decide +kernel
theorem dX1_nextToBurn_50 : decode cX1_nextToBurn 50 = .ok (.getfield 19, 3) := by decide +kernel
theorem dX1_nextToBurn_53 : decode cX1_nextToBurn 53 = .ok (.invokevirtual 35, 3) := by decide +kernel
theorem dX1_nextToBurn_56 : decode cX1_nextToBurn 56 = .ok (.if_icmp .lt 6, 3) := by decide +kernel
theorem dX1_nextToBurn_59 : decode cX1_nextToBurn 59 = .ok (.iload 4, 2) := by decide +kernel
theorem dX1_nextToBurn_61 : decode cX1_nextToBurn 61 = .ok (.ireturn, 1) := by decide +kernel
theorem dX1_nextToBurn_62 : decode cX1_nextToBurn 62 = .ok (.iinc 4 1, 3) := by decide +kernel
theorem dX1_nextToBurn_65 : decode cX1_nextToBurn 65 = .ok (.goto (-62), 3) := by decide +kernel
theorem dX1_nextToBurn_68 : decode cX1_nextToBurn 68 = .ok (.iconst (-1), 1) := by decide +kernel
theorem dX1_nextToBurn_69 : decode cX1_nextToBurn 69 = .ok (.ireturn, 1) := by decide +kernel
theorem dX2_init_0 : decode cX2_init 0 = .ok (.aload_n 0, 1) := by decide +kernel
theorem dX2_init_1 : decode cX2_init 1 = .ok (.invokespecial 3, 3) := by decide +kernel
theorem dX2_init_4 : decode cX2_init 4 = .ok (.aload_n 0, 1) := by decide +kernel
theorem dX2_init_5 : decode cX2_init 5 = .ok (.bipush 12, 2) := by decide +kernel
theorem dX2_init_7 : decode cX2_init 7 = .ok (.newarray .int, 2) := by decide +kernel
theorem dX2_init_9 : decode cX2_init 9 = .ok (.putfield 9, 3) := by decide +kernel
theorem dX2_init_12 : decode cX2_init 12 = .ok (.aload_n 0, 1) := by decide +kernel
theorem dX2_init_13 : decode cX2_init 13 = .ok (.iconst 3, 1) := by decide +kernel
theorem dX2_init_14 : decode cX2_init 14 = .ok (.newarray .long, 2) := by decide +kernel
theorem dX2_init_16 : decode cX2_init 16 = .ok (.putfield 15, 3) := by decide +kernel
theorem dX2_init_19 : decode cX2_init 19 = .ok (.aload_n 0, 1) := by decide +kernel
theorem dX2_init_20 : decode cX2_init 20 = .ok (.bipush 12, 2) := by decide +kernel
theorem dX2_init_22 : decode cX2_init 22 = .ok (.newarray .long, 2) := by decide +kernel
theorem dX2_init_24 : decode cX2_init 24 = .ok (.putfield 19, 3) := by decide +kernel
theorem dX2_init_27 : decode cX2_init 27 = .ok (.aload_n 0, 1) := by decide +kernel
theorem dX2_init_28 : decode cX2_init 28 = .ok (.aload_n 1, 1) := by decide +kernel
theorem dX2_init_29 : decode cX2_init 29 = .ok (.putfield 22, 3) := by decide +kernel
theorem dX2_init_32 : decode cX2_init 32 = .ok (.return_, 1) := by decide +kernel
theorem dX2_clear_0 : decode cX2_clear 0 = .ok (.iconst 0, 1) := by decide +kernel
theorem dX2_clear_1 : decode cX2_clear 1 = .ok (.istore_n 1, 1) := by decide +kernel
theorem dX2_clear_2 : decode cX2_clear 2 = .ok (.iload_n 1, 1) := by decide +kernel
theorem dX2_clear_3 : decode cX2_clear 3 = .ok (.bipush 12, 2) := by decide +kernel
theorem dX2_clear_5 : decode cX2_clear 5 = .ok (.if_icmp .ge 23, 3) := by decide +kernel
theorem dX2_clear_8 : decode cX2_clear 8 = .ok (.aload_n 0, 1) := by decide +kernel
theorem dX2_clear_9 : decode cX2_clear 9 = .ok (.getfield 9, 3) := by decide +kernel
theorem dX2_clear_12 : decode cX2_clear 12 = .ok (.iload_n 1, 1) := by decide +kernel
theorem dX2_clear_13 : decode cX2_clear 13 = .ok (.iconst 0, 1) := by decide +kernel
theorem dX2_clear_14 : decode cX2_clear 14 = .ok (.iastore, 1) := by decide +kernel
theorem dX2_clear_15 : decode cX2_clear 15 = .ok (.aload_n 0, 1) := by decide +kernel
theorem dX2_clear_16 : decode cX2_clear 16 = .ok (.getfield 19, 3) := by decide +kernel
theorem dX2_clear_19 : decode cX2_clear 19 = .ok (.iload_n 1, 1) := by decide +kernel
theorem dX2_clear_20 : decode cX2_clear 20 = .ok (.lconst 0, 1) := by decide +kernel
theorem dX2_clear_21 : decode cX2_clear 21 = .ok (.lastore, 1) := by decide +kernel
theorem dX2_clear_22 : decode cX2_clear 22 = .ok (.iinc 1 1, 3) := by decide +kernel
theorem dX2_clear_25 : decode cX2_clear 25 = .ok (.goto (-23), 3) := by decide +kernel
theorem dX2_clear_28 : decode cX2_clear 28 = .ok (.iconst 0, 1) := by decide +kernel
theorem dX2_clear_29 : decode cX2_clear 29 = .ok (.istore_n 1, 1) := by decide +kernel
theorem dX2_clear_30 : decode cX2_clear 30 = .ok (.iload_n 1, 1) := by decide +kernel
theorem dX2_clear_31 : decode cX2_clear 31 = .ok (.iconst 3, 1) := by decide +kernel
theorem dX2_clear_32 : decode cX2_clear 32 = .ok (.if_icmp .ge 16, 3) := by decide +kernel
theorem dX2_clear_35 : decode cX2_clear 35 = .ok (.aload_n 0, 1) := by decide +kernel
theorem dX2_clear_36 : decode cX2_clear 36 = .ok (.getfield 15, 3) := by decide +kernel
theorem dX2_clear_39 : decode cX2_clear 39 = .ok (.iload_n 1, 1) := by decide +kernel
theorem dX2_clear_40 : decode cX2_clear 40 = .ok (.lconst 0, 1) := by decide +kernel
theorem dX2_clear_41 : decode cX2_clear 41 = .ok (.lastore, 1) := by decide +kernel
theorem dX2_clear_42 : decode cX2_clear 42 = .ok (.iinc 1 1, 3) := by decide +kernel
theorem dX2_clear_45 : decode cX2_clear 45 = .ok (.goto (-15), 3) := by decide +kernel
theorem dX2_clear_48 : decode cX2_clear 48 = .ok (.return_, 1) := by decide +kernel
theorem dX2_takeGrains_0 : decode cX2_takeGrains 0 = .ok (.aload_n 1, 1) := by decide +kernel
theorem dX2_takeGrains_1 : decode cX2_takeGrains 1 = .ok (.iconst 0, 1) := by decide +kernel
theorem dX2_takeGrains_2 : decode cX2_takeGrains 2 = .ok (.aload_n 0, 1) := by decide +kernel
theorem dX2_takeGrains_3 : decode cX2_takeGrains 3 = .ok (.getfield 9, 3) := by decide +kernel
theorem dX2_takeGrains_6 : decode cX2_takeGrains 6 = .ok (.iconst 0, 1) := by decide +kernel
theorem dX2_takeGrains_7 : decode cX2_takeGrains 7 = .ok (.bipush 12, 2) := by decide +kernel
theorem dX2_takeGrains_9 : decode cX2_takeGrains 9 = .ok (.invokestatic 26, 3) := by decide +kernel
theorem dX2_takeGrains_12 : decode cX2_takeGrains 12 = .ok (.return_, 1) := by decide +kernel
theorem dX2_sum_0 : decode cX2_sum 0 = .ok (.iconst 0, 1) := by decide +kernel
theorem dX2_sum_1 : decode cX2_sum 1 = .ok (.istore_n 1, 1) := by decide +kernel
theorem dX2_sum_2 : decode cX2_sum 2 = .ok (.iconst 0, 1) := by decide +kernel
theorem dX2_sum_3 : decode cX2_sum 3 = .ok (.istore_n 2, 1) := by decide +kernel
theorem dX2_sum_4 : decode cX2_sum 4 = .ok (.iload_n 2, 1) := by decide +kernel
theorem dX2_sum_5 : decode cX2_sum 5 = .ok (.aload_n 0, 1) := by decide +kernel
theorem dX2_sum_6 : decode cX2_sum 6 = .ok (.getfield 22, 3) := by decide +kernel
theorem dX2_sum_9 : decode cX2_sum 9 = .ok (.getfield 32, 3) := by decide +kernel
theorem dX2_sum_12 : decode cX2_sum 12 = .ok (.if_icmp .ge 18, 3) := by decide +kernel
theorem dX2_sum_15 : decode cX2_sum 15 = .ok (.iload_n 1, 1) := by decide +kernel
theorem dX2_sum_16 : decode cX2_sum 16 = .ok (.aload_n 0, 1) := by decide +kernel
theorem dX2_sum_17 : decode cX2_sum 17 = .ok (.getfield 9, 3) := by decide +kernel
theorem dX2_sum_20 : decode cX2_sum 20 = .ok (.iload_n 2, 1) := by decide +kernel
theorem dX2_sum_21 : decode cX2_sum 21 = .ok (.iaload, 1) := by decide +kernel
theorem dX2_sum_22 : decode cX2_sum 22 = .ok (.iadd, 1) := by decide +kernel
theorem dX2_sum_23 : decode cX2_sum 23 = .ok (.istore_n 1, 1) := by decide +kernel
theorem dX2_sum_24 : decode cX2_sum 24 = .ok (.iinc 2 1, 3) := by decide +kernel
theorem dX2_sum_27 : decode cX2_sum 27 = .ok (.goto (-23), 3) := by decide +kernel
theorem dX2_sum_30 : decode cX2_sum 30 = .ok (.iload_n 1, 1) := by decide +kernel
theorem dX2_sum_31 : decode cX2_sum 31 = .ok (.ireturn, 1) := by decide +kernel
theorem dX2_isDue_0 : decode cX2_isDue 0 = .ok (.aload_n 0, 1) := by decide +kernel
theorem dX2_isDue_1 : decode cX2_isDue 1 = .ok (.getfield 22, 3) := by decide +kernel
theorem dX2_isDue_4 : decode cX2_isDue 4 = .ok (.getfield 38, 3) := by decide +kernel
theorem dX2_isDue_7 : decode cX2_isDue 7 = .ok (.iload_n 1, 1) := by decide +kernel
theorem dX2_isDue_8 : decode cX2_isDue 8 = .ok (.iaload, 1) := by decide +kernel
theorem dX2_isDue_9 : decode cX2_isDue 9 = .ok (.istore_n 2, 1) := by decide +kernel
theorem dX2_isDue_10 : decode cX2_isDue 10 = .ok (.iload_n 2, 1) := by decide +kernel
theorem dX2_isDue_11 : decode cX2_isDue 11 = .ok (.ifCond .le 17, 3) := by decide +kernel
theorem dX2_isDue_14 : decode cX2_isDue 14 = .ok (.aload_n 0, 1) := by decide +kernel
theorem dX2_isDue_15 : decode cX2_isDue 15 = .ok (.getfield 9, 3) := by decide +kernel
theorem dX2_isDue_18 : decode cX2_isDue 18 = .ok (.iload_n 1, 1) := by decide +kernel
theorem dX2_isDue_19 : decode cX2_isDue 19 = .ok (.iaload, 1) := by decide +kernel
theorem dX2_isDue_20 : decode cX2_isDue 20 = .ok (.iload_n 2, 1) := by decide +kernel
theorem dX2_isDue_21 : decode cX2_isDue 21 = .ok (.if_icmp .lt 7, 3) := by decide +kernel
theorem dX2_isDue_24 : decode cX2_isDue 24 = .ok (.iconst 1, 1) := by decide +kernel
theorem dX2_isDue_25 : decode cX2_isDue 25 = .ok (.goto 4, 3) := by decide +kernel
theorem dX2_isDue_28 : decode cX2_isDue 28 = .ok (.iconst 0, 1) := by decide +kernel
theorem dX2_isDue_29 : decode cX2_isDue 29 = .ok (.ireturn, 1) := by decide +kernel
theorem dX2_countDue_0 : decode cX2_countDue 0 = .ok (.iconst 0, 1) := by decide +kernel
theorem dX2_countDue_1 : decode cX2_countDue 1 = .ok (.istore_n 1, 1) := by decide +kernel
theorem dX2_countDue_2 : decode cX2_countDue 2 = .ok (.iconst 0, 1) := by decide +kernel
theorem dX2_countDue_3 : decode cX2_countDue 3 = .ok (.istore_n 2, 1) := by decide +kernel
theorem dX2_countDue_4 : decode cX2_countDue 4 = .ok (.iload_n 2, 1) := by decide +kernel
theorem dX2_countDue_5 : decode cX2_countDue 5 = .ok (.aload_n 0, 1) := by decide +kernel
theorem dX2_countDue_6 : decode cX2_countDue 6 = .ok (.getfield 22, 3) := by decide +kernel
theorem dX2_countDue_9 : decode cX2_countDue 9 = .ok (.getfield 32, 3) := by decide +kernel
theorem dX2_countDue_12 : decode cX2_countDue 12 = .ok (.if_icmp .ge 20, 3) := by decide +kernel
theorem dX2_countDue_15 : decode cX2_countDue 15 = .ok (.aload_n 0, 1) := by decide +kernel
theorem dX2_countDue_16 : decode cX2_countDue 16 = .ok (.iload_n 2, 1) := by decide +kernel
theorem dX2_countDue_17 : decode cX2_countDue 17 = .ok (.invokevirtual 41, 3) := by decide +kernel
theorem dX2_countDue_20 : decode cX2_countDue 20 = .ok (.ifCond .eq 6, 3) := by decide +kernel
theorem dX2_countDue_23 : decode cX2_countDue 23 = .ok (.iinc 1 1, 3) := by decide +kernel
theorem dX2_countDue_26 : decode cX2_countDue 26 = .ok (.iinc 2 1, 3) := by decide +kernel
theorem dX2_countDue_29 : decode cX2_countDue 29 = .ok (.goto (-25), 3) := by decide +kernel
theorem dX2_countDue_32 : decode cX2_countDue 32 = .ok (.iload_n 1, 1) := by decide +kernel
theorem dX2_countDue_33 : decode cX2_countDue 33 = .ok (.ireturn, 1) := by decide +kernel
theorem dX2_lowestDue_0 : decode cX2_lowestDue 0 = .ok (.iconst 0, 1) := by decide +kernel
theorem dX2_lowestDue_1 : decode cX2_lowestDue 1 = .ok (.istore_n 1, 1) := by decide +kernel
theorem dX2_lowestDue_2 : decode cX2_lowestDue 2 = .ok (.iload_n 1, 1) := by decide +kernel
theorem dX2_lowestDue_3 : decode cX2_lowestDue 3 = .ok (.aload_n 0, 1) := by decide +kernel
theorem dX2_lowestDue_4 : decode cX2_lowestDue 4 = .ok (.getfield 22, 3) := by decide +kernel
theorem dX2_lowestDue_7 : decode cX2_lowestDue 7 = .ok (.getfield 32, 3) := by decide +kernel
theorem dX2_lowestDue_10 : decode cX2_lowestDue 10 = .ok (.if_icmp .ge 19, 3) := by decide +kernel
theorem dX2_lowestDue_13 : decode cX2_lowestDue 13 = .ok (.aload_n 0, 1) := by decide +kernel
theorem dX2_lowestDue_14 : decode cX2_lowestDue 14 = .ok (.iload_n 1, 1) := by decide +kernel
theorem dX2_lowestDue_15 : decode cX2_lowestDue 15 = .ok (.invokevirtual 41, 3) := by decide +kernel
theorem dX2_lowestDue_18 : decode cX2_lowestDue 18 = .ok (.ifCond .eq 5, 3) := by decide +kernel
theorem dX2_lowestDue_21 : decode cX2_lowestDue 21 = .ok (.iload_n 1, 1) := by decide +kernel
theorem dX2_lowestDue_22 : decode cX2_lowestDue 22 = .ok (.ireturn, 1) := by decide +kernel
theorem dX2_lowestDue_23 : decode cX2_lowestDue 23 = .ok (.iinc 1 1, 3) := by decide +kernel
theorem dX2_lowestDue_26 : decode cX2_lowestDue 26 = .ok (.goto (-24), 3) := by decide +kernel
theorem dX2_lowestDue_29 : decode cX2_lowestDue 29 = .ok (.iconst (-1), 1) := by decide +kernel
theorem dX2_lowestDue_30 : decode cX2_lowestDue 30 = .ok (.ireturn, 1) := by decide +kernel
theorem dX2_fullestDue_0 : decode cX2_fullestDue 0 = .ok (.iconst (-1), 1) := by decide +kernel
theorem dX2_fullestDue_1 : decode cX2_fullestDue 1 = .ok (.istore_n 1, 1) := by decide +kernel
theorem dX2_fullestDue_2 : decode cX2_fullestDue 2 = .ok (.iconst 0, 1) := by decide +kernel
theorem dX2_fullestDue_3 : decode cX2_fullestDue 3 = .ok (.istore_n 2, 1) := by decide +kernel
theorem dX2_fullestDue_4 : decode cX2_fullestDue 4 = .ok (.iload_n 2, 1) := by decide +kernel
theorem dX2_fullestDue_5 : decode cX2_fullestDue 5 = .ok (.aload_n 0, 1) := by decide +kernel
theorem dX2_fullestDue_6 : decode cX2_fullestDue 6 = .ok (.getfield 22, 3) := by decide +kernel
theorem dX2_fullestDue_9 : decode cX2_fullestDue 9 = .ok (.getfield 32, 3) := by decide +kernel
theorem dX2_fullestDue_12 : decode cX2_fullestDue 12 = .ok (.if_icmp .ge 39, 3) := by decide +kernel
theorem dX2_fullestDue_15 : decode cX2_fullestDue 15 = .ok (.aload_n 0, 1) := by decide +kernel
theorem dX2_fullestDue_16 : decode cX2_fullestDue 16 = .ok (.iload_n 2, 1) := by decide +kernel
theorem dX2_fullestDue_17 : decode cX2_fullestDue 17 = .ok (.invokevirtual 41, 3) := by decide +kernel
theorem dX2_fullestDue_20 : decode cX2_fullestDue 20 = .ok (.ifCond .eq 25, 3) := by decide +kernel
theorem dX2_fullestDue_23 : decode cX2_fullestDue 23 = .ok (.iload_n 1, 1) := by decide +kernel
theorem dX2_fullestDue_24 : decode cX2_fullestDue 24 = .ok (.iconst (-1), 1) := by decide +kernel
theorem dX2_fullestDue_25 : decode cX2_fullestDue 25 = .ok (.if_icmp .eq 18, 3) := by decide +kernel
theorem dX2_fullestDue_28 : decode cX2_fullestDue 28 = .ok (.aload_n 0, 1) := by decide +kernel
theorem dX2_fullestDue_29 : decode cX2_fullestDue 29 = .ok (.getfield 9, 3) := by decide +kernel
theorem dX2_fullestDue_32 : decode cX2_fullestDue 32 = .ok (.iload_n 2, 1) := by decide +kernel
theorem dX2_fullestDue_33 : decode cX2_fullestDue 33 = .ok (.iaload, 1) := by decide +kernel
theorem dX2_fullestDue_34 : decode cX2_fullestDue 34 = .ok (.aload_n 0, 1) := by decide +kernel
theorem dX2_fullestDue_35 : decode cX2_fullestDue 35 = .ok (.getfield 9, 3) := by decide +kernel
theorem dX2_fullestDue_38 : decode cX2_fullestDue 38 = .ok (.iload_n 1, 1) := by decide +kernel
theorem dX2_fullestDue_39 : decode cX2_fullestDue 39 = .ok (.iaload, 1) := by decide +kernel
theorem dX2_fullestDue_40 : decode cX2_fullestDue 40 = .ok (.if_icmp .le 5, 3) := by decide +kernel
theorem dX2_fullestDue_43 : decode cX2_fullestDue 43 = .ok (.iload_n 2, 1) := by decide +kernel
theorem dX2_fullestDue_44 : decode cX2_fullestDue 44 = .ok (.istore_n 1, 1) := by decide +kernel
theorem dX2_fullestDue_45 : decode cX2_fullestDue 45 = .ok (.iinc 2 1, 3) := by decide +kernel
theorem dX2_fullestDue_48 : decode cX2_fullestDue 48 = .ok (.goto (-44), 3) := by decide +kernel
theorem dX2_fullestDue_51 : decode cX2_fullestDue 51 = .ok (.iload_n 1, 1) := by decide +kernel
theorem dX2_fullestDue_52 : decode cX2_fullestDue 52 = .ok (.ireturn, 1) := by decide +kernel
theorem dX2_stands_0 : decode cX2_stands 0 = .ok (.aload_n 0, 1) := by decide +kernel
theorem dX2_stands_1 : decode cX2_stands 1 = .ok (.invokevirtual 45, 3) := by decide +kernel
theorem dX2_stands_4 : decode cX2_stands 4 = .ok (.iconst (-1), 1) := by decide +kernel
theorem dX2_stands_5 : decode cX2_stands 5 = .ok (.if_icmp .ne 7, 3) := by decide +kernel
theorem dX2_stands_8 : decode cX2_stands 8 = .ok (.iconst 1, 1) := by decide +kernel
theorem dX2_stands_9 : decode cX2_stands 9 = .ok (.goto 4, 3) := by decide +kernel
theorem dX2_stands_12 : decode cX2_stands 12 = .ok (.iconst 0, 1) := by decide +kernel
theorem dX2_stands_13 : decode cX2_stands 13 = .ok (.ireturn, 1) := by decide +kernel
theorem dX2_timesAtOnce_0 : decode cX2_timesAtOnce 0 = .ok (.aload_n 0, 1) := by decide +kernel
theorem dX2_timesAtOnce_1 : decode cX2_timesAtOnce 1 = .ok (.iload_n 1, 1) := by decide +kernel
theorem dX2_timesAtOnce_2 : decode cX2_timesAtOnce 2 = .ok (.invokevirtual 41, 3) := by decide +kernel
theorem dX2_timesAtOnce_5 : decode cX2_timesAtOnce 5 = .ok (.ifCond .ne 5, 3) := by decide +kernel
theorem dX2_timesAtOnce_8 : decode cX2_timesAtOnce 8 = .ok (.iconst 0, 1) := by decide +kernel
theorem dX2_timesAtOnce_9 : decode cX2_timesAtOnce 9 = .ok (.ireturn, 1) := by decide +kernel
theorem dX2_timesAtOnce_10 : decode cX2_timesAtOnce 10 = .ok (.aload_n 0, 1) := by decide +kernel
theorem dX2_timesAtOnce_11 : decode cX2_timesAtOnce 11 = .ok (.getfield 22, 3) := by decide +kernel
theorem dX2_timesAtOnce_14 : decode cX2_timesAtOnce 14 = .ok (.iload_n 1, 1) := by decide +kernel
theorem dX2_timesAtOnce_15 : decode cX2_timesAtOnce 15 = .ok (.iconst 1, 1) := by decide +kernel
theorem dX2_timesAtOnce_16 : decode cX2_timesAtOnce 16 = .ok (.invokevirtual 49, 3) := by decide +kernel
theorem dX2_timesAtOnce_19 : decode cX2_timesAtOnce 19 = .ok (.ifCond .eq 22, 3) := by decide +kernel
theorem dX2_timesAtOnce_22 : decode cX2_timesAtOnce 22 = .ok (.aload_n 0, 1) := by decide +kernel
theorem dX2_timesAtOnce_23 : decode cX2_timesAtOnce 23 = .ok (.getfield 9, 3) := by decide +kernel
theorem dX2_timesAtOnce_26 : decode cX2_timesAtOnce 26 = .ok (.iload_n 1, 1) := by decide +kernel
theorem dX2_timesAtOnce_27 : decode cX2_timesAtOnce 27 = .ok (.iaload, 1) := by decide +kernel
theorem dX2_timesAtOnce_28 : decode cX2_timesAtOnce 28 = .ok (.aload_n 0, 1) := by decide +kernel
theorem dX2_timesAtOnce_29 : decode cX2_timesAtOnce 29 = .ok (.getfield 22, 3) := by decide +kernel
theorem dX2_timesAtOnce_32 : decode cX2_timesAtOnce 32 = .ok (.getfield 38, 3) := by decide +kernel
theorem dX2_timesAtOnce_35 : decode cX2_timesAtOnce 35 = .ok (.iload_n 1, 1) := by decide +kernel
theorem dX2_timesAtOnce_36 : decode cX2_timesAtOnce 36 = .ok (.iaload, 1) := by decide +kernel
theorem dX2_timesAtOnce_37 : decode cX2_timesAtOnce 37 = .ok (.idiv, 1) := by decide +kernel
theorem dX2_timesAtOnce_38 : decode cX2_timesAtOnce 38 = .ok (.goto 4, 3) := by decide +kernel
theorem dX2_timesAtOnce_41 : decode cX2_timesAtOnce 41 = .ok (.iconst 1, 1) := by decide +kernel
theorem dX2_timesAtOnce_42 : decode cX2_timesAtOnce 42 = .ok (.ireturn, 1) := by decide +kernel
theorem dX2_wouldOverfill_0 : decode cX2_wouldOverfill 0 = .ok (.aload_n 0, 1) := by decide +kernel
theorem dX2_wouldOverfill_1 : decode cX2_wouldOverfill 1 = .ok (.iload_n 1, 1) := by decide +kernel
theorem dX2_wouldOverfill_2 : decode cX2_wouldOverfill 2 = .ok (.invokevirtual 53, 3) := by decide +kernel
theorem dX2_wouldOverfill_5 : decode cX2_wouldOverfill 5 = .ok (.istore_n 2, 1) := by decide +kernel
theorem dX2_wouldOverfill_6 : decode cX2_wouldOverfill 6 = .ok (.iconst 0, 1) := by decide +kernel
theorem dX2_wouldOverfill_7 : decode cX2_wouldOverfill 7 = .ok (.istore_n 3, 1) := by decide +kernel
theorem dX2_wouldOverfill_8 : decode cX2_wouldOverfill 8 = .ok (.iload_n 3, 1) := by decide +kernel
theorem dX2_wouldOverfill_9 : decode cX2_wouldOverfill 9 = .ok (.aload_n 0, 1) := by decide +kernel
theorem dX2_wouldOverfill_10 : decode cX2_wouldOverfill 10 = .ok (.getfield 22, 3) := by decide +kernel
theorem dX2_wouldOverfill_13 : decode cX2_wouldOverfill 13 = .ok (.getfield 32, 3) := by decide +kernel
theorem dX2_wouldOverfill_16 : decode cX2_wouldOverfill 16 = .ok (.if_icmp .ge 41, 3) := by decide +kernel
theorem dX2_wouldOverfill_19 : decode cX2_wouldOverfill 19 = .ok (.aload_n 0, 1) := by decide +kernel
theorem dX2_wouldOverfill_20 : decode cX2_wouldOverfill 20 = .ok (.getfield 9, 3) := by decide +kernel
theorem dX2_wouldOverfill_23 : decode cX2_wouldOverfill 23 = .ok (.iload_n 3, 1) := by decide +kernel
theorem dX2_wouldOverfill_24 : decode cX2_wouldOverfill 24 = .ok (.iaload, 1) := by decide +kernel
theorem dX2_wouldOverfill_25 : decode cX2_wouldOverfill 25 = .ok (.i2l, 1) := by decide +kernel
theorem dX2_wouldOverfill_26 : decode cX2_wouldOverfill 26 = .ok (.iload_n 2, 1) := by decide +kernel
theorem dX2_wouldOverfill_27 : decode cX2_wouldOverfill 27 = .ok (.i2l, 1) := by decide +kernel
theorem dX2_wouldOverfill_28 : decode cX2_wouldOverfill 28 = .ok (.aload_n 0, 1) := by decide +kernel
theorem dX2_wouldOverfill_29 : decode cX2_wouldOverfill 29 = .ok (.getfield 22, 3) := by decide +kernel
theorem dX2_wouldOverfill_32 : decode cX2_wouldOverfill 32 = .ok (.getfield 57, 3) := by decide +kernel
theorem dX2_wouldOverfill_35 : decode cX2_wouldOverfill 35 = .ok (.iload_n 1, 1) := by decide +kernel
theorem dX2_wouldOverfill_36 : decode cX2_wouldOverfill 36 = .ok (.aaload, 1) := by decide +kernel
theorem dX2_wouldOverfill_37 : decode cX2_wouldOverfill 37 = .ok (.iload_n 3, 1) := by decide +kernel
theorem dX2_wouldOverfill_38 : decode cX2_wouldOverfill 38 = .ok (.iaload, 1) := by decide +kernel
theorem dX2_wouldOverfill_39 : decode cX2_wouldOverfill 39 = .ok (.i2l, 1) := by decide +kernel
theorem dX2_wouldOverfill_40 : decode cX2_wouldOverfill 40 = .ok (.lmul, 1) := by decide +kernel
theorem dX2_wouldOverfill_41 : decode cX2_wouldOverfill 41 = .ok (.ladd, 1) := by decide +kernel
theorem dX2_wouldOverfill_42 : decode cX2_wouldOverfill 42 = .ok (.ldc2_w 61, 3) := by decide +kernel
theorem dX2_wouldOverfill_45 : decode cX2_wouldOverfill 45 = .ok (.lcmp, 1) := by decide +kernel
theorem dX2_wouldOverfill_46 : decode cX2_wouldOverfill 46 = .ok (.ifCond .le 5, 3) := by decide +kernel
theorem dX2_wouldOverfill_49 : decode cX2_wouldOverfill 49 = .ok (.iconst 1, 1) := by decide +kernel
theorem dX2_wouldOverfill_50 : decode cX2_wouldOverfill 50 = .ok (.ireturn, 1) := by decide +kernel
theorem dX2_wouldOverfill_51 : decode cX2_wouldOverfill 51 = .ok (.iinc 3 1, 3) := by decide +kernel
theorem dX2_wouldOverfill_54 : decode cX2_wouldOverfill 54 = .ok (.goto (-46), 3) := by decide +kernel
theorem dX2_wouldOverfill_57 : decode cX2_wouldOverfill 57 = .ok (.iconst 0, 1) := by decide +kernel
theorem dX2_wouldOverfill_58 : decode cX2_wouldOverfill 58 = .ok (.ireturn, 1) := by decide +kernel
theorem dX2_letSlide_0 : decode cX2_letSlide 0 = .ok (.aload_n 0, 1) := by decide +kernel
theorem dX2_letSlide_1 : decode cX2_letSlide 1 = .ok (.iload_n 1, 1) := by decide +kernel
theorem dX2_letSlide_2 : decode cX2_letSlide 2 = .ok (.invokevirtual 53, 3) := by decide +kernel
theorem dX2_letSlide_5 : decode cX2_letSlide 5 = .ok (.istore_n 2, 1) := by decide +kernel
theorem dX2_letSlide_6 : decode cX2_letSlide 6 = .ok (.aload_n 0, 1) := by decide +kernel
theorem dX2_letSlide_7 : decode cX2_letSlide 7 = .ok (.getfield 9, 3) := by decide +kernel
theorem dX2_letSlide_10 : decode cX2_letSlide 10 = .ok (.iload_n 1, 1) := by decide +kernel
theorem dX2_letSlide_11 : decode cX2_letSlide 11 = .ok (.dup2, 1) := by decide +kernel
theorem dX2_letSlide_12 : decode cX2_letSlide 12 = .ok (.iaload, 1) := by decide +kernel
theorem dX2_letSlide_13 : decode cX2_letSlide 13 = .ok (.iload_n 2, 1) := by decide +kernel
theorem dX2_letSlide_14 : decode cX2_letSlide 14 = .ok (.aload_n 0, 1) := by decide +kernel
theorem dX2_letSlide_15 : decode cX2_letSlide 15 = .ok (.getfield 22, 3) := by decide +kernel
theorem dX2_letSlide_18 : decode cX2_letSlide 18 = .ok (.getfield 38, 3) := by decide +kernel
theorem dX2_letSlide_21 : decode cX2_letSlide 21 = .ok (.iload_n 1, 1) := by decide +kernel
theorem dX2_letSlide_22 : decode cX2_letSlide 22 = .ok (.iaload, 1) := by decide +kernel
theorem dX2_letSlide_23 : decode cX2_letSlide 23 = .ok (.imul, 1) := by decide +kernel
theorem dX2_letSlide_24 : decode cX2_letSlide 24 = .ok (.isub, 1) := by decide +kernel
theorem dX2_letSlide_25 : decode cX2_letSlide 25 = .ok (.iastore, 1) := by decide +kernel
theorem dX2_letSlide_26 : decode cX2_letSlide 26 = .ok (.iconst 0, 1) := by decide +kernel
theorem dX2_letSlide_27 : decode cX2_letSlide 27 = .ok (.istore_n 3, 1) := by decide +kernel
theorem dX2_letSlide_28 : decode cX2_letSlide 28 = .ok (.iload_n 3, 1) := by decide +kernel
theorem dX2_letSlide_29 : decode cX2_letSlide 29 = .ok (.aload_n 0, 1) := by decide +kernel
theorem dX2_letSlide_30 : decode cX2_letSlide 30 = .ok (.getfield 22, 3) := by decide +kernel
theorem dX2_letSlide_33 : decode cX2_letSlide 33 = .ok (.getfield 32, 3) := by decide +kernel
theorem dX2_letSlide_36 : decode cX2_letSlide 36 = .ok (.if_icmp .ge 31, 3) := by decide +kernel
theorem dX2_letSlide_39 : decode cX2_letSlide 39 = .ok (.aload_n 0, 1) := by decide +kernel
theorem dX2_letSlide_40 : decode cX2_letSlide 40 = .ok (.getfield 9, 3) := by decide +kernel
theorem dX2_letSlide_43 : decode cX2_letSlide 43 = .ok (.iload_n 3, 1) := by decide +kernel
theorem dX2_letSlide_44 : decode cX2_letSlide 44 = .ok (.dup2, 1) := by decide +kernel
theorem dX2_letSlide_45 : decode cX2_letSlide 45 = .ok (.iaload, 1) := by decide +kernel
theorem dX2_letSlide_46 : decode cX2_letSlide 46 = .ok (.iload_n 2, 1) := by decide +kernel
theorem dX2_letSlide_47 : decode cX2_letSlide 47 = .ok (.aload_n 0, 1) := by decide +kernel
theorem dX2_letSlide_48 : decode cX2_letSlide 48 = .ok (.getfield 22, 3) := by decide +kernel
theorem dX2_letSlide_51 : decode cX2_letSlide 51 = .ok (.getfield 57, 3) := by decide +kernel
theorem dX2_letSlide_54 : decode cX2_letSlide 54 = .ok (.iload_n 1, 1) := by decide +kernel
theorem dX2_letSlide_55 : decode cX2_letSlide 55 = .ok (.aaload, 1) := by decide +kernel
theorem dX2_letSlide_56 : decode cX2_letSlide 56 = .ok (.iload_n 3, 1) := by decide +kernel
theorem dX2_letSlide_57 : decode cX2_letSlide 57 = .ok (.iaload, 1) := by decide +kernel
theorem dX2_letSlide_58 : decode cX2_letSlide 58 = .ok (.imul, 1) := by decide +kernel
theorem dX2_letSlide_59 : decode cX2_letSlide 59 = .ok (.iadd, 1) := by decide +kernel
theorem dX2_letSlide_60 : decode cX2_letSlide 60 = .ok (.iastore, 1) := by decide +kernel
theorem dX2_letSlide_61 : decode cX2_letSlide 61 = .ok (.iinc 3 1, 3) := by decide +kernel
theorem dX2_letSlide_64 : decode cX2_letSlide 64 = .ok (.goto (-36), 3) := by decide +kernel
theorem dX2_letSlide_67 : decode cX2_letSlide 67 = .ok (.iconst 0, 1) := by decide +kernel
theorem dX2_letSlide_68 : decode cX2_letSlide 68 = .ok (.istore_n 3, 1) := by decide +kernel
theorem dX2_letSlide_69 : decode cX2_letSlide 69 = .ok (.iload_n 3, 1) := by decide +kernel
theorem dX2_letSlide_70 : decode cX2_letSlide 70 = .ok (.iconst 3, 1) := by decide +kernel
theorem dX2_letSlide_71 : decode cX2_letSlide 71 = .ok (.if_icmp .ge 36, 3) := by decide +kernel
theorem dX2_letSlide_74 : decode cX2_letSlide 74 = .ok (.aload_n 0, 1) := by decide +kernel
theorem dX2_letSlide_75 : decode cX2_letSlide 75 = .ok (.getfield 15, 3) := by decide +kernel
theorem dX2_letSlide_78 : decode cX2_letSlide 78 = .ok (.iload_n 3, 1) := by decide +kernel
theorem dX2_letSlide_79 : decode cX2_letSlide 79 = .ok (.dup2, 1) := by decide +kernel
theorem dX2_letSlide_80 : decode cX2_letSlide 80 = .ok (.laload, 1) := by decide +kernel
theorem dX2_letSlide_81 : decode cX2_letSlide 81 = .ok (.iload_n 2, 1) := by decide +kernel
theorem dX2_letSlide_82 : decode cX2_letSlide 82 = .ok (.i2l, 1) := by decide +kernel
theorem dX2_letSlide_83 : decode cX2_letSlide 83 = .ok (.aload_n 0, 1) := by decide +kernel
theorem dX2_letSlide_84 : decode cX2_letSlide 84 = .ok (.getfield 22, 3) := by decide +kernel
theorem dX2_letSlide_87 : decode cX2_letSlide 87 = .ok (.getfield 57, 3) := by decide +kernel
theorem dX2_letSlide_90 : decode cX2_letSlide 90 = .ok (.iload_n 1, 1) := by decide +kernel
theorem dX2_letSlide_91 : decode cX2_letSlide 91 = .ok (.aaload, 1) := by decide +kernel
theorem dX2_letSlide_92 : decode cX2_letSlide 92 = .ok (.bipush 12, 2) := by decide +kernel
theorem dX2_letSlide_94 : decode cX2_letSlide 94 = .ok (.iload_n 3, 1) := by decide +kernel
theorem dX2_letSlide_95 : decode cX2_letSlide 95 = .ok (.iadd, 1) := by decide +kernel
theorem dX2_letSlide_96 : decode cX2_letSlide 96 = .ok (.iaload, 1) := by decide +kernel
theorem dX2_letSlide_97 : decode cX2_letSlide 97 = .ok (.i2l, 1) := by decide +kernel
theorem dX2_letSlide_98 : decode cX2_letSlide 98 = .ok (.lmul, 1) := by decide +kernel
theorem dX2_letSlide_99 : decode cX2_letSlide 99 = .ok (.ladd, 1) := by decide +kernel
theorem dX2_letSlide_100 : decode cX2_letSlide 100 = .ok (.lastore, 1) := by decide +kernel
theorem dX2_letSlide_101 : decode cX2_letSlide 101 = .ok (.iinc 3 1, 3) := by decide +kernel
theorem dX2_letSlide_104 : decode cX2_letSlide 104 = .ok (.goto (-35), 3) := by decide +kernel
theorem dX2_letSlide_107 : decode cX2_letSlide 107 = .ok (.aload_n 0, 1) := by decide +kernel
theorem dX2_letSlide_108 : decode cX2_letSlide 108 = .ok (.getfield 19, 3) := by decide +kernel
theorem dX2_letSlide_111 : decode cX2_letSlide 111 = .ok (.iload_n 1, 1) := by decide +kernel
theorem dX2_letSlide_112 : decode cX2_letSlide 112 = .ok (.dup2, 1) := by decide +kernel
theorem dX2_letSlide_113 : decode cX2_letSlide 113 = .ok (.laload, 1) := by decide +kernel
theorem dX2_letSlide_114 : decode cX2_letSlide 114 = .ok (.iload_n 2, 1) := by decide +kernel
theorem dX2_letSlide_115 : decode cX2_letSlide 115 = .ok (.i2l, 1) := by decide +kernel
theorem dX2_letSlide_116 : decode cX2_letSlide 116 = .ok (.ladd, 1) := by decide +kernel
theorem dX2_letSlide_117 : decode cX2_letSlide 117 = .ok (.lastore, 1) := by decide +kernel
theorem dX2_letSlide_118 : decode cX2_letSlide 118 = .ok (.iload_n 2, 1) := by decide +kernel
theorem dX2_letSlide_119 : decode cX2_letSlide 119 = .ok (.ireturn, 1) := by decide +kernel
theorem dX2_isOverfilled_0 : decode cX2_isOverfilled 0 = .ok (.iconst 0, 1) := by decide +kernel
theorem dX2_isOverfilled_1 : decode cX2_isOverfilled 1 = .ok (.istore_n 1, 1) := by decide +kernel
theorem dX2_isOverfilled_2 : decode cX2_isOverfilled 2 = .ok (.iload_n 1, 1) := by decide +kernel
theorem dX2_isOverfilled_3 : decode cX2_isOverfilled 3 = .ok (.aload_n 0, 1) := by decide +kernel
theorem dX2_isOverfilled_4 : decode cX2_isOverfilled 4 = .ok (.getfield 22, 3) := by decide +kernel
theorem dX2_isOverfilled_7 : decode cX2_isOverfilled 7 = .ok (.getfield 32, 3) := by decide +kernel
theorem dX2_isOverfilled_10 : decode cX2_isOverfilled 10 = .ok (.if_icmp .ge 22, 3) := by decide +kernel
theorem dX2_isOverfilled_13 : decode cX2_isOverfilled 13 = .ok (.aload_n 0, 1) := by decide +kernel
theorem dX2_isOverfilled_14 : decode cX2_isOverfilled 14 = .ok (.getfield 9, 3) := by decide +kernel
theorem dX2_isOverfilled_17 : decode cX2_isOverfilled 17 = .ok (.iload_n 1, 1) := by decide +kernel
theorem dX2_isOverfilled_18 : decode cX2_isOverfilled 18 = .ok (.iaload, 1) := by decide +kernel
theorem dX2_isOverfilled_19 : decode cX2_isOverfilled 19 = .ok (.ldc 63, 2) := by decide +kernel
theorem dX2_isOverfilled_21 : decode cX2_isOverfilled 21 = .ok (.if_icmp .le 5, 3) := by decide +kernel
theorem dX2_isOverfilled_24 : decode cX2_isOverfilled 24 = .ok (.iconst 1, 1) := by decide +kernel
theorem dX2_isOverfilled_25 : decode cX2_isOverfilled 25 = .ok (.ireturn, 1) := by decide +kernel
theorem dX2_isOverfilled_26 : decode cX2_isOverfilled 26 = .ok (.iinc 1 1, 3) := by decide +kernel
theorem dX2_isOverfilled_29 : decode cX2_isOverfilled 29 = .ok (.goto (-27), 3) := by decide +kernel
theorem dX2_isOverfilled_32 : decode cX2_isOverfilled 32 = .ok (.iconst 0, 1) := by decide +kernel
theorem dX2_isOverfilled_33 : decode cX2_isOverfilled 33 = .ok (.ireturn, 1) := by decide +kernel
theorem dX2_settle_0 : decode cX2_settle 0 = .ok (.aload_n 0, 1) := by decide +kernel
theorem dX2_settle_1 : decode cX2_settle 1 = .ok (.invokevirtual 64, 3) := by decide +kernel
theorem dX2_settle_4 : decode cX2_settle 4 = .ok (.ifCond .eq 5, 3) := by decide +kernel
theorem dX2_settle_7 : decode cX2_settle 7 = .ok (.iconst 0, 1) := by decide +kernel
theorem dX2_settle_8 : decode cX2_settle 8 = .ok (.ireturn, 1) := by decide +kernel
theorem dX2_settle_9 : decode cX2_settle 9 = .ok (.iconst 0, 1) := by decide +kernel
theorem dX2_settle_10 : decode cX2_settle 10 = .ok (.istore_n 1, 1) := by decide +kernel
theorem dX2_settle_11 : decode cX2_settle 11 = .ok (.iload_n 1, 1) := by decide +kernel
theorem dX2_settle_12 : decode cX2_settle 12 = .ok (.sipush 20000, 3) := by decide +kernel
theorem dX2_settle_15 : decode cX2_settle 15 = .ok (.if_icmp .ge 37, 3) := by decide +kernel
theorem dX2_settle_18 : decode cX2_settle 18 = .ok (.aload_n 0, 1) := by decide +kernel
theorem dX2_settle_19 : decode cX2_settle 19 = .ok (.invokevirtual 45, 3) := by decide +kernel
theorem dX2_settle_22 : decode cX2_settle 22 = .ok (.istore_n 2, 1) := by decide +kernel
theorem dX2_settle_23 : decode cX2_settle 23 = .ok (.iload_n 2, 1) := by decide +kernel
theorem dX2_settle_24 : decode cX2_settle 24 = .ok (.iconst (-1), 1) := by decide +kernel
theorem dX2_settle_25 : decode cX2_settle 25 = .ok (.if_icmp .ne 5, 3) := by decide +kernel
theorem dX2_settle_28 : decode cX2_settle 28 = .ok (.iconst 1, 1) := by decide +kernel
theorem dX2_settle_29 : decode cX2_settle 29 = .ok (.ireturn, 1) := by decide +kernel
theorem dX2_settle_30 : decode cX2_settle 30 = .ok (.aload_n 0, 1) := by decide +kernel
theorem dX2_settle_31 : decode cX2_settle 31 = .ok (.iload_n 2, 1) := by decide +kernel
theorem dX2_settle_32 : decode cX2_settle 32 = .ok (.invokevirtual 68, 3) := by decide +kernel
theorem dX2_settle_35 : decode cX2_settle 35 = .ok (.ifCond .eq 5, 3) := by decide +kernel
theorem dX2_settle_38 : decode cX2_settle 38 = .ok (.iconst 0, 1) := by decide +kernel
theorem dX2_settle_39 : decode cX2_settle 39 = .ok (.ireturn, 1) := by decide +kernel
theorem dX2_settle_40 : decode cX2_settle 40 = .ok (.aload_n 0, 1) := by decide +kernel
theorem dX2_settle_41 : decode cX2_settle 41 = .ok (.iload_n 2, 1) := by decide +kernel
theorem dX2_settle_42 : decode cX2_settle 42 = .ok (.invokevirtual 71, 3) := by decide +kernel
theorem dX2_settle_45 : decode cX2_settle 45 = .ok (.pop, 1) := by decide +kernel
theorem dX2_settle_46 : decode cX2_settle 46 = .ok (.iinc 1 1, 3) := by decide +kernel
theorem dX2_settle_49 : decode cX2_settle 49 = .ok (.goto (-38), 3) := by decide +kernel
theorem dX2_settle_52 : decode cX2_settle 52 = .ok (.aload_n 0, 1) := by decide +kernel
theorem dX2_settle_53 : decode cX2_settle 53 = .ok (.invokevirtual 74, 3) := by decide +kernel
theorem dX2_settle_56 : decode cX2_settle 56 = .ok (.ireturn, 1) := by decide +kernel
theorem dX3_init_0 : decode cX3_init 0 = .ok (.aload_n 0, 1) := by decide +kernel
theorem dX3_init_1 : decode cX3_init 1 = .ok (.invokespecial 3, 3) := by decide +kernel
theorem dX3_init_4 : decode cX3_init 4 = .ok (.aload_n 0, 1) := by decide +kernel
theorem dX3_init_5 : decode cX3_init 5 = .ok (.bipush 20, 2) := by decide +kernel
theorem dX3_init_7 : decode cX3_init 7 = .ok (.anewarray 9, 3) := by decide +kernel
theorem dX3_init_10 : decode cX3_init 10 = .ok (.putfield 11, 3) := by decide +kernel
theorem dX3_init_13 : decode cX3_init 13 = .ok (.iconst 0, 1) := by decide +kernel
theorem dX3_init_14 : decode cX3_init 14 = .ok (.istore_n 1, 1) := by decide +kernel
theorem dX3_init_15 : decode cX3_init 15 = .ok (.iload_n 1, 1) := by decide +kernel
theorem dX3_init_16 : decode cX3_init 16 = .ok (.bipush 20, 2) := by decide +kernel
theorem dX3_init_18 : decode cX3_init 18 = .ok (.if_icmp .ge 22, 3) := by decide +kernel
theorem dX3_init_21 : decode cX3_init 21 = .ok (.aload_n 0, 1) := by decide +kernel
theorem dX3_init_22 : decode cX3_init 22 = .ok (.getfield 11, 3) := by decide +kernel
theorem dX3_init_25 : decode cX3_init 25 = .ok (.iload_n 1, 1) := by decide +kernel
theorem dX3_init_26 : decode cX3_init 26 = .ok (.new 9, 3) := by decide +kernel
theorem dX3_init_29 : decode cX3_init 29 = .ok (.dup, 1) := by decide +kernel
theorem dX3_init_30 : decode cX3_init 30 = .ok (.invokespecial 17, 3) := by decide +kernel
theorem dX3_init_33 : decode cX3_init 33 = .ok (.aastore, 1) := by decide +kernel
theorem dX3_init_34 : decode cX3_init 34 = .ok (.iinc 1 1, 3) := by decide +kernel
theorem dX3_init_37 : decode cX3_init 37 = .ok (.goto (-22), 3) := by decide +kernel
theorem dX3_init_40 : decode cX3_init 40 = .ok (.return_, 1) := by decide +kernel
theorem dX3_clear_0 : decode cX3_clear 0 = .ok (.aload_n 0, 1) := by decide +kernel
theorem dX3_clear_1 : decode cX3_clear 1 = .ok (.iconst 0, 1) := by decide +kernel
theorem dX3_clear_2 : decode cX3_clear 2 = .ok (.putfield 18, 3) := by decide +kernel
theorem dX3_clear_5 : decode cX3_clear 5 = .ok (.aload_n 0, 1) := by decide +kernel
theorem dX3_clear_6 : decode cX3_clear 6 = .ok (.iconst 0, 1) := by decide +kernel
theorem dX3_clear_7 : decode cX3_clear 7 = .ok (.putfield 22, 3) := by decide +kernel
theorem dX3_clear_10 : decode cX3_clear 10 = .ok (.return_, 1) := by decide +kernel
theorem dX3_note_0 : decode cX3_note 0 = .ok (.aload_n 0, 1) := by decide +kernel
theorem dX3_note_1 : decode cX3_note 1 = .ok (.getfield 11, 3) := by decide +kernel
theorem dX3_note_4 : decode cX3_note 4 = .ok (.aload_n 0, 1) := by decide +kernel
theorem dX3_note_5 : decode cX3_note 5 = .ok (.getfield 18, 3) := by decide +kernel
theorem dX3_note_8 : decode cX3_note 8 = .ok (.aaload, 1) := by decide +kernel
theorem dX3_note_9 : decode cX3_note 9 = .ok (.aload_n 1, 1) := by decide +kernel
theorem dX3_note_10 : decode cX3_note 10 = .ok (.aload_n 2, 1) := by decide +kernel
theorem dX3_note_11 : decode cX3_note 11 = .ok (.invokevirtual 25, 3) := by decide +kernel
theorem dX3_note_14 : decode cX3_note 14 = .ok (.aload_n 0, 1) := by decide +kernel
theorem dX3_note_15 : decode cX3_note 15 = .ok (.aload_n 0, 1) := by decide +kernel
theorem dX3_note_16 : decode cX3_note 16 = .ok (.getfield 18, 3) := by decide +kernel
theorem dX3_note_19 : decode cX3_note 19 = .ok (.iconst 1, 1) := by decide +kernel
theorem dX3_note_20 : decode cX3_note 20 = .ok (.iadd, 1) := by decide +kernel
theorem dX3_note_21 : decode cX3_note 21 = .ok (.bipush 20, 2) := by decide +kernel
theorem dX3_note_23 : decode cX3_note 23 = .ok (.irem, 1) := by decide +kernel
theorem dX3_note_24 : decode cX3_note 24 = .ok (.putfield 18, 3) := by decide +kernel
theorem dX3_note_27 : decode cX3_note 27 = .ok (.aload_n 0, 1) := by decide +kernel
theorem dX3_note_28 : decode cX3_note 28 = .ok (.aload_n 0, 1) := by decide +kernel
theorem dX3_note_29 : decode cX3_note 29 = .ok (.getfield 22, 3) := by decide +kernel
theorem dX3_note_32 : decode cX3_note 32 = .ok (.iconst 1, 1) := by decide +kernel
theorem dX3_note_33 : decode cX3_note 33 = .ok (.iadd, 1) := by decide +kernel
theorem dX3_note_34 : decode cX3_note 34 = .ok (.bipush 20, 2) := by decide +kernel
theorem dX3_note_36 : decode cX3_note 36 = .ok (.invokestatic 29, 3) := by decide +kernel
theorem dX3_note_39 : decode cX3_note 39 = .ok (.putfield 22, 3) := by decide +kernel
theorem dX3_note_42 : decode cX3_note 42 = .ok (.return_, 1) := by decide +kernel
theorem dX3_goBack_0 : decode cX3_goBack 0 = .ok (.aload_n 0, 1) := by decide +kernel
theorem dX3_goBack_1 : decode cX3_goBack 1 = .ok (.getfield 22, 3) := by decide +kernel
theorem dX3_goBack_4 : decode cX3_goBack 4 = .ok (.ifCond .le 43, 3) := by decide +kernel
theorem dX3_goBack_7 : decode cX3_goBack 7 = .ok (.aload_n 0, 1) := by decide +kernel
theorem dX3_goBack_8 : decode cX3_goBack 8 = .ok (.aload_n 0, 1) := by decide +kernel
theorem dX3_goBack_9 : decode cX3_goBack 9 = .ok (.getfield 18, 3) := by decide +kernel
theorem dX3_goBack_12 : decode cX3_goBack 12 = .ok (.bipush 20, 2) := by decide +kernel
theorem dX3_goBack_14 : decode cX3_goBack 14 = .ok (.iadd, 1) := by decide +kernel
theorem dX3_goBack_15 : decode cX3_goBack 15 = .ok (.iconst 1, 1) := by decide +kernel
theorem dX3_goBack_16 : decode cX3_goBack 16 = .ok (.isub, 1) := by decide +kernel
theorem dX3_goBack_17 : decode cX3_goBack 17 = .ok (.bipush 20, 2) := by decide +kernel
theorem dX3_goBack_19 : decode cX3_goBack 19 = .ok (.irem, 1) := by decide +kernel
theorem dX3_goBack_20 : decode cX3_goBack 20 = .ok (.putfield 18, 3) := by decide +kernel
theorem dX3_goBack_23 : decode cX3_goBack 23 = .ok (.aload_n 0, 1) := by decide +kernel
theorem dX3_goBack_24 : decode cX3_goBack 24 = .ok (.dup, 1) := by decide +kernel
theorem dX3_goBack_25 : decode cX3_goBack 25 = .ok (.getfield 22, 3) := by decide +kernel
theorem dX3_goBack_28 : decode cX3_goBack 28 = .ok (.iconst 1, 1) := by decide +kernel
theorem dX3_goBack_29 : decode cX3_goBack 29 = .ok (.isub, 1) := by decide +kernel
theorem dX3_goBack_30 : decode cX3_goBack 30 = .ok (.putfield 22, 3) := by decide +kernel
theorem dX3_goBack_33 : decode cX3_goBack 33 = .ok (.aload_n 0, 1) := by decide +kernel
theorem dX3_goBack_34 : decode cX3_goBack 34 = .ok (.getfield 11, 3) := by decide +kernel
theorem dX3_goBack_37 : decode cX3_goBack 37 = .ok (.aload_n 0, 1) := by decide +kernel
theorem dX3_goBack_38 : decode cX3_goBack 38 = .ok (.getfield 18, 3) := by decide +kernel
theorem dX3_goBack_41 : decode cX3_goBack 41 = .ok (.aaload, 1) := by decide +kernel
theorem dX3_goBack_42 : decode cX3_goBack 42 = .ok (.aload_n 1, 1) := by decide +kernel
theorem dX3_goBack_43 : decode cX3_goBack 43 = .ok (.aload_n 2, 1) := by decide +kernel
theorem dX3_goBack_44 : decode cX3_goBack 44 = .ok (.invokevirtual 35, 3) := by decide +kernel
theorem dX3_goBack_47 : decode cX3_goBack 47 = .ok (.return_, 1) := by decide +kernel
theorem dX4_init_0 : decode cX4_init 0 = .ok (.aload_n 0, 1) := by decide +kernel
theorem dX4_init_1 : decode cX4_init 1 = .ok (.invokespecial 3, 3) := by decide +kernel
theorem dX4_init_4 : decode cX4_init 4 = .ok (.aload_n 0, 1) := by decide +kernel
theorem dX4_init_5 : decode cX4_init 5 = .ok (.bipush 12, 2) := by decide +kernel
theorem dX4_init_7 : decode cX4_init 7 = .ok (.newarray .int, 2) := by decide +kernel
theorem dX4_init_9 : decode cX4_init 9 = .ok (.putfield 9, 3) := by decide +kernel
theorem dX4_init_12 : decode cX4_init 12 = .ok (.aload_n 0, 1) := by decide +kernel
theorem dX4_init_13 : decode cX4_init 13 = .ok (.iconst 3, 1) := by decide +kernel
theorem dX4_init_14 : decode cX4_init 14 = .ok (.newarray .long, 2) := by decide +kernel
theorem dX4_init_16 : decode cX4_init 16 = .ok (.putfield 15, 3) := by decide +kernel
theorem dX4_init_19 : decode cX4_init 19 = .ok (.aload_n 0, 1) := by decide +kernel
theorem dX4_init_20 : decode cX4_init 20 = .ok (.bipush 12, 2) := by decide +kernel
theorem dX4_init_22 : decode cX4_init 22 = .ok (.newarray .long, 2) := by decide +kernel
theorem dX4_init_24 : decode cX4_init 24 = .ok (.putfield 19, 3) := by decide +kernel
theorem dX4_init_27 : decode cX4_init 27 = .ok (.aload_n 0, 1) := by decide +kernel
theorem dX4_init_28 : decode cX4_init 28 = .ok (.bipush 12, 2) := by decide +kernel
theorem dX4_init_30 : decode cX4_init 30 = .ok (.newarray .int, 2) := by decide +kernel
theorem dX4_init_32 : decode cX4_init 32 = .ok (.putfield 22, 3) := by decide +kernel
theorem dX4_init_35 : decode cX4_init 35 = .ok (.return_, 1) := by decide +kernel
theorem dX4_takeFrom_0 : decode cX4_takeFrom 0 = .ok (.aload_n 1, 1) := by decide +kernel
theorem dX4_takeFrom_1 : decode cX4_takeFrom 1 = .ok (.getfield 25, 3) := by decide +kernel
theorem dX4_takeFrom_4 : decode cX4_takeFrom 4 = .ok (.iconst 0, 1) := by decide +kernel
theorem dX4_takeFrom_5 : decode cX4_takeFrom 5 = .ok (.aload_n 0, 1) := by decide +kernel
theorem dX4_takeFrom_6 : decode cX4_takeFrom 6 = .ok (.getfield 9, 3) := by decide +kernel
theorem dX4_takeFrom_9 : decode cX4_takeFrom 9 = .ok (.iconst 0, 1) := by decide +kernel
theorem dX4_takeFrom_10 : decode cX4_takeFrom 10 = .ok (.bipush 12, 2) := by decide +kernel
theorem dX4_takeFrom_12 : decode cX4_takeFrom 12 = .ok (.invokestatic 28, 3) := by decide +kernel
theorem dX4_takeFrom_15 : decode cX4_takeFrom 15 = .ok (.aload_n 1, 1) := by decide +kernel
theorem dX4_takeFrom_16 : decode cX4_takeFrom 16 = .ok (.getfield 34, 3) := by decide +kernel
theorem dX4_takeFrom_19 : decode cX4_takeFrom 19 = .ok (.iconst 0, 1) := by decide +kernel
theorem dX4_takeFrom_20 : decode cX4_takeFrom 20 = .ok (.aload_n 0, 1) := by decide +kernel
theorem dX4_takeFrom_21 : decode cX4_takeFrom 21 = .ok (.getfield 15, 3) := by decide +kernel
theorem dX4_takeFrom_24 : decode cX4_takeFrom 24 = .ok (.iconst 0, 1) := by decide +kernel
theorem dX4_takeFrom_25 : decode cX4_takeFrom 25 = .ok (.iconst 3, 1) := by decide +kernel
theorem dX4_takeFrom_26 : decode cX4_takeFrom 26 = .ok (.invokestatic 28, 3) := by decide +kernel
theorem dX4_takeFrom_29 : decode cX4_takeFrom 29 = .ok (.aload_n 1, 1) := by decide +kernel
theorem dX4_takeFrom_30 : decode cX4_takeFrom 30 = .ok (.getfield 35, 3) := by decide +kernel
theorem dX4_takeFrom_33 : decode cX4_takeFrom 33 = .ok (.iconst 0, 1) := by decide +kernel
theorem dX4_takeFrom_34 : decode cX4_takeFrom 34 = .ok (.aload_n 0, 1) := by decide +kernel
theorem dX4_takeFrom_35 : decode cX4_takeFrom 35 = .ok (.getfield 19, 3) := by decide +kernel
theorem dX4_takeFrom_38 : decode cX4_takeFrom 38 = .ok (.iconst 0, 1) := by decide +kernel
theorem dX4_takeFrom_39 : decode cX4_takeFrom 39 = .ok (.bipush 12, 2) := by decide +kernel
theorem dX4_takeFrom_41 : decode cX4_takeFrom 41 = .ok (.invokestatic 28, 3) := by decide +kernel
theorem dX4_takeFrom_44 : decode cX4_takeFrom 44 = .ok (.aload_n 2, 1) := by decide +kernel
theorem dX4_takeFrom_45 : decode cX4_takeFrom 45 = .ok (.getfield 36, 3) := by decide +kernel
theorem dX4_takeFrom_48 : decode cX4_takeFrom 48 = .ok (.iconst 0, 1) := by decide +kernel
theorem dX4_takeFrom_49 : decode cX4_takeFrom 49 = .ok (.aload_n 0, 1) := by decide +kernel
theorem dX4_takeFrom_50 : decode cX4_takeFrom 50 = .ok (.getfield 22, 3) := by decide +kernel
theorem dX4_takeFrom_53 : decode cX4_takeFrom 53 = .ok (.iconst 0, 1) := by decide +kernel
theorem dX4_takeFrom_54 : decode cX4_takeFrom 54 = .ok (.bipush 12, 2) := by decide +kernel
theorem dX4_takeFrom_56 : decode cX4_takeFrom 56 = .ok (.invokestatic 28, 3) := by decide +kernel
theorem dX4_takeFrom_59 : decode cX4_takeFrom 59 = .ok (.aload_n 0, 1) := by decide +kernel
theorem dX4_takeFrom_60 : decode cX4_takeFrom 60 = .ok (.aload_n 2, 1) := by decide +kernel
theorem dX4_takeFrom_61 : decode cX4_takeFrom 61 = .ok (.getfield 39, 3) := by decide +kernel
theorem dX4_takeFrom_64 : decode cX4_takeFrom 64 = .ok (.putfield 43, 3) := by decide +kernel
theorem dX4_takeFrom_67 : decode cX4_takeFrom 67 = .ok (.aload_n 0, 1) := by decide +kernel
theorem dX4_takeFrom_68 : decode cX4_takeFrom 68 = .ok (.aload_n 2, 1) := by decide +kernel
theorem dX4_takeFrom_69 : decode cX4_takeFrom 69 = .ok (.getfield 44, 3) := by decide +kernel
theorem dX4_takeFrom_72 : decode cX4_takeFrom 72 = .ok (.putfield 48, 3) := by decide +kernel
theorem dX4_takeFrom_75 : decode cX4_takeFrom 75 = .ok (.return_, 1) := by decide +kernel
theorem dX4_giveTo_0 : decode cX4_giveTo 0 = .ok (.aload_n 0, 1) := by decide +kernel
theorem dX4_giveTo_1 : decode cX4_giveTo 1 = .ok (.getfield 9, 3) := by decide +kernel
theorem dX4_giveTo_4 : decode cX4_giveTo 4 = .ok (.iconst 0, 1) := by decide +kernel
theorem dX4_giveTo_5 : decode cX4_giveTo 5 = .ok (.aload_n 1, 1) := by decide +kernel
theorem dX4_giveTo_6 : decode cX4_giveTo 6 = .ok (.getfield 25, 3) := by decide +kernel
theorem dX4_giveTo_9 : decode cX4_giveTo 9 = .ok (.iconst 0, 1) := by decide +kernel
theorem dX4_giveTo_10 : decode cX4_giveTo 10 = .ok (.bipush 12, 2) := by decide +kernel
theorem dX4_giveTo_12 : decode cX4_giveTo 12 = .ok (.invokestatic 28, 3) := by decide +kernel
theorem dX4_giveTo_15 : decode cX4_giveTo 15 = .ok (.aload_n 0, 1) := by decide +kernel
theorem dX4_giveTo_16 : decode cX4_giveTo 16 = .ok (.getfield 15, 3) := by decide +kernel
theorem dX4_giveTo_19 : decode cX4_giveTo 19 = .ok (.iconst 0, 1) := by decide +kernel
theorem dX4_giveTo_20 : decode cX4_giveTo 20 = .ok (.aload_n 1, 1) := by decide +kernel
theorem dX4_giveTo_21 : decode cX4_giveTo 21 = .ok (.getfield 34, 3) := by decide +kernel
theorem dX4_giveTo_24 : decode cX4_giveTo 24 = .ok (.iconst 0, 1) := by decide +kernel
theorem dX4_giveTo_25 : decode cX4_giveTo 25 = .ok (.iconst 3, 1) := by decide +kernel
theorem dX4_giveTo_26 : decode cX4_giveTo 26 = .ok (.invokestatic 28, 3) := by decide +kernel
theorem dX4_giveTo_29 : decode cX4_giveTo 29 = .ok (.aload_n 0, 1) := by decide +kernel
theorem dX4_giveTo_30 : decode cX4_giveTo 30 = .ok (.getfield 19, 3) := by decide +kernel
theorem dX4_giveTo_33 : decode cX4_giveTo 33 = .ok (.iconst 0, 1) := by decide +kernel
theorem dX4_giveTo_34 : decode cX4_giveTo 34 = .ok (.aload_n 1, 1) := by decide +kernel
theorem dX4_giveTo_35 : decode cX4_giveTo 35 = .ok (.getfield 35, 3) := by decide +kernel
theorem dX4_giveTo_38 : decode cX4_giveTo 38 = .ok (.iconst 0, 1) := by decide +kernel
theorem dX4_giveTo_39 : decode cX4_giveTo 39 = .ok (.bipush 12, 2) := by decide +kernel
theorem dX4_giveTo_41 : decode cX4_giveTo 41 = .ok (.invokestatic 28, 3) := by decide +kernel
theorem dX4_giveTo_44 : decode cX4_giveTo 44 = .ok (.aload_n 0, 1) := by decide +kernel
theorem dX4_giveTo_45 : decode cX4_giveTo 45 = .ok (.getfield 22, 3) := by decide +kernel
theorem dX4_giveTo_48 : decode cX4_giveTo 48 = .ok (.iconst 0, 1) := by decide +kernel
theorem dX4_giveTo_49 : decode cX4_giveTo 49 = .ok (.aload_n 2, 1) := by decide +kernel
theorem dX4_giveTo_50 : decode cX4_giveTo 50 = .ok (.getfield 36, 3) := by decide +kernel
theorem dX4_giveTo_53 : decode cX4_giveTo 53 = .ok (.iconst 0, 1) := by decide +kernel
theorem dX4_giveTo_54 : decode cX4_giveTo 54 = .ok (.bipush 12, 2) := by decide +kernel
theorem dX4_giveTo_56 : decode cX4_giveTo 56 = .ok (.invokestatic 28, 3) := by decide +kernel
theorem dX4_giveTo_59 : decode cX4_giveTo 59 = .ok (.aload_n 2, 1) := by decide +kernel
theorem dX4_giveTo_60 : decode cX4_giveTo 60 = .ok (.aload_n 0, 1) := by decide +kernel
theorem dX4_giveTo_61 : decode cX4_giveTo 61 = .ok (.getfield 43, 3) := by decide +kernel
theorem dX4_giveTo_64 : decode cX4_giveTo 64 = .ok (.putfield 39, 3) := by decide +kernel
theorem dX4_giveTo_67 : decode cX4_giveTo 67 = .ok (.aload_n 2, 1) := by decide +kernel
theorem dX4_giveTo_68 : decode cX4_giveTo 68 = .ok (.aload_n 0, 1) := by decide +kernel
theorem dX4_giveTo_69 : decode cX4_giveTo 69 = .ok (.getfield 48, 3) := by decide +kernel
theorem dX4_giveTo_72 : decode cX4_giveTo 72 = .ok (.putfield 44, 3) := by decide +kernel
theorem dX4_giveTo_75 : decode cX4_giveTo 75 = .ok (.return_, 1) := by decide +kernel
theorem dX5_init_0 : decode cX5_init 0 = .ok (.aload_n 0, 1) := by decide +kernel
theorem dX5_init_1 : decode cX5_init 1 = .ok (.invokespecial 3, 3) := by decide +kernel
theorem dX5_init_4 : decode cX5_init 4 = .ok (.aload_n 0, 1) := by decide +kernel
theorem dX5_init_5 : decode cX5_init 5 = .ok (.sipush 200, 3) := by decide +kernel
theorem dX5_init_8 : decode cX5_init 8 = .ok (.newarray .int, 2) := by decide +kernel
theorem dX5_init_10 : decode cX5_init 10 = .ok (.putfield 9, 3) := by decide +kernel
theorem dX5_init_13 : decode cX5_init 13 = .ok (.return_, 1) := by decide +kernel
theorem dX5_clear_0 : decode cX5_clear 0 = .ok (.aload_n 0, 1) := by decide +kernel
theorem dX5_clear_1 : decode cX5_clear 1 = .ok (.iconst 0, 1) := by decide +kernel
theorem dX5_clear_2 : decode cX5_clear 2 = .ok (.putfield 15, 3) := by decide +kernel
theorem dX5_clear_5 : decode cX5_clear 5 = .ok (.return_, 1) := by decide +kernel
theorem dX5_add_0 : decode cX5_add 0 = .ok (.aload_n 0, 1) := by decide +kernel
theorem dX5_add_1 : decode cX5_add 1 = .ok (.getfield 9, 3) := by decide +kernel
theorem dX5_add_4 : decode cX5_add 4 = .ok (.aload_n 0, 1) := by decide +kernel
theorem dX5_add_5 : decode cX5_add 5 = .ok (.getfield 15, 3) := by decide +kernel
theorem dX5_add_8 : decode cX5_add 8 = .ok (.iload_n 1, 1) := by decide +kernel
theorem dX5_add_9 : decode cX5_add 9 = .ok (.iastore, 1) := by decide +kernel
theorem dX5_add_10 : decode cX5_add 10 = .ok (.aload_n 0, 1) := by decide +kernel
theorem dX5_add_11 : decode cX5_add 11 = .ok (.dup, 1) := by decide +kernel
theorem dX5_add_12 : decode cX5_add 12 = .ok (.getfield 15, 3) := by decide +kernel
theorem dX5_add_15 : decode cX5_add 15 = .ok (.iconst 1, 1) := by decide +kernel
theorem dX5_add_16 : decode cX5_add 16 = .ok (.iadd, 1) := by decide +kernel
theorem dX5_add_17 : decode cX5_add 17 = .ok (.putfield 15, 3) := by decide +kernel
theorem dX5_add_20 : decode cX5_add 20 = .ok (.aload_n 0, 1) := by decide +kernel
theorem dX5_add_21 : decode cX5_add 21 = .ok (.getfield 15, 3) := by decide +kernel
theorem dX5_add_24 : decode cX5_add 24 = .ok (.ireturn, 1) := by decide +kernel
theorem dX5_isOrderOf_0 : decode cX5_isOrderOf 0 = .ok (.aload_n 0, 1) := by decide +kernel
theorem dX5_isOrderOf_1 : decode cX5_isOrderOf 1 = .ok (.getfield 15, 3) := by decide +kernel
theorem dX5_isOrderOf_4 : decode cX5_isOrderOf 4 = .ok (.iload_n 1, 1) := by decide +kernel
theorem dX5_isOrderOf_5 : decode cX5_isOrderOf 5 = .ok (.if_icmp .ne 9, 3) := by decide +kernel
theorem dX5_isOrderOf_8 : decode cX5_isOrderOf 8 = .ok (.iload_n 1, 1) := by decide +kernel
theorem dX5_isOrderOf_9 : decode cX5_isOrderOf 9 = .ok (.bipush 12, 2) := by decide +kernel
theorem dX5_isOrderOf_11 : decode cX5_isOrderOf 11 = .ok (.if_icmp .le 5, 3) := by decide +kernel
theorem dX5_isOrderOf_14 : decode cX5_isOrderOf 14 = .ok (.iconst 0, 1) := by decide +kernel
theorem dX5_isOrderOf_15 : decode cX5_isOrderOf 15 = .ok (.ireturn, 1) := by decide +kernel
theorem dX5_isOrderOf_16 : decode cX5_isOrderOf 16 = .ok (.iconst 0, 1) := by decide +kernel
theorem dX5_isOrderOf_17 : decode cX5_isOrderOf 17 = .ok (.istore_n 2, 1) := by decide +kernel
theorem dX5_isOrderOf_18 : decode cX5_isOrderOf 18 = .ok (.iconst 0, 1) := by decide +kernel
theorem dX5_isOrderOf_19 : decode cX5_isOrderOf 19 = .ok (.istore_n 3, 1) := by decide +kernel
theorem dX5_isOrderOf_20 : decode cX5_isOrderOf 20 = .ok (.iload_n 3, 1) := by decide +kernel
theorem dX5_isOrderOf_21 : decode cX5_isOrderOf 21 = .ok (.aload_n 0, 1) := by decide +kernel
theorem dX5_isOrderOf_22 : decode cX5_isOrderOf 22 = .ok (.getfield 15, 3) := by decide +kernel
theorem dX5_isOrderOf_25 : decode cX5_isOrderOf 25 = .ok (.if_icmp .ge 54, 3) := by decide +kernel
theorem dX5_isOrderOf_28 : decode cX5_isOrderOf 28 = .ok (.aload_n 0, 1) := by decide +kernel
theorem dX5_isOrderOf_29 : decode cX5_isOrderOf 29 = .ok (.getfield 9, 3) := by decide +kernel
theorem dX5_isOrderOf_32 : decode cX5_isOrderOf 32 = .ok (.iload_n 3, 1) := by decide +kernel
theorem dX5_isOrderOf_33 : decode cX5_isOrderOf 33 = .ok (.iaload, 1) := by decide +kernel
theorem dX5_isOrderOf_34 : decode cX5_isOrderOf 34 = .ok (.ifCond .lt 26, 3) := by decide +kernel
theorem dX5_isOrderOf_37 : decode cX5_isOrderOf 37 = .ok (.aload_n 0, 1) := by decide +kernel
theorem dX5_isOrderOf_38 : decode cX5_isOrderOf 38 = .ok (.getfield 9, 3) := by decide +kernel
theorem dX5_isOrderOf_41 : decode cX5_isOrderOf 41 = .ok (.iload_n 3, 1) := by decide +kernel
theorem dX5_isOrderOf_42 : decode cX5_isOrderOf 42 = .ok (.iaload, 1) := by decide +kernel
theorem dX5_isOrderOf_43 : decode cX5_isOrderOf 43 = .ok (.iload_n 1, 1) := by decide +kernel
theorem dX5_isOrderOf_44 : decode cX5_isOrderOf 44 = .ok (.if_icmp .ge 16, 3) := by decide +kernel
theorem dX5_isOrderOf_47 : decode cX5_isOrderOf 47 = .ok (.iload_n 2, 1) := by decide +kernel
theorem dX5_isOrderOf_48 : decode cX5_isOrderOf 48 = .ok (.iconst 1, 1) := by decide +kernel
theorem dX5_isOrderOf_49 : decode cX5_isOrderOf 49 = .ok (.aload_n 0, 1) := by decide +kernel
theorem dX5_isOrderOf_50 : decode cX5_isOrderOf 50 = .ok (.getfield 9, 3) := by decide +kernel
theorem dX5_isOrderOf_53 : decode cX5_isOrderOf 53 = .ok (.iload_n 3, 1) := by decide +kernel
theorem dX5_isOrderOf_54 : decode cX5_isOrderOf 54 = .ok (.iaload, 1) := by decide +kernel
theorem dX5_isOrderOf_55 : decode cX5_isOrderOf 55 = .ok (.ishl, 1) := by decide +kernel
theorem dX5_isOrderOf_56 : decode cX5_isOrderOf 56 = .ok (.iand, 1) := by decide +kernel
theorem dX5_isOrderOf_57 : decode cX5_isOrderOf 57 = .ok (.ifCond .eq 5, 3) := by decide +kernel
theorem dX5_isOrderOf_60 : decode cX5_isOrderOf 60 = .ok (.iconst 0, 1) := by decide +kernel
theorem dX5_isOrderOf_61 : decode cX5_isOrderOf 61 = .ok (.ireturn, 1) := by decide +kernel
theorem dX5_isOrderOf_62 : decode cX5_isOrderOf 62 = .ok (.iload_n 2, 1) := by decide +kernel
theorem dX5_isOrderOf_63 : decode cX5_isOrderOf 63 = .ok (.iconst 1, 1) := by decide +kernel
theorem dX5_isOrderOf_64 : decode cX5_isOrderOf 64 = .ok (.aload_n 0, 1) := by decide +kernel
theorem dX5_isOrderOf_65 : decode cX5_isOrderOf 65 = .ok (.getfield 9, 3) := by decide +kernel
theorem dX5_isOrderOf_68 : decode cX5_isOrderOf 68 = .ok (.iload_n 3, 1) := by decide +kernel
theorem dX5_isOrderOf_69 : decode cX5_isOrderOf 69 = .ok (.iaload, 1) := by decide +kernel
theorem dX5_isOrderOf_70 : decode cX5_isOrderOf 70 = .ok (.ishl, 1) := by decide +kernel
theorem dX5_isOrderOf_71 : decode cX5_isOrderOf 71 = .ok (.ior, 1) := by decide +kernel
theorem dX5_isOrderOf_72 : decode cX5_isOrderOf 72 = .ok (.istore_n 2, 1) := by decide +kernel
theorem dX5_isOrderOf_73 : decode cX5_isOrderOf 73 = .ok (.iinc 3 1, 3) := by decide +kernel
theorem dX5_isOrderOf_76 : decode cX5_isOrderOf 76 = .ok (.goto (-56), 3) := by decide +kernel
theorem dX5_isOrderOf_79 : decode cX5_isOrderOf 79 = .ok (.iconst 1, 1) := by decide +kernel
theorem dX5_isOrderOf_80 : decode cX5_isOrderOf 80 = .ok (.ireturn, 1) := by decide +kernel
theorem dX6_init_0 : decode cX6_init 0 = .ok (.aload_n 0, 1) := by decide +kernel
theorem dX6_init_1 : decode cX6_init 1 = .ok (.invokespecial 3, 3) := by decide +kernel
theorem dX6_init_4 : decode cX6_init 4 = .ok (.aload_n 0, 1) := by decide +kernel
theorem dX6_init_5 : decode cX6_init 5 = .ok (.new 9, 3) := by decide +kernel
theorem dX6_init_8 : decode cX6_init 8 = .ok (.dup, 1) := by decide +kernel
theorem dX6_init_9 : decode cX6_init 9 = .ok (.invokespecial 11, 3) := by decide +kernel
theorem dX6_init_12 : decode cX6_init 12 = .ok (.putfield 12, 3) := by decide +kernel
theorem dX6_init_15 : decode cX6_init 15 = .ok (.aload_n 0, 1) := by decide +kernel
theorem dX6_init_16 : decode cX6_init 16 = .ok (.bipush 12, 2) := by decide +kernel
theorem dX6_init_18 : decode cX6_init 18 = .ok (.newarray .int, 2) := by decide +kernel
theorem dX6_init_20 : decode cX6_init 20 = .ok (.putfield 18, 3) := by decide +kernel
theorem dX6_init_23 : decode cX6_init 23 = .ok (.aload_n 0, 1) := by decide +kernel
theorem dX6_init_24 : decode cX6_init 24 = .ok (.sipush 2400, 3) := by decide +kernel
theorem dX6_init_27 : decode cX6_init 27 = .ok (.newarray .int, 2) := by decide +kernel
theorem dX6_init_29 : decode cX6_init 29 = .ok (.putfield 22, 3) := by decide +kernel
theorem dX6_init_32 : decode cX6_init 32 = .ok (.return_, 1) := by decide +kernel
theorem dX6_clear_0 : decode cX6_clear 0 = .ok (.aload_n 0, 1) := by decide +kernel
theorem dX6_clear_1 : decode cX6_clear 1 = .ok (.iconst 0, 1) := by decide +kernel
theorem dX6_clear_2 : decode cX6_clear 2 = .ok (.putfield 25, 3) := by decide +kernel
theorem dX6_clear_5 : decode cX6_clear 5 = .ok (.return_, 1) := by decide +kernel
theorem dX6_grainsOf_0 : decode cX6_grainsOf 0 = .ok (.aload_n 0, 1) := by decide +kernel
theorem dX6_grainsOf_1 : decode cX6_grainsOf 1 = .ok (.getfield 22, 3) := by decide +kernel
theorem dX6_grainsOf_4 : decode cX6_grainsOf 4 = .ok (.iload_n 1, 1) := by decide +kernel
theorem dX6_grainsOf_5 : decode cX6_grainsOf 5 = .ok (.bipush 12, 2) := by decide +kernel
theorem dX6_grainsOf_7 : decode cX6_grainsOf 7 = .ok (.imul, 1) := by decide +kernel
theorem dX6_grainsOf_8 : decode cX6_grainsOf 8 = .ok (.iload_n 2, 1) := by decide +kernel
theorem dX6_grainsOf_9 : decode cX6_grainsOf 9 = .ok (.iadd, 1) := by decide +kernel
theorem dX6_grainsOf_10 : decode cX6_grainsOf 10 = .ok (.iaload, 1) := by decide +kernel
theorem dX6_grainsOf_11 : decode cX6_grainsOf 11 = .ok (.ireturn, 1) := by decide +kernel
theorem dX6_gather_0 : decode cX6_gather 0 = .ok (.aload_n 0, 1) := by decide +kernel
theorem dX6_gather_1 : decode cX6_gather 1 = .ok (.aload_n 1, 1) := by decide +kernel
theorem dX6_gather_2 : decode cX6_gather 2 = .ok (.iconst 0, 1) := by decide +kernel
theorem dX6_gather_3 : decode cX6_gather 3 = .ok (.invokevirtual 29, 3) := by decide +kernel
theorem dX6_gather_6 : decode cX6_gather 6 = .ok (.iconst 0, 1) := by decide +kernel
theorem dX6_gather_7 : decode cX6_gather 7 = .ok (.istore_n 2, 1) := by decide +kernel
theorem dX6_gather_8 : decode cX6_gather 8 = .ok (.iload_n 2, 1) := by decide +kernel
theorem dX6_gather_9 : decode cX6_gather 9 = .ok (.sipush 200, 3) := by decide +kernel
theorem dX6_gather_12 : decode cX6_gather 12 = .ok (.if_icmp .ge 44, 3) := by decide +kernel
theorem dX6_gather_15 : decode cX6_gather 15 = .ok (.aload_n 0, 1) := by decide +kernel
theorem dX6_gather_16 : decode cX6_gather 16 = .ok (.getfield 18, 3) := by decide +kernel
theorem dX6_gather_19 : decode cX6_gather 19 = .ok (.iconst 0, 1) := by decide +kernel
theorem dX6_gather_20 : decode cX6_gather 20 = .ok (.aload_n 0, 1) := by decide +kernel
theorem dX6_gather_21 : decode cX6_gather 21 = .ok (.getfield 22, 3) := by decide +kernel
theorem dX6_gather_24 : decode cX6_gather 24 = .ok (.iload_n 2, 1) := by decide +kernel
theorem dX6_gather_25 : decode cX6_gather 25 = .ok (.bipush 12, 2) := by decide +kernel
theorem dX6_gather_27 : decode cX6_gather 27 = .ok (.imul, 1) := by decide +kernel
theorem dX6_gather_28 : decode cX6_gather 28 = .ok (.bipush 12, 2) := by decide +kernel
theorem dX6_gather_30 : decode cX6_gather 30 = .ok (.invokestatic 33, 3) := by decide +kernel
theorem dX6_gather_33 : decode cX6_gather 33 = .ok (.aload_n 0, 1) := by decide +kernel
theorem dX6_gather_34 : decode cX6_gather 34 = .ok (.aload_n 1, 1) := by decide +kernel
theorem dX6_gather_35 : decode cX6_gather 35 = .ok (.invokevirtual 39, 3) := by decide +kernel
theorem dX6_gather_38 : decode cX6_gather 38 = .ok (.ifCond .ne 12, 3) := by decide +kernel
theorem dX6_gather_41 : decode cX6_gather 41 = .ok (.aload_n 0, 1) := by decide +kernel
theorem dX6_gather_42 : decode cX6_gather 42 = .ok (.iload_n 2, 1) := by decide +kernel
theorem dX6_gather_43 : decode cX6_gather 43 = .ok (.iconst 1, 1) := by decide +kernel
theorem dX6_gather_44 : decode cX6_gather 44 = .ok (.iadd, 1) := by decide +kernel
theorem dX6_gather_45 : decode cX6_gather 45 = .ok (.putfield 25, 3) := by decide +kernel
theorem dX6_gather_48 : decode cX6_gather 48 = .ok (.iconst 1, 1) := by decide +kernel
theorem dX6_gather_49 : decode cX6_gather 49 = .ok (.ireturn, 1) := by decide +kernel
theorem dX6_gather_50 : decode cX6_gather 50 = .ok (.iinc 2 1, 3) := by decide +kernel
theorem dX6_gather_53 : decode cX6_gather 53 = .ok (.goto (-45), 3) := by decide +kernel
theorem dX6_gather_56 : decode cX6_gather 56 = .ok (.iconst 0, 1) := by decide +kernel
theorem dX6_gather_57 : decode cX6_gather 57 = .ok (.ireturn, 1) := by decide +kernel
theorem dX6_leastFrom_0 : decode cX6_leastFrom 0 = .ok (.iload_n 2, 1) := by decide +kernel
theorem dX6_leastFrom_1 : decode cX6_leastFrom 1 = .ok (.istore_n 3, 1) := by decide +kernel
theorem dX6_leastFrom_2 : decode cX6_leastFrom 2 = .ok (.iload_n 3, 1) := by decide +kernel
theorem dX6_leastFrom_3 : decode cX6_leastFrom 3 = .ok (.aload_n 1, 1) := by decide +kernel
theorem dX6_leastFrom_4 : decode cX6_leastFrom 4 = .ok (.getfield 43, 3) := by decide +kernel
theorem dX6_leastFrom_7 : decode cX6_leastFrom 7 = .ok (.if_icmp .ge 23, 3) := by decide +kernel
theorem dX6_leastFrom_10 : decode cX6_leastFrom 10 = .ok (.aload_n 0, 1) := by decide +kernel
theorem dX6_leastFrom_11 : decode cX6_leastFrom 11 = .ok (.getfield 18, 3) := by decide +kernel
theorem dX6_leastFrom_14 : decode cX6_leastFrom 14 = .ok (.iload_n 3, 1) := by decide +kernel
theorem dX6_leastFrom_15 : decode cX6_leastFrom 15 = .ok (.aload_n 1, 1) := by decide +kernel
theorem dX6_leastFrom_16 : decode cX6_leastFrom 16 = .ok (.getfield 48, 3) := by decide +kernel
theorem dX6_leastFrom_19 : decode cX6_leastFrom 19 = .ok (.iload_n 3, 1) := by decide +kernel
theorem dX6_leastFrom_20 : decode cX6_leastFrom 20 = .ok (.iaload, 1) := by decide +kernel
theorem dX6_leastFrom_21 : decode cX6_leastFrom 21 = .ok (.iconst 1, 1) := by decide +kernel
theorem dX6_leastFrom_22 : decode cX6_leastFrom 22 = .ok (.isub, 1) := by decide +kernel
theorem dX6_leastFrom_23 : decode cX6_leastFrom 23 = .ok (.iastore, 1) := by decide +kernel
theorem dX6_leastFrom_24 : decode cX6_leastFrom 24 = .ok (.iinc 3 1, 3) := by decide +kernel
theorem dX6_leastFrom_27 : decode cX6_leastFrom 27 = .ok (.goto (-25), 3) := by decide +kernel
theorem dX6_leastFrom_30 : decode cX6_leastFrom 30 = .ok (.iload_n 2, 1) := by decide +kernel
theorem dX6_leastFrom_31 : decode cX6_leastFrom 31 = .ok (.istore_n 3, 1) := by decide +kernel
theorem dX6_leastFrom_32 : decode cX6_leastFrom 32 = .ok (.iload_n 3, 1) := by decide +kernel
theorem dX6_leastFrom_33 : decode cX6_leastFrom 33 = .ok (.aload_n 1, 1) := by decide +kernel
theorem dX6_leastFrom_34 : decode cX6_leastFrom 34 = .ok (.getfield 43, 3) := by decide +kernel
theorem dX6_leastFrom_37 : decode cX6_leastFrom 37 = .ok (.if_icmp .ge 40, 3) := by decide +kernel
theorem dX6_leastFrom_40 : decode cX6_leastFrom 40 = .ok (.aload_n 0, 1) := by decide +kernel
theorem dX6_leastFrom_41 : decode cX6_leastFrom 41 = .ok (.getfield 12, 3) := by decide +kernel
theorem dX6_leastFrom_44 : decode cX6_leastFrom 44 = .ok (.aload_n 1, 1) := by decide +kernel
theorem dX6_leastFrom_45 : decode cX6_leastFrom 45 = .ok (.aload_n 0, 1) := by decide +kernel
theorem dX6_leastFrom_46 : decode cX6_leastFrom 46 = .ok (.getfield 18, 3) := by decide +kernel
theorem dX6_leastFrom_49 : decode cX6_leastFrom 49 = .ok (.iload_n 3, 1) := by decide +kernel
theorem dX6_leastFrom_50 : decode cX6_leastFrom 50 = .ok (.invokevirtual 51, 3) := by decide +kernel
theorem dX6_leastFrom_53 : decode cX6_leastFrom 53 = .ok (.aload_n 0, 1) := by decide +kernel
theorem dX6_leastFrom_54 : decode cX6_leastFrom 54 = .ok (.getfield 18, 3) := by decide +kernel
theorem dX6_leastFrom_57 : decode cX6_leastFrom 57 = .ok (.iload_n 3, 1) := by decide +kernel
theorem dX6_leastFrom_58 : decode cX6_leastFrom 58 = .ok (.aload_n 1, 1) := by decide +kernel
theorem dX6_leastFrom_59 : decode cX6_leastFrom 59 = .ok (.iload_n 3, 1) := by decide +kernel
theorem dX6_leastFrom_60 : decode cX6_leastFrom 60 = .ok (.aload_n 0, 1) := by decide +kernel
theorem dX6_leastFrom_61 : decode cX6_leastFrom 61 = .ok (.getfield 12, 3) := by decide +kernel
theorem dX6_leastFrom_64 : decode cX6_leastFrom 64 = .ok (.getfield 55, 3) := by decide +kernel
theorem dX6_leastFrom_67 : decode cX6_leastFrom 67 = .ok (.invokevirtual 58, 3) := by decide +kernel
theorem dX6_leastFrom_70 : decode cX6_leastFrom 70 = .ok (.iastore, 1) := by decide +kernel
theorem dX6_leastFrom_71 : decode cX6_leastFrom 71 = .ok (.iinc 3 1, 3) := by decide +kernel
theorem dX6_leastFrom_74 : decode cX6_leastFrom 74 = .ok (.goto (-42), 3) := by decide +kernel
theorem dX6_leastFrom_77 : decode cX6_leastFrom 77 = .ok (.return_, 1) := by decide +kernel
theorem dX6_stepOn_0 : decode cX6_stepOn 0 = .ok (.aload_n 1, 1) := by decide +kernel
theorem dX6_stepOn_1 : decode cX6_stepOn 1 = .ok (.getfield 43, 3) := by decide +kernel
theorem dX6_stepOn_4 : decode cX6_stepOn 4 = .ok (.iconst 1, 1) := by decide +kernel
theorem dX6_stepOn_5 : decode cX6_stepOn 5 = .ok (.isub, 1) := by decide +kernel
theorem dX6_stepOn_6 : decode cX6_stepOn 6 = .ok (.istore_n 2, 1) := by decide +kernel
theorem dX6_stepOn_7 : decode cX6_stepOn 7 = .ok (.iload_n 2, 1) := by decide +kernel
theorem dX6_stepOn_8 : decode cX6_stepOn 8 = .ok (.ifCond .lt 46, 3) := by decide +kernel
theorem dX6_stepOn_11 : decode cX6_stepOn 11 = .ok (.aload_n 0, 1) := by decide +kernel
theorem dX6_stepOn_12 : decode cX6_stepOn 12 = .ok (.getfield 18, 3) := by decide +kernel
theorem dX6_stepOn_15 : decode cX6_stepOn 15 = .ok (.iload_n 2, 1) := by decide +kernel
theorem dX6_stepOn_16 : decode cX6_stepOn 16 = .ok (.iaload, 1) := by decide +kernel
theorem dX6_stepOn_17 : decode cX6_stepOn 17 = .ok (.aload_n 1, 1) := by decide +kernel
theorem dX6_stepOn_18 : decode cX6_stepOn 18 = .ok (.getfield 48, 3) := by decide +kernel
theorem dX6_stepOn_21 : decode cX6_stepOn 21 = .ok (.iload_n 2, 1) := by decide +kernel
theorem dX6_stepOn_22 : decode cX6_stepOn 22 = .ok (.iaload, 1) := by decide +kernel
theorem dX6_stepOn_23 : decode cX6_stepOn 23 = .ok (.iconst 1, 1) := by decide +kernel
theorem dX6_stepOn_24 : decode cX6_stepOn 24 = .ok (.isub, 1) := by decide +kernel
theorem dX6_stepOn_25 : decode cX6_stepOn 25 = .ok (.if_icmp .ge 23, 3) := by decide +kernel
theorem dX6_stepOn_28 : decode cX6_stepOn 28 = .ok (.aload_n 0, 1) := by decide +kernel
theorem dX6_stepOn_29 : decode cX6_stepOn 29 = .ok (.getfield 18, 3) := by decide +kernel
theorem dX6_stepOn_32 : decode cX6_stepOn 32 = .ok (.iload_n 2, 1) := by decide +kernel
theorem dX6_stepOn_33 : decode cX6_stepOn 33 = .ok (.dup2, 1) := by decide +kernel
theorem dX6_stepOn_34 : decode cX6_stepOn 34 = .ok (.iaload, 1) := by decide +kernel
theorem dX6_stepOn_35 : decode cX6_stepOn 35 = .ok (.iconst 1, 1) := by decide +kernel
theorem dX6_stepOn_36 : decode cX6_stepOn 36 = .ok (.iadd, 1) := by decide +kernel
theorem dX6_stepOn_37 : decode cX6_stepOn 37 = .ok (.iastore, 1) := by decide +kernel
theorem dX6_stepOn_38 : decode cX6_stepOn 38 = .ok (.aload_n 0, 1) := by decide +kernel
theorem dX6_stepOn_39 : decode cX6_stepOn 39 = .ok (.aload_n 1, 1) := by decide +kernel
theorem dX6_stepOn_40 : decode cX6_stepOn 40 = .ok (.iload_n 2, 1) := by decide +kernel
theorem dX6_stepOn_41 : decode cX6_stepOn 41 = .ok (.iconst 1, 1) := by decide +kernel
theorem dX6_stepOn_42 : decode cX6_stepOn 42 = .ok (.iadd, 1) := by decide +kernel
theorem dX6_stepOn_43 : decode cX6_stepOn 43 = .ok (.invokevirtual 29, 3) := by decide +kernel
theorem dX6_stepOn_46 : decode cX6_stepOn 46 = .ok (.iconst 1, 1) := by decide +kernel
theorem dX6_stepOn_47 : decode cX6_stepOn 47 = .ok (.ireturn, 1) := by decide +kernel
theorem dX6_stepOn_48 : decode cX6_stepOn 48 = .ok (.iinc 2 (-1), 3) := by decide +kernel
theorem dX6_stepOn_51 : decode cX6_stepOn 51 = .ok (.goto (-44), 3) := by decide +kernel
theorem dX6_stepOn_54 : decode cX6_stepOn 54 = .ok (.iconst 0, 1) := by decide +kernel
theorem dX6_stepOn_55 : decode cX6_stepOn 55 = .ok (.ireturn, 1) := by decide +kernel
theorem dX7_init_0 : decode cX7_init 0 = .ok (.aload_n 0, 1) := by decide +kernel
theorem dX7_init_1 : decode cX7_init 1 = .ok (.invokespecial 3, 3) := by decide +kernel
theorem dX7_init_4 : decode cX7_init 4 = .ok (.aload_n 0, 1) := by decide +kernel
theorem dX7_init_5 : decode cX7_init 5 = .ok (.bipush 12, 2) := by decide +kernel
theorem dX7_init_7 : decode cX7_init 7 = .ok (.newarray .int, 2) := by decide +kernel
theorem dX7_init_9 : decode cX7_init 9 = .ok (.putfield 9, 3) := by decide +kernel
theorem dX7_init_12 : decode cX7_init 12 = .ok (.aload_n 0, 1) := by decide +kernel
theorem dX7_init_13 : decode cX7_init 13 = .ok (.bipush 12, 2) := by decide +kernel
theorem dX7_init_15 : decode cX7_init 15 = .ok (.bipush 15, 2) := by decide +kernel
theorem dX7_init_17 : decode cX7_init 17 = .ok (.multianewarray 15 2, 4) := by decide +kernel
theorem dX7_init_21 : decode cX7_init 21 = .ok (.putfield 17, 3) := by decide +kernel
theorem dX7_init_24 : decode cX7_init 24 = .ok (.aload_n 0, 1) := by decide +kernel
theorem dX7_init_25 : decode cX7_init 25 = .ok (.bipush 12, 2) := by decide +kernel
theorem dX7_init_27 : decode cX7_init 27 = .ok (.newarray .int, 2) := by decide +kernel
theorem dX7_init_29 : decode cX7_init 29 = .ok (.putfield 20, 3) := by decide +kernel
theorem dX7_init_32 : decode cX7_init 32 = .ok (.return_, 1) := by decide +kernel
theorem dX7_clear_0 : decode cX7_clear 0 = .ok (.iconst 0, 1) := by decide +kernel
theorem dX7_clear_1 : decode cX7_clear 1 = .ok (.istore_n 1, 1) := by decide +kernel
theorem dX7_clear_2 : decode cX7_clear 2 = .ok (.iload_n 1, 1) := by decide +kernel
theorem dX7_clear_3 : decode cX7_clear 3 = .ok (.bipush 12, 2) := by decide +kernel
theorem dX7_clear_5 : decode cX7_clear 5 = .ok (.if_icmp .ge 46, 3) := by decide +kernel
theorem dX7_clear_8 : decode cX7_clear 8 = .ok (.aload_n 0, 1) := by decide +kernel
theorem dX7_clear_9 : decode cX7_clear 9 = .ok (.getfield 9, 3) := by decide +kernel
theorem dX7_clear_12 : decode cX7_clear 12 = .ok (.iload_n 1, 1) := by decide +kernel
theorem dX7_clear_13 : decode cX7_clear 13 = .ok (.iconst 0, 1) := by decide +kernel
theorem dX7_clear_14 : decode cX7_clear 14 = .ok (.iastore, 1) := by decide +kernel
theorem dX7_clear_15 : decode cX7_clear 15 = .ok (.aload_n 0, 1) := by decide +kernel
theorem dX7_clear_16 : decode cX7_clear 16 = .ok (.getfield 20, 3) := by decide +kernel
theorem dX7_clear_19 : decode cX7_clear 19 = .ok (.iload_n 1, 1) := by decide +kernel
theorem dX7_clear_20 : decode cX7_clear 20 = .ok (.iconst 0, 1) := by decide +kernel
theorem dX7_clear_21 : decode cX7_clear 21 = .ok (.iastore, 1) := by decide +kernel
theorem dX7_clear_22 : decode cX7_clear 22 = .ok (.iconst 0, 1) := by decide +kernel
theorem dX7_clear_23 : decode cX7_clear 23 = .ok (.istore_n 2, 1) := by decide +kernel
theorem dX7_clear_24 : decode cX7_clear 24 = .ok (.iload_n 2, 1) := by decide +kernel
theorem dX7_clear_25 : decode cX7_clear 25 = .ok (.bipush 15, 2) := by decide +kernel
theorem dX7_clear_27 : decode cX7_clear 27 = .ok (.if_icmp .ge 18, 3) := by decide +kernel
theorem dX7_clear_30 : decode cX7_clear 30 = .ok (.aload_n 0, 1) := by decide +kernel
theorem dX7_clear_31 : decode cX7_clear 31 = .ok (.getfield 17, 3) := by decide +kernel
theorem dX7_clear_34 : decode cX7_clear 34 = .ok (.iload_n 1, 1) := by decide +kernel
theorem dX7_clear_35 : decode cX7_clear 35 = .ok (.aaload, 1) := by decide +kernel
theorem dX7_clear_36 : decode cX7_clear 36 = .ok (.iload_n 2, 1) := by decide +kernel
theorem dX7_clear_37 : decode cX7_clear 37 = .ok (.iconst 0, 1) := by decide +kernel
theorem dX7_clear_38 : decode cX7_clear 38 = .ok (.iastore, 1) := by decide +kernel
theorem dX7_clear_39 : decode cX7_clear 39 = .ok (.iinc 2 1, 3) := by decide +kernel
theorem dX7_clear_42 : decode cX7_clear 42 = .ok (.goto (-18), 3) := by decide +kernel
theorem dX7_clear_45 : decode cX7_clear 45 = .ok (.iinc 1 1, 3) := by decide +kernel
theorem dX7_clear_48 : decode cX7_clear 48 = .ok (.goto (-46), 3) := by decide +kernel
theorem dX7_clear_51 : decode cX7_clear 51 = .ok (.aload_n 0, 1) := by decide +kernel
theorem dX7_clear_52 : decode cX7_clear 52 = .ok (.iconst 0, 1) := by decide +kernel
theorem dX7_clear_53 : decode cX7_clear 53 = .ok (.putfield 23, 3) := by decide +kernel
theorem dX7_clear_56 : decode cX7_clear 56 = .ok (.return_, 1) := by decide +kernel
theorem dX7_has_0 : decode cX7_has 0 = .ok (.iload_n 1, 1) := by decide +kernel
theorem dX7_has_1 : decode cX7_has 1 = .ok (.ifCond .lt 15, 3) := by decide +kernel
theorem dX7_has_4 : decode cX7_has 4 = .ok (.iload_n 1, 1) := by decide +kernel
theorem dX7_has_5 : decode cX7_has 5 = .ok (.aload_n 0, 1) := by decide +kernel
theorem dX7_has_6 : decode cX7_has 6 = .ok (.getfield 23, 3) := by decide +kernel
theorem dX7_has_9 : decode cX7_has 9 = .ok (.if_icmp .ge 7, 3) := by decide +kernel
theorem dX7_has_12 : decode cX7_has 12 = .ok (.iconst 1, 1) := by decide +kernel
theorem dX7_has_13 : decode cX7_has 13 = .ok (.goto 4, 3) := by decide +kernel
theorem dX7_has_16 : decode cX7_has 16 = .ok (.iconst 0, 1) := by decide +kernel
theorem dX7_has_17 : decode cX7_has 17 = .ok (.ireturn, 1) := by decide +kernel
theorem dX7_isDitch_0 : decode cX7_isDitch 0 = .ok (.iload_n 1, 1) := by decide +kernel
theorem dX7_isDitch_1 : decode cX7_isDitch 1 = .ok (.ifCond .ge 13, 3) := by decide +kernel
theorem dX7_isDitch_4 : decode cX7_isDitch 4 = .ok (.iload_n 1, 1) := by decide +kernel
theorem dX7_isDitch_5 : decode cX7_isDitch 5 = .ok (.bipush (-3), 2) := by decide +kernel
theorem dX7_isDitch_7 : decode cX7_isDitch 7 = .ok (.if_icmp .lt 7, 3) := by decide +kernel
theorem dX7_isDitch_10 : decode cX7_isDitch 10 = .ok (.iconst 1, 1) := by decide +kernel
theorem dX7_isDitch_11 : decode cX7_isDitch 11 = .ok (.goto 4, 3) := by decide +kernel
theorem dX7_isDitch_14 : decode cX7_isDitch 14 = .ok (.iconst 0, 1) := by decide +kernel
theorem dX7_isDitch_15 : decode cX7_isDitch 15 = .ok (.ireturn, 1) := by decide +kernel
theorem dX7_hasEnd_0 : decode cX7_hasEnd 0 = .ok (.aload_n 0, 1) := by decide +kernel
theorem dX7_hasEnd_1 : decode cX7_hasEnd 1 = .ok (.iload_n 1, 1) := by decide +kernel
theorem dX7_hasEnd_2 : decode cX7_hasEnd 2 = .ok (.invokevirtual 27, 3) := by decide +kernel
theorem dX7_hasEnd_5 : decode cX7_hasEnd 5 = .ok (.ifCond .ne 11, 3) := by decide +kernel
theorem dX7_hasEnd_8 : decode cX7_hasEnd 8 = .ok (.aload_n 0, 1) := by decide +kernel
theorem dX7_hasEnd_9 : decode cX7_hasEnd 9 = .ok (.iload_n 1, 1) := by decide +kernel
theorem dX7_hasEnd_10 : decode cX7_hasEnd 10 = .ok (.invokevirtual 31, 3) := by decide +kernel
theorem dX7_hasEnd_13 : decode cX7_hasEnd 13 = .ok (.ifCond .eq 7, 3) := by decide +kernel
theorem dX7_hasEnd_16 : decode cX7_hasEnd 16 = .ok (.iconst 1, 1) := by decide +kernel
theorem dX7_hasEnd_17 : decode cX7_hasEnd 17 = .ok (.goto 4, 3) := by decide +kernel
theorem dX7_hasEnd_20 : decode cX7_hasEnd 20 = .ok (.iconst 0, 1) := by decide +kernel
theorem dX7_hasEnd_21 : decode cX7_hasEnd 21 = .ok (.ireturn, 1) := by decide +kernel
theorem dX7_endOf_0 : decode cX7_endOf 0 = .ok (.iload_n 1, 1) := by decide +kernel
theorem dX7_endOf_1 : decode cX7_endOf 1 = .ok (.ifCond .lt 7, 3) := by decide +kernel
theorem dX7_endOf_4 : decode cX7_endOf 4 = .ok (.iload_n 1, 1) := by decide +kernel
theorem dX7_endOf_5 : decode cX7_endOf 5 = .ok (.goto 7, 3) := by decide +kernel
theorem dX7_endOf_8 : decode cX7_endOf 8 = .ok (.bipush 11, 2) := by decide +kernel
theorem dX7_endOf_10 : decode cX7_endOf 10 = .ok (.iload_n 1, 1) := by decide +kernel
theorem dX7_endOf_11 : decode cX7_endOf 11 = .ok (.isub, 1) := by decide +kernel
theorem dX7_endOf_12 : decode cX7_endOf 12 = .ok (.ireturn, 1) := by decide +kernel
theorem dX7_addPlace_0 : decode cX7_addPlace 0 = .ok (.aload_n 0, 1) := by decide +kernel
theorem dX7_addPlace_1 : decode cX7_addPlace 1 = .ok (.getfield 9, 3) := by decide +kernel
theorem dX7_addPlace_4 : decode cX7_addPlace 4 = .ok (.aload_n 0, 1) := by decide +kernel
theorem dX7_addPlace_5 : decode cX7_addPlace 5 = .ok (.getfield 23, 3) := by decide +kernel
theorem dX7_addPlace_8 : decode cX7_addPlace 8 = .ok (.iload_n 1, 1) := by decide +kernel
theorem dX7_addPlace_9 : decode cX7_addPlace 9 = .ok (.iastore, 1) := by decide +kernel
theorem dX7_addPlace_10 : decode cX7_addPlace 10 = .ok (.aload_n 0, 1) := by decide +kernel
theorem dX7_addPlace_11 : decode cX7_addPlace 11 = .ok (.dup, 1) := by decide +kernel
theorem dX7_addPlace_12 : decode cX7_addPlace 12 = .ok (.getfield 23, 3) := by decide +kernel
theorem dX7_addPlace_15 : decode cX7_addPlace 15 = .ok (.iconst 1, 1) := by decide +kernel
theorem dX7_addPlace_16 : decode cX7_addPlace 16 = .ok (.iadd, 1) := by decide +kernel
theorem dX7_addPlace_17 : decode cX7_addPlace 17 = .ok (.putfield 23, 3) := by decide +kernel
theorem dX7_addPlace_20 : decode cX7_addPlace 20 = .ok (.aload_n 0, 1) := by decide +kernel
theorem dX7_addPlace_21 : decode cX7_addPlace 21 = .ok (.getfield 23, 3) := by decide +kernel
theorem dX7_addPlace_24 : decode cX7_addPlace 24 = .ok (.iconst 1, 1) := by decide +kernel
theorem dX7_addPlace_25 : decode cX7_addPlace 25 = .ok (.isub, 1) := by decide +kernel
theorem dX7_addPlace_26 : decode cX7_addPlace 26 = .ok (.ireturn, 1) := by decide +kernel
theorem dX7_addWay_0 : decode cX7_addWay 0 = .ok (.aload_n 0, 1) := by decide +kernel
theorem dX7_addWay_1 : decode cX7_addWay 1 = .ok (.getfield 17, 3) := by decide +kernel
theorem dX7_addWay_4 : decode cX7_addWay 4 = .ok (.iload_n 1, 1) := by decide +kernel
theorem dX7_addWay_5 : decode cX7_addWay 5 = .ok (.aaload, 1) := by decide +kernel
theorem dX7_addWay_6 : decode cX7_addWay 6 = .ok (.aload_n 0, 1) := by decide +kernel
theorem dX7_addWay_7 : decode cX7_addWay 7 = .ok (.iload_n 2, 1) := by decide +kernel
theorem dX7_addWay_8 : decode cX7_addWay 8 = .ok (.invokevirtual 34, 3) := by decide +kernel
theorem dX7_addWay_11 : decode cX7_addWay 11 = .ok (.dup2, 1) := by decide +kernel
theorem dX7_addWay_12 : decode cX7_addWay 12 = .ok (.iaload, 1) := by decide +kernel
theorem dX7_addWay_13 : decode cX7_addWay 13 = .ok (.iload_n 3, 1) := by decide +kernel
theorem dX7_addWay_14 : decode cX7_addWay 14 = .ok (.iadd, 1) := by decide +kernel
theorem dX7_addWay_15 : decode cX7_addWay 15 = .ok (.iastore, 1) := by decide +kernel
theorem dX7_addWay_16 : decode cX7_addWay 16 = .ok (.aload_n 0, 1) := by decide +kernel
theorem dX7_addWay_17 : decode cX7_addWay 17 = .ok (.getfield 20, 3) := by decide +kernel
theorem dX7_addWay_20 : decode cX7_addWay 20 = .ok (.iload_n 1, 1) := by decide +kernel
theorem dX7_addWay_21 : decode cX7_addWay 21 = .ok (.dup2, 1) := by decide +kernel
theorem dX7_addWay_22 : decode cX7_addWay 22 = .ok (.iaload, 1) := by decide +kernel
theorem dX7_addWay_23 : decode cX7_addWay 23 = .ok (.iload_n 3, 1) := by decide +kernel
theorem dX7_addWay_24 : decode cX7_addWay 24 = .ok (.iadd, 1) := by decide +kernel
theorem dX7_addWay_25 : decode cX7_addWay 25 = .ok (.iastore, 1) := by decide +kernel
theorem dX7_addWay_26 : decode cX7_addWay 26 = .ok (.aload_n 0, 1) := by decide +kernel
theorem dX7_addWay_27 : decode cX7_addWay 27 = .ok (.getfield 20, 3) := by decide +kernel
theorem dX7_addWay_30 : decode cX7_addWay 30 = .ok (.iload_n 1, 1) := by decide +kernel
theorem dX7_addWay_31 : decode cX7_addWay 31 = .ok (.iaload, 1) := by decide +kernel
theorem dX7_addWay_32 : decode cX7_addWay 32 = .ok (.ireturn, 1) := by decide +kernel
theorem dX7_weightBetween_0 : decode cX7_weightBetween 0 = .ok (.aload_n 0, 1) := by decide +kernel
theorem dX7_weightBetween_1 : decode cX7_weightBetween 1 = .ok (.getfield 17, 3) := by decide +kernel
theorem dX7_weightBetween_4 : decode cX7_weightBetween 4 = .ok (.iload_n 1, 1) := by decide +kernel
theorem dX7_weightBetween_5 : decode cX7_weightBetween 5 = .ok (.aaload, 1) := by decide +kernel
theorem dX7_weightBetween_6 : decode cX7_weightBetween 6 = .ok (.aload_n 0, 1) := by decide +kernel
theorem dX7_weightBetween_7 : decode cX7_weightBetween 7 = .ok (.iload_n 2, 1) := by decide +kernel
theorem dX7_weightBetween_8 : decode cX7_weightBetween 8 = .ok (.invokevirtual 34, 3) := by decide +kernel
theorem dX7_weightBetween_11 : decode cX7_weightBetween 11 = .ok (.iaload, 1) := by decide +kernel
theorem dX7_weightBetween_12 : decode cX7_weightBetween 12 = .ok (.ireturn, 1) := by decide +kernel
theorem dX7_isOf_0 : decode cX7_isOf 0 = .ok (.aload_n 0, 1) := by decide +kernel
theorem dX7_isOf_1 : decode cX7_isOf 1 = .ok (.getfield 9, 3) := by decide +kernel
theorem dX7_isOf_4 : decode cX7_isOf 4 = .ok (.iload_n 1, 1) := by decide +kernel
theorem dX7_isOf_5 : decode cX7_isOf 5 = .ok (.iaload, 1) := by decide +kernel
theorem dX7_isOf_6 : decode cX7_isOf 6 = .ok (.istore_n 3, 1) := by decide +kernel
theorem dX7_isOf_7 : decode cX7_isOf 7 = .ok (.iconst 0, 1) := by decide +kernel
theorem dX7_isOf_8 : decode cX7_isOf 8 = .ok (.istore 4, 2) := by decide +kernel
theorem dX7_isOf_10 : decode cX7_isOf 10 = .ok (.iload 4, 2) := by decide +kernel
theorem dX7_isOf_12 : decode cX7_isOf 12 = .ok (.iconst 5, 1) := by decide +kernel
theorem dX7_isOf_13 : decode cX7_isOf 13 = .ok (.if_icmp .ge 26, 3) := by decide +kernel
theorem dX7_isOf_16 : decode cX7_isOf 16 = .ok (.iload_n 3, 1) := by decide +kernel
theorem dX7_isOf_17 : decode cX7_isOf 17 = .ok (.ifCond .lt 22, 3) := by decide +kernel
theorem dX7_isOf_20 : decode cX7_isOf 20 = .ok (.iload_n 3, 1) := by decide +kernel
theorem dX7_isOf_21 : decode cX7_isOf 21 = .ok (.iload_n 2, 1) := by decide +kernel
theorem dX7_isOf_22 : decode cX7_isOf 22 = .ok (.if_icmp .ne 5, 3) := by decide +kernel
theorem dX7_isOf_25 : decode cX7_isOf 25 = .ok (.iconst 1, 1) := by decide +kernel
theorem dX7_isOf_26 : decode cX7_isOf 26 = .ok (.ireturn, 1) := by decide +kernel
theorem dX7_isOf_27 : decode cX7_isOf 27 = .ok (.getstatic 38, 3) := by decide +kernel
theorem dX7_isOf_30 : decode cX7_isOf 30 = .ok (.iload_n 3, 1) := by decide +kernel
theorem dX7_isOf_31 : decode cX7_isOf 31 = .ok (.iaload, 1) := by decide +kernel
theorem dX7_isOf_32 : decode cX7_isOf 32 = .ok (.istore_n 3, 1) := by decide +kernel
theorem dX7_isOf_33 : decode cX7_isOf 33 = .ok (.iinc 4 1, 3) := by decide +kernel
theorem dX7_isOf_36 : decode cX7_isOf 36 = .ok (.goto (-26), 3) := by decide +kernel
theorem dX7_isOf_39 : decode cX7_isOf 39 = .ok (.iconst 0, 1) := by decide +kernel
theorem dX7_isOf_40 : decode cX7_isOf 40 = .ok (.ireturn, 1) := by decide +kernel
theorem dX7_bitsOfAll_0 : decode cX7_bitsOfAll 0 = .ok (.iconst 1, 1) := by decide +kernel
theorem dX7_bitsOfAll_1 : decode cX7_bitsOfAll 1 = .ok (.aload_n 0, 1) := by decide +kernel
theorem dX7_bitsOfAll_2 : decode cX7_bitsOfAll 2 = .ok (.getfield 23, 3) := by decide +kernel
theorem dX7_bitsOfAll_5 : decode cX7_bitsOfAll 5 = .ok (.ishl, 1) := by decide +kernel
theorem dX7_bitsOfAll_6 : decode cX7_bitsOfAll 6 = .ok (.iconst 1, 1) := by decide +kernel
theorem dX7_bitsOfAll_7 : decode cX7_bitsOfAll 7 = .ok (.isub, 1) := by decide +kernel
theorem dX7_bitsOfAll_8 : decode cX7_bitsOfAll 8 = .ok (.ireturn, 1) := by decide +kernel
theorem dX7_weightToPlaces_0 : decode cX7_weightToPlaces 0 = .ok (.iconst 0, 1) := by decide +kernel
theorem dX7_weightToPlaces_1 : decode cX7_weightToPlaces 1 = .ok (.istore_n 3, 1) := by decide +kernel
theorem dX7_weightToPlaces_2 : decode cX7_weightToPlaces 2 = .ok (.iconst 0, 1) := by decide +kernel
theorem dX7_weightToPlaces_3 : decode cX7_weightToPlaces 3 = .ok (.istore 4, 2) := by decide +kernel
theorem dX7_weightToPlaces_5 : decode cX7_weightToPlaces 5 = .ok (.iload 4, 2) := by decide +kernel
theorem dX7_weightToPlaces_7 : decode cX7_weightToPlaces 7 = .ok (.aload_n 0, 1) := by decide +kernel
theorem dX7_weightToPlaces_8 : decode cX7_weightToPlaces 8 = .ok (.getfield 23, 3) := by decide +kernel
theorem dX7_weightToPlaces_11 : decode cX7_weightToPlaces 11 = .ok (.if_icmp .ge 30, 3) := by decide +kernel
theorem dX7_weightToPlaces_14 : decode cX7_weightToPlaces 14 = .ok (.iload_n 2, 1) := by decide +kernel
theorem dX7_weightToPlaces_15 : decode cX7_weightToPlaces 15 = .ok (.iconst 1, 1) := by decide +kernel
theorem dX7_weightToPlaces_16 : decode cX7_weightToPlaces 16 = .ok (.iload 4, 2) := by decide +kernel
theorem dX7_weightToPlaces_18 : decode cX7_weightToPlaces 18 = .ok (.ishl, 1) := by decide +kernel
theorem dX7_weightToPlaces_19 : decode cX7_weightToPlaces 19 = .ok (.iand, 1) := by decide +kernel
theorem dX7_weightToPlaces_20 : decode cX7_weightToPlaces 20 = .ok (.ifCond .eq 15, 3) := by decide +kernel
theorem dX7_weightToPlaces_23 : decode cX7_weightToPlaces 23 = .ok (.iload_n 3, 1) := by decide +kernel
theorem dX7_weightToPlaces_24 : decode cX7_weightToPlaces 24 = .ok (.aload_n 0, 1) := by decide +kernel
theorem dX7_weightToPlaces_25 : decode cX7_weightToPlaces 25 = .ok (.getfield 17, 3) := by decide +kernel
theorem dX7_weightToPlaces_28 : decode cX7_weightToPlaces 28 = .ok (.iload_n 1, 1) := by decide +kernel
theorem dX7_weightToPlaces_29 : decode cX7_weightToPlaces 29 = .ok (.aaload, 1) := by decide +kernel
theorem dX7_weightToPlaces_30 : decode cX7_weightToPlaces 30 = .ok (.iload 4, 2) := by decide +kernel
theorem dX7_weightToPlaces_32 : decode cX7_weightToPlaces 32 = .ok (.iaload, 1) := by decide +kernel
theorem dX7_weightToPlaces_33 : decode cX7_weightToPlaces 33 = .ok (.iadd, 1) := by decide +kernel
theorem dX7_weightToPlaces_34 : decode cX7_weightToPlaces 34 = .ok (.istore_n 3, 1) := by decide +kernel
theorem dX7_weightToPlaces_35 : decode cX7_weightToPlaces 35 = .ok (.iinc 4 1, 3) := by decide +kernel
theorem dX7_weightToPlaces_38 : decode cX7_weightToPlaces 38 = .ok (.goto (-33), 3) := by decide +kernel
theorem dX7_weightToPlaces_41 : decode cX7_weightToPlaces 41 = .ok (.iload_n 3, 1) := by decide +kernel
theorem dX7_weightToPlaces_42 : decode cX7_weightToPlaces 42 = .ok (.ireturn, 1) := by decide +kernel
theorem dX7_hasDitch_0 : decode cX7_hasDitch 0 = .ok (.iconst 0, 1) := by decide +kernel
theorem dX7_hasDitch_1 : decode cX7_hasDitch 1 = .ok (.istore_n 2, 1) := by decide +kernel
theorem dX7_hasDitch_2 : decode cX7_hasDitch 2 = .ok (.iload_n 2, 1) := by decide +kernel
theorem dX7_hasDitch_3 : decode cX7_hasDitch 3 = .ok (.iconst 3, 1) := by decide +kernel
theorem dX7_hasDitch_4 : decode cX7_hasDitch 4 = .ok (.if_icmp .ge 25, 3) := by decide +kernel
theorem dX7_hasDitch_7 : decode cX7_hasDitch 7 = .ok (.aload_n 0, 1) := by decide +kernel
theorem dX7_hasDitch_8 : decode cX7_hasDitch 8 = .ok (.getfield 17, 3) := by decide +kernel
theorem dX7_hasDitch_11 : decode cX7_hasDitch 11 = .ok (.iload_n 1, 1) := by decide +kernel
theorem dX7_hasDitch_12 : decode cX7_hasDitch 12 = .ok (.aaload, 1) := by decide +kernel
theorem dX7_hasDitch_13 : decode cX7_hasDitch 13 = .ok (.bipush 12, 2) := by decide +kernel
theorem dX7_hasDitch_15 : decode cX7_hasDitch 15 = .ok (.iload_n 2, 1) := by decide +kernel
theorem dX7_hasDitch_16 : decode cX7_hasDitch 16 = .ok (.iadd, 1) := by decide +kernel
theorem dX7_hasDitch_17 : decode cX7_hasDitch 17 = .ok (.iaload, 1) := by decide +kernel
theorem dX7_hasDitch_18 : decode cX7_hasDitch 18 = .ok (.ifCond .le 5, 3) := by decide +kernel
theorem dX7_hasDitch_21 : decode cX7_hasDitch 21 = .ok (.iconst 1, 1) := by decide +kernel
theorem dX7_hasDitch_22 : decode cX7_hasDitch 22 = .ok (.ireturn, 1) := by decide +kernel
theorem dX7_hasDitch_23 : decode cX7_hasDitch 23 = .ok (.iinc 2 1, 3) := by decide +kernel
theorem dX7_hasDitch_26 : decode cX7_hasDitch 26 = .ok (.goto (-24), 3) := by decide +kernel
theorem dX7_hasDitch_29 : decode cX7_hasDitch 29 = .ok (.iconst 0, 1) := by decide +kernel
theorem dX7_hasDitch_30 : decode cX7_hasDitch 30 = .ok (.ireturn, 1) := by decide +kernel
theorem dX7_bitsOfLost_0 : decode cX7_bitsOfLost 0 = .ok (.aload_n 0, 1) := by decide +kernel
theorem dX7_bitsOfLost_1 : decode cX7_bitsOfLost 1 = .ok (.invokevirtual 41, 3) := by decide +kernel
theorem dX7_bitsOfLost_4 : decode cX7_bitsOfLost 4 = .ok (.istore_n 1, 1) := by decide +kernel
theorem dX7_bitsOfLost_5 : decode cX7_bitsOfLost 5 = .ok (.iconst 0, 1) := by decide +kernel
theorem dX7_bitsOfLost_6 : decode cX7_bitsOfLost 6 = .ok (.istore_n 2, 1) := by decide +kernel
theorem dX7_bitsOfLost_7 : decode cX7_bitsOfLost 7 = .ok (.iload_n 2, 1) := by decide +kernel
theorem dX7_bitsOfLost_8 : decode cX7_bitsOfLost 8 = .ok (.aload_n 0, 1) := by decide +kernel
theorem dX7_bitsOfLost_9 : decode cX7_bitsOfLost 9 = .ok (.getfield 23, 3) := by decide +kernel
theorem dX7_bitsOfLost_12 : decode cX7_bitsOfLost 12 = .ok (.if_icmp .ge 61, 3) := by decide +kernel
theorem dX7_bitsOfLost_15 : decode cX7_bitsOfLost 15 = .ok (.iconst 0, 1) := by decide +kernel
theorem dX7_bitsOfLost_16 : decode cX7_bitsOfLost 16 = .ok (.istore_n 3, 1) := by decide +kernel
theorem dX7_bitsOfLost_17 : decode cX7_bitsOfLost 17 = .ok (.iload_n 3, 1) := by decide +kernel
theorem dX7_bitsOfLost_18 : decode cX7_bitsOfLost 18 = .ok (.aload_n 0, 1) := by decide +kernel
theorem dX7_bitsOfLost_19 : decode cX7_bitsOfLost 19 = .ok (.getfield 23, 3) := by decide +kernel
theorem dX7_bitsOfLost_22 : decode cX7_bitsOfLost 22 = .ok (.if_icmp .ge 45, 3) := by decide +kernel
theorem dX7_bitsOfLost_25 : decode cX7_bitsOfLost 25 = .ok (.aload_n 0, 1) := by decide +kernel
theorem dX7_bitsOfLost_26 : decode cX7_bitsOfLost 26 = .ok (.invokevirtual 41, 3) := by decide +kernel
theorem dX7_bitsOfLost_29 : decode cX7_bitsOfLost 29 = .ok (.iload_n 1, 1) := by decide +kernel
theorem dX7_bitsOfLost_30 : decode cX7_bitsOfLost 30 = .ok (.iconst (-1), 1) := by decide +kernel
theorem dX7_bitsOfLost_31 : decode cX7_bitsOfLost 31 = .ok (.ixor, 1) := by decide +kernel
theorem dX7_bitsOfLost_32 : decode cX7_bitsOfLost 32 = .ok (.iand, 1) := by decide +kernel
theorem dX7_bitsOfLost_33 : decode cX7_bitsOfLost 33 = .ok (.istore 4, 2) := by decide +kernel
theorem dX7_bitsOfLost_35 : decode cX7_bitsOfLost 35 = .ok (.aload_n 0, 1) := by decide +kernel
theorem dX7_bitsOfLost_36 : decode cX7_bitsOfLost 36 = .ok (.iload_n 3, 1) := by decide +kernel
theorem dX7_bitsOfLost_37 : decode cX7_bitsOfLost 37 = .ok (.invokevirtual 45, 3) := by decide +kernel
theorem dX7_bitsOfLost_40 : decode cX7_bitsOfLost 40 = .ok (.ifCond .ne 13, 3) := by decide +kernel
theorem dX7_bitsOfLost_43 : decode cX7_bitsOfLost 43 = .ok (.aload_n 0, 1) := by decide +kernel
theorem dX7_bitsOfLost_44 : decode cX7_bitsOfLost 44 = .ok (.iload_n 3, 1) := by decide +kernel
theorem dX7_bitsOfLost_45 : decode cX7_bitsOfLost 45 = .ok (.iload 4, 2) := by decide +kernel
theorem dX7_bitsOfLost_47 : decode cX7_bitsOfLost 47 = .ok (.invokevirtual 48, 3) := by decide +kernel
theorem dX7_bitsOfLost_50 : decode cX7_bitsOfLost 50 = .ok (.ifCond .le 11, 3) := by decide +kernel
theorem dX7_bitsOfLost_53 : decode cX7_bitsOfLost 53 = .ok (.iload_n 1, 1) := by decide +kernel
theorem dX7_bitsOfLost_54 : decode cX7_bitsOfLost 54 = .ok (.iconst 1, 1) := by decide +kernel
theorem dX7_bitsOfLost_55 : decode cX7_bitsOfLost 55 = .ok (.iload_n 3, 1) := by decide +kernel
theorem dX7_bitsOfLost_56 : decode cX7_bitsOfLost 56 = .ok (.ishl, 1) := by decide +kernel
theorem dX7_bitsOfLost_57 : decode cX7_bitsOfLost 57 = .ok (.iconst (-1), 1) := by decide +kernel
theorem dX7_bitsOfLost_58 : decode cX7_bitsOfLost 58 = .ok (.ixor, 1) := by decide +kernel
theorem dX7_bitsOfLost_59 : decode cX7_bitsOfLost 59 = .ok (.iand, 1) := by decide +kernel
theorem dX7_bitsOfLost_60 : decode cX7_bitsOfLost 60 = .ok (.istore_n 1, 1) := by decide +kernel
theorem dX7_bitsOfLost_61 : decode cX7_bitsOfLost 61 = .ok (.iinc 3 1, 3) := by decide +kernel
theorem dX7_bitsOfLost_64 : decode cX7_bitsOfLost 64 = .ok (.goto (-47), 3) := by decide +kernel
theorem dX7_bitsOfLost_67 : decode cX7_bitsOfLost 67 = .ok (.iinc 2 1, 3) := by decide +kernel
theorem dX7_bitsOfLost_70 : decode cX7_bitsOfLost 70 = .ok (.goto (-63), 3) := by decide +kernel
theorem dX7_bitsOfLost_73 : decode cX7_bitsOfLost 73 = .ok (.iload_n 1, 1) := by decide +kernel
theorem dX7_bitsOfLost_74 : decode cX7_bitsOfLost 74 = .ok (.ireturn, 1) := by decide +kernel
theorem dX7_isTwoWay_0 : decode cX7_isTwoWay 0 = .ok (.iconst 0, 1) := by decide +kernel
theorem dX7_isTwoWay_1 : decode cX7_isTwoWay 1 = .ok (.istore_n 1, 1) := by decide +kernel
theorem dX7_isTwoWay_2 : decode cX7_isTwoWay 2 = .ok (.iload_n 1, 1) := by decide +kernel
theorem dX7_isTwoWay_3 : decode cX7_isTwoWay 3 = .ok (.aload_n 0, 1) := by decide +kernel
theorem dX7_isTwoWay_4 : decode cX7_isTwoWay 4 = .ok (.getfield 23, 3) := by decide +kernel
theorem dX7_isTwoWay_7 : decode cX7_isTwoWay 7 = .ok (.if_icmp .ge 43, 3) := by decide +kernel
theorem dX7_isTwoWay_10 : decode cX7_isTwoWay 10 = .ok (.iconst 0, 1) := by decide +kernel
theorem dX7_isTwoWay_11 : decode cX7_isTwoWay 11 = .ok (.istore_n 2, 1) := by decide +kernel
theorem dX7_isTwoWay_12 : decode cX7_isTwoWay 12 = .ok (.iload_n 2, 1) := by decide +kernel
theorem dX7_isTwoWay_13 : decode cX7_isTwoWay 13 = .ok (.iload_n 1, 1) := by decide +kernel
theorem dX7_isTwoWay_14 : decode cX7_isTwoWay 14 = .ok (.if_icmp .ge 30, 3) := by decide +kernel
theorem dX7_isTwoWay_17 : decode cX7_isTwoWay 17 = .ok (.aload_n 0, 1) := by decide +kernel
theorem dX7_isTwoWay_18 : decode cX7_isTwoWay 18 = .ok (.getfield 17, 3) := by decide +kernel
theorem dX7_isTwoWay_21 : decode cX7_isTwoWay 21 = .ok (.iload_n 1, 1) := by decide +kernel
theorem dX7_isTwoWay_22 : decode cX7_isTwoWay 22 = .ok (.aaload, 1) := by decide +kernel
theorem dX7_isTwoWay_23 : decode cX7_isTwoWay 23 = .ok (.iload_n 2, 1) := by decide +kernel
theorem dX7_isTwoWay_24 : decode cX7_isTwoWay 24 = .ok (.iaload, 1) := by decide +kernel
theorem dX7_isTwoWay_25 : decode cX7_isTwoWay 25 = .ok (.aload_n 0, 1) := by decide +kernel
theorem dX7_isTwoWay_26 : decode cX7_isTwoWay 26 = .ok (.getfield 17, 3) := by decide +kernel
theorem dX7_isTwoWay_29 : decode cX7_isTwoWay 29 = .ok (.iload_n 2, 1) := by decide +kernel
theorem dX7_isTwoWay_30 : decode cX7_isTwoWay 30 = .ok (.aaload, 1) := by decide +kernel
theorem dX7_isTwoWay_31 : decode cX7_isTwoWay 31 = .ok (.iload_n 1, 1) := by decide +kernel
theorem dX7_isTwoWay_32 : decode cX7_isTwoWay 32 = .ok (.iaload, 1) := by decide +kernel
theorem dX7_isTwoWay_33 : decode cX7_isTwoWay 33 = .ok (.if_icmp .eq 5, 3) := by decide +kernel
theorem dX7_isTwoWay_36 : decode cX7_isTwoWay 36 = .ok (.iconst 0, 1) := by decide +kernel
theorem dX7_isTwoWay_37 : decode cX7_isTwoWay 37 = .ok (.ireturn, 1) := by decide +kernel
theorem dX7_isTwoWay_38 : decode cX7_isTwoWay 38 = .ok (.iinc 2 1, 3) := by decide +kernel
theorem dX7_isTwoWay_41 : decode cX7_isTwoWay 41 = .ok (.goto (-29), 3) := by decide +kernel
theorem dX7_isTwoWay_44 : decode cX7_isTwoWay 44 = .ok (.iinc 1 1, 3) := by decide +kernel
theorem dX7_isTwoWay_47 : decode cX7_isTwoWay 47 = .ok (.goto (-45), 3) := by decide +kernel
theorem dX7_isTwoWay_50 : decode cX7_isTwoWay 50 = .ok (.iconst 1, 1) := by decide +kernel
theorem dX7_isTwoWay_51 : decode cX7_isTwoWay 51 = .ok (.ireturn, 1) := by decide +kernel
theorem dX8_init_0 : decode cX8_init 0 = .ok (.aload_n 0, 1) := by decide +kernel
theorem dX8_init_1 : decode cX8_init 1 = .ok (.invokespecial 3, 3) := by decide +kernel
theorem dX8_init_4 : decode cX8_init 4 = .ok (.aload_n 0, 1) := by decide +kernel
theorem dX8_init_5 : decode cX8_init 5 = .ok (.bipush 12, 2) := by decide +kernel
theorem dX8_init_7 : decode cX8_init 7 = .ok (.bipush 12, 2) := by decide +kernel
theorem dX8_init_9 : decode cX8_init 9 = .ok (.multianewarray 9 2, 4) := by decide +kernel
theorem dX8_init_13 : decode cX8_init 13 = .ok (.putfield 11, 3) := by decide +kernel
theorem dX8_init_16 : decode cX8_init 16 = .ok (.return_, 1) := by decide +kernel
theorem dX8_countRows_0 : decode cX8_countRows 0 = .ok (.iload_n 2, 1) := by decide +kernel
theorem dX8_countRows_1 : decode cX8_countRows 1 = .ok (.iconst 2, 1) := by decide +kernel
theorem dX8_countRows_2 : decode cX8_countRows 2 = .ok (.if_icmp .ge 5, 3) := by decide +kernel
theorem dX8_countRows_5 : decode cX8_countRows 5 = .ok (.iconst 0, 1) := by decide +kernel
theorem dX8_countRows_6 : decode cX8_countRows 6 = .ok (.ireturn, 1) := by decide +kernel
theorem dX8_countRows_7 : decode cX8_countRows 7 = .ok (.aload_n 0, 1) := by decide +kernel
theorem dX8_countRows_8 : decode cX8_countRows 8 = .ok (.aload_n 1, 1) := by decide +kernel
theorem dX8_countRows_9 : decode cX8_countRows 9 = .ok (.iload_n 2, 1) := by decide +kernel
theorem dX8_countRows_10 : decode cX8_countRows 10 = .ok (.invokevirtual 16, 3) := by decide +kernel
theorem dX8_countRows_13 : decode cX8_countRows 13 = .ok (.lconst 1, 1) := by decide +kernel
theorem dX8_countRows_14 : decode cX8_countRows 14 = .ok (.lstore_n 3, 1) := by decide +kernel
theorem dX8_countRows_15 : decode cX8_countRows 15 = .ok (.iconst 0, 1) := by decide +kernel
theorem dX8_countRows_16 : decode cX8_countRows 16 = .ok (.istore 5, 2) := by decide +kernel
theorem dX8_countRows_18 : decode cX8_countRows 18 = .ok (.iload 5, 2) := by decide +kernel
theorem dX8_countRows_20 : decode cX8_countRows 20 = .ok (.aload_n 1, 1) := by decide +kernel
theorem dX8_countRows_21 : decode cX8_countRows 21 = .ok (.getfield 20, 3) := by decide +kernel
theorem dX8_countRows_24 : decode cX8_countRows 24 = .ok (.if_icmp .ge 80, 3) := by decide +kernel
theorem dX8_countRows_27 : decode cX8_countRows 27 = .ok (.aload_n 0, 1) := by decide +kernel
theorem dX8_countRows_28 : decode cX8_countRows 28 = .ok (.iload 5, 2) := by decide +kernel
theorem dX8_countRows_30 : decode cX8_countRows 30 = .ok (.aload_n 1, 1) := by decide +kernel
theorem dX8_countRows_31 : decode cX8_countRows 31 = .ok (.getfield 20, 3) := by decide +kernel
theorem dX8_countRows_34 : decode cX8_countRows 34 = .ok (.invokevirtual 26, 3) := by decide +kernel
theorem dX8_countRows_37 : decode cX8_countRows 37 = .ok (.istore 6, 2) := by decide +kernel
theorem dX8_countRows_39 : decode cX8_countRows 39 = .ok (.iload 6, 2) := by decide +kernel
theorem dX8_countRows_41 : decode cX8_countRows 41 = .ok (.iconst (-1), 1) := by decide +kernel
theorem dX8_countRows_42 : decode cX8_countRows 42 = .ok (.if_icmp .ne 5, 3) := by decide +kernel
theorem dX8_countRows_45 : decode cX8_countRows 45 = .ok (.iconst 0, 1) := by decide +kernel
theorem dX8_countRows_46 : decode cX8_countRows 46 = .ok (.ireturn, 1) := by decide +kernel
theorem dX8_countRows_47 : decode cX8_countRows 47 = .ok (.iload 6, 2) := by decide +kernel
theorem dX8_countRows_49 : decode cX8_countRows 49 = .ok (.iload 5, 2) := by decide +kernel
theorem dX8_countRows_51 : decode cX8_countRows 51 = .ok (.if_icmp .eq 20, 3) := by decide +kernel
theorem dX8_countRows_54 : decode cX8_countRows 54 = .ok (.aload_n 0, 1) := by decide +kernel
theorem dX8_countRows_55 : decode cX8_countRows 55 = .ok (.iload 6, 2) := by decide +kernel
theorem dX8_countRows_57 : decode cX8_countRows 57 = .ok (.iload 5, 2) := by decide +kernel
theorem dX8_countRows_59 : decode cX8_countRows 59 = .ok (.aload_n 1, 1) := by decide +kernel
theorem dX8_countRows_60 : decode cX8_countRows 60 = .ok (.getfield 20, 3) := by decide +kernel
theorem dX8_countRows_63 : decode cX8_countRows 63 = .ok (.invokevirtual 30, 3) := by decide +kernel
theorem dX8_countRows_66 : decode cX8_countRows 66 = .ok (.iload_n 2, 1) := by decide +kernel
theorem dX8_countRows_67 : decode cX8_countRows 67 = .ok (.i2l, 1) := by decide +kernel
theorem dX8_countRows_68 : decode cX8_countRows 68 = .ok (.lload_n 3, 1) := by decide +kernel
theorem dX8_countRows_69 : decode cX8_countRows 69 = .ok (.lsub, 1) := by decide +kernel
theorem dX8_countRows_70 : decode cX8_countRows 70 = .ok (.lstore_n 3, 1) := by decide +kernel
theorem dX8_countRows_71 : decode cX8_countRows 71 = .ok (.lload_n 3, 1) := by decide +kernel
theorem dX8_countRows_72 : decode cX8_countRows 72 = .ok (.aload_n 0, 1) := by decide +kernel
theorem dX8_countRows_73 : decode cX8_countRows 73 = .ok (.getfield 11, 3) := by decide +kernel
theorem dX8_countRows_76 : decode cX8_countRows 76 = .ok (.iload 5, 2) := by decide +kernel
theorem dX8_countRows_78 : decode cX8_countRows 78 = .ok (.aaload, 1) := by decide +kernel
theorem dX8_countRows_79 : decode cX8_countRows 79 = .ok (.iload 5, 2) := by decide +kernel
theorem dX8_countRows_81 : decode cX8_countRows 81 = .ok (.laload, 1) := by decide +kernel
theorem dX8_countRows_82 : decode cX8_countRows 82 = .ok (.lmul, 1) := by decide +kernel
theorem dX8_countRows_83 : decode cX8_countRows 83 = .ok (.iload_n 2, 1) := by decide +kernel
theorem dX8_countRows_84 : decode cX8_countRows 84 = .ok (.i2l, 1) := by decide +kernel
theorem dX8_countRows_85 : decode cX8_countRows 85 = .ok (.lrem, 1) := by decide +kernel
theorem dX8_countRows_86 : decode cX8_countRows 86 = .ok (.lstore_n 3, 1) := by decide +kernel
theorem dX8_countRows_87 : decode cX8_countRows 87 = .ok (.aload_n 0, 1) := by decide +kernel
theorem dX8_countRows_88 : decode cX8_countRows 88 = .ok (.iload 5, 2) := by decide +kernel
theorem dX8_countRows_90 : decode cX8_countRows 90 = .ok (.aload_n 1, 1) := by decide +kernel
theorem dX8_countRows_91 : decode cX8_countRows 91 = .ok (.getfield 20, 3) := by decide +kernel
theorem dX8_countRows_94 : decode cX8_countRows 94 = .ok (.iload_n 2, 1) := by decide +kernel
theorem dX8_countRows_95 : decode cX8_countRows 95 = .ok (.invokevirtual 34, 3) := by decide +kernel
theorem dX8_countRows_98 : decode cX8_countRows 98 = .ok (.iinc 5 1, 3) := by decide +kernel
theorem dX8_countRows_101 : decode cX8_countRows 101 = .ok (.goto (-83), 3) := by decide +kernel
theorem dX8_countRows_104 : decode cX8_countRows 104 = .ok (.lload_n 3, 1) := by decide +kernel
theorem dX8_countRows_105 : decode cX8_countRows 105 = .ok (.l2i, 1) := by decide +kernel
theorem dX8_countRows_106 : decode cX8_countRows 106 = .ok (.ireturn, 1) := by decide +kernel
theorem dX8_fill_0 : decode cX8_fill 0 = .ok (.iconst 0, 1) := by decide +kernel
theorem dX8_fill_1 : decode cX8_fill 1 = .ok (.istore_n 3, 1) := by decide +kernel
theorem dX8_fill_2 : decode cX8_fill 2 = .ok (.iload_n 3, 1) := by decide +kernel
theorem dX8_fill_3 : decode cX8_fill 3 = .ok (.aload_n 1, 1) := by decide +kernel
theorem dX8_fill_4 : decode cX8_fill 4 = .ok (.getfield 20, 3) := by decide +kernel
theorem dX8_fill_7 : decode cX8_fill 7 = .ok (.if_icmp .ge 70, 3) := by decide +kernel
theorem dX8_fill_10 : decode cX8_fill 10 = .ok (.iconst 0, 1) := by decide +kernel
theorem dX8_fill_11 : decode cX8_fill 11 = .ok (.istore 4, 2) := by decide +kernel
theorem dX8_fill_13 : decode cX8_fill 13 = .ok (.iload 4, 2) := by decide +kernel
theorem dX8_fill_15 : decode cX8_fill 15 = .ok (.aload_n 1, 1) := by decide +kernel
theorem dX8_fill_16 : decode cX8_fill 16 = .ok (.getfield 20, 3) := by decide +kernel
theorem dX8_fill_19 : decode cX8_fill 19 = .ok (.if_icmp .ge 52, 3) := by decide +kernel
theorem dX8_fill_22 : decode cX8_fill 22 = .ok (.iload_n 3, 1) := by decide +kernel
theorem dX8_fill_23 : decode cX8_fill 23 = .ok (.iload 4, 2) := by decide +kernel
theorem dX8_fill_25 : decode cX8_fill 25 = .ok (.if_icmp .ne 12, 3) := by decide +kernel
theorem dX8_fill_28 : decode cX8_fill 28 = .ok (.aload_n 1, 1) := by decide +kernel
theorem dX8_fill_29 : decode cX8_fill 29 = .ok (.getfield 37, 3) := by decide +kernel
theorem dX8_fill_32 : decode cX8_fill 32 = .ok (.iload_n 3, 1) := by decide +kernel
theorem dX8_fill_33 : decode cX8_fill 33 = .ok (.iaload, 1) := by decide +kernel
theorem dX8_fill_34 : decode cX8_fill 34 = .ok (.goto 13, 3) := by decide +kernel
theorem dX8_fill_37 : decode cX8_fill 37 = .ok (.aload_n 1, 1) := by decide +kernel
theorem dX8_fill_38 : decode cX8_fill 38 = .ok (.getfield 41, 3) := by decide +kernel
theorem dX8_fill_41 : decode cX8_fill 41 = .ok (.iload_n 3, 1) := by decide +kernel
theorem dX8_fill_42 : decode cX8_fill 42 = .ok (.aaload, 1) := by decide +kernel
theorem dX8_fill_43 : decode cX8_fill 43 = .ok (.iload 4, 2) := by decide +kernel
theorem dX8_fill_45 : decode cX8_fill 45 = .ok (.iaload, 1) := by decide +kernel
theorem dX8_fill_46 : decode cX8_fill 46 = .ok (.ineg, 1) := by decide +kernel
theorem dX8_fill_47 : decode cX8_fill 47 = .ok (.istore 5, 2) := by decide +kernel
theorem dX8_fill_49 : decode cX8_fill 49 = .ok (.aload_n 0, 1) := by decide +kernel
theorem dX8_fill_50 : decode cX8_fill 50 = .ok (.getfield 11, 3) := by decide +kernel
theorem dX8_fill_53 : decode cX8_fill 53 = .ok (.iload_n 3, 1) := by decide +kernel
theorem dX8_fill_54 : decode cX8_fill 54 = .ok (.aaload, 1) := by decide +kernel
theorem dX8_fill_55 : decode cX8_fill 55 = .ok (.iload 4, 2) := by decide +kernel
theorem dX8_fill_57 : decode cX8_fill 57 = .ok (.iload 5, 2) := by decide +kernel
theorem dX8_fill_59 : decode cX8_fill 59 = .ok (.iload_n 2, 1) := by decide +kernel
theorem dX8_fill_60 : decode cX8_fill 60 = .ok (.invokestatic 45, 3) := by decide +kernel
theorem dX8_fill_63 : decode cX8_fill 63 = .ok (.i2l, 1) := by decide +kernel
theorem dX8_fill_64 : decode cX8_fill 64 = .ok (.lastore, 1) := by decide +kernel
theorem dX8_fill_65 : decode cX8_fill 65 = .ok (.iinc 4 1, 3) := by decide +kernel
theorem dX8_fill_68 : decode cX8_fill 68 = .ok (.goto (-55), 3) := by decide +kernel
theorem dX8_fill_71 : decode cX8_fill 71 = .ok (.iinc 3 1, 3) := by decide +kernel
theorem dX8_fill_74 : decode cX8_fill 74 = .ok (.goto (-72), 3) := by decide +kernel
theorem dX8_fill_77 : decode cX8_fill 77 = .ok (.return_, 1) := by decide +kernel
theorem dX8_pivotOf_0 : decode cX8_pivotOf 0 = .ok (.iload_n 1, 1) := by decide +kernel
theorem dX8_pivotOf_1 : decode cX8_pivotOf 1 = .ok (.istore_n 3, 1) := by decide +kernel
theorem dX8_pivotOf_2 : decode cX8_pivotOf 2 = .ok (.iload_n 3, 1) := by decide +kernel
theorem dX8_pivotOf_3 : decode cX8_pivotOf 3 = .ok (.iload_n 2, 1) := by decide +kernel
theorem dX8_pivotOf_4 : decode cX8_pivotOf 4 = .ok (.if_icmp .ge 24, 3) := by decide +kernel
theorem dX8_pivotOf_7 : decode cX8_pivotOf 7 = .ok (.aload_n 0, 1) := by decide +kernel
theorem dX8_pivotOf_8 : decode cX8_pivotOf 8 = .ok (.getfield 11, 3) := by decide +kernel
theorem dX8_pivotOf_11 : decode cX8_pivotOf 11 = .ok (.iload_n 3, 1) := by decide +kernel
theorem dX8_pivotOf_12 : decode cX8_pivotOf 12 = .ok (.aaload, 1) := by decide +kernel
theorem dX8_pivotOf_13 : decode cX8_pivotOf 13 = .ok (.iload_n 1, 1) := by decide +kernel
theorem dX8_pivotOf_14 : decode cX8_pivotOf 14 = .ok (.laload, 1) := by decide +kernel
theorem dX8_pivotOf_15 : decode cX8_pivotOf 15 = .ok (.lconst 0, 1) := by decide +kernel
theorem dX8_pivotOf_16 : decode cX8_pivotOf 16 = .ok (.lcmp, 1) := by decide +kernel
theorem dX8_pivotOf_17 : decode cX8_pivotOf 17 = .ok (.ifCond .eq 5, 3) := by decide +kernel
theorem dX8_pivotOf_20 : decode cX8_pivotOf 20 = .ok (.iload_n 3, 1) := by decide +kernel
theorem dX8_pivotOf_21 : decode cX8_pivotOf 21 = .ok (.ireturn, 1) := by decide +kernel
theorem dX8_pivotOf_22 : decode cX8_pivotOf 22 = .ok (.iinc 3 1, 3) := by decide +kernel
theorem dX8_pivotOf_25 : decode cX8_pivotOf 25 = .ok (.goto (-23), 3) := by decide +kernel
theorem dX8_pivotOf_28 : decode cX8_pivotOf 28 = .ok (.iconst (-1), 1) := by decide +kernel
theorem dX8_pivotOf_29 : decode cX8_pivotOf 29 = .ok (.ireturn, 1) := by decide +kernel
theorem dX8_swapRows_0 : decode cX8_swapRows 0 = .ok (.iconst 0, 1) := by decide +kernel
theorem dX8_swapRows_1 : decode cX8_swapRows 1 = .ok (.istore 4, 2) := by decide +kernel
theorem dX8_swapRows_3 : decode cX8_swapRows 3 = .ok (.iload 4, 2) := by decide +kernel
theorem dX8_swapRows_5 : decode cX8_swapRows 5 = .ok (.iload_n 3, 1) := by decide +kernel
theorem dX8_swapRows_6 : decode cX8_swapRows 6 = .ok (.if_icmp .ge 49, 3) := by decide +kernel
theorem dX8_swapRows_9 : decode cX8_swapRows 9 = .ok (.aload_n 0, 1) := by decide +kernel
theorem dX8_swapRows_10 : decode cX8_swapRows 10 = .ok (.getfield 11, 3) := by decide +kernel
theorem dX8_swapRows_13 : decode cX8_swapRows 13 = .ok (.iload_n 1, 1) := by decide +kernel
theorem dX8_swapRows_14 : decode cX8_swapRows 14 = .ok (.aaload, 1) := by decide +kernel
theorem dX8_swapRows_15 : decode cX8_swapRows 15 = .ok (.iload 4, 2) := by decide +kernel
theorem dX8_swapRows_17 : decode cX8_swapRows 17 = .ok (.laload, 1) := by decide +kernel
theorem dX8_swapRows_18 : decode cX8_swapRows 18 = .ok (.lstore 5, 2) := by decide +kernel
theorem dX8_swapRows_20 : decode cX8_swapRows 20 = .ok (.aload_n 0, 1) := by decide +kernel
theorem dX8_swapRows_21 : decode cX8_swapRows 21 = .ok (.getfield 11, 3) := by decide +kernel
theorem dX8_swapRows_24 : decode cX8_swapRows 24 = .ok (.iload_n 1, 1) := by decide +kernel
theorem dX8_swapRows_25 : decode cX8_swapRows 25 = .ok (.aaload, 1) := by decide +kernel
theorem dX8_swapRows_26 : decode cX8_swapRows 26 = .ok (.iload 4, 2) := by decide +kernel
theorem dX8_swapRows_28 : decode cX8_swapRows 28 = .ok (.aload_n 0, 1) := by decide +kernel
theorem dX8_swapRows_29 : decode cX8_swapRows 29 = .ok (.getfield 11, 3) := by decide +kernel
theorem dX8_swapRows_32 : decode cX8_swapRows 32 = .ok (.iload_n 2, 1) := by decide +kernel
theorem dX8_swapRows_33 : decode cX8_swapRows 33 = .ok (.aaload, 1) := by decide +kernel
theorem dX8_swapRows_34 : decode cX8_swapRows 34 = .ok (.iload 4, 2) := by decide +kernel
theorem dX8_swapRows_36 : decode cX8_swapRows 36 = .ok (.laload, 1) := by decide +kernel
theorem dX8_swapRows_37 : decode cX8_swapRows 37 = .ok (.lastore, 1) := by decide +kernel
theorem dX8_swapRows_38 : decode cX8_swapRows 38 = .ok (.aload_n 0, 1) := by decide +kernel
theorem dX8_swapRows_39 : decode cX8_swapRows 39 = .ok (.getfield 11, 3) := by decide +kernel
theorem dX8_swapRows_42 : decode cX8_swapRows 42 = .ok (.iload_n 2, 1) := by decide +kernel
theorem dX8_swapRows_43 : decode cX8_swapRows 43 = .ok (.aaload, 1) := by decide +kernel
theorem dX8_swapRows_44 : decode cX8_swapRows 44 = .ok (.iload 4, 2) := by decide +kernel
theorem dX8_swapRows_46 : decode cX8_swapRows 46 = .ok (.lload 5, 2) := by decide +kernel
theorem dX8_swapRows_48 : decode cX8_swapRows 48 = .ok (.lastore, 1) := by decide +kernel
theorem dX8_swapRows_49 : decode cX8_swapRows 49 = .ok (.iinc 4 1, 3) := by decide +kernel
theorem dX8_swapRows_52 : decode cX8_swapRows 52 = .ok (.goto (-49), 3) := by decide +kernel
theorem dX8_swapRows_55 : decode cX8_swapRows 55 = .ok (.return_, 1) := by decide +kernel
theorem dX8_clearBelow_0 : decode cX8_clearBelow 0 = .ok (.aload_n 0, 1) := by decide +kernel
theorem dX8_clearBelow_1 : decode cX8_clearBelow 1 = .ok (.getfield 11, 3) := by decide +kernel
theorem dX8_clearBelow_4 : decode cX8_clearBelow 4 = .ok (.iload_n 1, 1) := by decide +kernel
theorem dX8_clearBelow_5 : decode cX8_clearBelow 5 = .ok (.aaload, 1) := by decide +kernel
theorem dX8_clearBelow_6 : decode cX8_clearBelow 6 = .ok (.iload_n 1, 1) := by decide +kernel
theorem dX8_clearBelow_7 : decode cX8_clearBelow 7 = .ok (.laload, 1) := by decide +kernel
theorem dX8_clearBelow_8 : decode cX8_clearBelow 8 = .ok (.iload_n 3, 1) := by decide +kernel
theorem dX8_clearBelow_9 : decode cX8_clearBelow 9 = .ok (.iconst 2, 1) := by decide +kernel
theorem dX8_clearBelow_10 : decode cX8_clearBelow 10 = .ok (.isub, 1) := by decide +kernel
theorem dX8_clearBelow_11 : decode cX8_clearBelow 11 = .ok (.iload_n 3, 1) := by decide +kernel
theorem dX8_clearBelow_12 : decode cX8_clearBelow 12 = .ok (.invokestatic 50, 3) := by decide +kernel
theorem dX8_clearBelow_15 : decode cX8_clearBelow 15 = .ok (.lstore 4, 2) := by decide +kernel
theorem dX8_clearBelow_17 : decode cX8_clearBelow 17 = .ok (.iload_n 1, 1) := by decide +kernel
theorem dX8_clearBelow_18 : decode cX8_clearBelow 18 = .ok (.iconst 1, 1) := by decide +kernel
theorem dX8_clearBelow_19 : decode cX8_clearBelow 19 = .ok (.iadd, 1) := by decide +kernel
theorem dX8_clearBelow_20 : decode cX8_clearBelow 20 = .ok (.istore 6, 2) := by decide +kernel
theorem dX8_clearBelow_22 : decode cX8_clearBelow 22 = .ok (.iload 6, 2) := by decide +kernel
theorem dX8_clearBelow_24 : decode cX8_clearBelow 24 = .ok (.iload_n 2, 1) := by decide +kernel
theorem dX8_clearBelow_25 : decode cX8_clearBelow 25 = .ok (.if_icmp .ge 96, 3) := by decide +kernel
theorem dX8_clearBelow_28 : decode cX8_clearBelow 28 = .ok (.aload_n 0, 1) := by decide +kernel
theorem dX8_clearBelow_29 : decode cX8_clearBelow 29 = .ok (.getfield 11, 3) := by decide +kernel
theorem dX8_clearBelow_32 : decode cX8_clearBelow 32 = .ok (.iload 6, 2) := by decide +kernel
theorem dX8_clearBelow_34 : decode cX8_clearBelow 34 = .ok (.aaload, 1) := by decide +kernel
theorem dX8_clearBelow_35 : decode cX8_clearBelow 35 = .ok (.iload_n 1, 1) := by decide +kernel
theorem dX8_clearBelow_36 : decode cX8_clearBelow 36 = .ok (.laload, 1) := by decide +kernel
theorem dX8_clearBelow_37 : decode cX8_clearBelow 37 = .ok (.lload 4, 2) := by decide +kernel
theorem dX8_clearBelow_39 : decode cX8_clearBelow 39 = .ok (.lmul, 1) := by decide +kernel
theorem dX8_clearBelow_40 : decode cX8_clearBelow 40 = .ok (.iload_n 3, 1) := by decide +kernel
theorem dX8_clearBelow_41 : decode cX8_clearBelow 41 = .ok (.i2l, 1) := by decide +kernel
theorem dX8_clearBelow_42 : decode cX8_clearBelow 42 = .ok (.lrem, 1) := by decide +kernel
theorem dX8_clearBelow_43 : decode cX8_clearBelow 43 = .ok (.lstore 7, 2) := by decide +kernel
theorem dX8_clearBelow_45 : decode cX8_clearBelow 45 = .ok (.iload_n 1, 1) := by decide +kernel
theorem dX8_clearBelow_46 : decode cX8_clearBelow 46 = .ok (.istore 9, 2) := by decide +kernel
theorem dX8_clearBelow_48 : decode cX8_clearBelow 48 = .ok (.iload 9, 2) := by decide +kernel
theorem dX8_clearBelow_50 : decode cX8_clearBelow 50 = .ok (.iload_n 2, 1) := by decide +kernel
theorem dX8_clearBelow_51 : decode cX8_clearBelow 51 = .ok (.if_icmp .ge 64, 3) := by decide +kernel
theorem dX8_clearBelow_54 : decode cX8_clearBelow 54 = .ok (.aload_n 0, 1) := by decide +kernel
theorem dX8_clearBelow_55 : decode cX8_clearBelow 55 = .ok (.getfield 11, 3) := by decide +kernel
theorem dX8_clearBelow_58 : decode cX8_clearBelow 58 = .ok (.iload 6, 2) := by decide +kernel
theorem dX8_clearBelow_60 : decode cX8_clearBelow 60 = .ok (.aaload, 1) := by decide +kernel
theorem dX8_clearBelow_61 : decode cX8_clearBelow 61 = .ok (.iload 9, 2) := by decide +kernel
theorem dX8_clearBelow_63 : decode cX8_clearBelow 63 = .ok (.laload, 1) := by decide +kernel
theorem dX8_clearBelow_64 : decode cX8_clearBelow 64 = .ok (.lload 7, 2) := by decide +kernel
theorem dX8_clearBelow_66 : decode cX8_clearBelow 66 = .ok (.aload_n 0, 1) := by decide +kernel
theorem dX8_clearBelow_67 : decode cX8_clearBelow 67 = .ok (.getfield 11, 3) := by decide +kernel
theorem dX8_clearBelow_70 : decode cX8_clearBelow 70 = .ok (.iload_n 1, 1) := by decide +kernel
theorem dX8_clearBelow_71 : decode cX8_clearBelow 71 = .ok (.aaload, 1) := by decide +kernel
theorem dX8_clearBelow_72 : decode cX8_clearBelow 72 = .ok (.iload 9, 2) := by decide +kernel
theorem dX8_clearBelow_74 : decode cX8_clearBelow 74 = .ok (.laload, 1) := by decide +kernel
theorem dX8_clearBelow_75 : decode cX8_clearBelow 75 = .ok (.lmul, 1) := by decide +kernel
theorem dX8_clearBelow_76 : decode cX8_clearBelow 76 = .ok (.iload_n 3, 1) := by decide +kernel
theorem dX8_clearBelow_77 : decode cX8_clearBelow 77 = .ok (.i2l, 1) := by decide +kernel
theorem dX8_clearBelow_78 : decode cX8_clearBelow 78 = .ok (.lrem, 1) := by decide +kernel
theorem dX8_clearBelow_79 : decode cX8_clearBelow 79 = .ok (.lsub, 1) := by decide +kernel
theorem dX8_clearBelow_80 : decode cX8_clearBelow 80 = .ok (.lstore 10, 2) := by decide +kernel
theorem dX8_clearBelow_82 : decode cX8_clearBelow 82 = .ok (.aload_n 0, 1) := by decide +kernel
theorem dX8_clearBelow_83 : decode cX8_clearBelow 83 = .ok (.getfield 11, 3) := by decide +kernel
theorem dX8_clearBelow_86 : decode cX8_clearBelow 86 = .ok (.iload 6, 2) := by decide +kernel
theorem dX8_clearBelow_88 : decode cX8_clearBelow 88 = .ok (.aaload, 1) := by decide +kernel
theorem dX8_clearBelow_89 : decode cX8_clearBelow 89 = .ok (.iload 9, 2) := by decide +kernel
theorem dX8_clearBelow_91 : decode cX8_clearBelow 91 = .ok (.lload 10, 2) := by decide +kernel
theorem dX8_clearBelow_93 : decode cX8_clearBelow 93 = .ok (.lconst 0, 1) := by decide +kernel
theorem dX8_clearBelow_94 : decode cX8_clearBelow 94 = .ok (.lcmp, 1) := by decide +kernel
theorem dX8_clearBelow_95 : decode cX8_clearBelow 95 = .ok (.ifCond .ge 11, 3) := by decide +kernel
theorem dX8_clearBelow_98 : decode cX8_clearBelow 98 = .ok (.lload 10, 2) := by decide +kernel
theorem dX8_clearBelow_100 : decode cX8_clearBelow 100 = .ok (.iload_n 3, 1) := by decide +kernel
theorem dX8_clearBelow_101 : decode cX8_clearBelow 101 = .ok (.i2l, 1) := by decide +kernel
theorem dX8_clearBelow_102 : decode cX8_clearBelow 102 = .ok (.ladd, 1) := by decide +kernel
theorem dX8_clearBelow_103 : decode cX8_clearBelow 103 = .ok (.goto 5, 3) := by decide +kernel
theorem dX8_clearBelow_106 : decode cX8_clearBelow 106 = .ok (.lload 10, 2) := by decide +kernel
theorem dX8_clearBelow_108 : decode cX8_clearBelow 108 = .ok (.lastore, 1) := by decide +kernel
theorem dX8_clearBelow_109 : decode cX8_clearBelow 109 = .ok (.iinc 9 1, 3) := by decide +kernel
theorem dX8_clearBelow_112 : decode cX8_clearBelow 112 = .ok (.goto (-64), 3) := by decide +kernel
theorem dX8_clearBelow_115 : decode cX8_clearBelow 115 = .ok (.iinc 6 1, 3) := by decide +kernel
theorem dX8_clearBelow_118 : decode cX8_clearBelow 118 = .ok (.goto (-96), 3) := by decide +kernel
theorem dX8_clearBelow_121 : decode cX8_clearBelow 121 = .ok (.return_, 1) := by decide +kernel
theorem dX8_power_0 : decode cX8_power 0 = .ok (.lconst 1, 1) := by decide +kernel
theorem dX8_power_1 : decode cX8_power 1 = .ok (.lstore 4, 2) := by decide +kernel
theorem dX8_power_3 : decode cX8_power 3 = .ok (.lload_n 0, 1) := by decide +kernel
theorem dX8_power_4 : decode cX8_power 4 = .ok (.lstore 6, 2) := by decide +kernel
theorem dX8_power_6 : decode cX8_power 6 = .ok (.iload_n 2, 1) := by decide +kernel
theorem dX8_power_7 : decode cX8_power 7 = .ok (.istore 8, 2) := by decide +kernel
theorem dX8_power_9 : decode cX8_power 9 = .ok (.iload 8, 2) := by decide +kernel
theorem dX8_power_11 : decode cX8_power 11 = .ok (.ifCond .le 39, 3) := by decide +kernel
theorem dX8_power_14 : decode cX8_power 14 = .ok (.iload 8, 2) := by decide +kernel
theorem dX8_power_16 : decode cX8_power 16 = .ok (.iconst 1, 1) := by decide +kernel
theorem dX8_power_17 : decode cX8_power 17 = .ok (.iand, 1) := by decide +kernel
theorem dX8_power_18 : decode cX8_power 18 = .ok (.ifCond .eq 13, 3) := by decide +kernel
theorem dX8_power_21 : decode cX8_power 21 = .ok (.lload 4, 2) := by decide +kernel
theorem dX8_power_23 : decode cX8_power 23 = .ok (.lload 6, 2) := by decide +kernel
theorem dX8_power_25 : decode cX8_power 25 = .ok (.lmul, 1) := by decide +kernel
theorem dX8_power_26 : decode cX8_power 26 = .ok (.iload_n 3, 1) := by decide +kernel
theorem dX8_power_27 : decode cX8_power 27 = .ok (.i2l, 1) := by decide +kernel
theorem dX8_power_28 : decode cX8_power 28 = .ok (.lrem, 1) := by decide +kernel
theorem dX8_power_29 : decode cX8_power 29 = .ok (.lstore 4, 2) := by decide +kernel
theorem dX8_power_31 : decode cX8_power 31 = .ok (.lload 6, 2) := by decide +kernel
theorem dX8_power_33 : decode cX8_power 33 = .ok (.lload 6, 2) := by decide +kernel
theorem dX8_power_35 : decode cX8_power 35 = .ok (.lmul, 1) := by decide +kernel
theorem dX8_power_36 : decode cX8_power 36 = .ok (.iload_n 3, 1) := by decide +kernel
theorem dX8_power_37 : decode cX8_power 37 = .ok (.i2l, 1) := by decide +kernel
theorem dX8_power_38 : decode cX8_power 38 = .ok (.lrem, 1) := by decide +kernel
theorem dX8_power_39 : decode cX8_power 39 = .ok (.lstore 6, 2) := by decide +kernel
theorem dX8_power_41 : decode cX8_power 41 = .ok (.iload 8, 2) := by decide +kernel
theorem dX8_power_43 : decode cX8_power 43 = .ok (.iconst 1, 1) := by decide +kernel
theorem dX8_power_44 : decode cX8_power 44 = .ok (.ishr, 1) := by decide +kernel
theorem dX8_power_45 : decode cX8_power 45 = .ok (.istore 8, 2) := by decide +kernel
theorem dX8_power_47 : decode cX8_power 47 = .ok (.goto (-38), 3) := by decide +kernel
theorem dX8_power_50 : decode cX8_power 50 = .ok (.lload 4, 2) := by decide +kernel
theorem dX8_power_52 : decode cX8_power 52 = .ok (.lreturn, 1) := by decide +kernel
theorem dX9_init_0 : decode cX9_init 0 = .ok (.aload_n 0, 1) := by decide +kernel
theorem dX9_init_1 : decode cX9_init 1 = .ok (.invokespecial 3, 3) := by decide +kernel
theorem dX9_init_4 : decode cX9_init 4 = .ok (.aload_n 0, 1) := by decide +kernel
theorem dX9_init_5 : decode cX9_init 5 = .ok (.bipush 16, 2) := by decide +kernel
theorem dX9_init_7 : decode cX9_init 7 = .ok (.newarray .long, 2) := by decide +kernel
theorem dX9_init_9 : decode cX9_init 9 = .ok (.putfield 9, 3) := by decide +kernel
theorem dX9_init_12 : decode cX9_init 12 = .ok (.return_, 1) := by decide +kernel
theorem dX9_isMissing_0 : decode cX9_isMissing 0 = .ok (.aload_n 0, 1) := by decide +kernel
theorem dX9_isMissing_1 : decode cX9_isMissing 1 = .ok (.getfield 15, 3) := by decide +kernel
theorem dX9_isMissing_4 : decode cX9_isMissing 4 = .ok (.ifCond .ne 7, 3) := by decide +kernel
theorem dX9_isMissing_7 : decode cX9_isMissing 7 = .ok (.iconst 1, 1) := by decide +kernel
theorem dX9_isMissing_8 : decode cX9_isMissing 8 = .ok (.goto 4, 3) := by decide +kernel
theorem dX9_isMissing_11 : decode cX9_isMissing 11 = .ok (.iconst 0, 1) := by decide +kernel
theorem dX9_isMissing_12 : decode cX9_isMissing 12 = .ok (.ireturn, 1) := by decide +kernel
theorem dX9_build_0 : decode cX9_build 0 = .ok (.iconst 0, 1) := by decide +kernel
theorem dX9_build_1 : decode cX9_build 1 = .ok (.istore_n 3, 1) := by decide +kernel
theorem dX9_build_2 : decode cX9_build 2 = .ok (.iload_n 3, 1) := by decide +kernel
theorem dX9_build_3 : decode cX9_build 3 = .ok (.bipush 16, 2) := by decide +kernel
theorem dX9_build_5 : decode cX9_build 5 = .ok (.if_icmp .ge 16, 3) := by decide +kernel
theorem dX9_build_8 : decode cX9_build 8 = .ok (.aload_n 0, 1) := by decide +kernel
theorem dX9_build_9 : decode cX9_build 9 = .ok (.getfield 9, 3) := by decide +kernel
theorem dX9_build_12 : decode cX9_build 12 = .ok (.iload_n 3, 1) := by decide +kernel
theorem dX9_build_13 : decode cX9_build 13 = .ok (.lconst 0, 1) := by decide +kernel
theorem dX9_build_14 : decode cX9_build 14 = .ok (.lastore, 1) := by decide +kernel
theorem dX9_build_15 : decode cX9_build 15 = .ok (.iinc 3 1, 3) := by decide +kernel
theorem dX9_build_18 : decode cX9_build 18 = .ok (.goto (-16), 3) := by decide +kernel
theorem dX9_build_21 : decode cX9_build 21 = .ok (.aload_n 0, 1) := by decide +kernel
theorem dX9_build_22 : decode cX9_build 22 = .ok (.iload_n 1, 1) := by decide +kernel
theorem dX9_build_23 : decode cX9_build 23 = .ok (.putfield 15, 3) := by decide +kernel
theorem dX9_build_26 : decode cX9_build 26 = .ok (.aload_n 0, 1) := by decide +kernel
theorem dX9_build_27 : decode cX9_build 27 = .ok (.iload_n 1, 1) := by decide +kernel
theorem dX9_build_28 : decode cX9_build 28 = .ok (.ifCond .ne 7, 3) := by decide +kernel
theorem dX9_build_31 : decode cX9_build 31 = .ok (.iconst 0, 1) := by decide +kernel
theorem dX9_build_32 : decode cX9_build 32 = .ok (.goto 4, 3) := by decide +kernel
theorem dX9_build_35 : decode cX9_build 35 = .ok (.iload_n 2, 1) := by decide +kernel
theorem dX9_build_36 : decode cX9_build 36 = .ok (.putfield 19, 3) := by decide +kernel
theorem dX9_build_39 : decode cX9_build 39 = .ok (.aload_n 0, 1) := by decide +kernel
theorem dX9_build_40 : decode cX9_build 40 = .ok (.getfield 19, 3) := by decide +kernel
theorem dX9_build_43 : decode cX9_build 43 = .ok (.ireturn, 1) := by decide +kernel
theorem dX9_store_0 : decode cX9_store 0 = .ok (.bipush 64, 2) := by decide +kernel
theorem dX9_store_2 : decode cX9_store 2 = .ok (.aload_n 0, 1) := by decide +kernel
theorem dX9_store_3 : decode cX9_store 3 = .ok (.getfield 15, 3) := by decide +kernel
theorem dX9_store_6 : decode cX9_store 6 = .ok (.isub, 1) := by decide +kernel
theorem dX9_store_7 : decode cX9_store 7 = .ok (.istore 4, 2) := by decide +kernel
theorem dX9_store_9 : decode cX9_store 9 = .ok (.aload_n 0, 1) := by decide +kernel
theorem dX9_store_10 : decode cX9_store 10 = .ok (.getfield 9, 3) := by decide +kernel
theorem dX9_store_13 : decode cX9_store 13 = .ok (.iload_n 1, 1) := by decide +kernel
theorem dX9_store_14 : decode cX9_store 14 = .ok (.lload_n 2, 1) := by decide +kernel
theorem dX9_store_15 : decode cX9_store 15 = .ok (.iload 4, 2) := by decide +kernel
theorem dX9_store_17 : decode cX9_store 17 = .ok (.lshl, 1) := by decide +kernel
theorem dX9_store_18 : decode cX9_store 18 = .ok (.iload 4, 2) := by decide +kernel
theorem dX9_store_20 : decode cX9_store 20 = .ok (.lshr, 1) := by decide +kernel
theorem dX9_store_21 : decode cX9_store 21 = .ok (.lastore, 1) := by decide +kernel
theorem dX9_store_22 : decode cX9_store 22 = .ok (.aload_n 0, 1) := by decide +kernel
theorem dX9_store_23 : decode cX9_store 23 = .ok (.getfield 9, 3) := by decide +kernel
theorem dX9_store_26 : decode cX9_store 26 = .ok (.iload_n 1, 1) := by decide +kernel
theorem dX9_store_27 : decode cX9_store 27 = .ok (.laload, 1) := by decide +kernel
theorem dX9_store_28 : decode cX9_store 28 = .ok (.lreturn, 1) := by decide +kernel
theorem dX10_init_0 : decode cX10_init 0 = .ok (.aload_n 0, 1) := by decide +kernel
theorem dX10_init_1 : decode cX10_init 1 = .ok (.invokespecial 1, 3) := by decide +kernel
theorem dX10_init_4 : decode cX10_init 4 = .ok (.aload_n 0, 1) := by decide +kernel
theorem dX10_init_5 : decode cX10_init 5 = .ok (.new 7, 3) := by decide +kernel
theorem dX10_init_8 : decode cX10_init 8 = .ok (.dup, 1) := by decide +kernel
theorem dX10_init_9 : decode cX10_init 9 = .ok (.invokespecial 9, 3) := by decide +kernel
theorem dX10_init_12 : decode cX10_init 12 = .ok (.putfield 10, 3) := by decide +kernel
theorem dX10_init_15 : decode cX10_init 15 = .ok (.aload_n 0, 1) := by decide +kernel
theorem dX10_init_16 : decode cX10_init 16 = .ok (.new 16, 3) := by decide +kernel
theorem dX10_init_19 : decode cX10_init 19 = .ok (.dup, 1) := by decide +kernel
theorem dX10_init_20 : decode cX10_init 20 = .ok (.aload_n 0, 1) := by decide +kernel
theorem dX10_init_21 : decode cX10_init 21 = .ok (.getfield 10, 3) := by decide +kernel
theorem dX10_init_24 : decode cX10_init 24 = .ok (.invokespecial 18, 3) := by decide +kernel
theorem dX10_init_27 : decode cX10_init 27 = .ok (.putfield 21, 3) := by decide +kernel
theorem dX10_init_30 : decode cX10_init 30 = .ok (.aload_n 0, 1) := by decide +kernel
theorem dX10_init_31 : decode cX10_init 31 = .ok (.new 16, 3) := by decide +kernel
theorem dX10_init_34 : decode cX10_init 34 = .ok (.dup, 1) := by decide +kernel
theorem dX10_init_35 : decode cX10_init 35 = .ok (.aload_n 0, 1) := by decide +kernel
theorem dX10_init_36 : decode cX10_init 36 = .ok (.getfield 10, 3) := by decide +kernel
theorem dX10_init_39 : decode cX10_init 39 = .ok (.invokespecial 18, 3) := by decide +kernel
theorem dX10_init_42 : decode cX10_init 42 = .ok (.putfield 25, 3) := by decide +kernel
theorem dX10_init_45 : decode cX10_init 45 = .ok (.aload_n 0, 1) := by decide +kernel
theorem dX10_init_46 : decode cX10_init 46 = .ok (.new 28, 3) := by decide +kernel
theorem dX10_init_49 : decode cX10_init 49 = .ok (.dup, 1) := by decide +kernel
theorem dX10_init_50 : decode cX10_init 50 = .ok (.aload_n 0, 1) := by decide +kernel
theorem dX10_init_51 : decode cX10_init 51 = .ok (.getfield 10, 3) := by decide +kernel
theorem dX10_init_54 : decode cX10_init 54 = .ok (.aload_n 0, 1) := by decide +kernel
theorem dX10_init_55 : decode cX10_init 55 = .ok (.getfield 21, 3) := by decide +kernel
theorem dX10_init_58 : decode cX10_init 58 = .ok (.invokespecial 30, 3) := by decide +kernel
theorem dX10_init_61 : decode cX10_init 61 = .ok (.putfield 33, 3) := by decide +kernel
theorem dX10_init_64 : decode cX10_init 64 = .ok (.aload_n 0, 1) := by decide +kernel
theorem dX10_init_65 : decode cX10_init 65 = .ok (.new 37, 3) := by decide +kernel
theorem dX10_init_68 : decode cX10_init 68 = .ok (.dup, 1) := by decide +kernel
theorem dX10_init_69 : decode cX10_init 69 = .ok (.invokespecial 39, 3) := by decide +kernel
theorem dX10_init_72 : decode cX10_init 72 = .ok (.putfield 40, 3) := by decide +kernel
theorem dX10_init_75 : decode cX10_init 75 = .ok (.aload_n 0, 1) := by decide +kernel
theorem dX10_init_76 : decode cX10_init 76 = .ok (.new 44, 3) := by decide +kernel
theorem dX10_init_79 : decode cX10_init 79 = .ok (.dup, 1) := by decide +kernel
theorem dX10_init_80 : decode cX10_init 80 = .ok (.invokespecial 46, 3) := by decide +kernel
theorem dX10_init_83 : decode cX10_init 83 = .ok (.putfield 47, 3) := by decide +kernel
theorem dX10_init_86 : decode cX10_init 86 = .ok (.aload_n 0, 1) := by decide +kernel
theorem dX10_init_87 : decode cX10_init 87 = .ok (.new 51, 3) := by decide +kernel
theorem dX10_init_90 : decode cX10_init 90 = .ok (.dup, 1) := by decide +kernel
theorem dX10_init_91 : decode cX10_init 91 = .ok (.invokespecial 53, 3) := by decide +kernel
theorem dX10_init_94 : decode cX10_init 94 = .ok (.putfield 54, 3) := by decide +kernel
theorem dX10_init_97 : decode cX10_init 97 = .ok (.aload_n 0, 1) := by decide +kernel
theorem dX10_init_98 : decode cX10_init 98 = .ok (.new 58, 3) := by decide +kernel
theorem dX10_init_101 : decode cX10_init 101 = .ok (.dup, 1) := by decide +kernel
theorem dX10_init_102 : decode cX10_init 102 = .ok (.invokespecial 60, 3) := by decide +kernel
theorem dX10_init_105 : decode cX10_init 105 = .ok (.putfield 61, 3) := by decide +kernel
theorem dX10_init_108 : decode cX10_init 108 = .ok (.aload_n 0, 1) := by decide +kernel
theorem dX10_init_109 : decode cX10_init 109 = .ok (.bipush 8, 2) := by decide +kernel
theorem dX10_init_111 : decode cX10_init 111 = .ok (.bipush 12, 2) := by decide +kernel
theorem dX10_init_113 : decode cX10_init 113 = .ok (.multianewarray 65 2, 4) := by decide +kernel
theorem dX10_init_117 : decode cX10_init 117 = .ok (.putfield 67, 3) := by decide +kernel
theorem dX10_init_120 : decode cX10_init 120 = .ok (.aload_n 0, 1) := by decide +kernel
theorem dX10_init_121 : decode cX10_init 121 = .ok (.bipush 8, 2) := by decide +kernel
theorem dX10_init_123 : decode cX10_init 123 = .ok (.newarray .boolean, 2) := by decide +kernel
theorem dX10_init_125 : decode cX10_init 125 = .ok (.putfield 70, 3) := by decide +kernel
theorem dX10_init_128 : decode cX10_init 128 = .ok (.aload_n 0, 1) := by decide +kernel
theorem dX10_init_129 : decode cX10_init 129 = .ok (.iconst 4, 1) := by decide +kernel
theorem dX10_init_130 : decode cX10_init 130 = .ok (.anewarray 74, 3) := by decide +kernel
theorem dX10_init_133 : decode cX10_init 133 = .ok (.putfield 76, 3) := by decide +kernel
theorem dX10_init_136 : decode cX10_init 136 = .ok (.iconst 0, 1) := by decide +kernel
theorem dX10_init_137 : decode cX10_init 137 = .ok (.istore_n 1, 1) := by decide +kernel
theorem dX10_init_138 : decode cX10_init 138 = .ok (.iload_n 1, 1) := by decide +kernel
theorem dX10_init_139 : decode cX10_init 139 = .ok (.iconst 4, 1) := by decide +kernel
theorem dX10_init_140 : decode cX10_init 140 = .ok (.if_icmp .ge 22, 3) := by decide +kernel
theorem dX10_init_143 : decode cX10_init 143 = .ok (.aload_n 0, 1) := by decide +kernel
theorem dX10_init_144 : decode cX10_init 144 = .ok (.getfield 76, 3) := by decide +kernel
theorem dX10_init_147 : decode cX10_init 147 = .ok (.iload_n 1, 1) := by decide +kernel
theorem dX10_init_148 : decode cX10_init 148 = .ok (.new 74, 3) := by decide +kernel
theorem dX10_init_151 : decode cX10_init 151 = .ok (.dup, 1) := by decide +kernel
theorem dX10_init_152 : decode cX10_init 152 = .ok (.invokespecial 80, 3) := by decide +kernel
theorem dX10_init_155 : decode cX10_init 155 = .ok (.aastore, 1) := by decide +kernel
theorem dX10_init_156 : decode cX10_init 156 = .ok (.iinc 1 1, 3) := by decide +kernel
theorem dX10_init_159 : decode cX10_init 159 = .ok (.goto (-21), 3) := by decide +kernel
theorem dX10_init_162 : decode cX10_init 162 = .ok (.aload_n 0, 1) := by decide +kernel
theorem dX10_init_163 : decode cX10_init 163 = .ok (.new 81, 3) := by decide +kernel
theorem dX10_init_166 : decode cX10_init 166 = .ok (.dup, 1) := by decide +kernel
theorem dX10_init_167 : decode cX10_init 167 = .ok (.invokespecial 83, 3) := by decide +kernel
theorem dX10_init_170 : decode cX10_init 170 = .ok (.putfield 84, 3) := by decide +kernel
theorem dX10_init_173 : decode cX10_init 173 = .ok (.aload_n 0, 1) := by decide +kernel
theorem dX10_init_174 : decode cX10_init 174 = .ok (.bipush 12, 2) := by decide +kernel
theorem dX10_init_176 : decode cX10_init 176 = .ok (.newarray .int, 2) := by decide +kernel
theorem dX10_init_178 : decode cX10_init 178 = .ok (.putfield 88, 3) := by decide +kernel
theorem dX10_init_181 : decode cX10_init 181 = .ok (.return_, 1) := by decide +kernel
theorem dX10_place_0 : decode cX10_place 0 = .ok (.aload_n 0, 1) := by decide +kernel
theorem dX10_place_1 : decode cX10_place 1 = .ok (.getfield 92, 3) := by decide +kernel
theorem dX10_place_4 : decode cX10_place 4 = .ok (.ifCond .eq 10, 3) := by decide +kernel
theorem dX10_place_7 : decode cX10_place 7 = .ok (.aload_n 0, 1) := by decide +kernel
theorem dX10_place_8 : decode cX10_place 8 = .ok (.bipush (-6), 2) := by decide +kernel
theorem dX10_place_10 : decode cX10_place 10 = .ok (.invokevirtual 96, 3) := by decide +kernel
theorem dX10_place_13 : decode cX10_place 13 = .ok (.ireturn, 1) := by decide +kernel
theorem dX10_place_14 : decode cX10_place 14 = .ok (.iload_n 1, 1) := by decide +kernel
theorem dX10_place_15 : decode cX10_place 15 = .ok (.ifCond .lt 8, 3) := by decide +kernel
theorem dX10_place_18 : decode cX10_place 18 = .ok (.iload_n 1, 1) := by decide +kernel
theorem dX10_place_19 : decode cX10_place 19 = .ok (.iconst 5, 1) := by decide +kernel
theorem dX10_place_20 : decode cX10_place 20 = .ok (.if_icmp .lt 9, 3) := by decide +kernel
theorem dX10_place_23 : decode cX10_place 23 = .ok (.aload_n 0, 1) := by decide +kernel
theorem dX10_place_24 : decode cX10_place 24 = .ok (.iconst (-1), 1) := by decide +kernel
theorem dX10_place_25 : decode cX10_place 25 = .ok (.invokevirtual 96, 3) := by decide +kernel
theorem dX10_place_28 : decode cX10_place 28 = .ok (.ireturn, 1) := by decide +kernel
theorem dX10_place_29 : decode cX10_place 29 = .ok (.aload_n 0, 1) := by decide +kernel
theorem dX10_place_30 : decode cX10_place 30 = .ok (.getfield 10, 3) := by decide +kernel
theorem dX10_place_33 : decode cX10_place 33 = .ok (.getfield 100, 3) := by decide +kernel
theorem dX10_place_36 : decode cX10_place 36 = .ok (.bipush 12, 2) := by decide +kernel
theorem dX10_place_38 : decode cX10_place 38 = .ok (.if_icmp .lt 10, 3) := by decide +kernel
theorem dX10_place_41 : decode cX10_place 41 = .ok (.aload_n 0, 1) := by decide +kernel
theorem dX10_place_42 : decode cX10_place 42 = .ok (.bipush (-5), 2) := by decide +kernel
theorem dX10_place_44 : decode cX10_place 44 = .ok (.invokevirtual 96, 3) := by decide +kernel
theorem dX10_place_47 : decode cX10_place 47 = .ok (.ireturn, 1) := by decide +kernel
theorem dX10_place_48 : decode cX10_place 48 = .ok (.aload_n 0, 1) := by decide +kernel
theorem dX10_place_49 : decode cX10_place 49 = .ok (.getfield 10, 3) := by decide +kernel
theorem dX10_place_52 : decode cX10_place 52 = .ok (.iload_n 1, 1) := by decide +kernel
theorem dX10_place_53 : decode cX10_place 53 = .ok (.invokevirtual 104, 3) := by decide +kernel
theorem dX10_place_56 : decode cX10_place 56 = .ok (.ireturn, 1) := by decide +kernel
theorem dX10_way_0 : decode cX10_way 0 = .ok (.aload_n 0, 1) := by decide +kernel
theorem dX10_way_1 : decode cX10_way 1 = .ok (.getfield 92, 3) := by decide +kernel
theorem dX10_way_4 : decode cX10_way 4 = .ok (.ifCond .eq 10, 3) := by decide +kernel
theorem dX10_way_7 : decode cX10_way 7 = .ok (.aload_n 0, 1) := by decide +kernel
theorem dX10_way_8 : decode cX10_way 8 = .ok (.bipush (-6), 2) := by decide +kernel
theorem dX10_way_10 : decode cX10_way 10 = .ok (.invokevirtual 96, 3) := by decide +kernel
theorem dX10_way_13 : decode cX10_way 13 = .ok (.ireturn, 1) := by decide +kernel
theorem dX10_way_14 : decode cX10_way 14 = .ok (.aload_n 0, 1) := by decide +kernel
theorem dX10_way_15 : decode cX10_way 15 = .ok (.getfield 10, 3) := by decide +kernel
theorem dX10_way_18 : decode cX10_way 18 = .ok (.iload_n 1, 1) := by decide +kernel
theorem dX10_way_19 : decode cX10_way 19 = .ok (.invokevirtual 107, 3) := by decide +kernel
theorem dX10_way_22 : decode cX10_way 22 = .ok (.ifCond .eq 19, 3) := by decide +kernel
theorem dX10_way_25 : decode cX10_way 25 = .ok (.aload_n 0, 1) := by decide +kernel
theorem dX10_way_26 : decode cX10_way 26 = .ok (.getfield 10, 3) := by decide +kernel
theorem dX10_way_29 : decode cX10_way 29 = .ok (.iload_n 2, 1) := by decide +kernel
theorem dX10_way_30 : decode cX10_way 30 = .ok (.invokevirtual 111, 3) := by decide +kernel
theorem dX10_way_33 : decode cX10_way 33 = .ok (.ifCond .eq 8, 3) := by decide +kernel
theorem dX10_way_36 : decode cX10_way 36 = .ok (.iload_n 2, 1) := by decide +kernel
theorem dX10_way_37 : decode cX10_way 37 = .ok (.iload_n 1, 1) := by decide +kernel
theorem dX10_way_38 : decode cX10_way 38 = .ok (.if_icmp .ne 9, 3) := by decide +kernel
theorem dX10_way_41 : decode cX10_way 41 = .ok (.aload_n 0, 1) := by decide +kernel
theorem dX10_way_42 : decode cX10_way 42 = .ok (.iconst (-1), 1) := by decide +kernel
theorem dX10_way_43 : decode cX10_way 43 = .ok (.invokevirtual 96, 3) := by decide +kernel
theorem dX10_way_46 : decode cX10_way 46 = .ok (.ireturn, 1) := by decide +kernel
theorem dX10_way_47 : decode cX10_way 47 = .ok (.iload_n 3, 1) := by decide +kernel
theorem dX10_way_48 : decode cX10_way 48 = .ok (.iconst 1, 1) := by decide +kernel
theorem dX10_way_49 : decode cX10_way 49 = .ok (.if_icmp .lt 9, 3) := by decide +kernel
theorem dX10_way_52 : decode cX10_way 52 = .ok (.iload_n 3, 1) := by decide +kernel
theorem dX10_way_53 : decode cX10_way 53 = .ok (.bipush 9, 2) := by decide +kernel
theorem dX10_way_55 : decode cX10_way 55 = .ok (.if_icmp .le 9, 3) := by decide +kernel
theorem dX10_way_58 : decode cX10_way 58 = .ok (.aload_n 0, 1) := by decide +kernel
theorem dX10_way_59 : decode cX10_way 59 = .ok (.iconst (-1), 1) := by decide +kernel
theorem dX10_way_60 : decode cX10_way 60 = .ok (.invokevirtual 96, 3) := by decide +kernel
theorem dX10_way_63 : decode cX10_way 63 = .ok (.ireturn, 1) := by decide +kernel
theorem dX10_way_64 : decode cX10_way 64 = .ok (.iload_n 3, 1) := by decide +kernel
theorem dX10_way_65 : decode cX10_way 65 = .ok (.iconst 1, 1) := by decide +kernel
theorem dX10_way_66 : decode cX10_way 66 = .ok (.if_icmp .eq 22, 3) := by decide +kernel
theorem dX10_way_69 : decode cX10_way 69 = .ok (.aload_n 0, 1) := by decide +kernel
theorem dX10_way_70 : decode cX10_way 70 = .ok (.getfield 10, 3) := by decide +kernel
theorem dX10_way_73 : decode cX10_way 73 = .ok (.iload_n 1, 1) := by decide +kernel
end
section
theorem dX10_way_74 : decode cX10_way 74 = .ok (.iconst 2, 1) := by decide +kernel
theorem dX10_way_75 : decode cX10_way 75 = .ok (.invokevirtual 114, 3) := by decide +kernel
theorem dX10_way_78 : decode cX10_way 78 = .ok (.ifCond .ne 10, 3) := by decide +kernel
theorem dX10_way_81 : decode cX10_way 81 = .ok (.aload_n 0, 1) := by decide +kernel
theorem dX10_way_82 : decode cX10_way 82 = .ok (.bipush (-4), 2) := by decide +kernel
theorem dX10_way_84 : decode cX10_way 84 = .ok (.invokevirtual 96, 3) := by decide +kernel
theorem dX10_way_87 : decode cX10_way 87 = .ok (.ireturn, 1) := by decide +kernel
theorem dX10_way_88 : decode cX10_way 88 = .ok (.iload_n 2, 1) := by decide +kernel
theorem dX10_way_89 : decode cX10_way 89 = .ok (.ifCond .ge 22, 3) := by decide +kernel
theorem dX10_way_92 : decode cX10_way 92 = .ok (.aload_n 0, 1) := by decide +kernel
theorem dX10_way_93 : decode cX10_way 93 = .ok (.getfield 10, 3) := by decide +kernel
theorem dX10_way_96 : decode cX10_way 96 = .ok (.iload_n 1, 1) := by decide +kernel
theorem dX10_way_97 : decode cX10_way 97 = .ok (.iconst 3, 1) := by decide +kernel
theorem dX10_way_98 : decode cX10_way 98 = .ok (.invokevirtual 114, 3) := by decide +kernel
theorem dX10_way_101 : decode cX10_way 101 = .ok (.ifCond .ne 10, 3) := by decide +kernel
theorem dX10_way_104 : decode cX10_way 104 = .ok (.aload_n 0, 1) := by decide +kernel
theorem dX10_way_105 : decode cX10_way 105 = .ok (.bipush (-4), 2) := by decide +kernel
theorem dX10_way_107 : decode cX10_way 107 = .ok (.invokevirtual 96, 3) := by decide +kernel
theorem dX10_way_110 : decode cX10_way 110 = .ok (.ireturn, 1) := by decide +kernel
theorem dX10_way_111 : decode cX10_way 111 = .ok (.aload_n 0, 1) := by decide +kernel
theorem dX10_way_112 : decode cX10_way 112 = .ok (.getfield 10, 3) := by decide +kernel
theorem dX10_way_115 : decode cX10_way 115 = .ok (.iload_n 1, 1) := by decide +kernel
theorem dX10_way_116 : decode cX10_way 116 = .ok (.iload_n 2, 1) := by decide +kernel
theorem dX10_way_117 : decode cX10_way 117 = .ok (.iload_n 3, 1) := by decide +kernel
theorem dX10_way_118 : decode cX10_way 118 = .ok (.invokevirtual 118, 3) := by decide +kernel
theorem dX10_way_121 : decode cX10_way 121 = .ok (.ireturn, 1) := by decide +kernel
theorem dX10_begin_0 : decode cX10_begin 0 = .ok (.aload_n 0, 1) := by decide +kernel
theorem dX10_begin_1 : decode cX10_begin 1 = .ok (.getfield 92, 3) := by decide +kernel
theorem dX10_begin_4 : decode cX10_begin 4 = .ok (.ifCond .eq 10, 3) := by decide +kernel
theorem dX10_begin_7 : decode cX10_begin 7 = .ok (.aload_n 0, 1) := by decide +kernel
theorem dX10_begin_8 : decode cX10_begin 8 = .ok (.bipush (-6), 2) := by decide +kernel
theorem dX10_begin_10 : decode cX10_begin 10 = .ok (.invokevirtual 96, 3) := by decide +kernel
theorem dX10_begin_13 : decode cX10_begin 13 = .ok (.ireturn, 1) := by decide +kernel
theorem dX10_begin_14 : decode cX10_begin 14 = .ok (.aload_n 0, 1) := by decide +kernel
theorem dX10_begin_15 : decode cX10_begin 15 = .ok (.getfield 10, 3) := by decide +kernel
theorem dX10_begin_18 : decode cX10_begin 18 = .ok (.getfield 100, 3) := by decide +kernel
theorem dX10_begin_21 : decode cX10_begin 21 = .ok (.ifCond .ne 10, 3) := by decide +kernel
theorem dX10_begin_24 : decode cX10_begin 24 = .ok (.aload_n 0, 1) := by decide +kernel
theorem dX10_begin_25 : decode cX10_begin 25 = .ok (.bipush (-11), 2) := by decide +kernel
theorem dX10_begin_27 : decode cX10_begin 27 = .ok (.invokevirtual 96, 3) := by decide +kernel
theorem dX10_begin_30 : decode cX10_begin 30 = .ok (.ireturn, 1) := by decide +kernel
theorem dX10_begin_31 : decode cX10_begin 31 = .ok (.aload_n 0, 1) := by decide +kernel
theorem dX10_begin_32 : decode cX10_begin 32 = .ok (.getfield 10, 3) := by decide +kernel
theorem dX10_begin_35 : decode cX10_begin 35 = .ok (.invokevirtual 122, 3) := by decide +kernel
theorem dX10_begin_38 : decode cX10_begin 38 = .ok (.istore_n 1, 1) := by decide +kernel
theorem dX10_begin_39 : decode cX10_begin 39 = .ok (.iload_n 1, 1) := by decide +kernel
theorem dX10_begin_40 : decode cX10_begin 40 = .ok (.ifCond .eq 15, 3) := by decide +kernel
theorem dX10_begin_43 : decode cX10_begin 43 = .ok (.aload_n 0, 1) := by decide +kernel
theorem dX10_begin_44 : decode cX10_begin 44 = .ok (.iload_n 1, 1) := by decide +kernel
theorem dX10_begin_45 : decode cX10_begin 45 = .ok (.putfield 126, 3) := by decide +kernel
theorem dX10_begin_48 : decode cX10_begin 48 = .ok (.aload_n 0, 1) := by decide +kernel
theorem dX10_begin_49 : decode cX10_begin 49 = .ok (.bipush (-7), 2) := by decide +kernel
theorem dX10_begin_51 : decode cX10_begin 51 = .ok (.invokevirtual 96, 3) := by decide +kernel
theorem dX10_begin_54 : decode cX10_begin 54 = .ok (.ireturn, 1) := by decide +kernel
theorem dX10_begin_55 : decode cX10_begin 55 = .ok (.aload_n 0, 1) := by decide +kernel
theorem dX10_begin_56 : decode cX10_begin 56 = .ok (.iconst 1, 1) := by decide +kernel
theorem dX10_begin_57 : decode cX10_begin 57 = .ok (.putfield 92, 3) := by decide +kernel
theorem dX10_begin_60 : decode cX10_begin 60 = .ok (.aload_n 0, 1) := by decide +kernel
theorem dX10_begin_61 : decode cX10_begin 61 = .ok (.getfield 10, 3) := by decide +kernel
theorem dX10_begin_64 : decode cX10_begin 64 = .ok (.getfield 100, 3) := by decide +kernel
theorem dX10_begin_67 : decode cX10_begin 67 = .ok (.ireturn, 1) := by decide +kernel
theorem dX10_anew_0 : decode cX10_anew 0 = .ok (.aload_n 0, 1) := by decide +kernel
theorem dX10_anew_1 : decode cX10_anew 1 = .ok (.getfield 10, 3) := by decide +kernel
theorem dX10_anew_4 : decode cX10_anew 4 = .ok (.invokevirtual 129, 3) := by decide +kernel
theorem dX10_anew_7 : decode cX10_anew 7 = .ok (.aload_n 0, 1) := by decide +kernel
theorem dX10_anew_8 : decode cX10_anew 8 = .ok (.getfield 21, 3) := by decide +kernel
theorem dX10_anew_11 : decode cX10_anew 11 = .ok (.invokevirtual 132, 3) := by decide +kernel
theorem dX10_anew_14 : decode cX10_anew 14 = .ok (.aload_n 0, 1) := by decide +kernel
theorem dX10_anew_15 : decode cX10_anew 15 = .ok (.getfield 33, 3) := by decide +kernel
theorem dX10_anew_18 : decode cX10_anew 18 = .ok (.invokevirtual 133, 3) := by decide +kernel
theorem dX10_anew_21 : decode cX10_anew 21 = .ok (.aload_n 0, 1) := by decide +kernel
theorem dX10_anew_22 : decode cX10_anew 22 = .ok (.getfield 40, 3) := by decide +kernel
theorem dX10_anew_25 : decode cX10_anew 25 = .ok (.invokevirtual 134, 3) := by decide +kernel
theorem dX10_anew_28 : decode cX10_anew 28 = .ok (.aload_n 0, 1) := by decide +kernel
theorem dX10_anew_29 : decode cX10_anew 29 = .ok (.getfield 47, 3) := by decide +kernel
theorem dX10_anew_32 : decode cX10_anew 32 = .ok (.invokevirtual 135, 3) := by decide +kernel
theorem dX10_anew_35 : decode cX10_anew 35 = .ok (.aload_n 0, 1) := by decide +kernel
theorem dX10_anew_36 : decode cX10_anew 36 = .ok (.getfield 54, 3) := by decide +kernel
theorem dX10_anew_39 : decode cX10_anew 39 = .ok (.invokevirtual 136, 3) := by decide +kernel
theorem dX10_anew_42 : decode cX10_anew 42 = .ok (.iconst 0, 1) := by decide +kernel
theorem dX10_anew_43 : decode cX10_anew 43 = .ok (.istore_n 1, 1) := by decide +kernel
theorem dX10_anew_44 : decode cX10_anew 44 = .ok (.iload_n 1, 1) := by decide +kernel
theorem dX10_anew_45 : decode cX10_anew 45 = .ok (.bipush 8, 2) := by decide +kernel
theorem dX10_anew_47 : decode cX10_anew 47 = .ok (.if_icmp .ge 16, 3) := by decide +kernel
theorem dX10_anew_50 : decode cX10_anew 50 = .ok (.aload_n 0, 1) := by decide +kernel
theorem dX10_anew_51 : decode cX10_anew 51 = .ok (.getfield 70, 3) := by decide +kernel
theorem dX10_anew_54 : decode cX10_anew 54 = .ok (.iload_n 1, 1) := by decide +kernel
theorem dX10_anew_55 : decode cX10_anew 55 = .ok (.iconst 0, 1) := by decide +kernel
theorem dX10_anew_56 : decode cX10_anew 56 = .ok (.bastore, 1) := by decide +kernel
theorem dX10_anew_57 : decode cX10_anew 57 = .ok (.iinc 1 1, 3) := by decide +kernel
theorem dX10_anew_60 : decode cX10_anew 60 = .ok (.goto (-16), 3) := by decide +kernel
theorem dX10_anew_63 : decode cX10_anew 63 = .ok (.aload_n 0, 1) := by decide +kernel
theorem dX10_anew_64 : decode cX10_anew 64 = .ok (.iconst 0, 1) := by decide +kernel
theorem dX10_anew_65 : decode cX10_anew 65 = .ok (.putfield 92, 3) := by decide +kernel
theorem dX10_anew_68 : decode cX10_anew 68 = .ok (.aload_n 0, 1) := by decide +kernel
theorem dX10_anew_69 : decode cX10_anew 69 = .ok (.iconst 0, 1) := by decide +kernel
theorem dX10_anew_70 : decode cX10_anew 70 = .ok (.putfield 126, 3) := by decide +kernel
theorem dX10_anew_73 : decode cX10_anew 73 = .ok (.iconst 0, 1) := by decide +kernel
theorem dX10_anew_74 : decode cX10_anew 74 = .ok (.ireturn, 1) := by decide +kernel
theorem dX10_as_0 : decode cX10_as 0 = .ok (.aload_n 0, 1) := by decide +kernel
theorem dX10_as_1 : decode cX10_as 1 = .ok (.getfield 10, 3) := by decide +kernel
theorem dX10_as_4 : decode cX10_as 4 = .ok (.iload_n 1, 1) := by decide +kernel
theorem dX10_as_5 : decode cX10_as 5 = .ok (.invokevirtual 107, 3) := by decide +kernel
theorem dX10_as_8 : decode cX10_as 8 = .ok (.ifCond .eq 12, 3) := by decide +kernel
theorem dX10_as_11 : decode cX10_as 11 = .ok (.iload_n 2, 1) := by decide +kernel
theorem dX10_as_12 : decode cX10_as 12 = .ok (.ifCond .lt 8, 3) := by decide +kernel
theorem dX10_as_15 : decode cX10_as 15 = .ok (.iload_n 2, 1) := by decide +kernel
theorem dX10_as_16 : decode cX10_as 16 = .ok (.iconst 5, 1) := by decide +kernel
theorem dX10_as_17 : decode cX10_as 17 = .ok (.if_icmp .lt 9, 3) := by decide +kernel
theorem dX10_as_20 : decode cX10_as 20 = .ok (.aload_n 0, 1) := by decide +kernel
theorem dX10_as_21 : decode cX10_as 21 = .ok (.iconst (-1), 1) := by decide +kernel
theorem dX10_as_22 : decode cX10_as 22 = .ok (.invokevirtual 96, 3) := by decide +kernel
theorem dX10_as_25 : decode cX10_as 25 = .ok (.ireturn, 1) := by decide +kernel
theorem dX10_as_26 : decode cX10_as 26 = .ok (.aload_n 0, 1) := by decide +kernel
theorem dX10_as_27 : decode cX10_as 27 = .ok (.getfield 10, 3) := by decide +kernel
theorem dX10_as_30 : decode cX10_as 30 = .ok (.iload_n 1, 1) := by decide +kernel
theorem dX10_as_31 : decode cX10_as 31 = .ok (.iload_n 2, 1) := by decide +kernel
theorem dX10_as_32 : decode cX10_as 32 = .ok (.invokevirtual 114, 3) := by decide +kernel
theorem dX10_as_35 : decode cX10_as 35 = .ok (.ifCond .eq 7, 3) := by decide +kernel
theorem dX10_as_38 : decode cX10_as 38 = .ok (.iload_n 1, 1) := by decide +kernel
theorem dX10_as_39 : decode cX10_as 39 = .ok (.goto 9, 3) := by decide +kernel
theorem dX10_as_42 : decode cX10_as 42 = .ok (.aload_n 0, 1) := by decide +kernel
theorem dX10_as_43 : decode cX10_as 43 = .ok (.bipush (-4), 2) := by decide +kernel
theorem dX10_as_45 : decode cX10_as 45 = .ok (.invokevirtual 96, 3) := by decide +kernel
theorem dX10_as_48 : decode cX10_as 48 = .ok (.ireturn, 1) := by decide +kernel
theorem dX10_weight_0 : decode cX10_weight 0 = .ok (.aload_n 0, 1) := by decide +kernel
theorem dX10_weight_1 : decode cX10_weight 1 = .ok (.getfield 10, 3) := by decide +kernel
theorem dX10_weight_4 : decode cX10_weight 4 = .ok (.iload_n 1, 1) := by decide +kernel
theorem dX10_weight_5 : decode cX10_weight 5 = .ok (.invokevirtual 107, 3) := by decide +kernel
theorem dX10_weight_8 : decode cX10_weight 8 = .ok (.ifCond .eq 14, 3) := by decide +kernel
theorem dX10_weight_11 : decode cX10_weight 11 = .ok (.aload_n 0, 1) := by decide +kernel
theorem dX10_weight_12 : decode cX10_weight 12 = .ok (.getfield 10, 3) := by decide +kernel
theorem dX10_weight_15 : decode cX10_weight 15 = .ok (.iload_n 2, 1) := by decide +kernel
theorem dX10_weight_16 : decode cX10_weight 16 = .ok (.invokevirtual 111, 3) := by decide +kernel
theorem dX10_weight_19 : decode cX10_weight 19 = .ok (.ifCond .ne 9, 3) := by decide +kernel
theorem dX10_weight_22 : decode cX10_weight 22 = .ok (.aload_n 0, 1) := by decide +kernel
theorem dX10_weight_23 : decode cX10_weight 23 = .ok (.iconst (-1), 1) := by decide +kernel
theorem dX10_weight_24 : decode cX10_weight 24 = .ok (.invokevirtual 96, 3) := by decide +kernel
theorem dX10_weight_27 : decode cX10_weight 27 = .ok (.ireturn, 1) := by decide +kernel
theorem dX10_weight_28 : decode cX10_weight 28 = .ok (.aload_n 0, 1) := by decide +kernel
theorem dX10_weight_29 : decode cX10_weight 29 = .ok (.getfield 10, 3) := by decide +kernel
theorem dX10_weight_32 : decode cX10_weight 32 = .ok (.iload_n 1, 1) := by decide +kernel
theorem dX10_weight_33 : decode cX10_weight 33 = .ok (.iload_n 2, 1) := by decide +kernel
theorem dX10_weight_34 : decode cX10_weight 34 = .ok (.invokevirtual 137, 3) := by decide +kernel
theorem dX10_weight_37 : decode cX10_weight 37 = .ok (.ireturn, 1) := by decide +kernel
theorem dX10_lay_0 : decode cX10_lay 0 = .ok (.aload_n 0, 1) := by decide +kernel
theorem dX10_lay_1 : decode cX10_lay 1 = .ok (.getfield 10, 3) := by decide +kernel
theorem dX10_lay_4 : decode cX10_lay 4 = .ok (.iload_n 1, 1) := by decide +kernel
theorem dX10_lay_5 : decode cX10_lay 5 = .ok (.invokevirtual 107, 3) := by decide +kernel
theorem dX10_lay_8 : decode cX10_lay 8 = .ok (.ifCond .ne 9, 3) := by decide +kernel
theorem dX10_lay_11 : decode cX10_lay 11 = .ok (.aload_n 0, 1) := by decide +kernel
theorem dX10_lay_12 : decode cX10_lay 12 = .ok (.iconst (-1), 1) := by decide +kernel
theorem dX10_lay_13 : decode cX10_lay 13 = .ok (.invokevirtual 96, 3) := by decide +kernel
theorem dX10_lay_16 : decode cX10_lay 16 = .ok (.ireturn, 1) := by decide +kernel
theorem dX10_lay_17 : decode cX10_lay 17 = .ok (.aload_n 0, 1) := by decide +kernel
theorem dX10_lay_18 : decode cX10_lay 18 = .ok (.getfield 92, 3) := by decide +kernel
theorem dX10_lay_21 : decode cX10_lay 21 = .ok (.ifCond .ne 10, 3) := by decide +kernel
theorem dX10_lay_24 : decode cX10_lay 24 = .ok (.aload_n 0, 1) := by decide +kernel
theorem dX10_lay_25 : decode cX10_lay 25 = .ok (.bipush (-8), 2) := by decide +kernel
theorem dX10_lay_27 : decode cX10_lay 27 = .ok (.invokevirtual 96, 3) := by decide +kernel
theorem dX10_lay_30 : decode cX10_lay 30 = .ok (.ireturn, 1) := by decide +kernel
theorem dX10_lay_31 : decode cX10_lay 31 = .ok (.aload_n 0, 1) := by decide +kernel
theorem dX10_lay_32 : decode cX10_lay 32 = .ok (.getfield 21, 3) := by decide +kernel
theorem dX10_lay_35 : decode cX10_lay 35 = .ok (.getfield 141, 3) := by decide +kernel
theorem dX10_lay_38 : decode cX10_lay 38 = .ok (.iload_n 1, 1) := by decide +kernel
theorem dX10_lay_39 : decode cX10_lay 39 = .ok (.iaload, 1) := by decide +kernel
theorem dX10_lay_40 : decode cX10_lay 40 = .ok (.i2l, 1) := by decide +kernel
theorem dX10_lay_41 : decode cX10_lay 41 = .ok (.iload_n 2, 1) := by decide +kernel
theorem dX10_lay_42 : decode cX10_lay 42 = .ok (.i2l, 1) := by decide +kernel
theorem dX10_lay_43 : decode cX10_lay 43 = .ok (.ladd, 1) := by decide +kernel
theorem dX10_lay_44 : decode cX10_lay 44 = .ok (.lstore_n 3, 1) := by decide +kernel
theorem dX10_lay_45 : decode cX10_lay 45 = .ok (.lload_n 3, 1) := by decide +kernel
theorem dX10_lay_46 : decode cX10_lay 46 = .ok (.lconst 0, 1) := by decide +kernel
theorem dX10_lay_47 : decode cX10_lay 47 = .ok (.lcmp, 1) := by decide +kernel
theorem dX10_lay_48 : decode cX10_lay 48 = .ok (.ifCond .ge 10, 3) := by decide +kernel
theorem dX10_lay_51 : decode cX10_lay 51 = .ok (.aload_n 0, 1) := by decide +kernel
theorem dX10_lay_52 : decode cX10_lay 52 = .ok (.bipush (-13), 2) := by decide +kernel
theorem dX10_lay_54 : decode cX10_lay 54 = .ok (.invokevirtual 96, 3) := by decide +kernel
theorem dX10_lay_57 : decode cX10_lay 57 = .ok (.ireturn, 1) := by decide +kernel
theorem dX10_lay_58 : decode cX10_lay 58 = .ok (.lload_n 3, 1) := by decide +kernel
theorem dX10_lay_59 : decode cX10_lay 59 = .ok (.ldc2_w 144, 3) := by decide +kernel
theorem dX10_lay_62 : decode cX10_lay 62 = .ok (.lcmp, 1) := by decide +kernel
theorem dX10_lay_63 : decode cX10_lay 63 = .ok (.ifCond .le 10, 3) := by decide +kernel
theorem dX10_lay_66 : decode cX10_lay 66 = .ok (.aload_n 0, 1) := by decide +kernel
theorem dX10_lay_67 : decode cX10_lay 67 = .ok (.bipush (-5), 2) := by decide +kernel
theorem dX10_lay_69 : decode cX10_lay 69 = .ok (.invokevirtual 96, 3) := by decide +kernel
theorem dX10_lay_72 : decode cX10_lay 72 = .ok (.ireturn, 1) := by decide +kernel
theorem dX10_lay_73 : decode cX10_lay 73 = .ok (.aload_n 0, 1) := by decide +kernel
theorem dX10_lay_74 : decode cX10_lay 74 = .ok (.getfield 40, 3) := by decide +kernel
theorem dX10_lay_77 : decode cX10_lay 77 = .ok (.aload_n 0, 1) := by decide +kernel
theorem dX10_lay_78 : decode cX10_lay 78 = .ok (.getfield 21, 3) := by decide +kernel
theorem dX10_lay_81 : decode cX10_lay 81 = .ok (.aload_n 0, 1) := by decide +kernel
theorem dX10_lay_82 : decode cX10_lay 82 = .ok (.getfield 33, 3) := by decide +kernel
theorem dX10_lay_85 : decode cX10_lay 85 = .ok (.invokevirtual 146, 3) := by decide +kernel
theorem dX10_lay_88 : decode cX10_lay 88 = .ok (.aload_n 0, 1) := by decide +kernel
theorem dX10_lay_89 : decode cX10_lay 89 = .ok (.getfield 21, 3) := by decide +kernel
theorem dX10_lay_92 : decode cX10_lay 92 = .ok (.getfield 141, 3) := by decide +kernel
theorem dX10_lay_95 : decode cX10_lay 95 = .ok (.iload_n 1, 1) := by decide +kernel
theorem dX10_lay_96 : decode cX10_lay 96 = .ok (.lload_n 3, 1) := by decide +kernel
theorem dX10_lay_97 : decode cX10_lay 97 = .ok (.l2i, 1) := by decide +kernel
theorem dX10_lay_98 : decode cX10_lay 98 = .ok (.iastore, 1) := by decide +kernel
theorem dX10_lay_99 : decode cX10_lay 99 = .ok (.aload_n 0, 1) := by decide +kernel
theorem dX10_lay_100 : decode cX10_lay 100 = .ok (.getfield 21, 3) := by decide +kernel
theorem dX10_lay_103 : decode cX10_lay 103 = .ok (.getfield 141, 3) := by decide +kernel
theorem dX10_lay_106 : decode cX10_lay 106 = .ok (.iload_n 1, 1) := by decide +kernel
theorem dX10_lay_107 : decode cX10_lay 107 = .ok (.iaload, 1) := by decide +kernel
theorem dX10_lay_108 : decode cX10_lay 108 = .ok (.ireturn, 1) := by decide +kernel
theorem dX10_grains_0 : decode cX10_grains 0 = .ok (.aload_n 0, 1) := by decide +kernel
theorem dX10_grains_1 : decode cX10_grains 1 = .ok (.getfield 10, 3) := by decide +kernel
theorem dX10_grains_4 : decode cX10_grains 4 = .ok (.iload_n 1, 1) := by decide +kernel
theorem dX10_grains_5 : decode cX10_grains 5 = .ok (.invokevirtual 107, 3) := by decide +kernel
theorem dX10_grains_8 : decode cX10_grains 8 = .ok (.ifCond .eq 14, 3) := by decide +kernel
theorem dX10_grains_11 : decode cX10_grains 11 = .ok (.aload_n 0, 1) := by decide +kernel
theorem dX10_grains_12 : decode cX10_grains 12 = .ok (.getfield 21, 3) := by decide +kernel
theorem dX10_grains_15 : decode cX10_grains 15 = .ok (.getfield 141, 3) := by decide +kernel
theorem dX10_grains_18 : decode cX10_grains 18 = .ok (.iload_n 1, 1) := by decide +kernel
theorem dX10_grains_19 : decode cX10_grains 19 = .ok (.iaload, 1) := by decide +kernel
theorem dX10_grains_20 : decode cX10_grains 20 = .ok (.i2l, 1) := by decide +kernel
theorem dX10_grains_21 : decode cX10_grains 21 = .ok (.lreturn, 1) := by decide +kernel
theorem dX10_grains_22 : decode cX10_grains 22 = .ok (.aload_n 0, 1) := by decide +kernel
theorem dX10_grains_23 : decode cX10_grains 23 = .ok (.getfield 10, 3) := by decide +kernel
theorem dX10_grains_26 : decode cX10_grains 26 = .ok (.iload_n 1, 1) := by decide +kernel
theorem dX10_grains_27 : decode cX10_grains 27 = .ok (.invokevirtual 150, 3) := by decide +kernel
theorem dX10_grains_30 : decode cX10_grains 30 = .ok (.ifCond .eq 15, 3) := by decide +kernel
theorem dX10_grains_33 : decode cX10_grains 33 = .ok (.aload_n 0, 1) := by decide +kernel
theorem dX10_grains_34 : decode cX10_grains 34 = .ok (.getfield 21, 3) := by decide +kernel
theorem dX10_grains_37 : decode cX10_grains 37 = .ok (.getfield 153, 3) := by decide +kernel
theorem dX10_grains_40 : decode cX10_grains 40 = .ok (.iconst (-1), 1) := by decide +kernel
theorem dX10_grains_41 : decode cX10_grains 41 = .ok (.iload_n 1, 1) := by decide +kernel
theorem dX10_grains_42 : decode cX10_grains 42 = .ok (.isub, 1) := by decide +kernel
theorem dX10_grains_43 : decode cX10_grains 43 = .ok (.laload, 1) := by decide +kernel
theorem dX10_grains_44 : decode cX10_grains 44 = .ok (.lreturn, 1) := by decide +kernel
theorem dX10_grains_45 : decode cX10_grains 45 = .ok (.aload_n 0, 1) := by decide +kernel
theorem dX10_grains_46 : decode cX10_grains 46 = .ok (.iconst (-1), 1) := by decide +kernel
theorem dX10_grains_47 : decode cX10_grains 47 = .ok (.invokevirtual 96, 3) := by decide +kernel
theorem dX10_grains_50 : decode cX10_grains 50 = .ok (.i2l, 1) := by decide +kernel
theorem dX10_grains_51 : decode cX10_grains 51 = .ok (.lreturn, 1) := by decide +kernel
theorem dX10_due_0 : decode cX10_due 0 = .ok (.aload_n 0, 1) := by decide +kernel
theorem dX10_due_1 : decode cX10_due 1 = .ok (.getfield 21, 3) := by decide +kernel
theorem dX10_due_4 : decode cX10_due 4 = .ok (.invokevirtual 157, 3) := by decide +kernel
theorem dX10_due_7 : decode cX10_due 7 = .ok (.ireturn, 1) := by decide +kernel
theorem dX10_slide_0 : decode cX10_slide 0 = .ok (.aload_n 0, 1) := by decide +kernel
theorem dX10_slide_1 : decode cX10_slide 1 = .ok (.getfield 10, 3) := by decide +kernel
theorem dX10_slide_4 : decode cX10_slide 4 = .ok (.iload_n 1, 1) := by decide +kernel
theorem dX10_slide_5 : decode cX10_slide 5 = .ok (.invokevirtual 107, 3) := by decide +kernel
theorem dX10_slide_8 : decode cX10_slide 8 = .ok (.ifCond .ne 9, 3) := by decide +kernel
theorem dX10_slide_11 : decode cX10_slide 11 = .ok (.aload_n 0, 1) := by decide +kernel
theorem dX10_slide_12 : decode cX10_slide 12 = .ok (.iconst (-1), 1) := by decide +kernel
theorem dX10_slide_13 : decode cX10_slide 13 = .ok (.invokevirtual 96, 3) := by decide +kernel
theorem dX10_slide_16 : decode cX10_slide 16 = .ok (.ireturn, 1) := by decide +kernel
theorem dX10_slide_17 : decode cX10_slide 17 = .ok (.aload_n 0, 1) := by decide +kernel
theorem dX10_slide_18 : decode cX10_slide 18 = .ok (.getfield 21, 3) := by decide +kernel
theorem dX10_slide_21 : decode cX10_slide 21 = .ok (.iload_n 1, 1) := by decide +kernel
theorem dX10_slide_22 : decode cX10_slide 22 = .ok (.invokevirtual 160, 3) := by decide +kernel
theorem dX10_slide_25 : decode cX10_slide 25 = .ok (.ifCond .ne 10, 3) := by decide +kernel
theorem dX10_slide_28 : decode cX10_slide 28 = .ok (.aload_n 0, 1) := by decide +kernel
theorem dX10_slide_29 : decode cX10_slide 29 = .ok (.bipush (-8), 2) := by decide +kernel
theorem dX10_slide_31 : decode cX10_slide 31 = .ok (.invokevirtual 96, 3) := by decide +kernel
theorem dX10_slide_34 : decode cX10_slide 34 = .ok (.ireturn, 1) := by decide +kernel
theorem dX10_slide_35 : decode cX10_slide 35 = .ok (.aload_n 0, 1) := by decide +kernel
theorem dX10_slide_36 : decode cX10_slide 36 = .ok (.getfield 21, 3) := by decide +kernel
theorem dX10_slide_39 : decode cX10_slide 39 = .ok (.iload_n 1, 1) := by decide +kernel
theorem dX10_slide_40 : decode cX10_slide 40 = .ok (.invokevirtual 163, 3) := by decide +kernel
theorem dX10_slide_43 : decode cX10_slide 43 = .ok (.ifCond .eq 10, 3) := by decide +kernel
theorem dX10_slide_46 : decode cX10_slide 46 = .ok (.aload_n 0, 1) := by decide +kernel
theorem dX10_slide_47 : decode cX10_slide 47 = .ok (.bipush (-5), 2) := by decide +kernel
theorem dX10_slide_49 : decode cX10_slide 49 = .ok (.invokevirtual 96, 3) := by decide +kernel
theorem dX10_slide_52 : decode cX10_slide 52 = .ok (.ireturn, 1) := by decide +kernel
theorem dX10_slide_53 : decode cX10_slide 53 = .ok (.aload_n 0, 1) := by decide +kernel
theorem dX10_slide_54 : decode cX10_slide 54 = .ok (.getfield 40, 3) := by decide +kernel
theorem dX10_slide_57 : decode cX10_slide 57 = .ok (.aload_n 0, 1) := by decide +kernel
theorem dX10_slide_58 : decode cX10_slide 58 = .ok (.getfield 21, 3) := by decide +kernel
theorem dX10_slide_61 : decode cX10_slide 61 = .ok (.aload_n 0, 1) := by decide +kernel
theorem dX10_slide_62 : decode cX10_slide 62 = .ok (.getfield 33, 3) := by decide +kernel
theorem dX10_slide_65 : decode cX10_slide 65 = .ok (.invokevirtual 146, 3) := by decide +kernel
theorem dX10_slide_68 : decode cX10_slide 68 = .ok (.aload_n 0, 1) := by decide +kernel
theorem dX10_slide_69 : decode cX10_slide 69 = .ok (.getfield 21, 3) := by decide +kernel
theorem dX10_slide_72 : decode cX10_slide 72 = .ok (.iload_n 1, 1) := by decide +kernel
theorem dX10_slide_73 : decode cX10_slide 73 = .ok (.invokevirtual 166, 3) := by decide +kernel
theorem dX10_slide_76 : decode cX10_slide 76 = .ok (.ireturn, 1) := by decide +kernel
theorem dX10_manner_0 : decode cX10_manner 0 = .ok (.iload_n 1, 1) := by decide +kernel
theorem dX10_manner_1 : decode cX10_manner 1 = .ok (.ifCond .lt 17, 3) := by decide +kernel
theorem dX10_manner_4 : decode cX10_manner 4 = .ok (.iload_n 1, 1) := by decide +kernel
theorem dX10_manner_5 : decode cX10_manner 5 = .ok (.iconst 4, 1) := by decide +kernel
theorem dX10_manner_6 : decode cX10_manner 6 = .ok (.if_icmp .gt 12, 3) := by decide +kernel
theorem dX10_manner_9 : decode cX10_manner 9 = .ok (.iload_n 1, 1) := by decide +kernel
theorem dX10_manner_10 : decode cX10_manner 10 = .ok (.iconst 3, 1) := by decide +kernel
theorem dX10_manner_11 : decode cX10_manner 11 = .ok (.if_icmp .ne 13, 3) := by decide +kernel
theorem dX10_manner_14 : decode cX10_manner 14 = .ok (.iload_n 2, 1) := by decide +kernel
theorem dX10_manner_15 : decode cX10_manner 15 = .ok (.ifCond .ge 9, 3) := by decide +kernel
theorem dX10_manner_18 : decode cX10_manner 18 = .ok (.aload_n 0, 1) := by decide +kernel
theorem dX10_manner_19 : decode cX10_manner 19 = .ok (.iconst (-1), 1) := by decide +kernel
theorem dX10_manner_20 : decode cX10_manner 20 = .ok (.invokevirtual 96, 3) := by decide +kernel
theorem dX10_manner_23 : decode cX10_manner 23 = .ok (.ireturn, 1) := by decide +kernel
theorem dX10_manner_24 : decode cX10_manner 24 = .ok (.aload_n 0, 1) := by decide +kernel
theorem dX10_manner_25 : decode cX10_manner 25 = .ok (.getfield 92, 3) := by decide +kernel
theorem dX10_manner_28 : decode cX10_manner 28 = .ok (.ifCond .ne 10, 3) := by decide +kernel
theorem dX10_manner_31 : decode cX10_manner 31 = .ok (.aload_n 0, 1) := by decide +kernel
theorem dX10_manner_32 : decode cX10_manner 32 = .ok (.bipush (-8), 2) := by decide +kernel
theorem dX10_manner_34 : decode cX10_manner 34 = .ok (.invokevirtual 96, 3) := by decide +kernel
theorem dX10_manner_37 : decode cX10_manner 37 = .ok (.ireturn, 1) := by decide +kernel
theorem dX10_manner_38 : decode cX10_manner 38 = .ok (.iload_n 1, 1) := by decide +kernel
theorem dX10_manner_39 : decode cX10_manner 39 = .ok (.iconst 2, 1) := by decide +kernel
theorem dX10_manner_40 : decode cX10_manner 40 = .ok (.if_icmp .ne 26, 3) := by decide +kernel
theorem dX10_manner_43 : decode cX10_manner 43 = .ok (.aload_n 0, 1) := by decide +kernel
theorem dX10_manner_44 : decode cX10_manner 44 = .ok (.getfield 84, 3) := by decide +kernel
theorem dX10_manner_47 : decode cX10_manner 47 = .ok (.aload_n 0, 1) := by decide +kernel
theorem dX10_manner_48 : decode cX10_manner 48 = .ok (.getfield 10, 3) := by decide +kernel
theorem dX10_manner_51 : decode cX10_manner 51 = .ok (.getfield 100, 3) := by decide +kernel
theorem dX10_manner_54 : decode cX10_manner 54 = .ok (.invokevirtual 169, 3) := by decide +kernel
theorem dX10_manner_57 : decode cX10_manner 57 = .ok (.ifCond .ne 9, 3) := by decide +kernel
theorem dX10_manner_60 : decode cX10_manner 60 = .ok (.aload_n 0, 1) := by decide +kernel
theorem dX10_manner_61 : decode cX10_manner 61 = .ok (.iconst (-1), 1) := by decide +kernel
theorem dX10_manner_62 : decode cX10_manner 62 = .ok (.invokevirtual 96, 3) := by decide +kernel
theorem dX10_manner_65 : decode cX10_manner 65 = .ok (.ireturn, 1) := by decide +kernel
theorem dX10_manner_66 : decode cX10_manner 66 = .ok (.aload_n 0, 1) := by decide +kernel
theorem dX10_manner_67 : decode cX10_manner 67 = .ok (.getfield 33, 3) := by decide +kernel
theorem dX10_manner_70 : decode cX10_manner 70 = .ok (.getfield 172, 3) := by decide +kernel
theorem dX10_manner_73 : decode cX10_manner 73 = .ok (.istore_n 3, 1) := by decide +kernel
theorem dX10_manner_74 : decode cX10_manner 74 = .ok (.iload_n 1, 1) := by decide +kernel
theorem dX10_manner_75 : decode cX10_manner 75 = .ok (.iconst 2, 1) := by decide +kernel
theorem dX10_manner_76 : decode cX10_manner 76 = .ok (.if_icmp .ne 21, 3) := by decide +kernel
theorem dX10_manner_79 : decode cX10_manner 79 = .ok (.aload_n 0, 1) := by decide +kernel
theorem dX10_manner_80 : decode cX10_manner 80 = .ok (.getfield 33, 3) := by decide +kernel
theorem dX10_manner_83 : decode cX10_manner 83 = .ok (.aload_n 0, 1) := by decide +kernel
theorem dX10_manner_84 : decode cX10_manner 84 = .ok (.getfield 84, 3) := by decide +kernel
theorem dX10_manner_87 : decode cX10_manner 87 = .ok (.invokevirtual 175, 3) := by decide +kernel
theorem dX10_manner_90 : decode cX10_manner 90 = .ok (.aload_n 0, 1) := by decide +kernel
theorem dX10_manner_91 : decode cX10_manner 91 = .ok (.getfield 84, 3) := by decide +kernel
theorem dX10_manner_94 : decode cX10_manner 94 = .ok (.invokevirtual 179, 3) := by decide +kernel
theorem dX10_manner_97 : decode cX10_manner 97 = .ok (.iload_n 1, 1) := by decide +kernel
theorem dX10_manner_98 : decode cX10_manner 98 = .ok (.iconst 3, 1) := by decide +kernel
theorem dX10_manner_99 : decode cX10_manner 99 = .ok (.if_icmp .ne 12, 3) := by decide +kernel
theorem dX10_manner_102 : decode cX10_manner 102 = .ok (.aload_n 0, 1) := by decide +kernel
theorem dX10_manner_103 : decode cX10_manner 103 = .ok (.getfield 33, 3) := by decide +kernel
theorem dX10_manner_106 : decode cX10_manner 106 = .ok (.iload_n 2, 1) := by decide +kernel
theorem dX10_manner_107 : decode cX10_manner 107 = .ok (.i2l, 1) := by decide +kernel
theorem dX10_manner_108 : decode cX10_manner 108 = .ok (.putfield 180, 3) := by decide +kernel
theorem dX10_manner_111 : decode cX10_manner 111 = .ok (.aload_n 0, 1) := by decide +kernel
theorem dX10_manner_112 : decode cX10_manner 112 = .ok (.getfield 33, 3) := by decide +kernel
theorem dX10_manner_115 : decode cX10_manner 115 = .ok (.iconst 0, 1) := by decide +kernel
theorem dX10_manner_116 : decode cX10_manner 116 = .ok (.putfield 184, 3) := by decide +kernel
theorem dX10_manner_119 : decode cX10_manner 119 = .ok (.aload_n 0, 1) := by decide +kernel
theorem dX10_manner_120 : decode cX10_manner 120 = .ok (.getfield 33, 3) := by decide +kernel
theorem dX10_manner_123 : decode cX10_manner 123 = .ok (.iload_n 1, 1) := by decide +kernel
theorem dX10_manner_124 : decode cX10_manner 124 = .ok (.putfield 172, 3) := by decide +kernel
theorem dX10_manner_127 : decode cX10_manner 127 = .ok (.aload_n 0, 1) := by decide +kernel
theorem dX10_manner_128 : decode cX10_manner 128 = .ok (.getfield 40, 3) := by decide +kernel
theorem dX10_manner_131 : decode cX10_manner 131 = .ok (.invokevirtual 134, 3) := by decide +kernel
theorem dX10_manner_134 : decode cX10_manner 134 = .ok (.iload_n 3, 1) := by decide +kernel
theorem dX10_manner_135 : decode cX10_manner 135 = .ok (.ireturn, 1) := by decide +kernel
theorem dX10_run_0 : decode cX10_run 0 = .ok (.iload_n 1, 1) := by decide +kernel
theorem dX10_run_1 : decode cX10_run 1 = .ok (.iconst 1, 1) := by decide +kernel
theorem dX10_run_2 : decode cX10_run 2 = .ok (.if_icmp .lt 10, 3) := by decide +kernel
theorem dX10_run_5 : decode cX10_run 5 = .ok (.iload_n 1, 1) := by decide +kernel
theorem dX10_run_6 : decode cX10_run 6 = .ok (.sipush 5000, 3) := by decide +kernel
theorem dX10_run_9 : decode cX10_run 9 = .ok (.if_icmp .le 9, 3) := by decide +kernel
theorem dX10_run_12 : decode cX10_run 12 = .ok (.aload_n 0, 1) := by decide +kernel
theorem dX10_run_13 : decode cX10_run 13 = .ok (.iconst (-1), 1) := by decide +kernel
theorem dX10_run_14 : decode cX10_run 14 = .ok (.invokevirtual 96, 3) := by decide +kernel
theorem dX10_run_17 : decode cX10_run 17 = .ok (.ireturn, 1) := by decide +kernel
theorem dX10_run_18 : decode cX10_run 18 = .ok (.aload_n 0, 1) := by decide +kernel
theorem dX10_run_19 : decode cX10_run 19 = .ok (.getfield 92, 3) := by decide +kernel
theorem dX10_run_22 : decode cX10_run 22 = .ok (.ifCond .ne 10, 3) := by decide +kernel
theorem dX10_run_25 : decode cX10_run 25 = .ok (.aload_n 0, 1) := by decide +kernel
theorem dX10_run_26 : decode cX10_run 26 = .ok (.bipush (-8), 2) := by decide +kernel
theorem dX10_run_28 : decode cX10_run 28 = .ok (.invokevirtual 96, 3) := by decide +kernel
theorem dX10_run_31 : decode cX10_run 31 = .ok (.ireturn, 1) := by decide +kernel
theorem dX10_run_32 : decode cX10_run 32 = .ok (.aload_n 0, 1) := by decide +kernel
theorem dX10_run_33 : decode cX10_run 33 = .ok (.getfield 40, 3) := by decide +kernel
theorem dX10_run_36 : decode cX10_run 36 = .ok (.aload_n 0, 1) := by decide +kernel
theorem dX10_run_37 : decode cX10_run 37 = .ok (.getfield 21, 3) := by decide +kernel
theorem dX10_run_40 : decode cX10_run 40 = .ok (.aload_n 0, 1) := by decide +kernel
theorem dX10_run_41 : decode cX10_run 41 = .ok (.getfield 33, 3) := by decide +kernel
theorem dX10_run_44 : decode cX10_run 44 = .ok (.invokevirtual 146, 3) := by decide +kernel
theorem dX10_run_47 : decode cX10_run 47 = .ok (.iconst 0, 1) := by decide +kernel
theorem dX10_run_48 : decode cX10_run 48 = .ok (.istore_n 2, 1) := by decide +kernel
theorem dX10_run_49 : decode cX10_run 49 = .ok (.iload_n 2, 1) := by decide +kernel
theorem dX10_run_50 : decode cX10_run 50 = .ok (.iload_n 1, 1) := by decide +kernel
theorem dX10_run_51 : decode cX10_run 51 = .ok (.if_icmp .ge 59, 3) := by decide +kernel
theorem dX10_run_54 : decode cX10_run 54 = .ok (.aload_n 0, 1) := by decide +kernel
theorem dX10_run_55 : decode cX10_run 55 = .ok (.getfield 33, 3) := by decide +kernel
theorem dX10_run_58 : decode cX10_run 58 = .ok (.invokevirtual 187, 3) := by decide +kernel
theorem dX10_run_61 : decode cX10_run 61 = .ok (.istore_n 3, 1) := by decide +kernel
theorem dX10_run_62 : decode cX10_run 62 = .ok (.iload_n 3, 1) := by decide +kernel
theorem dX10_run_63 : decode cX10_run 63 = .ok (.iconst (-1), 1) := by decide +kernel
theorem dX10_run_64 : decode cX10_run 64 = .ok (.if_icmp .ne 5, 3) := by decide +kernel
theorem dX10_run_67 : decode cX10_run 67 = .ok (.iload_n 2, 1) := by decide +kernel
theorem dX10_run_68 : decode cX10_run 68 = .ok (.ireturn, 1) := by decide +kernel
theorem dX10_run_69 : decode cX10_run 69 = .ok (.aload_n 0, 1) := by decide +kernel
theorem dX10_run_70 : decode cX10_run 70 = .ok (.getfield 21, 3) := by decide +kernel
theorem dX10_run_73 : decode cX10_run 73 = .ok (.iload_n 3, 1) := by decide +kernel
theorem dX10_run_74 : decode cX10_run 74 = .ok (.invokevirtual 163, 3) := by decide +kernel
theorem dX10_run_77 : decode cX10_run 77 = .ok (.ifCond .eq 10, 3) := by decide +kernel
theorem dX10_run_80 : decode cX10_run 80 = .ok (.aload_n 0, 1) := by decide +kernel
theorem dX10_run_81 : decode cX10_run 81 = .ok (.bipush (-5), 2) := by decide +kernel
theorem dX10_run_83 : decode cX10_run 83 = .ok (.invokevirtual 96, 3) := by decide +kernel
theorem dX10_run_86 : decode cX10_run 86 = .ok (.ireturn, 1) := by decide +kernel
theorem dX10_run_87 : decode cX10_run 87 = .ok (.aload_n 0, 1) := by decide +kernel
theorem dX10_run_88 : decode cX10_run 88 = .ok (.getfield 21, 3) := by decide +kernel
theorem dX10_run_91 : decode cX10_run 91 = .ok (.iload_n 3, 1) := by decide +kernel
theorem dX10_run_92 : decode cX10_run 92 = .ok (.invokevirtual 166, 3) := by decide +kernel
theorem dX10_run_95 : decode cX10_run 95 = .ok (.pop, 1) := by decide +kernel
theorem dX10_run_96 : decode cX10_run 96 = .ok (.aload_n 0, 1) := by decide +kernel
theorem dX10_run_97 : decode cX10_run 97 = .ok (.getfield 33, 3) := by decide +kernel
theorem dX10_run_100 : decode cX10_run 100 = .ok (.iload_n 3, 1) := by decide +kernel
theorem dX10_run_101 : decode cX10_run 101 = .ok (.invokevirtual 190, 3) := by decide +kernel
theorem dX10_run_104 : decode cX10_run 104 = .ok (.iinc 2 1, 3) := by decide +kernel
theorem dX10_run_107 : decode cX10_run 107 = .ok (.goto (-58), 3) := by decide +kernel
theorem dX10_run_110 : decode cX10_run 110 = .ok (.aload_n 0, 1) := by decide +kernel
theorem dX10_run_111 : decode cX10_run 111 = .ok (.getfield 21, 3) := by decide +kernel
theorem dX10_run_114 : decode cX10_run 114 = .ok (.invokevirtual 194, 3) := by decide +kernel
theorem dX10_run_117 : decode cX10_run 117 = .ok (.ifCond .eq 7, 3) := by decide +kernel
theorem dX10_run_120 : decode cX10_run 120 = .ok (.iload_n 1, 1) := by decide +kernel
theorem dX10_run_121 : decode cX10_run 121 = .ok (.goto 9, 3) := by decide +kernel
theorem dX10_run_124 : decode cX10_run 124 = .ok (.aload_n 0, 1) := by decide +kernel
theorem dX10_run_125 : decode cX10_run 125 = .ok (.bipush (-9), 2) := by decide +kernel
theorem dX10_run_127 : decode cX10_run 127 = .ok (.invokevirtual 96, 3) := by decide +kernel
theorem dX10_run_130 : decode cX10_run 130 = .ok (.ireturn, 1) := by decide +kernel
theorem dX10_odometer_0 : decode cX10_odometer 0 = .ok (.aload_n 0, 1) := by decide +kernel
theorem dX10_odometer_1 : decode cX10_odometer 1 = .ok (.getfield 10, 3) := by decide +kernel
theorem dX10_odometer_4 : decode cX10_odometer 4 = .ok (.iload_n 1, 1) := by decide +kernel
theorem dX10_odometer_5 : decode cX10_odometer 5 = .ok (.invokevirtual 107, 3) := by decide +kernel
theorem dX10_odometer_8 : decode cX10_odometer 8 = .ok (.ifCond .ne 10, 3) := by decide +kernel
theorem dX10_odometer_11 : decode cX10_odometer 11 = .ok (.aload_n 0, 1) := by decide +kernel
theorem dX10_odometer_12 : decode cX10_odometer 12 = .ok (.iconst (-1), 1) := by decide +kernel
theorem dX10_odometer_13 : decode cX10_odometer 13 = .ok (.invokevirtual 96, 3) := by decide +kernel
theorem dX10_odometer_16 : decode cX10_odometer 16 = .ok (.i2l, 1) := by decide +kernel
theorem dX10_odometer_17 : decode cX10_odometer 17 = .ok (.lreturn, 1) := by decide +kernel
theorem dX10_odometer_18 : decode cX10_odometer 18 = .ok (.aload_n 0, 1) := by decide +kernel
theorem dX10_odometer_19 : decode cX10_odometer 19 = .ok (.getfield 21, 3) := by decide +kernel
theorem dX10_odometer_22 : decode cX10_odometer 22 = .ok (.getfield 198, 3) := by decide +kernel
theorem dX10_odometer_25 : decode cX10_odometer 25 = .ok (.iload_n 1, 1) := by decide +kernel
theorem dX10_odometer_26 : decode cX10_odometer 26 = .ok (.laload, 1) := by decide +kernel
theorem dX10_odometer_27 : decode cX10_odometer 27 = .ok (.lreturn, 1) := by decide +kernel
theorem dX10_reset_0 : decode cX10_reset 0 = .ok (.iconst 0, 1) := by decide +kernel
theorem dX10_reset_1 : decode cX10_reset 1 = .ok (.istore_n 1, 1) := by decide +kernel
theorem dX10_reset_2 : decode cX10_reset 2 = .ok (.iconst 0, 1) := by decide +kernel
theorem dX10_reset_3 : decode cX10_reset 3 = .ok (.istore_n 2, 1) := by decide +kernel
theorem dX10_reset_4 : decode cX10_reset 4 = .ok (.iload_n 2, 1) := by decide +kernel
theorem dX10_reset_5 : decode cX10_reset 5 = .ok (.aload_n 0, 1) := by decide +kernel
theorem dX10_reset_6 : decode cX10_reset 6 = .ok (.getfield 10, 3) := by decide +kernel
theorem dX10_reset_9 : decode cX10_reset 9 = .ok (.getfield 100, 3) := by decide +kernel
theorem dX10_reset_12 : decode cX10_reset 12 = .ok (.if_icmp .ge 36, 3) := by decide +kernel
theorem dX10_reset_15 : decode cX10_reset 15 = .ok (.aload_n 0, 1) := by decide +kernel
theorem dX10_reset_16 : decode cX10_reset 16 = .ok (.getfield 21, 3) := by decide +kernel
theorem dX10_reset_19 : decode cX10_reset 19 = .ok (.getfield 198, 3) := by decide +kernel
theorem dX10_reset_22 : decode cX10_reset 22 = .ok (.iload_n 2, 1) := by decide +kernel
theorem dX10_reset_23 : decode cX10_reset 23 = .ok (.laload, 1) := by decide +kernel
theorem dX10_reset_24 : decode cX10_reset 24 = .ok (.lconst 0, 1) := by decide +kernel
theorem dX10_reset_25 : decode cX10_reset 25 = .ok (.lcmp, 1) := by decide +kernel
theorem dX10_reset_26 : decode cX10_reset 26 = .ok (.ifCond .eq 6, 3) := by decide +kernel
theorem dX10_reset_29 : decode cX10_reset 29 = .ok (.iinc 1 1, 3) := by decide +kernel
theorem dX10_reset_32 : decode cX10_reset 32 = .ok (.aload_n 0, 1) := by decide +kernel
theorem dX10_reset_33 : decode cX10_reset 33 = .ok (.getfield 21, 3) := by decide +kernel
theorem dX10_reset_36 : decode cX10_reset 36 = .ok (.getfield 198, 3) := by decide +kernel
theorem dX10_reset_39 : decode cX10_reset 39 = .ok (.iload_n 2, 1) := by decide +kernel
theorem dX10_reset_40 : decode cX10_reset 40 = .ok (.lconst 0, 1) := by decide +kernel
theorem dX10_reset_41 : decode cX10_reset 41 = .ok (.lastore, 1) := by decide +kernel
theorem dX10_reset_42 : decode cX10_reset 42 = .ok (.iinc 2 1, 3) := by decide +kernel
theorem dX10_reset_45 : decode cX10_reset 45 = .ok (.goto (-41), 3) := by decide +kernel
theorem dX10_reset_48 : decode cX10_reset 48 = .ok (.aload_n 0, 1) := by decide +kernel
theorem dX10_reset_49 : decode cX10_reset 49 = .ok (.getfield 40, 3) := by decide +kernel
theorem dX10_reset_52 : decode cX10_reset 52 = .ok (.invokevirtual 134, 3) := by decide +kernel
theorem dX10_reset_55 : decode cX10_reset 55 = .ok (.iload_n 1, 1) := by decide +kernel
theorem dX10_reset_56 : decode cX10_reset 56 = .ok (.ireturn, 1) := by decide +kernel
theorem dX10_twoWay_0 : decode cX10_twoWay 0 = .ok (.aload_n 0, 1) := by decide +kernel
theorem dX10_twoWay_1 : decode cX10_twoWay 1 = .ok (.getfield 92, 3) := by decide +kernel
theorem dX10_twoWay_4 : decode cX10_twoWay 4 = .ok (.ifCond .ne 10, 3) := by decide +kernel
theorem dX10_twoWay_7 : decode cX10_twoWay 7 = .ok (.aload_n 0, 1) := by decide +kernel
theorem dX10_twoWay_8 : decode cX10_twoWay 8 = .ok (.bipush (-8), 2) := by decide +kernel
theorem dX10_twoWay_10 : decode cX10_twoWay 10 = .ok (.invokevirtual 96, 3) := by decide +kernel
theorem dX10_twoWay_13 : decode cX10_twoWay 13 = .ok (.ireturn, 1) := by decide +kernel
theorem dX10_twoWay_14 : decode cX10_twoWay 14 = .ok (.aload_n 0, 1) := by decide +kernel
theorem dX10_twoWay_15 : decode cX10_twoWay 15 = .ok (.getfield 10, 3) := by decide +kernel
theorem dX10_twoWay_18 : decode cX10_twoWay 18 = .ok (.invokevirtual 201, 3) := by decide +kernel
theorem dX10_twoWay_21 : decode cX10_twoWay 21 = .ok (.ifCond .eq 7, 3) := by decide +kernel
theorem dX10_twoWay_24 : decode cX10_twoWay 24 = .ok (.iconst 1, 1) := by decide +kernel
theorem dX10_twoWay_25 : decode cX10_twoWay 25 = .ok (.goto 4, 3) := by decide +kernel
theorem dX10_twoWay_28 : decode cX10_twoWay 28 = .ok (.iconst 0, 1) := by decide +kernel
theorem dX10_twoWay_29 : decode cX10_twoWay 29 = .ok (.ireturn, 1) := by decide +kernel
theorem dX10_burn_0 : decode cX10_burn 0 = .ok (.aload_n 0, 1) := by decide +kernel
theorem dX10_burn_1 : decode cX10_burn 1 = .ok (.getfield 92, 3) := by decide +kernel
theorem dX10_burn_4 : decode cX10_burn 4 = .ok (.ifCond .eq 13, 3) := by decide +kernel
theorem dX10_burn_7 : decode cX10_burn 7 = .ok (.aload_n 0, 1) := by decide +kernel
theorem dX10_burn_8 : decode cX10_burn 8 = .ok (.getfield 21, 3) := by decide +kernel
theorem dX10_burn_11 : decode cX10_burn 11 = .ok (.invokevirtual 194, 3) := by decide +kernel
theorem dX10_burn_14 : decode cX10_burn 14 = .ok (.ifCond .ne 10, 3) := by decide +kernel
theorem dX10_burn_17 : decode cX10_burn 17 = .ok (.aload_n 0, 1) := by decide +kernel
theorem dX10_burn_18 : decode cX10_burn 18 = .ok (.bipush (-8), 2) := by decide +kernel
theorem dX10_burn_20 : decode cX10_burn 20 = .ok (.invokevirtual 96, 3) := by decide +kernel
theorem dX10_burn_23 : decode cX10_burn 23 = .ok (.ireturn, 1) := by decide +kernel
theorem dX10_burn_24 : decode cX10_burn 24 = .ok (.aload_n 0, 1) := by decide +kernel
theorem dX10_burn_25 : decode cX10_burn 25 = .ok (.getfield 10, 3) := by decide +kernel
theorem dX10_burn_28 : decode cX10_burn 28 = .ok (.invokevirtual 201, 3) := by decide +kernel
theorem dX10_burn_31 : decode cX10_burn 31 = .ok (.ifCond .ne 10, 3) := by decide +kernel
theorem dX10_burn_34 : decode cX10_burn 34 = .ok (.aload_n 0, 1) := by decide +kernel
theorem dX10_burn_35 : decode cX10_burn 35 = .ok (.bipush (-12), 2) := by decide +kernel
theorem dX10_burn_37 : decode cX10_burn 37 = .ok (.invokevirtual 96, 3) := by decide +kernel
theorem dX10_burn_40 : decode cX10_burn 40 = .ok (.ireturn, 1) := by decide +kernel
theorem dX10_burn_41 : decode cX10_burn 41 = .ok (.aload_n 0, 1) := by decide +kernel
theorem dX10_burn_42 : decode cX10_burn 42 = .ok (.getfield 47, 3) := by decide +kernel
theorem dX10_burn_45 : decode cX10_burn 45 = .ok (.aload_n 0, 1) := by decide +kernel
theorem dX10_burn_46 : decode cX10_burn 46 = .ok (.getfield 10, 3) := by decide +kernel
theorem dX10_burn_49 : decode cX10_burn 49 = .ok (.aload_n 0, 1) := by decide +kernel
theorem dX10_burn_50 : decode cX10_burn 50 = .ok (.getfield 21, 3) := by decide +kernel
theorem dX10_burn_53 : decode cX10_burn 53 = .ok (.getfield 141, 3) := by decide +kernel
theorem dX10_burn_56 : decode cX10_burn 56 = .ok (.iconst (-1), 1) := by decide +kernel
theorem dX10_burn_57 : decode cX10_burn 57 = .ok (.invokevirtual 204, 3) := by decide +kernel
theorem dX10_burn_60 : decode cX10_burn 60 = .ok (.aload_n 0, 1) := by decide +kernel
theorem dX10_burn_61 : decode cX10_burn 61 = .ok (.getfield 47, 3) := by decide +kernel
theorem dX10_burn_64 : decode cX10_burn 64 = .ok (.getfield 208, 3) := by decide +kernel
theorem dX10_burn_67 : decode cX10_burn 67 = .ok (.ifCond .ne 7, 3) := by decide +kernel
theorem dX10_burn_70 : decode cX10_burn 70 = .ok (.iconst 1, 1) := by decide +kernel
theorem dX10_burn_71 : decode cX10_burn 71 = .ok (.goto 4, 3) := by decide +kernel
theorem dX10_burn_74 : decode cX10_burn 74 = .ok (.iconst 0, 1) := by decide +kernel
theorem dX10_burn_75 : decode cX10_burn 75 = .ok (.ireturn, 1) := by decide +kernel
theorem dX10_burnt_0 : decode cX10_burnt 0 = .ok (.iload_n 1, 1) := by decide +kernel
theorem dX10_burnt_1 : decode cX10_burnt 1 = .ok (.iconst (-1), 1) := by decide +kernel
theorem dX10_burnt_2 : decode cX10_burnt 2 = .ok (.if_icmp .ne 11, 3) := by decide +kernel
theorem dX10_burnt_5 : decode cX10_burnt 5 = .ok (.aload_n 0, 1) := by decide +kernel
theorem dX10_burnt_6 : decode cX10_burnt 6 = .ok (.getfield 47, 3) := by decide +kernel
theorem dX10_burnt_9 : decode cX10_burnt 9 = .ok (.getfield 208, 3) := by decide +kernel
theorem dX10_burnt_12 : decode cX10_burnt 12 = .ok (.ireturn, 1) := by decide +kernel
theorem dX10_burnt_13 : decode cX10_burnt 13 = .ok (.iload_n 1, 1) := by decide +kernel
theorem dX10_burnt_14 : decode cX10_burnt 14 = .ok (.ifCond .lt 14, 3) := by decide +kernel
theorem dX10_burnt_17 : decode cX10_burnt 17 = .ok (.iload_n 1, 1) := by decide +kernel
theorem dX10_burnt_18 : decode cX10_burnt 18 = .ok (.aload_n 0, 1) := by decide +kernel
theorem dX10_burnt_19 : decode cX10_burnt 19 = .ok (.getfield 47, 3) := by decide +kernel
theorem dX10_burnt_22 : decode cX10_burnt 22 = .ok (.getfield 211, 3) := by decide +kernel
theorem dX10_burnt_25 : decode cX10_burnt 25 = .ok (.if_icmp .lt 10, 3) := by decide +kernel
theorem dX10_burnt_28 : decode cX10_burnt 28 = .ok (.aload_n 0, 1) := by decide +kernel
theorem dX10_burnt_29 : decode cX10_burnt 29 = .ok (.bipush (-11), 2) := by decide +kernel
theorem dX10_burnt_31 : decode cX10_burnt 31 = .ok (.invokevirtual 96, 3) := by decide +kernel
theorem dX10_burnt_34 : decode cX10_burnt 34 = .ok (.ireturn, 1) := by decide +kernel
theorem dX10_burnt_35 : decode cX10_burnt 35 = .ok (.aload_n 0, 1) := by decide +kernel
theorem dX10_burnt_36 : decode cX10_burnt 36 = .ok (.getfield 47, 3) := by decide +kernel
theorem dX10_burnt_39 : decode cX10_burnt 39 = .ok (.getfield 214, 3) := by decide +kernel
theorem dX10_burnt_42 : decode cX10_burnt 42 = .ok (.iload_n 1, 1) := by decide +kernel
theorem dX10_burnt_43 : decode cX10_burnt 43 = .ok (.iaload, 1) := by decide +kernel
theorem dX10_burnt_44 : decode cX10_burnt 44 = .ok (.ireturn, 1) := by decide +kernel
theorem dX10_keep_0 : decode cX10_keep 0 = .ok (.iload_n 1, 1) := by decide +kernel
theorem dX10_keep_1 : decode cX10_keep 1 = .ok (.invokestatic 217, 3) := by decide +kernel
theorem dX10_keep_4 : decode cX10_keep 4 = .ok (.ifCond .ne 9, 3) := by decide +kernel
theorem dX10_keep_7 : decode cX10_keep 7 = .ok (.aload_n 0, 1) := by decide +kernel
theorem dX10_keep_8 : decode cX10_keep 8 = .ok (.iconst (-1), 1) := by decide +kernel
theorem dX10_keep_9 : decode cX10_keep 9 = .ok (.invokevirtual 96, 3) := by decide +kernel
theorem dX10_keep_12 : decode cX10_keep 12 = .ok (.ireturn, 1) := by decide +kernel
theorem dX10_keep_13 : decode cX10_keep 13 = .ok (.aload_n 0, 1) := by decide +kernel
theorem dX10_keep_14 : decode cX10_keep 14 = .ok (.getfield 92, 3) := by decide +kernel
theorem dX10_keep_17 : decode cX10_keep 17 = .ok (.ifCond .ne 10, 3) := by decide +kernel
theorem dX10_keep_20 : decode cX10_keep 20 = .ok (.aload_n 0, 1) := by decide +kernel
theorem dX10_keep_21 : decode cX10_keep 21 = .ok (.bipush (-8), 2) := by decide +kernel
theorem dX10_keep_23 : decode cX10_keep 23 = .ok (.invokevirtual 96, 3) := by decide +kernel
theorem dX10_keep_26 : decode cX10_keep 26 = .ok (.ireturn, 1) := by decide +kernel
theorem dX10_keep_27 : decode cX10_keep 27 = .ok (.aload_n 0, 1) := by decide +kernel
theorem dX10_keep_28 : decode cX10_keep 28 = .ok (.iload_n 1, 1) := by decide +kernel
theorem dX10_keep_29 : decode cX10_keep 29 = .ok (.aload_n 0, 1) := by decide +kernel
theorem dX10_keep_30 : decode cX10_keep 30 = .ok (.getfield 21, 3) := by decide +kernel
theorem dX10_keep_33 : decode cX10_keep 33 = .ok (.invokevirtual 220, 3) := by decide +kernel
theorem dX10_keep_36 : decode cX10_keep 36 = .ok (.ireturn, 1) := by decide +kernel
theorem dX10_bring_0 : decode cX10_bring 0 = .ok (.iload_n 1, 1) := by decide +kernel
theorem dX10_bring_1 : decode cX10_bring 1 = .ok (.invokestatic 217, 3) := by decide +kernel
theorem dX10_bring_4 : decode cX10_bring 4 = .ok (.ifCond .ne 9, 3) := by decide +kernel
theorem dX10_bring_7 : decode cX10_bring 7 = .ok (.aload_n 0, 1) := by decide +kernel
theorem dX10_bring_8 : decode cX10_bring 8 = .ok (.iconst (-1), 1) := by decide +kernel
theorem dX10_bring_9 : decode cX10_bring 9 = .ok (.invokevirtual 96, 3) := by decide +kernel
theorem dX10_bring_12 : decode cX10_bring 12 = .ok (.ireturn, 1) := by decide +kernel
theorem dX10_bring_13 : decode cX10_bring 13 = .ok (.aload_n 0, 1) := by decide +kernel
theorem dX10_bring_14 : decode cX10_bring 14 = .ok (.getfield 70, 3) := by decide +kernel
theorem dX10_bring_17 : decode cX10_bring 17 = .ok (.iload_n 1, 1) := by decide +kernel
theorem dX10_bring_18 : decode cX10_bring 18 = .ok (.baload, 1) := by decide +kernel
theorem dX10_bring_19 : decode cX10_bring 19 = .ok (.ifCond .ne 10, 3) := by decide +kernel
theorem dX10_bring_22 : decode cX10_bring 22 = .ok (.aload_n 0, 1) := by decide +kernel
theorem dX10_bring_23 : decode cX10_bring 23 = .ok (.bipush (-11), 2) := by decide +kernel
theorem dX10_bring_25 : decode cX10_bring 25 = .ok (.invokevirtual 96, 3) := by decide +kernel
theorem dX10_bring_28 : decode cX10_bring 28 = .ok (.ireturn, 1) := by decide +kernel
theorem dX10_bring_29 : decode cX10_bring 29 = .ok (.aload_n 0, 1) := by decide +kernel
theorem dX10_bring_30 : decode cX10_bring 30 = .ok (.getfield 92, 3) := by decide +kernel
theorem dX10_bring_33 : decode cX10_bring 33 = .ok (.ifCond .ne 10, 3) := by decide +kernel
theorem dX10_bring_36 : decode cX10_bring 36 = .ok (.aload_n 0, 1) := by decide +kernel
theorem dX10_bring_37 : decode cX10_bring 37 = .ok (.bipush (-8), 2) := by decide +kernel
theorem dX10_bring_39 : decode cX10_bring 39 = .ok (.invokevirtual 96, 3) := by decide +kernel
theorem dX10_bring_42 : decode cX10_bring 42 = .ok (.ireturn, 1) := by decide +kernel
theorem dX10_bring_43 : decode cX10_bring 43 = .ok (.aload_n 0, 1) := by decide +kernel
theorem dX10_bring_44 : decode cX10_bring 44 = .ok (.getfield 21, 3) := by decide +kernel
theorem dX10_bring_47 : decode cX10_bring 47 = .ok (.aload_n 0, 1) := by decide +kernel
theorem dX10_bring_48 : decode cX10_bring 48 = .ok (.getfield 67, 3) := by decide +kernel
theorem dX10_bring_51 : decode cX10_bring 51 = .ok (.iload_n 1, 1) := by decide +kernel
theorem dX10_bring_52 : decode cX10_bring 52 = .ok (.aaload, 1) := by decide +kernel
theorem dX10_bring_53 : decode cX10_bring 53 = .ok (.invokevirtual 224, 3) := by decide +kernel
theorem dX10_bring_56 : decode cX10_bring 56 = .ok (.aload_n 0, 1) := by decide +kernel
theorem dX10_bring_57 : decode cX10_bring 57 = .ok (.getfield 40, 3) := by decide +kernel
theorem dX10_bring_60 : decode cX10_bring 60 = .ok (.invokevirtual 134, 3) := by decide +kernel
theorem dX10_bring_63 : decode cX10_bring 63 = .ok (.aload_n 0, 1) := by decide +kernel
theorem dX10_bring_64 : decode cX10_bring 64 = .ok (.getfield 21, 3) := by decide +kernel
theorem dX10_bring_67 : decode cX10_bring 67 = .ok (.invokevirtual 228, 3) := by decide +kernel
theorem dX10_bring_70 : decode cX10_bring 70 = .ok (.ireturn, 1) := by decide +kernel
theorem dX10_plus_0 : decode cX10_plus 0 = .ok (.iload_n 1, 1) := by decide +kernel
theorem dX10_plus_1 : decode cX10_plus 1 = .ok (.invokestatic 217, 3) := by decide +kernel
theorem dX10_plus_4 : decode cX10_plus 4 = .ok (.ifCond .eq 17, 3) := by decide +kernel
theorem dX10_plus_7 : decode cX10_plus 7 = .ok (.iload_n 2, 1) := by decide +kernel
theorem dX10_plus_8 : decode cX10_plus 8 = .ok (.invokestatic 217, 3) := by decide +kernel
theorem dX10_plus_11 : decode cX10_plus 11 = .ok (.ifCond .eq 10, 3) := by decide +kernel
theorem dX10_plus_14 : decode cX10_plus 14 = .ok (.iload_n 3, 1) := by decide +kernel
theorem dX10_plus_15 : decode cX10_plus 15 = .ok (.invokestatic 217, 3) := by decide +kernel
theorem dX10_plus_18 : decode cX10_plus 18 = .ok (.ifCond .ne 9, 3) := by decide +kernel
theorem dX10_plus_21 : decode cX10_plus 21 = .ok (.aload_n 0, 1) := by decide +kernel
theorem dX10_plus_22 : decode cX10_plus 22 = .ok (.iconst (-1), 1) := by decide +kernel
theorem dX10_plus_23 : decode cX10_plus 23 = .ok (.invokevirtual 96, 3) := by decide +kernel
theorem dX10_plus_26 : decode cX10_plus 26 = .ok (.ireturn, 1) := by decide +kernel
theorem dX10_plus_27 : decode cX10_plus 27 = .ok (.aload_n 0, 1) := by decide +kernel
theorem dX10_plus_28 : decode cX10_plus 28 = .ok (.getfield 70, 3) := by decide +kernel
theorem dX10_plus_31 : decode cX10_plus 31 = .ok (.iload_n 1, 1) := by decide +kernel
theorem dX10_plus_32 : decode cX10_plus 32 = .ok (.baload, 1) := by decide +kernel
theorem dX10_plus_33 : decode cX10_plus 33 = .ok (.ifCond .eq 12, 3) := by decide +kernel
theorem dX10_plus_36 : decode cX10_plus 36 = .ok (.aload_n 0, 1) := by decide +kernel
theorem dX10_plus_37 : decode cX10_plus 37 = .ok (.getfield 70, 3) := by decide +kernel
theorem dX10_plus_40 : decode cX10_plus 40 = .ok (.iload_n 2, 1) := by decide +kernel
theorem dX10_plus_41 : decode cX10_plus 41 = .ok (.baload, 1) := by decide +kernel
theorem dX10_plus_42 : decode cX10_plus 42 = .ok (.ifCond .ne 10, 3) := by decide +kernel
theorem dX10_plus_45 : decode cX10_plus 45 = .ok (.aload_n 0, 1) := by decide +kernel
theorem dX10_plus_46 : decode cX10_plus 46 = .ok (.bipush (-11), 2) := by decide +kernel
theorem dX10_plus_48 : decode cX10_plus 48 = .ok (.invokevirtual 96, 3) := by decide +kernel
theorem dX10_plus_51 : decode cX10_plus 51 = .ok (.ireturn, 1) := by decide +kernel
theorem dX10_plus_52 : decode cX10_plus 52 = .ok (.aload_n 0, 1) := by decide +kernel
theorem dX10_plus_53 : decode cX10_plus 53 = .ok (.getfield 92, 3) := by decide +kernel
theorem dX10_plus_56 : decode cX10_plus 56 = .ok (.ifCond .ne 10, 3) := by decide +kernel
theorem dX10_plus_59 : decode cX10_plus 59 = .ok (.aload_n 0, 1) := by decide +kernel
theorem dX10_plus_60 : decode cX10_plus 60 = .ok (.bipush (-8), 2) := by decide +kernel
theorem dX10_plus_62 : decode cX10_plus 62 = .ok (.invokevirtual 96, 3) := by decide +kernel
theorem dX10_plus_65 : decode cX10_plus 65 = .ok (.ireturn, 1) := by decide +kernel
theorem dX10_plus_66 : decode cX10_plus 66 = .ok (.iconst 0, 1) := by decide +kernel
theorem dX10_plus_67 : decode cX10_plus 67 = .ok (.istore 4, 2) := by decide +kernel
theorem dX10_plus_69 : decode cX10_plus 69 = .ok (.iload 4, 2) := by decide +kernel
theorem dX10_plus_71 : decode cX10_plus 71 = .ok (.aload_n 0, 1) := by decide +kernel
theorem dX10_plus_72 : decode cX10_plus 72 = .ok (.getfield 10, 3) := by decide +kernel
theorem dX10_plus_75 : decode cX10_plus 75 = .ok (.getfield 100, 3) := by decide +kernel
theorem dX10_plus_78 : decode cX10_plus 78 = .ok (.if_icmp .ge 38, 3) := by decide +kernel
theorem dX10_plus_81 : decode cX10_plus 81 = .ok (.aload_n 0, 1) := by decide +kernel
theorem dX10_plus_82 : decode cX10_plus 82 = .ok (.getfield 25, 3) := by decide +kernel
theorem dX10_plus_85 : decode cX10_plus 85 = .ok (.getfield 141, 3) := by decide +kernel
theorem dX10_plus_88 : decode cX10_plus 88 = .ok (.iload 4, 2) := by decide +kernel
theorem dX10_plus_90 : decode cX10_plus 90 = .ok (.aload_n 0, 1) := by decide +kernel
theorem dX10_plus_91 : decode cX10_plus 91 = .ok (.getfield 67, 3) := by decide +kernel
theorem dX10_plus_94 : decode cX10_plus 94 = .ok (.iload_n 1, 1) := by decide +kernel
theorem dX10_plus_95 : decode cX10_plus 95 = .ok (.aaload, 1) := by decide +kernel
theorem dX10_plus_96 : decode cX10_plus 96 = .ok (.iload 4, 2) := by decide +kernel
theorem dX10_plus_98 : decode cX10_plus 98 = .ok (.iaload, 1) := by decide +kernel
theorem dX10_plus_99 : decode cX10_plus 99 = .ok (.aload_n 0, 1) := by decide +kernel
theorem dX10_plus_100 : decode cX10_plus 100 = .ok (.getfield 67, 3) := by decide +kernel
theorem dX10_plus_103 : decode cX10_plus 103 = .ok (.iload_n 2, 1) := by decide +kernel
theorem dX10_plus_104 : decode cX10_plus 104 = .ok (.aaload, 1) := by decide +kernel
theorem dX10_plus_105 : decode cX10_plus 105 = .ok (.iload 4, 2) := by decide +kernel
theorem dX10_plus_107 : decode cX10_plus 107 = .ok (.iaload, 1) := by decide +kernel
theorem dX10_plus_108 : decode cX10_plus 108 = .ok (.iadd, 1) := by decide +kernel
theorem dX10_plus_109 : decode cX10_plus 109 = .ok (.iastore, 1) := by decide +kernel
theorem dX10_plus_110 : decode cX10_plus 110 = .ok (.iinc 4 1, 3) := by decide +kernel
theorem dX10_plus_113 : decode cX10_plus 113 = .ok (.goto (-44), 3) := by decide +kernel
theorem dX10_plus_116 : decode cX10_plus 116 = .ok (.aload_n 0, 1) := by decide +kernel
theorem dX10_plus_117 : decode cX10_plus 117 = .ok (.iload_n 3, 1) := by decide +kernel
theorem dX10_plus_118 : decode cX10_plus 118 = .ok (.invokevirtual 231, 3) := by decide +kernel
theorem dX10_plus_121 : decode cX10_plus 121 = .ok (.ireturn, 1) := by decide +kernel
theorem dX10_nought_0 : decode cX10_nought 0 = .ok (.iload_n 1, 1) := by decide +kernel
theorem dX10_nought_1 : decode cX10_nought 1 = .ok (.invokestatic 217, 3) := by decide +kernel
theorem dX10_nought_4 : decode cX10_nought 4 = .ok (.ifCond .ne 9, 3) := by decide +kernel
theorem dX10_nought_7 : decode cX10_nought 7 = .ok (.aload_n 0, 1) := by decide +kernel
theorem dX10_nought_8 : decode cX10_nought 8 = .ok (.iconst (-1), 1) := by decide +kernel
theorem dX10_nought_9 : decode cX10_nought 9 = .ok (.invokevirtual 96, 3) := by decide +kernel
theorem dX10_nought_12 : decode cX10_nought 12 = .ok (.ireturn, 1) := by decide +kernel
theorem dX10_nought_13 : decode cX10_nought 13 = .ok (.aload_n 0, 1) := by decide +kernel
theorem dX10_nought_14 : decode cX10_nought 14 = .ok (.getfield 92, 3) := by decide +kernel
theorem dX10_nought_17 : decode cX10_nought 17 = .ok (.ifCond .ne 10, 3) := by decide +kernel
theorem dX10_nought_20 : decode cX10_nought 20 = .ok (.aload_n 0, 1) := by decide +kernel
theorem dX10_nought_21 : decode cX10_nought 21 = .ok (.bipush (-8), 2) := by decide +kernel
theorem dX10_nought_23 : decode cX10_nought 23 = .ok (.invokevirtual 96, 3) := by decide +kernel
theorem dX10_nought_26 : decode cX10_nought 26 = .ok (.ireturn, 1) := by decide +kernel
theorem dX10_nought_27 : decode cX10_nought 27 = .ok (.aload_n 0, 1) := by decide +kernel
theorem dX10_nought_28 : decode cX10_nought 28 = .ok (.getfield 10, 3) := by decide +kernel
theorem dX10_nought_31 : decode cX10_nought 31 = .ok (.invokevirtual 201, 3) := by decide +kernel
theorem dX10_nought_34 : decode cX10_nought 34 = .ok (.ifCond .ne 10, 3) := by decide +kernel
theorem dX10_nought_37 : decode cX10_nought 37 = .ok (.aload_n 0, 1) := by decide +kernel
theorem dX10_nought_38 : decode cX10_nought 38 = .ok (.bipush (-12), 2) := by decide +kernel
theorem dX10_nought_40 : decode cX10_nought 40 = .ok (.invokevirtual 96, 3) := by decide +kernel
theorem dX10_nought_43 : decode cX10_nought 43 = .ok (.ireturn, 1) := by decide +kernel
theorem dX10_nought_44 : decode cX10_nought 44 = .ok (.aload_n 0, 1) := by decide +kernel
theorem dX10_nought_45 : decode cX10_nought 45 = .ok (.invokevirtual 234, 3) := by decide +kernel
theorem dX10_nought_48 : decode cX10_nought 48 = .ok (.ifCond .ne 10, 3) := by decide +kernel
theorem dX10_nought_51 : decode cX10_nought 51 = .ok (.aload_n 0, 1) := by decide +kernel
theorem dX10_nought_52 : decode cX10_nought 52 = .ok (.bipush (-5), 2) := by decide +kernel
theorem dX10_nought_54 : decode cX10_nought 54 = .ok (.invokevirtual 96, 3) := by decide +kernel
theorem dX10_nought_57 : decode cX10_nought 57 = .ok (.ireturn, 1) := by decide +kernel
theorem dX10_nought_58 : decode cX10_nought 58 = .ok (.aload_n 0, 1) := by decide +kernel
theorem dX10_nought_59 : decode cX10_nought 59 = .ok (.getfield 25, 3) := by decide +kernel
theorem dX10_nought_62 : decode cX10_nought 62 = .ok (.aload_n 0, 1) := by decide +kernel
theorem dX10_nought_63 : decode cX10_nought 63 = .ok (.getfield 88, 3) := by decide +kernel
theorem dX10_nought_66 : decode cX10_nought 66 = .ok (.invokevirtual 224, 3) := by decide +kernel
theorem dX10_nought_69 : decode cX10_nought 69 = .ok (.aload_n 0, 1) := by decide +kernel
theorem dX10_nought_70 : decode cX10_nought 70 = .ok (.iload_n 1, 1) := by decide +kernel
theorem dX10_nought_71 : decode cX10_nought 71 = .ok (.invokevirtual 231, 3) := by decide +kernel
theorem dX10_nought_74 : decode cX10_nought 74 = .ok (.ireturn, 1) := by decide +kernel
theorem dX10_contrary_0 : decode cX10_contrary 0 = .ok (.iload_n 1, 1) := by decide +kernel
theorem dX10_contrary_1 : decode cX10_contrary 1 = .ok (.invokestatic 217, 3) := by decide +kernel
theorem dX10_contrary_4 : decode cX10_contrary 4 = .ok (.ifCond .eq 10, 3) := by decide +kernel
theorem dX10_contrary_7 : decode cX10_contrary 7 = .ok (.iload_n 2, 1) := by decide +kernel
theorem dX10_contrary_8 : decode cX10_contrary 8 = .ok (.invokestatic 217, 3) := by decide +kernel
theorem dX10_contrary_11 : decode cX10_contrary 11 = .ok (.ifCond .ne 9, 3) := by decide +kernel
theorem dX10_contrary_14 : decode cX10_contrary 14 = .ok (.aload_n 0, 1) := by decide +kernel
theorem dX10_contrary_15 : decode cX10_contrary 15 = .ok (.iconst (-1), 1) := by decide +kernel
theorem dX10_contrary_16 : decode cX10_contrary 16 = .ok (.invokevirtual 96, 3) := by decide +kernel
theorem dX10_contrary_19 : decode cX10_contrary 19 = .ok (.ireturn, 1) := by decide +kernel
theorem dX10_contrary_20 : decode cX10_contrary 20 = .ok (.aload_n 0, 1) := by decide +kernel
theorem dX10_contrary_21 : decode cX10_contrary 21 = .ok (.getfield 70, 3) := by decide +kernel
theorem dX10_contrary_24 : decode cX10_contrary 24 = .ok (.iload_n 1, 1) := by decide +kernel
theorem dX10_contrary_25 : decode cX10_contrary 25 = .ok (.baload, 1) := by decide +kernel
theorem dX10_contrary_26 : decode cX10_contrary 26 = .ok (.ifCond .ne 10, 3) := by decide +kernel
theorem dX10_contrary_29 : decode cX10_contrary 29 = .ok (.aload_n 0, 1) := by decide +kernel
theorem dX10_contrary_30 : decode cX10_contrary 30 = .ok (.bipush (-11), 2) := by decide +kernel
theorem dX10_contrary_32 : decode cX10_contrary 32 = .ok (.invokevirtual 96, 3) := by decide +kernel
theorem dX10_contrary_35 : decode cX10_contrary 35 = .ok (.ireturn, 1) := by decide +kernel
theorem dX10_contrary_36 : decode cX10_contrary 36 = .ok (.aload_n 0, 1) := by decide +kernel
theorem dX10_contrary_37 : decode cX10_contrary 37 = .ok (.getfield 92, 3) := by decide +kernel
theorem dX10_contrary_40 : decode cX10_contrary 40 = .ok (.ifCond .ne 10, 3) := by decide +kernel
theorem dX10_contrary_43 : decode cX10_contrary 43 = .ok (.aload_n 0, 1) := by decide +kernel
theorem dX10_contrary_44 : decode cX10_contrary 44 = .ok (.bipush (-8), 2) := by decide +kernel
theorem dX10_contrary_46 : decode cX10_contrary 46 = .ok (.invokevirtual 96, 3) := by decide +kernel
theorem dX10_contrary_49 : decode cX10_contrary 49 = .ok (.ireturn, 1) := by decide +kernel
theorem dX10_contrary_50 : decode cX10_contrary 50 = .ok (.aload_n 0, 1) := by decide +kernel
theorem dX10_contrary_51 : decode cX10_contrary 51 = .ok (.getfield 10, 3) := by decide +kernel
theorem dX10_contrary_54 : decode cX10_contrary 54 = .ok (.invokevirtual 201, 3) := by decide +kernel
theorem dX10_contrary_57 : decode cX10_contrary 57 = .ok (.ifCond .ne 10, 3) := by decide +kernel
theorem dX10_contrary_60 : decode cX10_contrary 60 = .ok (.aload_n 0, 1) := by decide +kernel
theorem dX10_contrary_61 : decode cX10_contrary 61 = .ok (.bipush (-12), 2) := by decide +kernel
theorem dX10_contrary_63 : decode cX10_contrary 63 = .ok (.invokevirtual 96, 3) := by decide +kernel
theorem dX10_contrary_66 : decode cX10_contrary 66 = .ok (.ireturn, 1) := by decide +kernel
theorem dX10_contrary_67 : decode cX10_contrary 67 = .ok (.aload_n 0, 1) := by decide +kernel
theorem dX10_contrary_68 : decode cX10_contrary 68 = .ok (.invokevirtual 234, 3) := by decide +kernel
theorem dX10_contrary_71 : decode cX10_contrary 71 = .ok (.ifCond .ne 10, 3) := by decide +kernel
theorem dX10_contrary_74 : decode cX10_contrary 74 = .ok (.aload_n 0, 1) := by decide +kernel
theorem dX10_contrary_75 : decode cX10_contrary 75 = .ok (.bipush (-5), 2) := by decide +kernel
theorem dX10_contrary_77 : decode cX10_contrary 77 = .ok (.invokevirtual 96, 3) := by decide +kernel
theorem dX10_contrary_80 : decode cX10_contrary 80 = .ok (.ireturn, 1) := by decide +kernel
theorem dX10_contrary_81 : decode cX10_contrary 81 = .ok (.aload_n 0, 1) := by decide +kernel
theorem dX10_contrary_82 : decode cX10_contrary 82 = .ok (.getfield 25, 3) := by decide +kernel
theorem dX10_contrary_85 : decode cX10_contrary 85 = .ok (.aload_n 0, 1) := by decide +kernel
theorem dX10_contrary_86 : decode cX10_contrary 86 = .ok (.getfield 67, 3) := by decide +kernel
theorem dX10_contrary_89 : decode cX10_contrary 89 = .ok (.iload_n 1, 1) := by decide +kernel
theorem dX10_contrary_90 : decode cX10_contrary 90 = .ok (.aaload, 1) := by decide +kernel
theorem dX10_contrary_91 : decode cX10_contrary 91 = .ok (.invokevirtual 224, 3) := by decide +kernel
theorem dX10_contrary_94 : decode cX10_contrary 94 = .ok (.aload_n 0, 1) := by decide +kernel
theorem dX10_contrary_95 : decode cX10_contrary 95 = .ok (.getfield 25, 3) := by decide +kernel
theorem dX10_contrary_98 : decode cX10_contrary 98 = .ok (.invokevirtual 237, 3) := by decide +kernel
theorem dX10_contrary_101 : decode cX10_contrary 101 = .ok (.ifCond .ne 10, 3) := by decide +kernel
theorem dX10_contrary_104 : decode cX10_contrary 104 = .ok (.aload_n 0, 1) := by decide +kernel
theorem dX10_contrary_105 : decode cX10_contrary 105 = .ok (.bipush (-5), 2) := by decide +kernel
theorem dX10_contrary_107 : decode cX10_contrary 107 = .ok (.invokevirtual 96, 3) := by decide +kernel
theorem dX10_contrary_110 : decode cX10_contrary 110 = .ok (.ireturn, 1) := by decide +kernel
theorem dX10_contrary_111 : decode cX10_contrary 111 = .ok (.iconst 0, 1) := by decide +kernel
theorem dX10_contrary_112 : decode cX10_contrary 112 = .ok (.istore_n 3, 1) := by decide +kernel
theorem dX10_contrary_113 : decode cX10_contrary 113 = .ok (.iload_n 3, 1) := by decide +kernel
theorem dX10_contrary_114 : decode cX10_contrary 114 = .ok (.aload_n 0, 1) := by decide +kernel
theorem dX10_contrary_115 : decode cX10_contrary 115 = .ok (.getfield 10, 3) := by decide +kernel
theorem dX10_contrary_118 : decode cX10_contrary 118 = .ok (.getfield 100, 3) := by decide +kernel
theorem dX10_contrary_121 : decode cX10_contrary 121 = .ok (.if_icmp .ge 36, 3) := by decide +kernel
theorem dX10_contrary_124 : decode cX10_contrary 124 = .ok (.aload_n 0, 1) := by decide +kernel
theorem dX10_contrary_125 : decode cX10_contrary 125 = .ok (.getfield 25, 3) := by decide +kernel
theorem dX10_contrary_128 : decode cX10_contrary 128 = .ok (.getfield 141, 3) := by decide +kernel
theorem dX10_contrary_131 : decode cX10_contrary 131 = .ok (.iload_n 3, 1) := by decide +kernel
theorem dX10_contrary_132 : decode cX10_contrary 132 = .ok (.iconst 2, 1) := by decide +kernel
theorem dX10_contrary_133 : decode cX10_contrary 133 = .ok (.aload_n 0, 1) := by decide +kernel
theorem dX10_contrary_134 : decode cX10_contrary 134 = .ok (.getfield 88, 3) := by decide +kernel
theorem dX10_contrary_137 : decode cX10_contrary 137 = .ok (.iload_n 3, 1) := by decide +kernel
theorem dX10_contrary_138 : decode cX10_contrary 138 = .ok (.iaload, 1) := by decide +kernel
theorem dX10_contrary_139 : decode cX10_contrary 139 = .ok (.imul, 1) := by decide +kernel
theorem dX10_contrary_140 : decode cX10_contrary 140 = .ok (.aload_n 0, 1) := by decide +kernel
theorem dX10_contrary_141 : decode cX10_contrary 141 = .ok (.getfield 25, 3) := by decide +kernel
theorem dX10_contrary_144 : decode cX10_contrary 144 = .ok (.getfield 141, 3) := by decide +kernel
theorem dX10_contrary_147 : decode cX10_contrary 147 = .ok (.iload_n 3, 1) := by decide +kernel
theorem dX10_contrary_148 : decode cX10_contrary 148 = .ok (.iaload, 1) := by decide +kernel
theorem dX10_contrary_149 : decode cX10_contrary 149 = .ok (.isub, 1) := by decide +kernel
theorem dX10_contrary_150 : decode cX10_contrary 150 = .ok (.iastore, 1) := by decide +kernel
theorem dX10_contrary_151 : decode cX10_contrary 151 = .ok (.iinc 3 1, 3) := by decide +kernel
theorem dX10_contrary_154 : decode cX10_contrary 154 = .ok (.goto (-41), 3) := by decide +kernel
theorem dX10_contrary_157 : decode cX10_contrary 157 = .ok (.aload_n 0, 1) := by decide +kernel
theorem dX10_contrary_158 : decode cX10_contrary 158 = .ok (.iload_n 2, 1) := by decide +kernel
theorem dX10_contrary_159 : decode cX10_contrary 159 = .ok (.invokevirtual 231, 3) := by decide +kernel
theorem dX10_contrary_162 : decode cX10_contrary 162 = .ok (.ireturn, 1) := by decide +kernel
theorem dX10_many_0 : decode cX10_many 0 = .ok (.iload_n 1, 1) := by decide +kernel
theorem dX10_many_1 : decode cX10_many 1 = .ok (.invokestatic 240, 3) := by decide +kernel
theorem dX10_many_4 : decode cX10_many 4 = .ok (.ifCond .ne 9, 3) := by decide +kernel
theorem dX10_many_7 : decode cX10_many 7 = .ok (.aload_n 0, 1) := by decide +kernel
theorem dX10_many_8 : decode cX10_many 8 = .ok (.iconst (-1), 1) := by decide +kernel
theorem dX10_many_9 : decode cX10_many 9 = .ok (.invokevirtual 96, 3) := by decide +kernel
theorem dX10_many_12 : decode cX10_many 12 = .ok (.ireturn, 1) := by decide +kernel
theorem dX10_many_13 : decode cX10_many 13 = .ok (.aload_n 0, 1) := by decide +kernel
theorem dX10_many_14 : decode cX10_many 14 = .ok (.getfield 92, 3) := by decide +kernel
theorem dX10_many_17 : decode cX10_many 17 = .ok (.ifCond .ne 10, 3) := by decide +kernel
theorem dX10_many_20 : decode cX10_many 20 = .ok (.aload_n 0, 1) := by decide +kernel
theorem dX10_many_21 : decode cX10_many 21 = .ok (.bipush (-8), 2) := by decide +kernel
theorem dX10_many_23 : decode cX10_many 23 = .ok (.invokevirtual 96, 3) := by decide +kernel
theorem dX10_many_26 : decode cX10_many 26 = .ok (.ireturn, 1) := by decide +kernel
theorem dX10_many_27 : decode cX10_many 27 = .ok (.aload_n 0, 1) := by decide +kernel
theorem dX10_many_28 : decode cX10_many 28 = .ok (.getfield 10, 3) := by decide +kernel
theorem dX10_many_31 : decode cX10_many 31 = .ok (.invokevirtual 201, 3) := by decide +kernel
theorem dX10_many_34 : decode cX10_many 34 = .ok (.ifCond .ne 10, 3) := by decide +kernel
theorem dX10_many_37 : decode cX10_many 37 = .ok (.aload_n 0, 1) := by decide +kernel
theorem dX10_many_38 : decode cX10_many 38 = .ok (.bipush (-12), 2) := by decide +kernel
theorem dX10_many_40 : decode cX10_many 40 = .ok (.invokevirtual 96, 3) := by decide +kernel
theorem dX10_many_43 : decode cX10_many 43 = .ok (.ireturn, 1) := by decide +kernel
theorem dX10_many_44 : decode cX10_many 44 = .ok (.aload_n 0, 1) := by decide +kernel
theorem dX10_many_45 : decode cX10_many 45 = .ok (.getfield 61, 3) := by decide +kernel
theorem dX10_many_48 : decode cX10_many 48 = .ok (.aload_n 0, 1) := by decide +kernel
theorem dX10_many_49 : decode cX10_many 49 = .ok (.getfield 10, 3) := by decide +kernel
theorem dX10_many_52 : decode cX10_many 52 = .ok (.iload_n 1, 1) := by decide +kernel
theorem dX10_many_53 : decode cX10_many 53 = .ok (.invokevirtual 243, 3) := by decide +kernel
theorem dX10_many_56 : decode cX10_many 56 = .ok (.ireturn, 1) := by decide +kernel
theorem dX10_list_0 : decode cX10_list 0 = .ok (.aload_n 0, 1) := by decide +kernel
theorem dX10_list_1 : decode cX10_list 1 = .ok (.getfield 92, 3) := by decide +kernel
theorem dX10_list_4 : decode cX10_list 4 = .ok (.ifCond .ne 10, 3) := by decide +kernel
theorem dX10_list_7 : decode cX10_list 7 = .ok (.aload_n 0, 1) := by decide +kernel
theorem dX10_list_8 : decode cX10_list 8 = .ok (.bipush (-8), 2) := by decide +kernel
theorem dX10_list_10 : decode cX10_list 10 = .ok (.invokevirtual 96, 3) := by decide +kernel
theorem dX10_list_13 : decode cX10_list 13 = .ok (.ireturn, 1) := by decide +kernel
theorem dX10_list_14 : decode cX10_list 14 = .ok (.aload_n 0, 1) := by decide +kernel
theorem dX10_list_15 : decode cX10_list 15 = .ok (.getfield 10, 3) := by decide +kernel
theorem dX10_list_18 : decode cX10_list 18 = .ok (.invokevirtual 201, 3) := by decide +kernel
theorem dX10_list_21 : decode cX10_list 21 = .ok (.ifCond .ne 10, 3) := by decide +kernel
theorem dX10_list_24 : decode cX10_list 24 = .ok (.aload_n 0, 1) := by decide +kernel
theorem dX10_list_25 : decode cX10_list 25 = .ok (.bipush (-12), 2) := by decide +kernel
theorem dX10_list_27 : decode cX10_list 27 = .ok (.invokevirtual 96, 3) := by decide +kernel
theorem dX10_list_30 : decode cX10_list 30 = .ok (.ireturn, 1) := by decide +kernel
theorem dX10_list_31 : decode cX10_list 31 = .ok (.aload_n 0, 1) := by decide +kernel
theorem dX10_list_32 : decode cX10_list 32 = .ok (.getfield 54, 3) := by decide +kernel
theorem dX10_list_35 : decode cX10_list 35 = .ok (.aload_n 0, 1) := by decide +kernel
theorem dX10_list_36 : decode cX10_list 36 = .ok (.getfield 10, 3) := by decide +kernel
theorem dX10_list_39 : decode cX10_list 39 = .ok (.invokevirtual 247, 3) := by decide +kernel
theorem dX10_list_42 : decode cX10_list 42 = .ok (.ifCond .eq 13, 3) := by decide +kernel
theorem dX10_list_45 : decode cX10_list 45 = .ok (.aload_n 0, 1) := by decide +kernel
theorem dX10_list_46 : decode cX10_list 46 = .ok (.getfield 54, 3) := by decide +kernel
theorem dX10_list_49 : decode cX10_list 49 = .ok (.getfield 251, 3) := by decide +kernel
theorem dX10_list_52 : decode cX10_list 52 = .ok (.goto 9, 3) := by decide +kernel
theorem dX10_list_55 : decode cX10_list 55 = .ok (.aload_n 0, 1) := by decide +kernel
theorem dX10_list_56 : decode cX10_list 56 = .ok (.bipush (-10), 2) := by decide +kernel
theorem dX10_list_58 : decode cX10_list 58 = .ok (.invokevirtual 96, 3) := by decide +kernel
theorem dX10_list_61 : decode cX10_list 61 = .ok (.ireturn, 1) := by decide +kernel
theorem dX10_listed_0 : decode cX10_listed 0 = .ok (.iload_n 1, 1) := by decide +kernel
theorem dX10_listed_1 : decode cX10_listed 1 = .ok (.ifCond .lt 14, 3) := by decide +kernel
theorem dX10_listed_4 : decode cX10_listed 4 = .ok (.iload_n 1, 1) := by decide +kernel
theorem dX10_listed_5 : decode cX10_listed 5 = .ok (.aload_n 0, 1) := by decide +kernel
theorem dX10_listed_6 : decode cX10_listed 6 = .ok (.getfield 54, 3) := by decide +kernel
theorem dX10_listed_9 : decode cX10_listed 9 = .ok (.getfield 251, 3) := by decide +kernel
theorem dX10_listed_12 : decode cX10_listed 12 = .ok (.if_icmp .lt 10, 3) := by decide +kernel
theorem dX10_listed_15 : decode cX10_listed 15 = .ok (.aload_n 0, 1) := by decide +kernel
theorem dX10_listed_16 : decode cX10_listed 16 = .ok (.bipush (-11), 2) := by decide +kernel
theorem dX10_listed_18 : decode cX10_listed 18 = .ok (.invokevirtual 96, 3) := by decide +kernel
theorem dX10_listed_21 : decode cX10_listed 21 = .ok (.ireturn, 1) := by decide +kernel
theorem dX10_listed_22 : decode cX10_listed 22 = .ok (.aload_n 0, 1) := by decide +kernel
theorem dX10_listed_23 : decode cX10_listed 23 = .ok (.getfield 10, 3) := by decide +kernel
theorem dX10_listed_26 : decode cX10_listed 26 = .ok (.iload_n 2, 1) := by decide +kernel
theorem dX10_listed_27 : decode cX10_listed 27 = .ok (.invokevirtual 107, 3) := by decide +kernel
theorem dX10_listed_30 : decode cX10_listed 30 = .ok (.ifCond .ne 9, 3) := by decide +kernel
theorem dX10_listed_33 : decode cX10_listed 33 = .ok (.aload_n 0, 1) := by decide +kernel
theorem dX10_listed_34 : decode cX10_listed 34 = .ok (.iconst (-1), 1) := by decide +kernel
theorem dX10_listed_35 : decode cX10_listed 35 = .ok (.invokevirtual 96, 3) := by decide +kernel
theorem dX10_listed_38 : decode cX10_listed 38 = .ok (.ireturn, 1) := by decide +kernel
theorem dX10_listed_39 : decode cX10_listed 39 = .ok (.aload_n 0, 1) := by decide +kernel
theorem dX10_listed_40 : decode cX10_listed 40 = .ok (.getfield 54, 3) := by decide +kernel
theorem dX10_listed_43 : decode cX10_listed 43 = .ok (.iload_n 1, 1) := by decide +kernel
theorem dX10_listed_44 : decode cX10_listed 44 = .ok (.iload_n 2, 1) := by decide +kernel
theorem dX10_listed_45 : decode cX10_listed 45 = .ok (.invokevirtual 252, 3) := by decide +kernel
theorem dX10_listed_48 : decode cX10_listed 48 = .ok (.ireturn, 1) := by decide +kernel
theorem dX10_terrace_0 : decode cX10_terrace 0 = .ok (.iload_n 1, 1) := by decide +kernel
theorem dX10_terrace_1 : decode cX10_terrace 1 = .ok (.invokestatic 255, 3) := by decide +kernel
theorem dX10_terrace_4 : decode cX10_terrace 4 = .ok (.ifCond .eq 10, 3) := by decide +kernel
theorem dX10_terrace_7 : decode cX10_terrace 7 = .ok (.iload_n 2, 1) := by decide +kernel
theorem dX10_terrace_8 : decode cX10_terrace 8 = .ok (.invokestatic 258, 3) := by decide +kernel
theorem dX10_terrace_11 : decode cX10_terrace 11 = .ok (.ifCond .ne 9, 3) := by decide +kernel
theorem dX10_terrace_14 : decode cX10_terrace 14 = .ok (.aload_n 0, 1) := by decide +kernel
theorem dX10_terrace_15 : decode cX10_terrace 15 = .ok (.iconst (-1), 1) := by decide +kernel
theorem dX10_terrace_16 : decode cX10_terrace 16 = .ok (.invokevirtual 96, 3) := by decide +kernel
theorem dX10_terrace_19 : decode cX10_terrace 19 = .ok (.ireturn, 1) := by decide +kernel
theorem dX10_terrace_20 : decode cX10_terrace 20 = .ok (.iload_n 3, 1) := by decide +kernel
theorem dX10_terrace_21 : decode cX10_terrace 21 = .ok (.ifCond .ge 10, 3) := by decide +kernel
theorem dX10_terrace_24 : decode cX10_terrace 24 = .ok (.aload_n 0, 1) := by decide +kernel
theorem dX10_terrace_25 : decode cX10_terrace 25 = .ok (.bipush (-3), 2) := by decide +kernel
theorem dX10_terrace_27 : decode cX10_terrace 27 = .ok (.invokevirtual 96, 3) := by decide +kernel
theorem dX10_terrace_30 : decode cX10_terrace 30 = .ok (.ireturn, 1) := by decide +kernel
theorem dX10_terrace_31 : decode cX10_terrace 31 = .ok (.iload_n 3, 1) := by decide +kernel
theorem dX10_terrace_32 : decode cX10_terrace 32 = .ok (.bipush 16, 2) := by decide +kernel
theorem dX10_terrace_34 : decode cX10_terrace 34 = .ok (.if_icmp .le 9, 3) := by decide +kernel
theorem dX10_terrace_37 : decode cX10_terrace 37 = .ok (.aload_n 0, 1) := by decide +kernel
theorem dX10_terrace_38 : decode cX10_terrace 38 = .ok (.iconst (-1), 1) := by decide +kernel
theorem dX10_terrace_39 : decode cX10_terrace 39 = .ok (.invokevirtual 96, 3) := by decide +kernel
theorem dX10_terrace_42 : decode cX10_terrace 42 = .ok (.ireturn, 1) := by decide +kernel
theorem dX10_terrace_43 : decode cX10_terrace 43 = .ok (.aload_n 0, 1) := by decide +kernel
theorem dX10_terrace_44 : decode cX10_terrace 44 = .ok (.getfield 76, 3) := by decide +kernel
theorem dX10_terrace_47 : decode cX10_terrace 47 = .ok (.iload_n 1, 1) := by decide +kernel
theorem dX10_terrace_48 : decode cX10_terrace 48 = .ok (.aaload, 1) := by decide +kernel
theorem dX10_terrace_49 : decode cX10_terrace 49 = .ok (.iload_n 2, 1) := by decide +kernel
theorem dX10_terrace_50 : decode cX10_terrace 50 = .ok (.iload_n 3, 1) := by decide +kernel
theorem dX10_terrace_51 : decode cX10_terrace 51 = .ok (.invokevirtual 261, 3) := by decide +kernel
theorem dX10_terrace_54 : decode cX10_terrace 54 = .ok (.ireturn, 1) := by decide +kernel
theorem dX10_put_0 : decode cX10_put 0 = .ok (.iload_n 1, 1) := by decide +kernel
theorem dX10_put_1 : decode cX10_put 1 = .ok (.invokestatic 255, 3) := by decide +kernel
theorem dX10_put_4 : decode cX10_put 4 = .ok (.ifCond .ne 9, 3) := by decide +kernel
theorem dX10_put_7 : decode cX10_put 7 = .ok (.aload_n 0, 1) := by decide +kernel
theorem dX10_put_8 : decode cX10_put 8 = .ok (.iconst (-1), 1) := by decide +kernel
theorem dX10_put_9 : decode cX10_put 9 = .ok (.invokevirtual 264, 3) := by decide +kernel
theorem dX10_put_12 : decode cX10_put 12 = .ok (.lreturn, 1) := by decide +kernel
theorem dX10_put_13 : decode cX10_put 13 = .ok (.aload_n 0, 1) := by decide +kernel
theorem dX10_put_14 : decode cX10_put 14 = .ok (.getfield 76, 3) := by decide +kernel
theorem dX10_put_17 : decode cX10_put 17 = .ok (.iload_n 1, 1) := by decide +kernel
theorem dX10_put_18 : decode cX10_put 18 = .ok (.aaload, 1) := by decide +kernel
theorem dX10_put_19 : decode cX10_put 19 = .ok (.invokevirtual 268, 3) := by decide +kernel
theorem dX10_put_22 : decode cX10_put 22 = .ok (.ifCond .eq 10, 3) := by decide +kernel
theorem dX10_put_25 : decode cX10_put 25 = .ok (.aload_n 0, 1) := by decide +kernel
theorem dX10_put_26 : decode cX10_put 26 = .ok (.bipush (-2), 2) := by decide +kernel
theorem dX10_put_28 : decode cX10_put 28 = .ok (.invokevirtual 264, 3) := by decide +kernel
theorem dX10_put_31 : decode cX10_put 31 = .ok (.lreturn, 1) := by decide +kernel
theorem dX10_put_32 : decode cX10_put 32 = .ok (.iload_n 2, 1) := by decide +kernel
theorem dX10_put_33 : decode cX10_put 33 = .ok (.ifCond .lt 16, 3) := by decide +kernel
theorem dX10_put_36 : decode cX10_put 36 = .ok (.iload_n 2, 1) := by decide +kernel
theorem dX10_put_37 : decode cX10_put 37 = .ok (.aload_n 0, 1) := by decide +kernel
theorem dX10_put_38 : decode cX10_put 38 = .ok (.getfield 76, 3) := by decide +kernel
theorem dX10_put_41 : decode cX10_put 41 = .ok (.iload_n 1, 1) := by decide +kernel
theorem dX10_put_42 : decode cX10_put 42 = .ok (.aaload, 1) := by decide +kernel
theorem dX10_put_43 : decode cX10_put 43 = .ok (.getfield 271, 3) := by decide +kernel
theorem dX10_put_46 : decode cX10_put 46 = .ok (.if_icmp .lt 9, 3) := by decide +kernel
theorem dX10_put_49 : decode cX10_put 49 = .ok (.aload_n 0, 1) := by decide +kernel
theorem dX10_put_50 : decode cX10_put 50 = .ok (.iconst (-1), 1) := by decide +kernel
theorem dX10_put_51 : decode cX10_put 51 = .ok (.invokevirtual 264, 3) := by decide +kernel
theorem dX10_put_54 : decode cX10_put 54 = .ok (.lreturn, 1) := by decide +kernel
theorem dX10_put_55 : decode cX10_put 55 = .ok (.aload_n 0, 1) := by decide +kernel
theorem dX10_put_56 : decode cX10_put 56 = .ok (.getfield 76, 3) := by decide +kernel
theorem dX10_put_59 : decode cX10_put 59 = .ok (.iload_n 1, 1) := by decide +kernel
theorem dX10_put_60 : decode cX10_put 60 = .ok (.aaload, 1) := by decide +kernel
theorem dX10_put_61 : decode cX10_put 61 = .ok (.iload_n 2, 1) := by decide +kernel
theorem dX10_put_62 : decode cX10_put 62 = .ok (.lload_n 3, 1) := by decide +kernel
theorem dX10_put_63 : decode cX10_put 63 = .ok (.invokevirtual 274, 3) := by decide +kernel
theorem dX10_put_66 : decode cX10_put 66 = .ok (.lreturn, 1) := by decide +kernel
theorem dX10_copy_0 : decode cX10_copy 0 = .ok (.iload_n 1, 1) := by decide +kernel
theorem dX10_copy_1 : decode cX10_copy 1 = .ok (.invokestatic 255, 3) := by decide +kernel
theorem dX10_copy_4 : decode cX10_copy 4 = .ok (.ifCond .eq 10, 3) := by decide +kernel
theorem dX10_copy_7 : decode cX10_copy 7 = .ok (.iload_n 3, 1) := by decide +kernel
theorem dX10_copy_8 : decode cX10_copy 8 = .ok (.invokestatic 255, 3) := by decide +kernel
theorem dX10_copy_11 : decode cX10_copy 11 = .ok (.ifCond .ne 9, 3) := by decide +kernel
theorem dX10_copy_14 : decode cX10_copy 14 = .ok (.aload_n 0, 1) := by decide +kernel
theorem dX10_copy_15 : decode cX10_copy 15 = .ok (.iconst (-1), 1) := by decide +kernel
theorem dX10_copy_16 : decode cX10_copy 16 = .ok (.invokevirtual 96, 3) := by decide +kernel
theorem dX10_copy_19 : decode cX10_copy 19 = .ok (.ireturn, 1) := by decide +kernel
theorem dX10_copy_20 : decode cX10_copy 20 = .ok (.aload_n 0, 1) := by decide +kernel
theorem dX10_copy_21 : decode cX10_copy 21 = .ok (.getfield 76, 3) := by decide +kernel
theorem dX10_copy_24 : decode cX10_copy 24 = .ok (.iload_n 1, 1) := by decide +kernel
theorem dX10_copy_25 : decode cX10_copy 25 = .ok (.aaload, 1) := by decide +kernel
theorem dX10_copy_26 : decode cX10_copy 26 = .ok (.invokevirtual 268, 3) := by decide +kernel
theorem dX10_copy_29 : decode cX10_copy 29 = .ok (.ifCond .ne 15, 3) := by decide +kernel
theorem dX10_copy_32 : decode cX10_copy 32 = .ok (.aload_n 0, 1) := by decide +kernel
theorem dX10_copy_33 : decode cX10_copy 33 = .ok (.getfield 76, 3) := by decide +kernel
theorem dX10_copy_36 : decode cX10_copy 36 = .ok (.iload_n 3, 1) := by decide +kernel
theorem dX10_copy_37 : decode cX10_copy 37 = .ok (.aaload, 1) := by decide +kernel
theorem dX10_copy_38 : decode cX10_copy 38 = .ok (.invokevirtual 268, 3) := by decide +kernel
theorem dX10_copy_41 : decode cX10_copy 41 = .ok (.ifCond .eq 10, 3) := by decide +kernel
theorem dX10_copy_44 : decode cX10_copy 44 = .ok (.aload_n 0, 1) := by decide +kernel
theorem dX10_copy_45 : decode cX10_copy 45 = .ok (.bipush (-2), 2) := by decide +kernel
theorem dX10_copy_47 : decode cX10_copy 47 = .ok (.invokevirtual 96, 3) := by decide +kernel
theorem dX10_copy_50 : decode cX10_copy 50 = .ok (.ireturn, 1) := by decide +kernel
theorem dX10_copy_51 : decode cX10_copy 51 = .ok (.aload_n 0, 1) := by decide +kernel
theorem dX10_copy_52 : decode cX10_copy 52 = .ok (.getfield 76, 3) := by decide +kernel
theorem dX10_copy_55 : decode cX10_copy 55 = .ok (.iload_n 1, 1) := by decide +kernel
theorem dX10_copy_56 : decode cX10_copy 56 = .ok (.aaload, 1) := by decide +kernel
theorem dX10_copy_57 : decode cX10_copy 57 = .ok (.getfield 278, 3) := by decide +kernel
theorem dX10_copy_60 : decode cX10_copy 60 = .ok (.aload_n 0, 1) := by decide +kernel
theorem dX10_copy_61 : decode cX10_copy 61 = .ok (.getfield 76, 3) := by decide +kernel
theorem dX10_copy_64 : decode cX10_copy 64 = .ok (.iload_n 3, 1) := by decide +kernel
theorem dX10_copy_65 : decode cX10_copy 65 = .ok (.aaload, 1) := by decide +kernel
theorem dX10_copy_66 : decode cX10_copy 66 = .ok (.getfield 278, 3) := by decide +kernel
theorem dX10_copy_69 : decode cX10_copy 69 = .ok (.if_icmp .eq 10, 3) := by decide +kernel
theorem dX10_copy_72 : decode cX10_copy 72 = .ok (.aload_n 0, 1) := by decide +kernel
theorem dX10_copy_73 : decode cX10_copy 73 = .ok (.bipush (-4), 2) := by decide +kernel
theorem dX10_copy_75 : decode cX10_copy 75 = .ok (.invokevirtual 96, 3) := by decide +kernel
theorem dX10_copy_78 : decode cX10_copy 78 = .ok (.ireturn, 1) := by decide +kernel
theorem dX10_copy_79 : decode cX10_copy 79 = .ok (.iload_n 2, 1) := by decide +kernel
theorem dX10_copy_80 : decode cX10_copy 80 = .ok (.iload 5, 2) := by decide +kernel
theorem dX10_copy_82 : decode cX10_copy 82 = .ok (.aload_n 0, 1) := by decide +kernel
theorem dX10_copy_83 : decode cX10_copy 83 = .ok (.getfield 76, 3) := by decide +kernel
theorem dX10_copy_86 : decode cX10_copy 86 = .ok (.iload_n 1, 1) := by decide +kernel
theorem dX10_copy_87 : decode cX10_copy 87 = .ok (.aaload, 1) := by decide +kernel
theorem dX10_copy_88 : decode cX10_copy 88 = .ok (.getfield 271, 3) := by decide +kernel
theorem dX10_copy_91 : decode cX10_copy 91 = .ok (.invokestatic 281, 3) := by decide +kernel
theorem dX10_copy_94 : decode cX10_copy 94 = .ok (.ifCond .eq 22, 3) := by decide +kernel
theorem dX10_copy_97 : decode cX10_copy 97 = .ok (.iload 4, 2) := by decide +kernel
theorem dX10_copy_99 : decode cX10_copy 99 = .ok (.iload 5, 2) := by decide +kernel
theorem dX10_copy_101 : decode cX10_copy 101 = .ok (.aload_n 0, 1) := by decide +kernel
theorem dX10_copy_102 : decode cX10_copy 102 = .ok (.getfield 76, 3) := by decide +kernel
theorem dX10_copy_105 : decode cX10_copy 105 = .ok (.iload_n 3, 1) := by decide +kernel
theorem dX10_copy_106 : decode cX10_copy 106 = .ok (.aaload, 1) := by decide +kernel
theorem dX10_copy_107 : decode cX10_copy 107 = .ok (.getfield 271, 3) := by decide +kernel
theorem dX10_copy_110 : decode cX10_copy 110 = .ok (.invokestatic 281, 3) := by decide +kernel
theorem dX10_copy_113 : decode cX10_copy 113 = .ok (.ifCond .ne 9, 3) := by decide +kernel
theorem dX10_copy_116 : decode cX10_copy 116 = .ok (.aload_n 0, 1) := by decide +kernel
theorem dX10_copy_117 : decode cX10_copy 117 = .ok (.iconst (-1), 1) := by decide +kernel
theorem dX10_copy_118 : decode cX10_copy 118 = .ok (.invokevirtual 96, 3) := by decide +kernel
theorem dX10_copy_121 : decode cX10_copy 121 = .ok (.ireturn, 1) := by decide +kernel
theorem dX10_copy_122 : decode cX10_copy 122 = .ok (.aload_n 0, 1) := by decide +kernel
theorem dX10_copy_123 : decode cX10_copy 123 = .ok (.getfield 76, 3) := by decide +kernel
theorem dX10_copy_126 : decode cX10_copy 126 = .ok (.iload_n 1, 1) := by decide +kernel
theorem dX10_copy_127 : decode cX10_copy 127 = .ok (.aaload, 1) := by decide +kernel
theorem dX10_copy_128 : decode cX10_copy 128 = .ok (.getfield 285, 3) := by decide +kernel
theorem dX10_copy_131 : decode cX10_copy 131 = .ok (.iload_n 2, 1) := by decide +kernel
theorem dX10_copy_132 : decode cX10_copy 132 = .ok (.aload_n 0, 1) := by decide +kernel
theorem dX10_copy_133 : decode cX10_copy 133 = .ok (.getfield 76, 3) := by decide +kernel
theorem dX10_copy_136 : decode cX10_copy 136 = .ok (.iload_n 3, 1) := by decide +kernel
theorem dX10_copy_137 : decode cX10_copy 137 = .ok (.aaload, 1) := by decide +kernel
theorem dX10_copy_138 : decode cX10_copy 138 = .ok (.getfield 285, 3) := by decide +kernel
theorem dX10_copy_141 : decode cX10_copy 141 = .ok (.iload 4, 2) := by decide +kernel
theorem dX10_copy_143 : decode cX10_copy 143 = .ok (.iload 5, 2) := by decide +kernel
theorem dX10_copy_145 : decode cX10_copy 145 = .ok (.invokestatic 288, 3) := by decide +kernel
theorem dX10_copy_148 : decode cX10_copy 148 = .ok (.iload 5, 2) := by decide +kernel
theorem dX10_copy_150 : decode cX10_copy 150 = .ok (.ireturn, 1) := by decide +kernel
theorem dX10_spread_0 : decode cX10_spread 0 = .ok (.iload_n 1, 1) := by decide +kernel
theorem dX10_spread_1 : decode cX10_spread 1 = .ok (.invokestatic 255, 3) := by decide +kernel
theorem dX10_spread_4 : decode cX10_spread 4 = .ok (.ifCond .ne 9, 3) := by decide +kernel
theorem dX10_spread_7 : decode cX10_spread 7 = .ok (.aload_n 0, 1) := by decide +kernel
theorem dX10_spread_8 : decode cX10_spread 8 = .ok (.iconst (-1), 1) := by decide +kernel
theorem dX10_spread_9 : decode cX10_spread 9 = .ok (.invokevirtual 96, 3) := by decide +kernel
theorem dX10_spread_12 : decode cX10_spread 12 = .ok (.ireturn, 1) := by decide +kernel
theorem dX10_spread_13 : decode cX10_spread 13 = .ok (.aload_n 0, 1) := by decide +kernel
theorem dX10_spread_14 : decode cX10_spread 14 = .ok (.getfield 76, 3) := by decide +kernel
theorem dX10_spread_17 : decode cX10_spread 17 = .ok (.iload_n 1, 1) := by decide +kernel
theorem dX10_spread_18 : decode cX10_spread 18 = .ok (.aaload, 1) := by decide +kernel
theorem dX10_spread_19 : decode cX10_spread 19 = .ok (.invokevirtual 268, 3) := by decide +kernel
theorem dX10_spread_22 : decode cX10_spread 22 = .ok (.ifCond .eq 10, 3) := by decide +kernel
theorem dX10_spread_25 : decode cX10_spread 25 = .ok (.aload_n 0, 1) := by decide +kernel
theorem dX10_spread_26 : decode cX10_spread 26 = .ok (.bipush (-2), 2) := by decide +kernel
theorem dX10_spread_28 : decode cX10_spread 28 = .ok (.invokevirtual 96, 3) := by decide +kernel
theorem dX10_spread_31 : decode cX10_spread 31 = .ok (.ireturn, 1) := by decide +kernel
theorem dX10_spread_32 : decode cX10_spread 32 = .ok (.iload_n 2, 1) := by decide +kernel
theorem dX10_spread_33 : decode cX10_spread 33 = .ok (.iload_n 3, 1) := by decide +kernel
theorem dX10_spread_34 : decode cX10_spread 34 = .ok (.aload_n 0, 1) := by decide +kernel
theorem dX10_spread_35 : decode cX10_spread 35 = .ok (.getfield 76, 3) := by decide +kernel
theorem dX10_spread_38 : decode cX10_spread 38 = .ok (.iload_n 1, 1) := by decide +kernel
theorem dX10_spread_39 : decode cX10_spread 39 = .ok (.aaload, 1) := by decide +kernel
theorem dX10_spread_40 : decode cX10_spread 40 = .ok (.getfield 271, 3) := by decide +kernel
theorem dX10_spread_43 : decode cX10_spread 43 = .ok (.invokestatic 281, 3) := by decide +kernel
theorem dX10_spread_46 : decode cX10_spread 46 = .ok (.ifCond .eq 19, 3) := by decide +kernel
theorem dX10_spread_49 : decode cX10_spread 49 = .ok (.iload 4, 2) := by decide +kernel
theorem dX10_spread_51 : decode cX10_spread 51 = .ok (.iload_n 3, 1) := by decide +kernel
theorem dX10_spread_52 : decode cX10_spread 52 = .ok (.aload_n 0, 1) := by decide +kernel
theorem dX10_spread_53 : decode cX10_spread 53 = .ok (.getfield 10, 3) := by decide +kernel
theorem dX10_spread_56 : decode cX10_spread 56 = .ok (.getfield 100, 3) := by decide +kernel
theorem dX10_spread_59 : decode cX10_spread 59 = .ok (.invokestatic 281, 3) := by decide +kernel
theorem dX10_spread_62 : decode cX10_spread 62 = .ok (.ifCond .ne 9, 3) := by decide +kernel
theorem dX10_spread_65 : decode cX10_spread 65 = .ok (.aload_n 0, 1) := by decide +kernel
theorem dX10_spread_66 : decode cX10_spread 66 = .ok (.iconst (-1), 1) := by decide +kernel
theorem dX10_spread_67 : decode cX10_spread 67 = .ok (.invokevirtual 96, 3) := by decide +kernel
theorem dX10_spread_70 : decode cX10_spread 70 = .ok (.ireturn, 1) := by decide +kernel
theorem dX10_spread_71 : decode cX10_spread 71 = .ok (.aload_n 0, 1) := by decide +kernel
theorem dX10_spread_72 : decode cX10_spread 72 = .ok (.getfield 92, 3) := by decide +kernel
theorem dX10_spread_75 : decode cX10_spread 75 = .ok (.ifCond .ne 10, 3) := by decide +kernel
theorem dX10_spread_78 : decode cX10_spread 78 = .ok (.aload_n 0, 1) := by decide +kernel
theorem dX10_spread_79 : decode cX10_spread 79 = .ok (.bipush (-8), 2) := by decide +kernel
theorem dX10_spread_81 : decode cX10_spread 81 = .ok (.invokevirtual 96, 3) := by decide +kernel
theorem dX10_spread_84 : decode cX10_spread 84 = .ok (.ireturn, 1) := by decide +kernel
theorem dX10_spread_85 : decode cX10_spread 85 = .ok (.aload_n 0, 1) := by decide +kernel
theorem dX10_spread_86 : decode cX10_spread 86 = .ok (.getfield 76, 3) := by decide +kernel
theorem dX10_spread_89 : decode cX10_spread 89 = .ok (.iload_n 1, 1) := by decide +kernel
theorem dX10_spread_90 : decode cX10_spread 90 = .ok (.aaload, 1) := by decide +kernel
theorem dX10_spread_91 : decode cX10_spread 91 = .ok (.getfield 285, 3) := by decide +kernel
theorem dX10_spread_94 : decode cX10_spread 94 = .ok (.astore 5, 2) := by decide +kernel
theorem dX10_spread_96 : decode cX10_spread 96 = .ok (.aload 5, 2) := by decide +kernel
theorem dX10_spread_98 : decode cX10_spread 98 = .ok (.iload_n 2, 1) := by decide +kernel
theorem dX10_spread_99 : decode cX10_spread 99 = .ok (.iload_n 3, 1) := by decide +kernel
theorem dX10_spread_100 : decode cX10_spread 100 = .ok (.invokestatic 294, 3) := by decide +kernel
theorem dX10_spread_103 : decode cX10_spread 103 = .ok (.ifCond .eq 10, 3) := by decide +kernel
theorem dX10_spread_106 : decode cX10_spread 106 = .ok (.aload_n 0, 1) := by decide +kernel
theorem dX10_spread_107 : decode cX10_spread 107 = .ok (.bipush (-13), 2) := by decide +kernel
theorem dX10_spread_109 : decode cX10_spread 109 = .ok (.invokevirtual 96, 3) := by decide +kernel
theorem dX10_spread_112 : decode cX10_spread 112 = .ok (.ireturn, 1) := by decide +kernel
theorem dX10_spread_113 : decode cX10_spread 113 = .ok (.iconst 0, 1) := by decide +kernel
theorem dX10_spread_114 : decode cX10_spread 114 = .ok (.istore 6, 2) := by decide +kernel
theorem dX10_spread_116 : decode cX10_spread 116 = .ok (.iload 6, 2) := by decide +kernel
theorem dX10_spread_118 : decode cX10_spread 118 = .ok (.iload_n 3, 1) := by decide +kernel
theorem dX10_spread_119 : decode cX10_spread 119 = .ok (.if_icmp .ge 45, 3) := by decide +kernel
theorem dX10_spread_122 : decode cX10_spread 122 = .ok (.aload 5, 2) := by decide +kernel
theorem dX10_spread_124 : decode cX10_spread 124 = .ok (.iload_n 2, 1) := by decide +kernel
theorem dX10_spread_125 : decode cX10_spread 125 = .ok (.iload 6, 2) := by decide +kernel
theorem dX10_spread_127 : decode cX10_spread 127 = .ok (.iadd, 1) := by decide +kernel
theorem dX10_spread_128 : decode cX10_spread 128 = .ok (.laload, 1) := by decide +kernel
theorem dX10_spread_129 : decode cX10_spread 129 = .ok (.ldc_w 298, 3) := by decide +kernel
theorem dX10_spread_132 : decode cX10_spread 132 = .ok (.aload_n 0, 1) := by decide +kernel
theorem dX10_spread_133 : decode cX10_spread 133 = .ok (.getfield 21, 3) := by decide +kernel
theorem dX10_spread_136 : decode cX10_spread 136 = .ok (.getfield 141, 3) := by decide +kernel
theorem dX10_spread_139 : decode cX10_spread 139 = .ok (.iload 4, 2) := by decide +kernel
theorem dX10_spread_141 : decode cX10_spread 141 = .ok (.iload 6, 2) := by decide +kernel
theorem dX10_spread_143 : decode cX10_spread 143 = .ok (.iadd, 1) := by decide +kernel
theorem dX10_spread_144 : decode cX10_spread 144 = .ok (.iaload, 1) := by decide +kernel
theorem dX10_spread_145 : decode cX10_spread 145 = .ok (.isub, 1) := by decide +kernel
theorem dX10_spread_146 : decode cX10_spread 146 = .ok (.i2l, 1) := by decide +kernel
theorem dX10_spread_147 : decode cX10_spread 147 = .ok (.lcmp, 1) := by decide +kernel
theorem dX10_spread_148 : decode cX10_spread 148 = .ok (.ifCond .le 10, 3) := by decide +kernel
theorem dX10_spread_151 : decode cX10_spread 151 = .ok (.aload_n 0, 1) := by decide +kernel
theorem dX10_spread_152 : decode cX10_spread 152 = .ok (.bipush (-5), 2) := by decide +kernel
theorem dX10_spread_154 : decode cX10_spread 154 = .ok (.invokevirtual 96, 3) := by decide +kernel
theorem dX10_spread_157 : decode cX10_spread 157 = .ok (.ireturn, 1) := by decide +kernel
theorem dX10_spread_158 : decode cX10_spread 158 = .ok (.iinc 6 1, 3) := by decide +kernel
theorem dX10_spread_161 : decode cX10_spread 161 = .ok (.goto (-45), 3) := by decide +kernel
theorem dX10_spread_164 : decode cX10_spread 164 = .ok (.aload_n 0, 1) := by decide +kernel
theorem dX10_spread_165 : decode cX10_spread 165 = .ok (.getfield 40, 3) := by decide +kernel
theorem dX10_spread_168 : decode cX10_spread 168 = .ok (.aload_n 0, 1) := by decide +kernel
theorem dX10_spread_169 : decode cX10_spread 169 = .ok (.getfield 21, 3) := by decide +kernel
theorem dX10_spread_172 : decode cX10_spread 172 = .ok (.aload_n 0, 1) := by decide +kernel
theorem dX10_spread_173 : decode cX10_spread 173 = .ok (.getfield 33, 3) := by decide +kernel
theorem dX10_spread_176 : decode cX10_spread 176 = .ok (.invokevirtual 146, 3) := by decide +kernel
theorem dX10_spread_179 : decode cX10_spread 179 = .ok (.iconst 0, 1) := by decide +kernel
theorem dX10_spread_180 : decode cX10_spread 180 = .ok (.istore 6, 2) := by decide +kernel
theorem dX10_spread_182 : decode cX10_spread 182 = .ok (.iload 6, 2) := by decide +kernel
theorem dX10_spread_184 : decode cX10_spread 184 = .ok (.iload_n 3, 1) := by decide +kernel
theorem dX10_spread_185 : decode cX10_spread 185 = .ok (.if_icmp .ge 33, 3) := by decide +kernel
theorem dX10_spread_188 : decode cX10_spread 188 = .ok (.aload_n 0, 1) := by decide +kernel
theorem dX10_spread_189 : decode cX10_spread 189 = .ok (.getfield 21, 3) := by decide +kernel
theorem dX10_spread_192 : decode cX10_spread 192 = .ok (.getfield 141, 3) := by decide +kernel
theorem dX10_spread_195 : decode cX10_spread 195 = .ok (.iload 4, 2) := by decide +kernel
theorem dX10_spread_197 : decode cX10_spread 197 = .ok (.iload 6, 2) := by decide +kernel
theorem dX10_spread_199 : decode cX10_spread 199 = .ok (.iadd, 1) := by decide +kernel
theorem dX10_spread_200 : decode cX10_spread 200 = .ok (.dup2, 1) := by decide +kernel
theorem dX10_spread_201 : decode cX10_spread 201 = .ok (.iaload, 1) := by decide +kernel
theorem dX10_spread_202 : decode cX10_spread 202 = .ok (.aload 5, 2) := by decide +kernel
theorem dX10_spread_204 : decode cX10_spread 204 = .ok (.iload_n 2, 1) := by decide +kernel
theorem dX10_spread_205 : decode cX10_spread 205 = .ok (.iload 6, 2) := by decide +kernel
theorem dX10_spread_207 : decode cX10_spread 207 = .ok (.iadd, 1) := by decide +kernel
theorem dX10_spread_208 : decode cX10_spread 208 = .ok (.laload, 1) := by decide +kernel
theorem dX10_spread_209 : decode cX10_spread 209 = .ok (.l2i, 1) := by decide +kernel
theorem dX10_spread_210 : decode cX10_spread 210 = .ok (.iadd, 1) := by decide +kernel
theorem dX10_spread_211 : decode cX10_spread 211 = .ok (.iastore, 1) := by decide +kernel
theorem dX10_spread_212 : decode cX10_spread 212 = .ok (.iinc 6 1, 3) := by decide +kernel
theorem dX10_spread_215 : decode cX10_spread 215 = .ok (.goto (-33), 3) := by decide +kernel
theorem dX10_spread_218 : decode cX10_spread 218 = .ok (.aload_n 0, 1) := by decide +kernel
theorem dX10_spread_219 : decode cX10_spread 219 = .ok (.getfield 21, 3) := by decide +kernel
theorem dX10_spread_222 : decode cX10_spread 222 = .ok (.invokevirtual 228, 3) := by decide +kernel
theorem dX10_spread_225 : decode cX10_spread 225 = .ok (.ireturn, 1) := by decide +kernel
theorem dX10_tell_0 : decode cX10_tell 0 = .ok (.aload_n 0, 1) := by decide +kernel
theorem dX10_tell_1 : decode cX10_tell 1 = .ok (.getfield 84, 3) := by decide +kernel
theorem dX10_tell_4 : decode cX10_tell 4 = .ok (.getfield 299, 3) := by decide +kernel
theorem dX10_tell_7 : decode cX10_tell 7 = .ok (.sipush 200, 3) := by decide +kernel
theorem dX10_tell_10 : decode cX10_tell 10 = .ok (.if_icmp .lt 10, 3) := by decide +kernel
theorem dX10_tell_13 : decode cX10_tell 13 = .ok (.aload_n 0, 1) := by decide +kernel
theorem dX10_tell_14 : decode cX10_tell 14 = .ok (.bipush (-5), 2) := by decide +kernel
theorem dX10_tell_16 : decode cX10_tell 16 = .ok (.invokevirtual 96, 3) := by decide +kernel
theorem dX10_tell_19 : decode cX10_tell 19 = .ok (.ireturn, 1) := by decide +kernel
theorem dX10_tell_20 : decode cX10_tell 20 = .ok (.aload_n 0, 1) := by decide +kernel
theorem dX10_tell_21 : decode cX10_tell 21 = .ok (.getfield 84, 3) := by decide +kernel
theorem dX10_tell_24 : decode cX10_tell 24 = .ok (.iload_n 1, 1) := by decide +kernel
theorem dX10_tell_25 : decode cX10_tell 25 = .ok (.invokevirtual 300, 3) := by decide +kernel
theorem dX10_tell_28 : decode cX10_tell 28 = .ok (.ireturn, 1) := by decide +kernel
theorem dX10_enough_0 : decode cX10_enough 0 = .ok (.bipush (-8), 2) := by decide +kernel
theorem dX10_enough_2 : decode cX10_enough 2 = .ok (.istore_n 1, 1) := by decide +kernel
theorem dX10_enough_3 : decode cX10_enough 3 = .ok (.aload_n 0, 1) := by decide +kernel
theorem dX10_enough_4 : decode cX10_enough 4 = .ok (.getfield 92, 3) := by decide +kernel
theorem dX10_enough_7 : decode cX10_enough 7 = .ok (.ifCond .eq 8, 3) := by decide +kernel
theorem dX10_enough_10 : decode cX10_enough 10 = .ok (.aload_n 0, 1) := by decide +kernel
theorem dX10_enough_11 : decode cX10_enough 11 = .ok (.invokevirtual 303, 3) := by decide +kernel
theorem dX10_enough_14 : decode cX10_enough 14 = .ok (.istore_n 1, 1) := by decide +kernel
theorem dX10_enough_15 : decode cX10_enough 15 = .ok (.aload_n 0, 1) := by decide +kernel
theorem dX10_enough_16 : decode cX10_enough 16 = .ok (.getfield 84, 3) := by decide +kernel
theorem dX10_enough_19 : decode cX10_enough 19 = .ok (.invokevirtual 179, 3) := by decide +kernel
theorem dX10_enough_22 : decode cX10_enough 22 = .ok (.iload_n 1, 1) := by decide +kernel
theorem dX10_enough_23 : decode cX10_enough 23 = .ok (.ifCond .ge 11, 3) := by decide +kernel
theorem dX10_enough_26 : decode cX10_enough 26 = .ok (.aload_n 0, 1) := by decide +kernel
theorem dX10_enough_27 : decode cX10_enough 27 = .ok (.iload_n 1, 1) := by decide +kernel
theorem dX10_enough_28 : decode cX10_enough 28 = .ok (.invokevirtual 96, 3) := by decide +kernel
theorem dX10_enough_31 : decode cX10_enough 31 = .ok (.goto 4, 3) := by decide +kernel
theorem dX10_enough_34 : decode cX10_enough 34 = .ok (.iload_n 1, 1) := by decide +kernel
theorem dX10_enough_35 : decode cX10_enough 35 = .ok (.ireturn, 1) := by decide +kernel
theorem dX10_check_0 : decode cX10_check 0 = .ok (.bipush (-8), 2) := by decide +kernel
theorem dX10_check_2 : decode cX10_check 2 = .ok (.istore_n 1, 1) := by decide +kernel
theorem dX10_check_3 : decode cX10_check 3 = .ok (.aload_n 0, 1) := by decide +kernel
theorem dX10_check_4 : decode cX10_check 4 = .ok (.getfield 92, 3) := by decide +kernel
theorem dX10_check_7 : decode cX10_check 7 = .ok (.ifCond .eq 8, 3) := by decide +kernel
theorem dX10_check_10 : decode cX10_check 10 = .ok (.aload_n 0, 1) := by decide +kernel
theorem dX10_check_11 : decode cX10_check 11 = .ok (.invokevirtual 306, 3) := by decide +kernel
theorem dX10_check_14 : decode cX10_check 14 = .ok (.istore_n 1, 1) := by decide +kernel
theorem dX10_check_15 : decode cX10_check 15 = .ok (.aload_n 0, 1) := by decide +kernel
theorem dX10_check_16 : decode cX10_check 16 = .ok (.getfield 84, 3) := by decide +kernel
theorem dX10_check_19 : decode cX10_check 19 = .ok (.invokevirtual 179, 3) := by decide +kernel
theorem dX10_check_22 : decode cX10_check 22 = .ok (.iload_n 1, 1) := by decide +kernel
theorem dX10_check_23 : decode cX10_check 23 = .ok (.ifCond .ge 11, 3) := by decide +kernel
theorem dX10_check_26 : decode cX10_check 26 = .ok (.aload_n 0, 1) := by decide +kernel
theorem dX10_check_27 : decode cX10_check 27 = .ok (.iload_n 1, 1) := by decide +kernel
theorem dX10_check_28 : decode cX10_check 28 = .ok (.invokevirtual 96, 3) := by decide +kernel
theorem dX10_check_31 : decode cX10_check 31 = .ok (.goto 4, 3) := by decide +kernel
theorem dX10_check_34 : decode cX10_check 34 = .ok (.iload_n 1, 1) := by decide +kernel
theorem dX10_check_35 : decode cX10_check 35 = .ok (.ireturn, 1) := by decide +kernel
theorem dX10_undo_0 : decode cX10_undo 0 = .ok (.aload_n 0, 1) := by decide +kernel
theorem dX10_undo_1 : decode cX10_undo 1 = .ok (.getfield 40, 3) := by decide +kernel
theorem dX10_undo_4 : decode cX10_undo 4 = .ok (.getfield 309, 3) := by decide +kernel
theorem dX10_undo_7 : decode cX10_undo 7 = .ok (.ifCond .ne 10, 3) := by decide +kernel
theorem dX10_undo_10 : decode cX10_undo 10 = .ok (.aload_n 0, 1) := by decide +kernel
theorem dX10_undo_11 : decode cX10_undo 11 = .ok (.bipush (-11), 2) := by decide +kernel
theorem dX10_undo_13 : decode cX10_undo 13 = .ok (.invokevirtual 96, 3) := by decide +kernel
theorem dX10_undo_16 : decode cX10_undo 16 = .ok (.ireturn, 1) := by decide +kernel
theorem dX10_undo_17 : decode cX10_undo 17 = .ok (.aload_n 0, 1) := by decide +kernel
theorem dX10_undo_18 : decode cX10_undo 18 = .ok (.getfield 40, 3) := by decide +kernel
theorem dX10_undo_21 : decode cX10_undo 21 = .ok (.aload_n 0, 1) := by decide +kernel
theorem dX10_undo_22 : decode cX10_undo 22 = .ok (.getfield 21, 3) := by decide +kernel
theorem dX10_undo_25 : decode cX10_undo 25 = .ok (.aload_n 0, 1) := by decide +kernel
theorem dX10_undo_26 : decode cX10_undo 26 = .ok (.getfield 33, 3) := by decide +kernel
theorem dX10_undo_29 : decode cX10_undo 29 = .ok (.invokevirtual 310, 3) := by decide +kernel
theorem dX10_undo_32 : decode cX10_undo 32 = .ok (.aload_n 0, 1) := by decide +kernel
theorem dX10_undo_33 : decode cX10_undo 33 = .ok (.getfield 40, 3) := by decide +kernel
theorem dX10_undo_36 : decode cX10_undo 36 = .ok (.getfield 309, 3) := by decide +kernel
theorem dX10_undo_39 : decode cX10_undo 39 = .ok (.ireturn, 1) := by decide +kernel
theorem dX10_told_0 : decode cX10_told 0 = .ok (.iload_n 1, 1) := by decide +kernel
theorem dX10_told_1 : decode cX10_told 1 = .ok (.tableswitch 138 0 8 #[51, 56, 64, 77, 100, 108, 116, 125, 133], 51) := by decide +kernel
theorem dX10_told_52 : decode cX10_told 52 = .ok (.aload_n 0, 1) := by decide +kernel
theorem dX10_told_53 : decode cX10_told 53 = .ok (.getfield 126, 3) := by decide +kernel
theorem dX10_told_56 : decode cX10_told 56 = .ok (.ireturn, 1) := by decide +kernel
theorem dX10_told_57 : decode cX10_told 57 = .ok (.aload_n 0, 1) := by decide +kernel
theorem dX10_told_58 : decode cX10_told 58 = .ok (.getfield 10, 3) := by decide +kernel
theorem dX10_told_61 : decode cX10_told 61 = .ok (.getfield 100, 3) := by decide +kernel
theorem dX10_told_64 : decode cX10_told 64 = .ok (.ireturn, 1) := by decide +kernel
theorem dX10_told_65 : decode cX10_told 65 = .ok (.aload_n 0, 1) := by decide +kernel
theorem dX10_told_66 : decode cX10_told 66 = .ok (.getfield 92, 3) := by decide +kernel
theorem dX10_told_69 : decode cX10_told 69 = .ok (.ifCond .eq 7, 3) := by decide +kernel
theorem dX10_told_72 : decode cX10_told 72 = .ok (.iconst 1, 1) := by decide +kernel
theorem dX10_told_73 : decode cX10_told 73 = .ok (.goto 4, 3) := by decide +kernel
theorem dX10_told_76 : decode cX10_told 76 = .ok (.iconst 0, 1) := by decide +kernel
theorem dX10_told_77 : decode cX10_told 77 = .ok (.ireturn, 1) := by decide +kernel
theorem dX10_told_78 : decode cX10_told 78 = .ok (.aload_n 0, 1) := by decide +kernel
theorem dX10_told_79 : decode cX10_told 79 = .ok (.getfield 92, 3) := by decide +kernel
theorem dX10_told_82 : decode cX10_told 82 = .ok (.ifCond .eq 17, 3) := by decide +kernel
theorem dX10_told_85 : decode cX10_told 85 = .ok (.aload_n 0, 1) := by decide +kernel
theorem dX10_told_86 : decode cX10_told 86 = .ok (.getfield 21, 3) := by decide +kernel
theorem dX10_told_89 : decode cX10_told 89 = .ok (.invokevirtual 194, 3) := by decide +kernel
theorem dX10_told_92 : decode cX10_told 92 = .ok (.ifCond .eq 7, 3) := by decide +kernel
theorem dX10_told_95 : decode cX10_told 95 = .ok (.iconst 1, 1) := by decide +kernel
theorem dX10_told_96 : decode cX10_told 96 = .ok (.goto 4, 3) := by decide +kernel
theorem dX10_told_99 : decode cX10_told 99 = .ok (.iconst 0, 1) := by decide +kernel
theorem dX10_told_100 : decode cX10_told 100 = .ok (.ireturn, 1) := by decide +kernel
theorem dX10_told_101 : decode cX10_told 101 = .ok (.aload_n 0, 1) := by decide +kernel
theorem dX10_told_102 : decode cX10_told 102 = .ok (.getfield 21, 3) := by decide +kernel
theorem dX10_told_105 : decode cX10_told 105 = .ok (.invokevirtual 228, 3) := by decide +kernel
theorem dX10_told_108 : decode cX10_told 108 = .ok (.ireturn, 1) := by decide +kernel
theorem dX10_told_109 : decode cX10_told 109 = .ok (.aload_n 0, 1) := by decide +kernel
theorem dX10_told_110 : decode cX10_told 110 = .ok (.getfield 84, 3) := by decide +kernel
theorem dX10_told_113 : decode cX10_told 113 = .ok (.getfield 299, 3) := by decide +kernel
theorem dX10_told_116 : decode cX10_told 116 = .ok (.ireturn, 1) := by decide +kernel
theorem dX10_told_117 : decode cX10_told 117 = .ok (.aload_n 0, 1) := by decide +kernel
theorem dX10_told_118 : decode cX10_told 118 = .ok (.getfield 33, 3) := by decide +kernel
theorem dX10_told_121 : decode cX10_told 121 = .ok (.getfield 180, 3) := by decide +kernel
theorem dX10_told_124 : decode cX10_told 124 = .ok (.l2i, 1) := by decide +kernel
theorem dX10_told_125 : decode cX10_told 125 = .ok (.ireturn, 1) := by decide +kernel
theorem dX10_told_126 : decode cX10_told 126 = .ok (.aload_n 0, 1) := by decide +kernel
theorem dX10_told_127 : decode cX10_told 127 = .ok (.getfield 54, 3) := by decide +kernel
theorem dX10_told_130 : decode cX10_told 130 = .ok (.getfield 251, 3) := by decide +kernel
theorem dX10_told_133 : decode cX10_told 133 = .ok (.ireturn, 1) := by decide +kernel
theorem dX10_told_134 : decode cX10_told 134 = .ok (.aload_n 0, 1) := by decide +kernel
theorem dX10_told_135 : decode cX10_told 135 = .ok (.getfield 313, 3) := by decide +kernel
theorem dX10_told_138 : decode cX10_told 138 = .ok (.ireturn, 1) := by decide +kernel
theorem dX10_told_139 : decode cX10_told 139 = .ok (.aload_n 0, 1) := by decide +kernel
theorem dX10_told_140 : decode cX10_told 140 = .ok (.iconst (-1), 1) := by decide +kernel
theorem dX10_told_141 : decode cX10_told 141 = .ok (.invokevirtual 96, 3) := by decide +kernel
theorem dX10_told_144 : decode cX10_told 144 = .ok (.ireturn, 1) := by decide +kernel
theorem dX10_found_0 : decode cX10_found 0 = .ok (.aload_n 0, 1) := by decide +kernel
theorem dX10_found_1 : decode cX10_found 1 = .ok (.dup, 1) := by decide +kernel
theorem dX10_found_2 : decode cX10_found 2 = .ok (.getfield 313, 3) := by decide +kernel
theorem dX10_found_5 : decode cX10_found 5 = .ok (.iconst 1, 1) := by decide +kernel
theorem dX10_found_6 : decode cX10_found 6 = .ok (.iadd, 1) := by decide +kernel
theorem dX10_found_7 : decode cX10_found 7 = .ok (.putfield 313, 3) := by decide +kernel
theorem dX10_found_10 : decode cX10_found 10 = .ok (.iload_n 1, 1) := by decide +kernel
theorem dX10_found_11 : decode cX10_found 11 = .ok (.ireturn, 1) := by decide +kernel
theorem dX10_foundByPut_0 : decode cX10_foundByPut 0 = .ok (.aload_n 0, 1) := by decide +kernel
theorem dX10_foundByPut_1 : decode cX10_foundByPut 1 = .ok (.iload_n 1, 1) := by decide +kernel
theorem dX10_foundByPut_2 : decode cX10_foundByPut 2 = .ok (.invokevirtual 96, 3) := by decide +kernel
theorem dX10_foundByPut_5 : decode cX10_foundByPut 5 = .ok (.pop, 1) := by decide +kernel
theorem dX10_foundByPut_6 : decode cX10_foundByPut 6 = .ok (.ldc2_w 318, 3) := by decide +kernel
theorem dX10_foundByPut_9 : decode cX10_foundByPut 9 = .ok (.lreturn, 1) := by decide +kernel
theorem dX10_fillSlot_0 : decode cX10_fillSlot 0 = .ok (.aload_n 2, 1) := by decide +kernel
theorem dX10_fillSlot_1 : decode cX10_fillSlot 1 = .ok (.getfield 141, 3) := by decide +kernel
theorem dX10_fillSlot_4 : decode cX10_fillSlot 4 = .ok (.iconst 0, 1) := by decide +kernel
theorem dX10_fillSlot_5 : decode cX10_fillSlot 5 = .ok (.aload_n 0, 1) := by decide +kernel
theorem dX10_fillSlot_6 : decode cX10_fillSlot 6 = .ok (.getfield 67, 3) := by decide +kernel
theorem dX10_fillSlot_9 : decode cX10_fillSlot 9 = .ok (.iload_n 1, 1) := by decide +kernel
theorem dX10_fillSlot_10 : decode cX10_fillSlot 10 = .ok (.aaload, 1) := by decide +kernel
theorem dX10_fillSlot_11 : decode cX10_fillSlot 11 = .ok (.iconst 0, 1) := by decide +kernel
theorem dX10_fillSlot_12 : decode cX10_fillSlot 12 = .ok (.bipush 12, 2) := by decide +kernel
theorem dX10_fillSlot_14 : decode cX10_fillSlot 14 = .ok (.invokestatic 288, 3) := by decide +kernel
theorem dX10_fillSlot_17 : decode cX10_fillSlot 17 = .ok (.aload_n 0, 1) := by decide +kernel
theorem dX10_fillSlot_18 : decode cX10_fillSlot 18 = .ok (.getfield 70, 3) := by decide +kernel
theorem dX10_fillSlot_21 : decode cX10_fillSlot 21 = .ok (.iload_n 1, 1) := by decide +kernel
theorem dX10_fillSlot_22 : decode cX10_fillSlot 22 = .ok (.iconst 1, 1) := by decide +kernel
theorem dX10_fillSlot_23 : decode cX10_fillSlot 23 = .ok (.bastore, 1) := by decide +kernel
theorem dX10_fillSlot_24 : decode cX10_fillSlot 24 = .ok (.aload_n 2, 1) := by decide +kernel
theorem dX10_fillSlot_25 : decode cX10_fillSlot 25 = .ok (.invokevirtual 228, 3) := by decide +kernel
theorem dX10_fillSlot_28 : decode cX10_fillSlot 28 = .ok (.ireturn, 1) := by decide +kernel
theorem dX10_settleInto_0 : decode cX10_settleInto 0 = .ok (.aload_n 0, 1) := by decide +kernel
theorem dX10_settleInto_1 : decode cX10_settleInto 1 = .ok (.getfield 25, 3) := by decide +kernel
theorem dX10_settleInto_4 : decode cX10_settleInto 4 = .ok (.invokevirtual 237, 3) := by decide +kernel
theorem dX10_settleInto_7 : decode cX10_settleInto 7 = .ok (.ifCond .eq 15, 3) := by decide +kernel
theorem dX10_settleInto_10 : decode cX10_settleInto 10 = .ok (.aload_n 0, 1) := by decide +kernel
theorem dX10_settleInto_11 : decode cX10_settleInto 11 = .ok (.iload_n 1, 1) := by decide +kernel
theorem dX10_settleInto_12 : decode cX10_settleInto 12 = .ok (.aload_n 0, 1) := by decide +kernel
theorem dX10_settleInto_13 : decode cX10_settleInto 13 = .ok (.getfield 25, 3) := by decide +kernel
theorem dX10_settleInto_16 : decode cX10_settleInto 16 = .ok (.invokevirtual 220, 3) := by decide +kernel
theorem dX10_settleInto_19 : decode cX10_settleInto 19 = .ok (.goto 9, 3) := by decide +kernel
theorem dX10_settleInto_22 : decode cX10_settleInto 22 = .ok (.aload_n 0, 1) := by decide +kernel
theorem dX10_settleInto_23 : decode cX10_settleInto 23 = .ok (.bipush (-5), 2) := by decide +kernel
theorem dX10_settleInto_25 : decode cX10_settleInto 25 = .ok (.invokevirtual 96, 3) := by decide +kernel
theorem dX10_settleInto_28 : decode cX10_settleInto 28 = .ok (.ireturn, 1) := by decide +kernel
theorem dX10_findLeftOfA_0 : decode cX10_findLeftOfA 0 = .ok (.iconst 0, 1) := by decide +kernel
theorem dX10_findLeftOfA_1 : decode cX10_findLeftOfA 1 = .ok (.istore_n 1, 1) := by decide +kernel
theorem dX10_findLeftOfA_2 : decode cX10_findLeftOfA 2 = .ok (.iload_n 1, 1) := by decide +kernel
theorem dX10_findLeftOfA_3 : decode cX10_findLeftOfA 3 = .ok (.aload_n 0, 1) := by decide +kernel
theorem dX10_findLeftOfA_4 : decode cX10_findLeftOfA 4 = .ok (.getfield 10, 3) := by decide +kernel
theorem dX10_findLeftOfA_7 : decode cX10_findLeftOfA 7 = .ok (.getfield 100, 3) := by decide +kernel
theorem dX10_findLeftOfA_10 : decode cX10_findLeftOfA 10 = .ok (.if_icmp .ge 28, 3) := by decide +kernel
theorem dX10_findLeftOfA_13 : decode cX10_findLeftOfA 13 = .ok (.aload_n 0, 1) := by decide +kernel
theorem dX10_findLeftOfA_14 : decode cX10_findLeftOfA 14 = .ok (.getfield 88, 3) := by decide +kernel
theorem dX10_findLeftOfA_17 : decode cX10_findLeftOfA 17 = .ok (.iload_n 1, 1) := by decide +kernel
theorem dX10_findLeftOfA_18 : decode cX10_findLeftOfA 18 = .ok (.iconst 2, 1) := by decide +kernel
theorem dX10_findLeftOfA_19 : decode cX10_findLeftOfA 19 = .ok (.aload_n 0, 1) := by decide +kernel
theorem dX10_findLeftOfA_20 : decode cX10_findLeftOfA 20 = .ok (.getfield 10, 3) := by decide +kernel
theorem dX10_findLeftOfA_23 : decode cX10_findLeftOfA 23 = .ok (.getfield 320, 3) := by decide +kernel
theorem dX10_findLeftOfA_26 : decode cX10_findLeftOfA 26 = .ok (.iload_n 1, 1) := by decide +kernel
theorem dX10_findLeftOfA_27 : decode cX10_findLeftOfA 27 = .ok (.iaload, 1) := by decide +kernel
theorem dX10_findLeftOfA_28 : decode cX10_findLeftOfA 28 = .ok (.iconst 1, 1) := by decide +kernel
theorem dX10_findLeftOfA_29 : decode cX10_findLeftOfA 29 = .ok (.isub, 1) := by decide +kernel
theorem dX10_findLeftOfA_30 : decode cX10_findLeftOfA 30 = .ok (.imul, 1) := by decide +kernel
theorem dX10_findLeftOfA_31 : decode cX10_findLeftOfA 31 = .ok (.iastore, 1) := by decide +kernel
theorem dX10_findLeftOfA_32 : decode cX10_findLeftOfA 32 = .ok (.iinc 1 1, 3) := by decide +kernel
theorem dX10_findLeftOfA_35 : decode cX10_findLeftOfA 35 = .ok (.goto (-33), 3) := by decide +kernel
theorem dX10_findLeftOfA_38 : decode cX10_findLeftOfA 38 = .ok (.aload_n 0, 1) := by decide +kernel
theorem dX10_findLeftOfA_39 : decode cX10_findLeftOfA 39 = .ok (.getfield 25, 3) := by decide +kernel
theorem dX10_findLeftOfA_42 : decode cX10_findLeftOfA 42 = .ok (.aload_n 0, 1) := by decide +kernel
theorem dX10_findLeftOfA_43 : decode cX10_findLeftOfA 43 = .ok (.getfield 88, 3) := by decide +kernel
theorem dX10_findLeftOfA_46 : decode cX10_findLeftOfA 46 = .ok (.invokevirtual 224, 3) := by decide +kernel
theorem dX10_findLeftOfA_49 : decode cX10_findLeftOfA 49 = .ok (.aload_n 0, 1) := by decide +kernel
theorem dX10_findLeftOfA_50 : decode cX10_findLeftOfA 50 = .ok (.getfield 25, 3) := by decide +kernel
theorem dX10_findLeftOfA_53 : decode cX10_findLeftOfA 53 = .ok (.invokevirtual 237, 3) := by decide +kernel
theorem dX10_findLeftOfA_56 : decode cX10_findLeftOfA 56 = .ok (.ifCond .ne 5, 3) := by decide +kernel
theorem dX10_findLeftOfA_59 : decode cX10_findLeftOfA 59 = .ok (.iconst 0, 1) := by decide +kernel
theorem dX10_findLeftOfA_60 : decode cX10_findLeftOfA 60 = .ok (.ireturn, 1) := by decide +kernel
theorem dX10_findLeftOfA_61 : decode cX10_findLeftOfA 61 = .ok (.iconst 0, 1) := by decide +kernel
theorem dX10_findLeftOfA_62 : decode cX10_findLeftOfA 62 = .ok (.istore_n 1, 1) := by decide +kernel
theorem dX10_findLeftOfA_63 : decode cX10_findLeftOfA 63 = .ok (.iload_n 1, 1) := by decide +kernel
theorem dX10_findLeftOfA_64 : decode cX10_findLeftOfA 64 = .ok (.aload_n 0, 1) := by decide +kernel
theorem dX10_findLeftOfA_65 : decode cX10_findLeftOfA 65 = .ok (.getfield 10, 3) := by decide +kernel
theorem dX10_findLeftOfA_68 : decode cX10_findLeftOfA 68 = .ok (.getfield 100, 3) := by decide +kernel
theorem dX10_findLeftOfA_71 : decode cX10_findLeftOfA 71 = .ok (.if_icmp .ge 27, 3) := by decide +kernel
theorem dX10_findLeftOfA_74 : decode cX10_findLeftOfA 74 = .ok (.aload_n 0, 1) := by decide +kernel
theorem dX10_findLeftOfA_75 : decode cX10_findLeftOfA 75 = .ok (.getfield 88, 3) := by decide +kernel
theorem dX10_findLeftOfA_78 : decode cX10_findLeftOfA 78 = .ok (.iload_n 1, 1) := by decide +kernel
theorem dX10_findLeftOfA_79 : decode cX10_findLeftOfA 79 = .ok (.dup2, 1) := by decide +kernel
theorem dX10_findLeftOfA_80 : decode cX10_findLeftOfA 80 = .ok (.iaload, 1) := by decide +kernel
theorem dX10_findLeftOfA_81 : decode cX10_findLeftOfA 81 = .ok (.aload_n 0, 1) := by decide +kernel
theorem dX10_findLeftOfA_82 : decode cX10_findLeftOfA 82 = .ok (.getfield 25, 3) := by decide +kernel
theorem dX10_findLeftOfA_85 : decode cX10_findLeftOfA 85 = .ok (.getfield 141, 3) := by decide +kernel
theorem dX10_findLeftOfA_88 : decode cX10_findLeftOfA 88 = .ok (.iload_n 1, 1) := by decide +kernel
theorem dX10_findLeftOfA_89 : decode cX10_findLeftOfA 89 = .ok (.iaload, 1) := by decide +kernel
theorem dX10_findLeftOfA_90 : decode cX10_findLeftOfA 90 = .ok (.isub, 1) := by decide +kernel
theorem dX10_findLeftOfA_91 : decode cX10_findLeftOfA 91 = .ok (.iastore, 1) := by decide +kernel
theorem dX10_findLeftOfA_92 : decode cX10_findLeftOfA 92 = .ok (.iinc 1 1, 3) := by decide +kernel
theorem dX10_findLeftOfA_95 : decode cX10_findLeftOfA 95 = .ok (.goto (-32), 3) := by decide +kernel
theorem dX10_findLeftOfA_98 : decode cX10_findLeftOfA 98 = .ok (.iconst 1, 1) := by decide +kernel
theorem dX10_findLeftOfA_99 : decode cX10_findLeftOfA 99 = .ok (.ireturn, 1) := by decide +kernel
theorem dX10_weighCounts_0 : decode cX10_weighCounts 0 = .ok (.aload_n 0, 1) := by decide +kernel
theorem dX10_weighCounts_1 : decode cX10_weighCounts 1 = .ok (.getfield 84, 3) := by decide +kernel
theorem dX10_weighCounts_4 : decode cX10_weighCounts 4 = .ok (.getfield 299, 3) := by decide +kernel
theorem dX10_weighCounts_7 : decode cX10_weighCounts 7 = .ok (.aload_n 0, 1) := by decide +kernel
theorem dX10_weighCounts_8 : decode cX10_weighCounts 8 = .ok (.getfield 10, 3) := by decide +kernel
theorem dX10_weighCounts_11 : decode cX10_weighCounts 11 = .ok (.getfield 100, 3) := by decide +kernel
theorem dX10_weighCounts_14 : decode cX10_weighCounts 14 = .ok (.if_icmp .eq 6, 3) := by decide +kernel
theorem dX10_weighCounts_17 : decode cX10_weighCounts 17 = .ok (.bipush (-3), 2) := by decide +kernel
theorem dX10_weighCounts_19 : decode cX10_weighCounts 19 = .ok (.ireturn, 1) := by decide +kernel
theorem dX10_weighCounts_20 : decode cX10_weighCounts 20 = .ok (.iconst 0, 1) := by decide +kernel
theorem dX10_weighCounts_21 : decode cX10_weighCounts 21 = .ok (.istore_n 1, 1) := by decide +kernel
theorem dX10_weighCounts_22 : decode cX10_weighCounts 22 = .ok (.iload_n 1, 1) := by decide +kernel
theorem dX10_weighCounts_23 : decode cX10_weighCounts 23 = .ok (.aload_n 0, 1) := by decide +kernel
theorem dX10_weighCounts_24 : decode cX10_weighCounts 24 = .ok (.getfield 84, 3) := by decide +kernel
theorem dX10_weighCounts_27 : decode cX10_weighCounts 27 = .ok (.getfield 299, 3) := by decide +kernel
theorem dX10_weighCounts_30 : decode cX10_weighCounts 30 = .ok (.if_icmp .ge 39, 3) := by decide +kernel
theorem dX10_weighCounts_33 : decode cX10_weighCounts 33 = .ok (.aload_n 0, 1) := by decide +kernel
theorem dX10_weighCounts_34 : decode cX10_weighCounts 34 = .ok (.getfield 84, 3) := by decide +kernel
theorem dX10_weighCounts_37 : decode cX10_weighCounts 37 = .ok (.getfield 323, 3) := by decide +kernel
theorem dX10_weighCounts_40 : decode cX10_weighCounts 40 = .ok (.iload_n 1, 1) := by decide +kernel
theorem dX10_weighCounts_41 : decode cX10_weighCounts 41 = .ok (.iaload, 1) := by decide +kernel
theorem dX10_weighCounts_42 : decode cX10_weighCounts 42 = .ok (.ifCond .lt 18, 3) := by decide +kernel
theorem dX10_weighCounts_45 : decode cX10_weighCounts 45 = .ok (.aload_n 0, 1) := by decide +kernel
theorem dX10_weighCounts_46 : decode cX10_weighCounts 46 = .ok (.getfield 84, 3) := by decide +kernel
theorem dX10_weighCounts_49 : decode cX10_weighCounts 49 = .ok (.getfield 323, 3) := by decide +kernel
theorem dX10_weighCounts_52 : decode cX10_weighCounts 52 = .ok (.iload_n 1, 1) := by decide +kernel
theorem dX10_weighCounts_53 : decode cX10_weighCounts 53 = .ok (.iaload, 1) := by decide +kernel
theorem dX10_weighCounts_54 : decode cX10_weighCounts 54 = .ok (.ldc_w 298, 3) := by decide +kernel
theorem dX10_weighCounts_57 : decode cX10_weighCounts 57 = .ok (.if_icmp .le 6, 3) := by decide +kernel
theorem dX10_weighCounts_60 : decode cX10_weighCounts 60 = .ok (.bipush (-13), 2) := by decide +kernel
theorem dX10_weighCounts_62 : decode cX10_weighCounts 62 = .ok (.ireturn, 1) := by decide +kernel
theorem dX10_weighCounts_63 : decode cX10_weighCounts 63 = .ok (.iinc 1 1, 3) := by decide +kernel
theorem dX10_weighCounts_66 : decode cX10_weighCounts 66 = .ok (.goto (-44), 3) := by decide +kernel
theorem dX10_weighCounts_69 : decode cX10_weighCounts 69 = .ok (.iconst 0, 1) := by decide +kernel
theorem dX10_weighCounts_70 : decode cX10_weighCounts 70 = .ok (.istore_n 1, 1) := by decide +kernel
theorem dX10_weighCounts_71 : decode cX10_weighCounts 71 = .ok (.iload_n 1, 1) := by decide +kernel
theorem dX10_weighCounts_72 : decode cX10_weighCounts 72 = .ok (.aload_n 0, 1) := by decide +kernel
theorem dX10_weighCounts_73 : decode cX10_weighCounts 73 = .ok (.getfield 10, 3) := by decide +kernel
theorem dX10_weighCounts_76 : decode cX10_weighCounts 76 = .ok (.getfield 100, 3) := by decide +kernel
theorem dX10_weighCounts_79 : decode cX10_weighCounts 79 = .ok (.if_icmp .ge 30, 3) := by decide +kernel
theorem dX10_weighCounts_82 : decode cX10_weighCounts 82 = .ok (.aload_n 0, 1) := by decide +kernel
theorem dX10_weighCounts_83 : decode cX10_weighCounts 83 = .ok (.iload_n 1, 1) := by decide +kernel
theorem dX10_weighCounts_84 : decode cX10_weighCounts 84 = .ok (.invokevirtual 325, 3) := by decide +kernel
theorem dX10_weighCounts_87 : decode cX10_weighCounts 87 = .ok (.aload_n 0, 1) := by decide +kernel
theorem dX10_weighCounts_88 : decode cX10_weighCounts 88 = .ok (.getfield 10, 3) := by decide +kernel
theorem dX10_weighCounts_91 : decode cX10_weighCounts 91 = .ok (.getfield 320, 3) := by decide +kernel
theorem dX10_weighCounts_94 : decode cX10_weighCounts 94 = .ok (.iload_n 1, 1) := by decide +kernel
theorem dX10_weighCounts_95 : decode cX10_weighCounts 95 = .ok (.iaload, 1) := by decide +kernel
theorem dX10_weighCounts_96 : decode cX10_weighCounts 96 = .ok (.i2l, 1) := by decide +kernel
theorem dX10_weighCounts_97 : decode cX10_weighCounts 97 = .ok (.lcmp, 1) := by decide +kernel
theorem dX10_weighCounts_98 : decode cX10_weighCounts 98 = .ok (.ifCond .lt 5, 3) := by decide +kernel
theorem dX10_weighCounts_101 : decode cX10_weighCounts 101 = .ok (.iconst 0, 1) := by decide +kernel
theorem dX10_weighCounts_102 : decode cX10_weighCounts 102 = .ok (.ireturn, 1) := by decide +kernel
theorem dX10_weighCounts_103 : decode cX10_weighCounts 103 = .ok (.iinc 1 1, 3) := by decide +kernel
theorem dX10_weighCounts_106 : decode cX10_weighCounts 106 = .ok (.goto (-35), 3) := by decide +kernel
theorem dX10_weighCounts_109 : decode cX10_weighCounts 109 = .ok (.iconst 1, 1) := by decide +kernel
theorem dX10_weighCounts_110 : decode cX10_weighCounts 110 = .ok (.ireturn, 1) := by decide +kernel
theorem dX10_grainsAfterCounts_0 : decode cX10_grainsAfterCounts 0 = .ok (.aload_n 0, 1) := by decide +kernel
theorem dX10_grainsAfterCounts_1 : decode cX10_grainsAfterCounts 1 = .ok (.getfield 21, 3) := by decide +kernel
theorem dX10_grainsAfterCounts_4 : decode cX10_grainsAfterCounts 4 = .ok (.getfield 141, 3) := by decide +kernel
theorem dX10_grainsAfterCounts_7 : decode cX10_grainsAfterCounts 7 = .ok (.iload_n 1, 1) := by decide +kernel
theorem dX10_grainsAfterCounts_8 : decode cX10_grainsAfterCounts 8 = .ok (.iaload, 1) := by decide +kernel
theorem dX10_grainsAfterCounts_9 : decode cX10_grainsAfterCounts 9 = .ok (.i2l, 1) := by decide +kernel
theorem dX10_grainsAfterCounts_10 : decode cX10_grainsAfterCounts 10 = .ok (.aload_n 0, 1) := by decide +kernel
theorem dX10_grainsAfterCounts_11 : decode cX10_grainsAfterCounts 11 = .ok (.getfield 84, 3) := by decide +kernel
theorem dX10_grainsAfterCounts_14 : decode cX10_grainsAfterCounts 14 = .ok (.getfield 323, 3) := by decide +kernel
theorem dX10_grainsAfterCounts_17 : decode cX10_grainsAfterCounts 17 = .ok (.iload_n 1, 1) := by decide +kernel
theorem dX10_grainsAfterCounts_18 : decode cX10_grainsAfterCounts 18 = .ok (.iaload, 1) := by decide +kernel
theorem dX10_grainsAfterCounts_19 : decode cX10_grainsAfterCounts 19 = .ok (.i2l, 1) := by decide +kernel
theorem dX10_grainsAfterCounts_20 : decode cX10_grainsAfterCounts 20 = .ok (.aload_n 0, 1) := by decide +kernel
theorem dX10_grainsAfterCounts_21 : decode cX10_grainsAfterCounts 21 = .ok (.getfield 10, 3) := by decide +kernel
theorem dX10_grainsAfterCounts_24 : decode cX10_grainsAfterCounts 24 = .ok (.getfield 320, 3) := by decide +kernel
theorem dX10_grainsAfterCounts_27 : decode cX10_grainsAfterCounts 27 = .ok (.iload_n 1, 1) := by decide +kernel
theorem dX10_grainsAfterCounts_28 : decode cX10_grainsAfterCounts 28 = .ok (.iaload, 1) := by decide +kernel
theorem dX10_grainsAfterCounts_29 : decode cX10_grainsAfterCounts 29 = .ok (.i2l, 1) := by decide +kernel
theorem dX10_grainsAfterCounts_30 : decode cX10_grainsAfterCounts 30 = .ok (.lmul, 1) := by decide +kernel
theorem dX10_grainsAfterCounts_31 : decode cX10_grainsAfterCounts 31 = .ok (.lsub, 1) := by decide +kernel
theorem dX10_grainsAfterCounts_32 : decode cX10_grainsAfterCounts 32 = .ok (.lstore_n 2, 1) := by decide +kernel
theorem dX10_grainsAfterCounts_33 : decode cX10_grainsAfterCounts 33 = .ok (.iconst 0, 1) := by decide +kernel
theorem dX10_grainsAfterCounts_34 : decode cX10_grainsAfterCounts 34 = .ok (.istore 4, 2) := by decide +kernel
theorem dX10_grainsAfterCounts_36 : decode cX10_grainsAfterCounts 36 = .ok (.iload 4, 2) := by decide +kernel
theorem dX10_grainsAfterCounts_38 : decode cX10_grainsAfterCounts 38 = .ok (.aload_n 0, 1) := by decide +kernel
theorem dX10_grainsAfterCounts_39 : decode cX10_grainsAfterCounts 39 = .ok (.getfield 10, 3) := by decide +kernel
theorem dX10_grainsAfterCounts_42 : decode cX10_grainsAfterCounts 42 = .ok (.getfield 100, 3) := by decide +kernel
theorem dX10_grainsAfterCounts_45 : decode cX10_grainsAfterCounts 45 = .ok (.if_icmp .ge 37, 3) := by decide +kernel
theorem dX10_grainsAfterCounts_48 : decode cX10_grainsAfterCounts 48 = .ok (.lload_n 2, 1) := by decide +kernel
theorem dX10_grainsAfterCounts_49 : decode cX10_grainsAfterCounts 49 = .ok (.aload_n 0, 1) := by decide +kernel
theorem dX10_grainsAfterCounts_50 : decode cX10_grainsAfterCounts 50 = .ok (.getfield 84, 3) := by decide +kernel
theorem dX10_grainsAfterCounts_53 : decode cX10_grainsAfterCounts 53 = .ok (.getfield 323, 3) := by decide +kernel
theorem dX10_grainsAfterCounts_56 : decode cX10_grainsAfterCounts 56 = .ok (.iload 4, 2) := by decide +kernel
theorem dX10_grainsAfterCounts_58 : decode cX10_grainsAfterCounts 58 = .ok (.iaload, 1) := by decide +kernel
theorem dX10_grainsAfterCounts_59 : decode cX10_grainsAfterCounts 59 = .ok (.i2l, 1) := by decide +kernel
theorem dX10_grainsAfterCounts_60 : decode cX10_grainsAfterCounts 60 = .ok (.aload_n 0, 1) := by decide +kernel
theorem dX10_grainsAfterCounts_61 : decode cX10_grainsAfterCounts 61 = .ok (.getfield 10, 3) := by decide +kernel
theorem dX10_grainsAfterCounts_64 : decode cX10_grainsAfterCounts 64 = .ok (.getfield 328, 3) := by decide +kernel
theorem dX10_grainsAfterCounts_67 : decode cX10_grainsAfterCounts 67 = .ok (.iload 4, 2) := by decide +kernel
theorem dX10_grainsAfterCounts_69 : decode cX10_grainsAfterCounts 69 = .ok (.aaload, 1) := by decide +kernel
theorem dX10_grainsAfterCounts_70 : decode cX10_grainsAfterCounts 70 = .ok (.iload_n 1, 1) := by decide +kernel
theorem dX10_grainsAfterCounts_71 : decode cX10_grainsAfterCounts 71 = .ok (.iaload, 1) := by decide +kernel
theorem dX10_grainsAfterCounts_72 : decode cX10_grainsAfterCounts 72 = .ok (.i2l, 1) := by decide +kernel
theorem dX10_grainsAfterCounts_73 : decode cX10_grainsAfterCounts 73 = .ok (.lmul, 1) := by decide +kernel
theorem dX10_grainsAfterCounts_74 : decode cX10_grainsAfterCounts 74 = .ok (.ladd, 1) := by decide +kernel
theorem dX10_grainsAfterCounts_75 : decode cX10_grainsAfterCounts 75 = .ok (.lstore_n 2, 1) := by decide +kernel
theorem dX10_grainsAfterCounts_76 : decode cX10_grainsAfterCounts 76 = .ok (.iinc 4 1, 3) := by decide +kernel
theorem dX10_grainsAfterCounts_79 : decode cX10_grainsAfterCounts 79 = .ok (.goto (-43), 3) := by decide +kernel
theorem dX10_grainsAfterCounts_82 : decode cX10_grainsAfterCounts 82 = .ok (.lload_n 2, 1) := by decide +kernel
theorem dX10_grainsAfterCounts_83 : decode cX10_grainsAfterCounts 83 = .ok (.lreturn, 1) := by decide +kernel
theorem dX10_followPairs_0 : decode cX10_followPairs 0 = .ok (.aload_n 0, 1) := by decide +kernel
theorem dX10_followPairs_1 : decode cX10_followPairs 1 = .ok (.getfield 25, 3) := by decide +kernel
theorem dX10_followPairs_4 : decode cX10_followPairs 4 = .ok (.aload_n 0, 1) := by decide +kernel
theorem dX10_followPairs_5 : decode cX10_followPairs 5 = .ok (.getfield 21, 3) := by decide +kernel
theorem dX10_followPairs_8 : decode cX10_followPairs 8 = .ok (.getfield 141, 3) := by decide +kernel
theorem dX10_followPairs_11 : decode cX10_followPairs 11 = .ok (.invokevirtual 224, 3) := by decide +kernel
theorem dX10_followPairs_14 : decode cX10_followPairs 14 = .ok (.iconst 0, 1) := by decide +kernel
theorem dX10_followPairs_15 : decode cX10_followPairs 15 = .ok (.istore_n 1, 1) := by decide +kernel
theorem dX10_followPairs_16 : decode cX10_followPairs 16 = .ok (.iload_n 1, 1) := by decide +kernel
theorem dX10_followPairs_17 : decode cX10_followPairs 17 = .ok (.aload_n 0, 1) := by decide +kernel
theorem dX10_followPairs_18 : decode cX10_followPairs 18 = .ok (.getfield 84, 3) := by decide +kernel
theorem dX10_followPairs_21 : decode cX10_followPairs 21 = .ok (.getfield 299, 3) := by decide +kernel
theorem dX10_followPairs_24 : decode cX10_followPairs 24 = .ok (.if_icmp .ge 112, 3) := by decide +kernel
theorem dX10_followPairs_27 : decode cX10_followPairs 27 = .ok (.iload_n 1, 1) := by decide +kernel
theorem dX10_followPairs_28 : decode cX10_followPairs 28 = .ok (.iconst 2, 1) := by decide +kernel
theorem dX10_followPairs_29 : decode cX10_followPairs 29 = .ok (.idiv, 1) := by decide +kernel
theorem dX10_followPairs_30 : decode cX10_followPairs 30 = .ok (.iconst 1, 1) := by decide +kernel
theorem dX10_followPairs_31 : decode cX10_followPairs 31 = .ok (.iadd, 1) := by decide +kernel
theorem dX10_followPairs_32 : decode cX10_followPairs 32 = .ok (.istore_n 2, 1) := by decide +kernel
theorem dX10_followPairs_33 : decode cX10_followPairs 33 = .ok (.iload_n 1, 1) := by decide +kernel
theorem dX10_followPairs_34 : decode cX10_followPairs 34 = .ok (.iconst 1, 1) := by decide +kernel
theorem dX10_followPairs_35 : decode cX10_followPairs 35 = .ok (.iadd, 1) := by decide +kernel
theorem dX10_followPairs_36 : decode cX10_followPairs 36 = .ok (.aload_n 0, 1) := by decide +kernel
theorem dX10_followPairs_37 : decode cX10_followPairs 37 = .ok (.getfield 84, 3) := by decide +kernel
theorem dX10_followPairs_40 : decode cX10_followPairs 40 = .ok (.getfield 299, 3) := by decide +kernel
theorem dX10_followPairs_43 : decode cX10_followPairs 43 = .ok (.if_icmp .lt 5, 3) := by decide +kernel
theorem dX10_followPairs_46 : decode cX10_followPairs 46 = .ok (.iload_n 2, 1) := by decide +kernel
theorem dX10_followPairs_47 : decode cX10_followPairs 47 = .ok (.ireturn, 1) := by decide +kernel
theorem dX10_followPairs_48 : decode cX10_followPairs 48 = .ok (.aload_n 0, 1) := by decide +kernel
theorem dX10_followPairs_49 : decode cX10_followPairs 49 = .ok (.getfield 84, 3) := by decide +kernel
theorem dX10_followPairs_52 : decode cX10_followPairs 52 = .ok (.getfield 323, 3) := by decide +kernel
theorem dX10_followPairs_55 : decode cX10_followPairs 55 = .ok (.iload_n 1, 1) := by decide +kernel
theorem dX10_followPairs_56 : decode cX10_followPairs 56 = .ok (.iaload, 1) := by decide +kernel
theorem dX10_followPairs_57 : decode cX10_followPairs 57 = .ok (.istore_n 3, 1) := by decide +kernel
theorem dX10_followPairs_58 : decode cX10_followPairs 58 = .ok (.aload_n 0, 1) := by decide +kernel
theorem dX10_followPairs_59 : decode cX10_followPairs 59 = .ok (.getfield 10, 3) := by decide +kernel
theorem dX10_followPairs_62 : decode cX10_followPairs 62 = .ok (.iload_n 3, 1) := by decide +kernel
theorem dX10_followPairs_63 : decode cX10_followPairs 63 = .ok (.invokevirtual 107, 3) := by decide +kernel
theorem dX10_followPairs_66 : decode cX10_followPairs 66 = .ok (.ifCond .eq 14, 3) := by decide +kernel
theorem dX10_followPairs_69 : decode cX10_followPairs 69 = .ok (.aload_n 0, 1) := by decide +kernel
theorem dX10_followPairs_70 : decode cX10_followPairs 70 = .ok (.getfield 25, 3) := by decide +kernel
theorem dX10_followPairs_73 : decode cX10_followPairs 73 = .ok (.iload_n 3, 1) := by decide +kernel
theorem dX10_followPairs_74 : decode cX10_followPairs 74 = .ok (.invokevirtual 160, 3) := by decide +kernel
theorem dX10_followPairs_77 : decode cX10_followPairs 77 = .ok (.ifCond .ne 5, 3) := by decide +kernel
theorem dX10_followPairs_80 : decode cX10_followPairs 80 = .ok (.iload_n 2, 1) := by decide +kernel
theorem dX10_followPairs_81 : decode cX10_followPairs 81 = .ok (.ireturn, 1) := by decide +kernel
theorem dX10_followPairs_82 : decode cX10_followPairs 82 = .ok (.aload_n 0, 1) := by decide +kernel
theorem dX10_followPairs_83 : decode cX10_followPairs 83 = .ok (.getfield 25, 3) := by decide +kernel
theorem dX10_followPairs_86 : decode cX10_followPairs 86 = .ok (.getfield 141, 3) := by decide +kernel
theorem dX10_followPairs_89 : decode cX10_followPairs 89 = .ok (.iload_n 3, 1) := by decide +kernel
theorem dX10_followPairs_90 : decode cX10_followPairs 90 = .ok (.iaload, 1) := by decide +kernel
theorem dX10_followPairs_91 : decode cX10_followPairs 91 = .ok (.aload_n 0, 1) := by decide +kernel
theorem dX10_followPairs_92 : decode cX10_followPairs 92 = .ok (.getfield 84, 3) := by decide +kernel
theorem dX10_followPairs_95 : decode cX10_followPairs 95 = .ok (.getfield 323, 3) := by decide +kernel
theorem dX10_followPairs_98 : decode cX10_followPairs 98 = .ok (.iload_n 1, 1) := by decide +kernel
theorem dX10_followPairs_99 : decode cX10_followPairs 99 = .ok (.iconst 1, 1) := by decide +kernel
theorem dX10_followPairs_100 : decode cX10_followPairs 100 = .ok (.iadd, 1) := by decide +kernel
theorem dX10_followPairs_101 : decode cX10_followPairs 101 = .ok (.iaload, 1) := by decide +kernel
theorem dX10_followPairs_102 : decode cX10_followPairs 102 = .ok (.if_icmp .eq 5, 3) := by decide +kernel
theorem dX10_followPairs_105 : decode cX10_followPairs 105 = .ok (.iload_n 2, 1) := by decide +kernel
theorem dX10_followPairs_106 : decode cX10_followPairs 106 = .ok (.ireturn, 1) := by decide +kernel
theorem dX10_followPairs_107 : decode cX10_followPairs 107 = .ok (.aload_n 0, 1) := by decide +kernel
theorem dX10_followPairs_108 : decode cX10_followPairs 108 = .ok (.getfield 25, 3) := by decide +kernel
theorem dX10_followPairs_111 : decode cX10_followPairs 111 = .ok (.iload_n 3, 1) := by decide +kernel
theorem dX10_followPairs_112 : decode cX10_followPairs 112 = .ok (.invokevirtual 163, 3) := by decide +kernel
theorem dX10_followPairs_115 : decode cX10_followPairs 115 = .ok (.ifCond .eq 6, 3) := by decide +kernel
theorem dX10_followPairs_118 : decode cX10_followPairs 118 = .ok (.bipush (-5), 2) := by decide +kernel
theorem dX10_followPairs_120 : decode cX10_followPairs 120 = .ok (.ireturn, 1) := by decide +kernel
theorem dX10_followPairs_121 : decode cX10_followPairs 121 = .ok (.aload_n 0, 1) := by decide +kernel
theorem dX10_followPairs_122 : decode cX10_followPairs 122 = .ok (.getfield 25, 3) := by decide +kernel
theorem dX10_followPairs_125 : decode cX10_followPairs 125 = .ok (.iload_n 3, 1) := by decide +kernel
theorem dX10_followPairs_126 : decode cX10_followPairs 126 = .ok (.invokevirtual 166, 3) := by decide +kernel
theorem dX10_followPairs_129 : decode cX10_followPairs 129 = .ok (.pop, 1) := by decide +kernel
theorem dX10_followPairs_130 : decode cX10_followPairs 130 = .ok (.iinc 1 2, 3) := by decide +kernel
theorem dX10_followPairs_133 : decode cX10_followPairs 133 = .ok (.goto (-117), 3) := by decide +kernel
theorem dX10_followPairs_136 : decode cX10_followPairs 136 = .ok (.aload_n 0, 1) := by decide +kernel
theorem dX10_followPairs_137 : decode cX10_followPairs 137 = .ok (.getfield 25, 3) := by decide +kernel
theorem dX10_followPairs_140 : decode cX10_followPairs 140 = .ok (.invokevirtual 194, 3) := by decide +kernel
theorem dX10_followPairs_143 : decode cX10_followPairs 143 = .ok (.ifCond .eq 7, 3) := by decide +kernel
theorem dX10_followPairs_146 : decode cX10_followPairs 146 = .ok (.iconst 0, 1) := by decide +kernel
theorem dX10_followPairs_147 : decode cX10_followPairs 147 = .ok (.goto 6, 3) := by decide +kernel
theorem dX10_followPairs_150 : decode cX10_followPairs 150 = .ok (.sipush 1000, 3) := by decide +kernel
theorem dX10_followPairs_153 : decode cX10_followPairs 153 = .ok (.ireturn, 1) := by decide +kernel
theorem dX10_isSlot_0 : decode cX10_isSlot 0 = .ok (.iload_n 0, 1) := by decide +kernel
theorem dX10_isSlot_1 : decode cX10_isSlot 1 = .ok (.ifCond .lt 13, 3) := by decide +kernel
theorem dX10_isSlot_4 : decode cX10_isSlot 4 = .ok (.iload_n 0, 1) := by decide +kernel
theorem dX10_isSlot_5 : decode cX10_isSlot 5 = .ok (.bipush 8, 2) := by decide +kernel
theorem dX10_isSlot_7 : decode cX10_isSlot 7 = .ok (.if_icmp .ge 7, 3) := by decide +kernel
theorem dX10_isSlot_10 : decode cX10_isSlot 10 = .ok (.iconst 1, 1) := by decide +kernel
theorem dX10_isSlot_11 : decode cX10_isSlot 11 = .ok (.goto 4, 3) := by decide +kernel
theorem dX10_isSlot_14 : decode cX10_isSlot 14 = .ok (.iconst 0, 1) := by decide +kernel
theorem dX10_isSlot_15 : decode cX10_isSlot 15 = .ok (.ireturn, 1) := by decide +kernel
theorem dX10_isTerrace_0 : decode cX10_isTerrace 0 = .ok (.iload_n 0, 1) := by decide +kernel
theorem dX10_isTerrace_1 : decode cX10_isTerrace 1 = .ok (.ifCond .lt 12, 3) := by decide +kernel
theorem dX10_isTerrace_4 : decode cX10_isTerrace 4 = .ok (.iload_n 0, 1) := by decide +kernel
theorem dX10_isTerrace_5 : decode cX10_isTerrace 5 = .ok (.iconst 4, 1) := by decide +kernel
theorem dX10_isTerrace_6 : decode cX10_isTerrace 6 = .ok (.if_icmp .ge 7, 3) := by decide +kernel
theorem dX10_isTerrace_9 : decode cX10_isTerrace 9 = .ok (.iconst 1, 1) := by decide +kernel
theorem dX10_isTerrace_10 : decode cX10_isTerrace 10 = .ok (.goto 4, 3) := by decide +kernel
theorem dX10_isTerrace_13 : decode cX10_isTerrace 13 = .ok (.iconst 0, 1) := by decide +kernel
theorem dX10_isTerrace_14 : decode cX10_isTerrace 14 = .ok (.ireturn, 1) := by decide +kernel
theorem dX10_isWidth_0 : decode cX10_isWidth 0 = .ok (.iload_n 0, 1) := by decide +kernel
theorem dX10_isWidth_1 : decode cX10_isWidth 1 = .ok (.ifCond .eq 27, 3) := by decide +kernel
theorem dX10_isWidth_4 : decode cX10_isWidth 4 = .ok (.iload_n 0, 1) := by decide +kernel
theorem dX10_isWidth_5 : decode cX10_isWidth 5 = .ok (.bipush 8, 2) := by decide +kernel
theorem dX10_isWidth_7 : decode cX10_isWidth 7 = .ok (.if_icmp .eq 21, 3) := by decide +kernel
theorem dX10_isWidth_10 : decode cX10_isWidth 10 = .ok (.iload_n 0, 1) := by decide +kernel
theorem dX10_isWidth_11 : decode cX10_isWidth 11 = .ok (.bipush 16, 2) := by decide +kernel
theorem dX10_isWidth_13 : decode cX10_isWidth 13 = .ok (.if_icmp .eq 15, 3) := by decide +kernel
theorem dX10_isWidth_16 : decode cX10_isWidth 16 = .ok (.iload_n 0, 1) := by decide +kernel
theorem dX10_isWidth_17 : decode cX10_isWidth 17 = .ok (.bipush 32, 2) := by decide +kernel
theorem dX10_isWidth_19 : decode cX10_isWidth 19 = .ok (.if_icmp .eq 9, 3) := by decide +kernel
theorem dX10_isWidth_22 : decode cX10_isWidth 22 = .ok (.iload_n 0, 1) := by decide +kernel
theorem dX10_isWidth_23 : decode cX10_isWidth 23 = .ok (.bipush 64, 2) := by decide +kernel
theorem dX10_isWidth_25 : decode cX10_isWidth 25 = .ok (.if_icmp .ne 7, 3) := by decide +kernel
theorem dX10_isWidth_28 : decode cX10_isWidth 28 = .ok (.iconst 1, 1) := by decide +kernel
theorem dX10_isWidth_29 : decode cX10_isWidth 29 = .ok (.goto 4, 3) := by decide +kernel
theorem dX10_isWidth_32 : decode cX10_isWidth 32 = .ok (.iconst 0, 1) := by decide +kernel
theorem dX10_isWidth_33 : decode cX10_isWidth 33 = .ok (.ireturn, 1) := by decide +kernel
theorem dX10_isStretch_0 : decode cX10_isStretch 0 = .ok (.iload_n 0, 1) := by decide +kernel
theorem dX10_isStretch_1 : decode cX10_isStretch 1 = .ok (.ifCond .lt 23, 3) := by decide +kernel
theorem dX10_isStretch_4 : decode cX10_isStretch 4 = .ok (.iload_n 1, 1) := by decide +kernel
theorem dX10_isStretch_5 : decode cX10_isStretch 5 = .ok (.ifCond .lt 19, 3) := by decide +kernel
theorem dX10_isStretch_8 : decode cX10_isStretch 8 = .ok (.iload_n 1, 1) := by decide +kernel
theorem dX10_isStretch_9 : decode cX10_isStretch 9 = .ok (.iload_n 2, 1) := by decide +kernel
theorem dX10_isStretch_10 : decode cX10_isStretch 10 = .ok (.if_icmp .gt 14, 3) := by decide +kernel
theorem dX10_isStretch_13 : decode cX10_isStretch 13 = .ok (.iload_n 0, 1) := by decide +kernel
theorem dX10_isStretch_14 : decode cX10_isStretch 14 = .ok (.iload_n 2, 1) := by decide +kernel
theorem dX10_isStretch_15 : decode cX10_isStretch 15 = .ok (.iload_n 1, 1) := by decide +kernel
theorem dX10_isStretch_16 : decode cX10_isStretch 16 = .ok (.isub, 1) := by decide +kernel
theorem dX10_isStretch_17 : decode cX10_isStretch 17 = .ok (.if_icmp .gt 7, 3) := by decide +kernel
theorem dX10_isStretch_20 : decode cX10_isStretch 20 = .ok (.iconst 1, 1) := by decide +kernel
theorem dX10_isStretch_21 : decode cX10_isStretch 21 = .ok (.goto 4, 3) := by decide +kernel
theorem dX10_isStretch_24 : decode cX10_isStretch 24 = .ok (.iconst 0, 1) := by decide +kernel
theorem dX10_isStretch_25 : decode cX10_isStretch 25 = .ok (.ireturn, 1) := by decide +kernel
theorem dX10_hasDebt_0 : decode cX10_hasDebt 0 = .ok (.iload_n 1, 1) := by decide +kernel
theorem dX10_hasDebt_1 : decode cX10_hasDebt 1 = .ok (.istore_n 3, 1) := by decide +kernel
theorem dX10_hasDebt_2 : decode cX10_hasDebt 2 = .ok (.iload_n 3, 1) := by decide +kernel
theorem dX10_hasDebt_3 : decode cX10_hasDebt 3 = .ok (.iload_n 1, 1) := by decide +kernel
theorem dX10_hasDebt_4 : decode cX10_hasDebt 4 = .ok (.iload_n 2, 1) := by decide +kernel
theorem dX10_hasDebt_5 : decode cX10_hasDebt 5 = .ok (.iadd, 1) := by decide +kernel
theorem dX10_hasDebt_6 : decode cX10_hasDebt 6 = .ok (.if_icmp .ge 19, 3) := by decide +kernel
theorem dX10_hasDebt_9 : decode cX10_hasDebt 9 = .ok (.aload_n 0, 1) := by decide +kernel
theorem dX10_hasDebt_10 : decode cX10_hasDebt 10 = .ok (.iload_n 3, 1) := by decide +kernel
theorem dX10_hasDebt_11 : decode cX10_hasDebt 11 = .ok (.laload, 1) := by decide +kernel
theorem dX10_hasDebt_12 : decode cX10_hasDebt 12 = .ok (.lconst 0, 1) := by decide +kernel
theorem dX10_hasDebt_13 : decode cX10_hasDebt 13 = .ok (.lcmp, 1) := by decide +kernel
theorem dX10_hasDebt_14 : decode cX10_hasDebt 14 = .ok (.ifCond .ge 5, 3) := by decide +kernel
theorem dX10_hasDebt_17 : decode cX10_hasDebt 17 = .ok (.iconst 1, 1) := by decide +kernel
theorem dX10_hasDebt_18 : decode cX10_hasDebt 18 = .ok (.ireturn, 1) := by decide +kernel
theorem dX10_hasDebt_19 : decode cX10_hasDebt 19 = .ok (.iinc 3 1, 3) := by decide +kernel
theorem dX10_hasDebt_22 : decode cX10_hasDebt 22 = .ok (.goto (-20), 3) := by decide +kernel
theorem dX10_hasDebt_25 : decode cX10_hasDebt 25 = .ok (.iconst 0, 1) := by decide +kernel
theorem dX10_hasDebt_26 : decode cX10_hasDebt 26 = .ok (.ireturn, 1) := by decide +kernel
theorem dX10_isPrimeInRange_0 : decode cX10_isPrimeInRange 0 = .ok (.iload_n 0, 1) := by decide +kernel
theorem dX10_isPrimeInRange_1 : decode cX10_isPrimeInRange 1 = .ok (.iconst 2, 1) := by decide +kernel
theorem dX10_isPrimeInRange_2 : decode cX10_isPrimeInRange 2 = .ok (.if_icmp .lt 10, 3) := by decide +kernel
theorem dX10_isPrimeInRange_5 : decode cX10_isPrimeInRange 5 = .ok (.iload_n 0, 1) := by decide +kernel
theorem dX10_isPrimeInRange_6 : decode cX10_isPrimeInRange 6 = .ok (.sipush 30011, 3) := by decide +kernel
theorem dX10_isPrimeInRange_9 : decode cX10_isPrimeInRange 9 = .ok (.if_icmp .le 5, 3) := by decide +kernel
theorem dX10_isPrimeInRange_12 : decode cX10_isPrimeInRange 12 = .ok (.iconst 0, 1) := by decide +kernel
theorem dX10_isPrimeInRange_13 : decode cX10_isPrimeInRange 13 = .ok (.ireturn, 1) := by decide +kernel
theorem dX10_isPrimeInRange_14 : decode cX10_isPrimeInRange 14 = .ok (.iconst 2, 1) := by decide +kernel
theorem dX10_isPrimeInRange_15 : decode cX10_isPrimeInRange 15 = .ok (.istore_n 1, 1) := by decide +kernel
theorem dX10_isPrimeInRange_16 : decode cX10_isPrimeInRange 16 = .ok (.iload_n 1, 1) := by decide +kernel
theorem dX10_isPrimeInRange_17 : decode cX10_isPrimeInRange 17 = .ok (.iload_n 1, 1) := by decide +kernel
theorem dX10_isPrimeInRange_18 : decode cX10_isPrimeInRange 18 = .ok (.imul, 1) := by decide +kernel
theorem dX10_isPrimeInRange_19 : decode cX10_isPrimeInRange 19 = .ok (.iload_n 0, 1) := by decide +kernel
theorem dX10_isPrimeInRange_20 : decode cX10_isPrimeInRange 20 = .ok (.if_icmp .gt 17, 3) := by decide +kernel
theorem dX10_isPrimeInRange_23 : decode cX10_isPrimeInRange 23 = .ok (.iload_n 0, 1) := by decide +kernel
theorem dX10_isPrimeInRange_24 : decode cX10_isPrimeInRange 24 = .ok (.iload_n 1, 1) := by decide +kernel
theorem dX10_isPrimeInRange_25 : decode cX10_isPrimeInRange 25 = .ok (.irem, 1) := by decide +kernel
theorem dX10_isPrimeInRange_26 : decode cX10_isPrimeInRange 26 = .ok (.ifCond .ne 5, 3) := by decide +kernel
theorem dX10_isPrimeInRange_29 : decode cX10_isPrimeInRange 29 = .ok (.iconst 0, 1) := by decide +kernel
theorem dX10_isPrimeInRange_30 : decode cX10_isPrimeInRange 30 = .ok (.ireturn, 1) := by decide +kernel
theorem dX10_isPrimeInRange_31 : decode cX10_isPrimeInRange 31 = .ok (.iinc 1 1, 3) := by decide +kernel
theorem dX10_isPrimeInRange_34 : decode cX10_isPrimeInRange 34 = .ok (.goto (-18), 3) := by decide +kernel
theorem dX10_isPrimeInRange_37 : decode cX10_isPrimeInRange 37 = .ok (.iconst 1, 1) := by decide +kernel
theorem dX10_isPrimeInRange_38 : decode cX10_isPrimeInRange 38 = .ok (.ireturn, 1) := by decide +kernel
theorem dX11_init_0 : decode cX11_init 0 = .ok (.aload_n 0, 1) := by decide +kernel
theorem dX11_init_1 : decode cX11_init 1 = .ok (.invokespecial 1, 3) := by decide +kernel
theorem dX11_init_4 : decode cX11_init 4 = .ok (.aload_n 0, 1) := by decide +kernel
theorem dX11_init_5 : decode cX11_init 5 = .ok (.bipush 12, 2) := by decide +kernel
theorem dX11_init_7 : decode cX11_init 7 = .ok (.newarray .int, 2) := by decide +kernel
theorem dX11_init_9 : decode cX11_init 9 = .ok (.putfield 7, 3) := by decide +kernel
theorem dX11_init_12 : decode cX11_init 12 = .ok (.aload_n 0, 1) := by decide +kernel
theorem dX11_init_13 : decode cX11_init 13 = .ok (.sipush 180, 3) := by decide +kernel
theorem dX11_init_16 : decode cX11_init 16 = .ok (.newarray .int, 2) := by decide +kernel
theorem dX11_init_18 : decode cX11_init 18 = .ok (.putfield 13, 3) := by decide +kernel
theorem dX11_init_21 : decode cX11_init 21 = .ok (.aload_n 0, 1) := by decide +kernel
theorem dX11_init_22 : decode cX11_init 22 = .ok (.bipush 15, 2) := by decide +kernel
theorem dX11_init_24 : decode cX11_init 24 = .ok (.newarray .long, 2) := by decide +kernel
theorem dX11_init_26 : decode cX11_init 26 = .ok (.putfield 16, 3) := by decide +kernel
theorem dX11_init_29 : decode cX11_init 29 = .ok (.aload_n 0, 1) := by decide +kernel
theorem dX11_init_30 : decode cX11_init 30 = .ok (.bipush 12, 2) := by decide +kernel
theorem dX11_init_32 : decode cX11_init 32 = .ok (.newarray .long, 2) := by decide +kernel
theorem dX11_init_34 : decode cX11_init 34 = .ok (.putfield 20, 3) := by decide +kernel
theorem dX11_init_37 : decode cX11_init 37 = .ok (.aload_n 0, 1) := by decide +kernel
theorem dX11_init_38 : decode cX11_init 38 = .ok (.lconst 1, 1) := by decide +kernel
theorem dX11_init_39 : decode cX11_init 39 = .ok (.putfield 23, 3) := by decide +kernel
theorem dX11_init_42 : decode cX11_init 42 = .ok (.aload_n 0, 1) := by decide +kernel
theorem dX11_init_43 : decode cX11_init 43 = .ok (.bipush 12, 2) := by decide +kernel
theorem dX11_init_45 : decode cX11_init 45 = .ok (.newarray .int, 2) := by decide +kernel
theorem dX11_init_47 : decode cX11_init 47 = .ok (.putfield 27, 3) := by decide +kernel
theorem dX11_init_50 : decode cX11_init 50 = .ok (.aload_n 0, 1) := by decide +kernel
theorem dX11_init_51 : decode cX11_init 51 = .ok (.bipush 12, 2) := by decide +kernel
theorem dX11_init_53 : decode cX11_init 53 = .ok (.newarray .int, 2) := by decide +kernel
theorem dX11_init_55 : decode cX11_init 55 = .ok (.putfield 30, 3) := by decide +kernel
theorem dX11_init_58 : decode cX11_init 58 = .ok (.aload_n 0, 1) := by decide +kernel
theorem dX11_init_59 : decode cX11_init 59 = .ok (.bipush 12, 2) := by decide +kernel
theorem dX11_init_61 : decode cX11_init 61 = .ok (.newarray .int, 2) := by decide +kernel
theorem dX11_init_63 : decode cX11_init 63 = .ok (.putfield 33, 3) := by decide +kernel
theorem dX11_init_66 : decode cX11_init 66 = .ok (.aload_n 0, 1) := by decide +kernel
theorem dX11_init_67 : decode cX11_init 67 = .ok (.bipush 96, 2) := by decide +kernel
theorem dX11_init_69 : decode cX11_init 69 = .ok (.newarray .long, 2) := by decide +kernel
theorem dX11_init_71 : decode cX11_init 71 = .ok (.putfield 36, 3) := by decide +kernel
theorem dX11_init_74 : decode cX11_init 74 = .ok (.aload_n 0, 1) := by decide +kernel
theorem dX11_init_75 : decode cX11_init 75 = .ok (.bipush 8, 2) := by decide +kernel
theorem dX11_init_77 : decode cX11_init 77 = .ok (.newarray .boolean, 2) := by decide +kernel
theorem dX11_init_79 : decode cX11_init 79 = .ok (.putfield 39, 3) := by decide +kernel
theorem dX11_init_82 : decode cX11_init 82 = .ok (.aload_n 0, 1) := by decide +kernel
theorem dX11_init_83 : decode cX11_init 83 = .ok (.sipush 2400, 3) := by decide +kernel
theorem dX11_init_86 : decode cX11_init 86 = .ok (.newarray .int, 2) := by decide +kernel
theorem dX11_init_88 : decode cX11_init 88 = .ok (.putfield 43, 3) := by decide +kernel
theorem dX11_init_91 : decode cX11_init 91 = .ok (.aload_n 0, 1) := by decide +kernel
theorem dX11_init_92 : decode cX11_init 92 = .ok (.iconst 4, 1) := by decide +kernel
theorem dX11_init_93 : decode cX11_init 93 = .ok (.newarray .int, 2) := by decide +kernel
theorem dX11_init_95 : decode cX11_init 95 = .ok (.putfield 46, 3) := by decide +kernel
theorem dX11_init_98 : decode cX11_init 98 = .ok (.aload_n 0, 1) := by decide +kernel
theorem dX11_init_99 : decode cX11_init 99 = .ok (.iconst 4, 1) := by decide +kernel
theorem dX11_init_100 : decode cX11_init 100 = .ok (.newarray .int, 2) := by decide +kernel
theorem dX11_init_102 : decode cX11_init 102 = .ok (.putfield 49, 3) := by decide +kernel
theorem dX11_init_105 : decode cX11_init 105 = .ok (.aload_n 0, 1) := by decide +kernel
theorem dX11_init_106 : decode cX11_init 106 = .ok (.bipush 64, 2) := by decide +kernel
theorem dX11_init_108 : decode cX11_init 108 = .ok (.newarray .long, 2) := by decide +kernel
theorem dX11_init_110 : decode cX11_init 110 = .ok (.putfield 52, 3) := by decide +kernel
theorem dX11_init_113 : decode cX11_init 113 = .ok (.aload_n 0, 1) := by decide +kernel
theorem dX11_init_114 : decode cX11_init 114 = .ok (.sipush 200, 3) := by decide +kernel
theorem dX11_init_117 : decode cX11_init 117 = .ok (.newarray .int, 2) := by decide +kernel
theorem dX11_init_119 : decode cX11_init 119 = .ok (.putfield 55, 3) := by decide +kernel
theorem dX11_init_122 : decode cX11_init 122 = .ok (.aload_n 0, 1) := by decide +kernel
theorem dX11_init_123 : decode cX11_init 123 = .ok (.sipush 300, 3) := by decide +kernel
theorem dX11_init_126 : decode cX11_init 126 = .ok (.newarray .long, 2) := by decide +kernel
theorem dX11_init_128 : decode cX11_init 128 = .ok (.putfield 58, 3) := by decide +kernel
theorem dX11_init_131 : decode cX11_init 131 = .ok (.aload_n 0, 1) := by decide +kernel
theorem dX11_init_132 : decode cX11_init 132 = .ok (.sipush 240, 3) := by decide +kernel
theorem dX11_init_135 : decode cX11_init 135 = .ok (.newarray .long, 2) := by decide +kernel
theorem dX11_init_137 : decode cX11_init 137 = .ok (.putfield 61, 3) := by decide +kernel
theorem dX11_init_140 : decode cX11_init 140 = .ok (.aload_n 0, 1) := by decide +kernel
theorem dX11_init_141 : decode cX11_init 141 = .ok (.bipush 20, 2) := by decide +kernel
theorem dX11_init_143 : decode cX11_init 143 = .ok (.newarray .long, 2) := by decide +kernel
theorem dX11_init_145 : decode cX11_init 145 = .ok (.putfield 64, 3) := by decide +kernel
theorem dX11_init_148 : decode cX11_init 148 = .ok (.aload_n 0, 1) := by decide +kernel
theorem dX11_init_149 : decode cX11_init 149 = .ok (.sipush 240, 3) := by decide +kernel
theorem dX11_init_152 : decode cX11_init 152 = .ok (.newarray .int, 2) := by decide +kernel
theorem dX11_init_154 : decode cX11_init 154 = .ok (.putfield 67, 3) := by decide +kernel
theorem dX11_init_157 : decode cX11_init 157 = .ok (.aload_n 0, 1) := by decide +kernel
theorem dX11_init_158 : decode cX11_init 158 = .ok (.bipush 20, 2) := by decide +kernel
theorem dX11_init_160 : decode cX11_init 160 = .ok (.newarray .int, 2) := by decide +kernel
theorem dX11_init_162 : decode cX11_init 162 = .ok (.putfield 70, 3) := by decide +kernel
theorem dX11_init_165 : decode cX11_init 165 = .ok (.aload_n 0, 1) := by decide +kernel
theorem dX11_init_166 : decode cX11_init 166 = .ok (.bipush 12, 2) := by decide +kernel
theorem dX11_init_168 : decode cX11_init 168 = .ok (.newarray .int, 2) := by decide +kernel
theorem dX11_init_170 : decode cX11_init 170 = .ok (.putfield 73, 3) := by decide +kernel
theorem dX11_init_173 : decode cX11_init 173 = .ok (.aload_n 0, 1) := by decide +kernel
theorem dX11_init_174 : decode cX11_init 174 = .ok (.bipush 15, 2) := by decide +kernel
theorem dX11_init_176 : decode cX11_init 176 = .ok (.newarray .long, 2) := by decide +kernel
theorem dX11_init_178 : decode cX11_init 178 = .ok (.putfield 76, 3) := by decide +kernel
theorem dX11_init_181 : decode cX11_init 181 = .ok (.aload_n 0, 1) := by decide +kernel
theorem dX11_init_182 : decode cX11_init 182 = .ok (.bipush 15, 2) := by decide +kernel
theorem dX11_init_184 : decode cX11_init 184 = .ok (.newarray .long, 2) := by decide +kernel
theorem dX11_init_186 : decode cX11_init 186 = .ok (.putfield 79, 3) := by decide +kernel
theorem dX11_init_189 : decode cX11_init 189 = .ok (.aload_n 0, 1) := by decide +kernel
theorem dX11_init_190 : decode cX11_init 190 = .ok (.sipush 144, 3) := by decide +kernel
theorem dX11_init_193 : decode cX11_init 193 = .ok (.newarray .long, 2) := by decide +kernel
theorem dX11_init_195 : decode cX11_init 195 = .ok (.putfield 82, 3) := by decide +kernel
theorem dX11_init_198 : decode cX11_init 198 = .ok (.aload_n 0, 1) := by decide +kernel
theorem dX11_init_199 : decode cX11_init 199 = .ok (.sipush 2412, 3) := by decide +kernel
theorem dX11_init_202 : decode cX11_init 202 = .ok (.newarray .int, 2) := by decide +kernel
theorem dX11_init_204 : decode cX11_init 204 = .ok (.putfield 85, 3) := by decide +kernel
theorem dX11_init_207 : decode cX11_init 207 = .ok (.aload_n 0, 1) := by decide +kernel
theorem dX11_init_208 : decode cX11_init 208 = .ok (.bipush 16, 2) := by decide +kernel
theorem dX11_init_210 : decode cX11_init 210 = .ok (.newarray .long, 2) := by decide +kernel
theorem dX11_init_212 : decode cX11_init 212 = .ok (.putfield 88, 3) := by decide +kernel
theorem dX11_init_215 : decode cX11_init 215 = .ok (.return_, 1) := by decide +kernel
theorem dX11_in_0 : decode cX11_in 0 = .ok (.iload_n 0, 1) := by decide +kernel
theorem dX11_in_1 : decode cX11_in 1 = .ok (.iload_n 1, 1) := by decide +kernel
theorem dX11_in_2 : decode cX11_in 2 = .ok (.if_icmp .lt 12, 3) := by decide +kernel
theorem dX11_in_5 : decode cX11_in 5 = .ok (.iload_n 0, 1) := by decide +kernel
theorem dX11_in_6 : decode cX11_in 6 = .ok (.iload_n 2, 1) := by decide +kernel
theorem dX11_in_7 : decode cX11_in 7 = .ok (.if_icmp .gt 7, 3) := by decide +kernel
theorem dX11_in_10 : decode cX11_in 10 = .ok (.iconst 1, 1) := by decide +kernel
theorem dX11_in_11 : decode cX11_in 11 = .ok (.goto 4, 3) := by decide +kernel
theorem dX11_in_14 : decode cX11_in 14 = .ok (.iconst 0, 1) := by decide +kernel
theorem dX11_in_15 : decode cX11_in 15 = .ok (.ireturn, 1) := by decide +kernel
theorem dX11_found_0 : decode cX11_found 0 = .ok (.aload_n 0, 1) := by decide +kernel
theorem dX11_found_1 : decode cX11_found 1 = .ok (.dup, 1) := by decide +kernel
theorem dX11_found_2 : decode cX11_found 2 = .ok (.getfield 91, 3) := by decide +kernel
theorem dX11_found_5 : decode cX11_found 5 = .ok (.iconst 1, 1) := by decide +kernel
theorem dX11_found_6 : decode cX11_found 6 = .ok (.iadd, 1) := by decide +kernel
theorem dX11_found_7 : decode cX11_found 7 = .ok (.putfield 91, 3) := by decide +kernel
theorem dX11_found_10 : decode cX11_found 10 = .ok (.iload_n 1, 1) := by decide +kernel
theorem dX11_found_11 : decode cX11_found 11 = .ok (.ireturn, 1) := by decide +kernel
theorem dX11_isPlace_0 : decode cX11_isPlace 0 = .ok (.iload_n 1, 1) := by decide +kernel
theorem dX11_isPlace_1 : decode cX11_isPlace 1 = .ok (.iconst 0, 1) := by decide +kernel
theorem dX11_isPlace_2 : decode cX11_isPlace 2 = .ok (.aload_n 0, 1) := by decide +kernel
theorem dX11_isPlace_3 : decode cX11_isPlace 3 = .ok (.getfield 95, 3) := by decide +kernel
theorem dX11_isPlace_6 : decode cX11_isPlace 6 = .ok (.iconst 1, 1) := by decide +kernel
theorem dX11_isPlace_7 : decode cX11_isPlace 7 = .ok (.isub, 1) := by decide +kernel
theorem dX11_isPlace_8 : decode cX11_isPlace 8 = .ok (.invokestatic 98, 3) := by decide +kernel
theorem dX11_isPlace_11 : decode cX11_isPlace 11 = .ok (.ireturn, 1) := by decide +kernel
theorem dX11_weightOf_0 : decode cX11_weightOf 0 = .ok (.aload_n 0, 1) := by decide +kernel
theorem dX11_weightOf_1 : decode cX11_weightOf 1 = .ok (.getfield 13, 3) := by decide +kernel
theorem dX11_weightOf_4 : decode cX11_weightOf 4 = .ok (.bipush 15, 2) := by decide +kernel
theorem dX11_weightOf_6 : decode cX11_weightOf 6 = .ok (.iload_n 1, 1) := by decide +kernel
theorem dX11_weightOf_7 : decode cX11_weightOf 7 = .ok (.imul, 1) := by decide +kernel
theorem dX11_weightOf_8 : decode cX11_weightOf 8 = .ok (.iload_n 2, 1) := by decide +kernel
theorem dX11_weightOf_9 : decode cX11_weightOf 9 = .ok (.iadd, 1) := by decide +kernel
theorem dX11_weightOf_10 : decode cX11_weightOf 10 = .ok (.iaload, 1) := by decide +kernel
theorem dX11_weightOf_11 : decode cX11_weightOf 11 = .ok (.ireturn, 1) := by decide +kernel
theorem dX11_load_0 : decode cX11_load 0 = .ok (.iconst 0, 1) := by decide +kernel
theorem dX11_load_1 : decode cX11_load 1 = .ok (.istore_n 2, 1) := by decide +kernel
theorem dX11_load_2 : decode cX11_load 2 = .ok (.iconst 0, 1) := by decide +kernel
theorem dX11_load_3 : decode cX11_load 3 = .ok (.istore_n 3, 1) := by decide +kernel
theorem dX11_load_4 : decode cX11_load 4 = .ok (.iload_n 3, 1) := by decide +kernel
theorem dX11_load_5 : decode cX11_load 5 = .ok (.bipush 15, 2) := by decide +kernel
theorem dX11_load_7 : decode cX11_load 7 = .ok (.if_icmp .ge 18, 3) := by decide +kernel
theorem dX11_load_10 : decode cX11_load 10 = .ok (.iload_n 2, 1) := by decide +kernel
theorem dX11_load_11 : decode cX11_load 11 = .ok (.aload_n 0, 1) := by decide +kernel
theorem dX11_load_12 : decode cX11_load 12 = .ok (.iload_n 1, 1) := by decide +kernel
theorem dX11_load_13 : decode cX11_load 13 = .ok (.iload_n 3, 1) := by decide +kernel
theorem dX11_load_14 : decode cX11_load 14 = .ok (.invokevirtual 102, 3) := by decide +kernel
theorem dX11_load_17 : decode cX11_load 17 = .ok (.iadd, 1) := by decide +kernel
theorem dX11_load_18 : decode cX11_load 18 = .ok (.istore_n 2, 1) := by decide +kernel
theorem dX11_load_19 : decode cX11_load 19 = .ok (.iinc 3 1, 3) := by decide +kernel
theorem dX11_load_22 : decode cX11_load 22 = .ok (.goto (-18), 3) := by decide +kernel
theorem dX11_load_25 : decode cX11_load 25 = .ok (.iload_n 2, 1) := by decide +kernel
theorem dX11_load_26 : decode cX11_load 26 = .ok (.ireturn, 1) := by decide +kernel
theorem dX11_isShelf_0 : decode cX11_isShelf 0 = .ok (.aload_n 0, 1) := by decide +kernel
theorem dX11_isShelf_1 : decode cX11_isShelf 1 = .ok (.getfield 7, 3) := by decide +kernel
theorem dX11_isShelf_4 : decode cX11_isShelf 4 = .ok (.iload_n 1, 1) := by decide +kernel
theorem dX11_isShelf_5 : decode cX11_isShelf 5 = .ok (.iaload, 1) := by decide +kernel
theorem dX11_isShelf_6 : decode cX11_isShelf 6 = .ok (.ifCond .le 17, 3) := by decide +kernel
theorem dX11_isShelf_9 : decode cX11_isShelf 9 = .ok (.aload_n 0, 1) := by decide +kernel
theorem dX11_isShelf_10 : decode cX11_isShelf 10 = .ok (.getfield 7, 3) := by decide +kernel
theorem dX11_isShelf_13 : decode cX11_isShelf 13 = .ok (.iload_n 1, 1) := by decide +kernel
theorem dX11_isShelf_14 : decode cX11_isShelf 14 = .ok (.iaload, 1) := by decide +kernel
theorem dX11_isShelf_15 : decode cX11_isShelf 15 = .ok (.iconst 4, 1) := by decide +kernel
theorem dX11_isShelf_16 : decode cX11_isShelf 16 = .ok (.if_icmp .ge 7, 3) := by decide +kernel
theorem dX11_isShelf_19 : decode cX11_isShelf 19 = .ok (.iconst 1, 1) := by decide +kernel
theorem dX11_isShelf_20 : decode cX11_isShelf 20 = .ok (.goto 4, 3) := by decide +kernel
theorem dX11_isShelf_23 : decode cX11_isShelf 23 = .ok (.iconst 0, 1) := by decide +kernel
theorem dX11_isShelf_24 : decode cX11_isShelf 24 = .ok (.ireturn, 1) := by decide +kernel
theorem dX11_isDue_0 : decode cX11_isDue 0 = .ok (.iload_n 2, 1) := by decide +kernel
theorem dX11_isDue_1 : decode cX11_isDue 1 = .ok (.ifCond .le 14, 3) := by decide +kernel
theorem dX11_isDue_4 : decode cX11_isDue 4 = .ok (.lload_n 0, 1) := by decide +kernel
theorem dX11_isDue_5 : decode cX11_isDue 5 = .ok (.iload_n 2, 1) := by decide +kernel
theorem dX11_isDue_6 : decode cX11_isDue 6 = .ok (.i2l, 1) := by decide +kernel
theorem dX11_isDue_7 : decode cX11_isDue 7 = .ok (.lcmp, 1) := by decide +kernel
theorem dX11_isDue_8 : decode cX11_isDue 8 = .ok (.ifCond .lt 7, 3) := by decide +kernel
theorem dX11_isDue_11 : decode cX11_isDue 11 = .ok (.iconst 1, 1) := by decide +kernel
theorem dX11_isDue_12 : decode cX11_isDue 12 = .ok (.goto 4, 3) := by decide +kernel
theorem dX11_isDue_15 : decode cX11_isDue 15 = .ok (.iconst 0, 1) := by decide +kernel
theorem dX11_isDue_16 : decode cX11_isDue 16 = .ok (.ireturn, 1) := by decide +kernel
theorem dX11_dueMany_0 : decode cX11_dueMany 0 = .ok (.iconst 0, 1) := by decide +kernel
theorem dX11_dueMany_1 : decode cX11_dueMany 1 = .ok (.istore_n 1, 1) := by decide +kernel
theorem dX11_dueMany_2 : decode cX11_dueMany 2 = .ok (.iconst 0, 1) := by decide +kernel
theorem dX11_dueMany_3 : decode cX11_dueMany 3 = .ok (.istore_n 2, 1) := by decide +kernel
theorem dX11_dueMany_4 : decode cX11_dueMany 4 = .ok (.iload_n 2, 1) := by decide +kernel
theorem dX11_dueMany_5 : decode cX11_dueMany 5 = .ok (.aload_n 0, 1) := by decide +kernel
theorem dX11_dueMany_6 : decode cX11_dueMany 6 = .ok (.getfield 95, 3) := by decide +kernel
theorem dX11_dueMany_9 : decode cX11_dueMany 9 = .ok (.if_icmp .ge 34, 3) := by decide +kernel
theorem dX11_dueMany_12 : decode cX11_dueMany 12 = .ok (.iload_n 1, 1) := by decide +kernel
theorem dX11_dueMany_13 : decode cX11_dueMany 13 = .ok (.aload_n 0, 1) := by decide +kernel
theorem dX11_dueMany_14 : decode cX11_dueMany 14 = .ok (.getfield 16, 3) := by decide +kernel
theorem dX11_dueMany_17 : decode cX11_dueMany 17 = .ok (.iload_n 2, 1) := by decide +kernel
theorem dX11_dueMany_18 : decode cX11_dueMany 18 = .ok (.laload, 1) := by decide +kernel
theorem dX11_dueMany_19 : decode cX11_dueMany 19 = .ok (.aload_n 0, 1) := by decide +kernel
theorem dX11_dueMany_20 : decode cX11_dueMany 20 = .ok (.iload_n 2, 1) := by decide +kernel
theorem dX11_dueMany_21 : decode cX11_dueMany 21 = .ok (.invokevirtual 106, 3) := by decide +kernel
theorem dX11_dueMany_24 : decode cX11_dueMany 24 = .ok (.invokestatic 110, 3) := by decide +kernel
theorem dX11_dueMany_27 : decode cX11_dueMany 27 = .ok (.ifCond .eq 7, 3) := by decide +kernel
theorem dX11_dueMany_30 : decode cX11_dueMany 30 = .ok (.iconst 1, 1) := by decide +kernel
theorem dX11_dueMany_31 : decode cX11_dueMany 31 = .ok (.goto 4, 3) := by decide +kernel
theorem dX11_dueMany_34 : decode cX11_dueMany 34 = .ok (.iconst 0, 1) := by decide +kernel
theorem dX11_dueMany_35 : decode cX11_dueMany 35 = .ok (.iadd, 1) := by decide +kernel
theorem dX11_dueMany_36 : decode cX11_dueMany 36 = .ok (.istore_n 1, 1) := by decide +kernel
theorem dX11_dueMany_37 : decode cX11_dueMany 37 = .ok (.iinc 2 1, 3) := by decide +kernel
theorem dX11_dueMany_40 : decode cX11_dueMany 40 = .ok (.goto (-36), 3) := by decide +kernel
theorem dX11_dueMany_43 : decode cX11_dueMany 43 = .ok (.iload_n 1, 1) := by decide +kernel
theorem dX11_dueMany_44 : decode cX11_dueMany 44 = .ok (.ireturn, 1) := by decide +kernel
theorem dX11_place_0 : decode cX11_place 0 = .ok (.aload_n 0, 1) := by decide +kernel
theorem dX11_place_1 : decode cX11_place 1 = .ok (.getfield 114, 3) := by decide +kernel
theorem dX11_place_4 : decode cX11_place 4 = .ok (.ifCond .eq 10, 3) := by decide +kernel
theorem dX11_place_7 : decode cX11_place 7 = .ok (.aload_n 0, 1) := by decide +kernel
theorem dX11_place_8 : decode cX11_place 8 = .ok (.bipush (-6), 2) := by decide +kernel
theorem dX11_place_10 : decode cX11_place 10 = .ok (.invokevirtual 118, 3) := by decide +kernel
theorem dX11_place_13 : decode cX11_place 13 = .ok (.ireturn, 1) := by decide +kernel
theorem dX11_place_14 : decode cX11_place 14 = .ok (.iload_n 1, 1) := by decide +kernel
theorem dX11_place_15 : decode cX11_place 15 = .ok (.iconst 0, 1) := by decide +kernel
theorem dX11_place_16 : decode cX11_place 16 = .ok (.iconst 4, 1) := by decide +kernel
theorem dX11_place_17 : decode cX11_place 17 = .ok (.invokestatic 98, 3) := by decide +kernel
theorem dX11_place_20 : decode cX11_place 20 = .ok (.ifCond .ne 9, 3) := by decide +kernel
theorem dX11_place_23 : decode cX11_place 23 = .ok (.aload_n 0, 1) := by decide +kernel
theorem dX11_place_24 : decode cX11_place 24 = .ok (.iconst (-1), 1) := by decide +kernel
theorem dX11_place_25 : decode cX11_place 25 = .ok (.invokevirtual 118, 3) := by decide +kernel
theorem dX11_place_28 : decode cX11_place 28 = .ok (.ireturn, 1) := by decide +kernel
theorem dX11_place_29 : decode cX11_place 29 = .ok (.aload_n 0, 1) := by decide +kernel
theorem dX11_place_30 : decode cX11_place 30 = .ok (.getfield 95, 3) := by decide +kernel
theorem dX11_place_33 : decode cX11_place 33 = .ok (.bipush 12, 2) := by decide +kernel
theorem dX11_place_35 : decode cX11_place 35 = .ok (.if_icmp .ne 10, 3) := by decide +kernel
theorem dX11_place_38 : decode cX11_place 38 = .ok (.aload_n 0, 1) := by decide +kernel
theorem dX11_place_39 : decode cX11_place 39 = .ok (.bipush (-5), 2) := by decide +kernel
theorem dX11_place_41 : decode cX11_place 41 = .ok (.invokevirtual 118, 3) := by decide +kernel
theorem dX11_place_44 : decode cX11_place 44 = .ok (.ireturn, 1) := by decide +kernel
theorem dX11_place_45 : decode cX11_place 45 = .ok (.aload_n 0, 1) := by decide +kernel
theorem dX11_place_46 : decode cX11_place 46 = .ok (.getfield 7, 3) := by decide +kernel
theorem dX11_place_49 : decode cX11_place 49 = .ok (.aload_n 0, 1) := by decide +kernel
theorem dX11_place_50 : decode cX11_place 50 = .ok (.getfield 95, 3) := by decide +kernel
theorem dX11_place_53 : decode cX11_place 53 = .ok (.iload_n 1, 1) := by decide +kernel
theorem dX11_place_54 : decode cX11_place 54 = .ok (.iastore, 1) := by decide +kernel
theorem dX11_place_55 : decode cX11_place 55 = .ok (.aload_n 0, 1) := by decide +kernel
theorem dX11_place_56 : decode cX11_place 56 = .ok (.dup, 1) := by decide +kernel
theorem dX11_place_57 : decode cX11_place 57 = .ok (.getfield 95, 3) := by decide +kernel
theorem dX11_place_60 : decode cX11_place 60 = .ok (.iconst 1, 1) := by decide +kernel
theorem dX11_place_61 : decode cX11_place 61 = .ok (.iadd, 1) := by decide +kernel
theorem dX11_place_62 : decode cX11_place 62 = .ok (.putfield 95, 3) := by decide +kernel
theorem dX11_place_65 : decode cX11_place 65 = .ok (.aload_n 0, 1) := by decide +kernel
theorem dX11_place_66 : decode cX11_place 66 = .ok (.getfield 95, 3) := by decide +kernel
theorem dX11_place_69 : decode cX11_place 69 = .ok (.iconst 1, 1) := by decide +kernel
theorem dX11_place_70 : decode cX11_place 70 = .ok (.isub, 1) := by decide +kernel
theorem dX11_place_71 : decode cX11_place 71 = .ok (.ireturn, 1) := by decide +kernel
theorem dX11_way_0 : decode cX11_way 0 = .ok (.aload_n 0, 1) := by decide +kernel
theorem dX11_way_1 : decode cX11_way 1 = .ok (.getfield 114, 3) := by decide +kernel
theorem dX11_way_4 : decode cX11_way 4 = .ok (.ifCond .eq 10, 3) := by decide +kernel
theorem dX11_way_7 : decode cX11_way 7 = .ok (.aload_n 0, 1) := by decide +kernel
theorem dX11_way_8 : decode cX11_way 8 = .ok (.bipush (-6), 2) := by decide +kernel
theorem dX11_way_10 : decode cX11_way 10 = .ok (.invokevirtual 118, 3) := by decide +kernel
theorem dX11_way_13 : decode cX11_way 13 = .ok (.ireturn, 1) := by decide +kernel
theorem dX11_way_14 : decode cX11_way 14 = .ok (.iload_n 2, 1) := by decide +kernel
theorem dX11_way_15 : decode cX11_way 15 = .ok (.bipush (-3), 2) := by decide +kernel
theorem dX11_way_17 : decode cX11_way 17 = .ok (.iconst (-1), 1) := by decide +kernel
theorem dX11_way_18 : decode cX11_way 18 = .ok (.invokestatic 98, 3) := by decide +kernel
theorem dX11_way_21 : decode cX11_way 21 = .ok (.istore 4, 2) := by decide +kernel
theorem dX11_way_23 : decode cX11_way 23 = .ok (.aload_n 0, 1) := by decide +kernel
theorem dX11_way_24 : decode cX11_way 24 = .ok (.iload_n 1, 1) := by decide +kernel
theorem dX11_way_25 : decode cX11_way 25 = .ok (.invokevirtual 121, 3) := by decide +kernel
theorem dX11_way_28 : decode cX11_way 28 = .ok (.ifCond .eq 31, 3) := by decide +kernel
theorem dX11_way_31 : decode cX11_way 31 = .ok (.iload 4, 2) := by decide +kernel
theorem dX11_way_33 : decode cX11_way 33 = .ok (.ifCond .ne 11, 3) := by decide +kernel
theorem dX11_way_36 : decode cX11_way 36 = .ok (.aload_n 0, 1) := by decide +kernel
theorem dX11_way_37 : decode cX11_way 37 = .ok (.iload_n 2, 1) := by decide +kernel
theorem dX11_way_38 : decode cX11_way 38 = .ok (.invokevirtual 121, 3) := by decide +kernel
theorem dX11_way_41 : decode cX11_way 41 = .ok (.ifCond .eq 18, 3) := by decide +kernel
theorem dX11_way_44 : decode cX11_way 44 = .ok (.iload_n 2, 1) := by decide +kernel
theorem dX11_way_45 : decode cX11_way 45 = .ok (.iload_n 1, 1) := by decide +kernel
theorem dX11_way_46 : decode cX11_way 46 = .ok (.if_icmp .eq 13, 3) := by decide +kernel
theorem dX11_way_49 : decode cX11_way 49 = .ok (.iload_n 3, 1) := by decide +kernel
theorem dX11_way_50 : decode cX11_way 50 = .ok (.iconst 1, 1) := by decide +kernel
theorem dX11_way_51 : decode cX11_way 51 = .ok (.bipush 9, 2) := by decide +kernel
theorem dX11_way_53 : decode cX11_way 53 = .ok (.invokestatic 98, 3) := by decide +kernel
theorem dX11_way_56 : decode cX11_way 56 = .ok (.ifCond .ne 9, 3) := by decide +kernel
theorem dX11_way_59 : decode cX11_way 59 = .ok (.aload_n 0, 1) := by decide +kernel
theorem dX11_way_60 : decode cX11_way 60 = .ok (.iconst (-1), 1) := by decide +kernel
theorem dX11_way_61 : decode cX11_way 61 = .ok (.invokevirtual 118, 3) := by decide +kernel
theorem dX11_way_64 : decode cX11_way 64 = .ok (.ireturn, 1) := by decide +kernel
theorem dX11_way_65 : decode cX11_way 65 = .ok (.aload_n 0, 1) := by decide +kernel
theorem dX11_way_66 : decode cX11_way 66 = .ok (.getfield 7, 3) := by decide +kernel
theorem dX11_way_69 : decode cX11_way 69 = .ok (.iload_n 1, 1) := by decide +kernel
theorem dX11_way_70 : decode cX11_way 70 = .ok (.iaload, 1) := by decide +kernel
theorem dX11_way_71 : decode cX11_way 71 = .ok (.iconst 2, 1) := by decide +kernel
theorem dX11_way_72 : decode cX11_way 72 = .ok (.if_icmp .eq 13, 3) := by decide +kernel
theorem dX11_way_75 : decode cX11_way 75 = .ok (.aload_n 0, 1) := by decide +kernel
theorem dX11_way_76 : decode cX11_way 76 = .ok (.getfield 7, 3) := by decide +kernel
theorem dX11_way_79 : decode cX11_way 79 = .ok (.iload_n 1, 1) := by decide +kernel
theorem dX11_way_80 : decode cX11_way 80 = .ok (.iaload, 1) := by decide +kernel
theorem dX11_way_81 : decode cX11_way 81 = .ok (.iconst 3, 1) := by decide +kernel
theorem dX11_way_82 : decode cX11_way 82 = .ok (.if_icmp .ne 7, 3) := by decide +kernel
theorem dX11_way_85 : decode cX11_way 85 = .ok (.iconst 1, 1) := by decide +kernel
theorem dX11_way_86 : decode cX11_way 86 = .ok (.goto 4, 3) := by decide +kernel
theorem dX11_way_89 : decode cX11_way 89 = .ok (.iconst 0, 1) := by decide +kernel
theorem dX11_way_90 : decode cX11_way 90 = .ok (.istore 5, 2) := by decide +kernel
theorem dX11_way_92 : decode cX11_way 92 = .ok (.iload_n 3, 1) := by decide +kernel
theorem dX11_way_93 : decode cX11_way 93 = .ok (.iconst 1, 1) := by decide +kernel
theorem dX11_way_94 : decode cX11_way 94 = .ok (.if_icmp .eq 8, 3) := by decide +kernel
theorem dX11_way_97 : decode cX11_way 97 = .ok (.iload 5, 2) := by decide +kernel
theorem dX11_way_99 : decode cX11_way 99 = .ok (.ifCond .eq 18, 3) := by decide +kernel
theorem dX11_way_102 : decode cX11_way 102 = .ok (.iload 4, 2) := by decide +kernel
theorem dX11_way_104 : decode cX11_way 104 = .ok (.ifCond .eq 20, 3) := by decide +kernel
theorem dX11_way_107 : decode cX11_way 107 = .ok (.aload_n 0, 1) := by decide +kernel
theorem dX11_way_108 : decode cX11_way 108 = .ok (.getfield 7, 3) := by decide +kernel
theorem dX11_way_111 : decode cX11_way 111 = .ok (.iload_n 1, 1) := by decide +kernel
theorem dX11_way_112 : decode cX11_way 112 = .ok (.iaload, 1) := by decide +kernel
theorem dX11_way_113 : decode cX11_way 113 = .ok (.iconst 3, 1) := by decide +kernel
theorem dX11_way_114 : decode cX11_way 114 = .ok (.if_icmp .eq 10, 3) := by decide +kernel
theorem dX11_way_117 : decode cX11_way 117 = .ok (.aload_n 0, 1) := by decide +kernel
theorem dX11_way_118 : decode cX11_way 118 = .ok (.bipush (-4), 2) := by decide +kernel
theorem dX11_way_120 : decode cX11_way 120 = .ok (.invokevirtual 118, 3) := by decide +kernel
theorem dX11_way_123 : decode cX11_way 123 = .ok (.ireturn, 1) := by decide +kernel
theorem dX11_way_124 : decode cX11_way 124 = .ok (.aload_n 0, 1) := by decide +kernel
theorem dX11_way_125 : decode cX11_way 125 = .ok (.getfield 13, 3) := by decide +kernel
theorem dX11_way_128 : decode cX11_way 128 = .ok (.bipush 15, 2) := by decide +kernel
theorem dX11_way_130 : decode cX11_way 130 = .ok (.iload_n 1, 1) := by decide +kernel
theorem dX11_way_131 : decode cX11_way 131 = .ok (.imul, 1) := by decide +kernel
theorem dX11_way_132 : decode cX11_way 132 = .ok (.iload 4, 2) := by decide +kernel
theorem dX11_way_134 : decode cX11_way 134 = .ok (.ifCond .eq 10, 3) := by decide +kernel
theorem dX11_way_137 : decode cX11_way 137 = .ok (.bipush 11, 2) := by decide +kernel
theorem dX11_way_139 : decode cX11_way 139 = .ok (.iload_n 2, 1) := by decide +kernel
theorem dX11_way_140 : decode cX11_way 140 = .ok (.isub, 1) := by decide +kernel
theorem dX11_way_141 : decode cX11_way 141 = .ok (.goto 4, 3) := by decide +kernel
theorem dX11_way_144 : decode cX11_way 144 = .ok (.iload_n 2, 1) := by decide +kernel
theorem dX11_way_145 : decode cX11_way 145 = .ok (.iadd, 1) := by decide +kernel
theorem dX11_way_146 : decode cX11_way 146 = .ok (.dup2, 1) := by decide +kernel
theorem dX11_way_147 : decode cX11_way 147 = .ok (.iaload, 1) := by decide +kernel
theorem dX11_way_148 : decode cX11_way 148 = .ok (.iload_n 3, 1) := by decide +kernel
theorem dX11_way_149 : decode cX11_way 149 = .ok (.iadd, 1) := by decide +kernel
theorem dX11_way_150 : decode cX11_way 150 = .ok (.iastore, 1) := by decide +kernel
theorem dX11_way_151 : decode cX11_way 151 = .ok (.aload_n 0, 1) := by decide +kernel
theorem dX11_way_152 : decode cX11_way 152 = .ok (.iload_n 1, 1) := by decide +kernel
theorem dX11_way_153 : decode cX11_way 153 = .ok (.invokevirtual 106, 3) := by decide +kernel
theorem dX11_way_156 : decode cX11_way 156 = .ok (.ireturn, 1) := by decide +kernel
theorem dX11_begin_0 : decode cX11_begin 0 = .ok (.aload_n 0, 1) := by decide +kernel
theorem dX11_begin_1 : decode cX11_begin 1 = .ok (.getfield 114, 3) := by decide +kernel
theorem dX11_begin_4 : decode cX11_begin 4 = .ok (.ifCond .eq 10, 3) := by decide +kernel
theorem dX11_begin_7 : decode cX11_begin 7 = .ok (.aload_n 0, 1) := by decide +kernel
theorem dX11_begin_8 : decode cX11_begin 8 = .ok (.bipush (-6), 2) := by decide +kernel
theorem dX11_begin_10 : decode cX11_begin 10 = .ok (.invokevirtual 118, 3) := by decide +kernel
theorem dX11_begin_13 : decode cX11_begin 13 = .ok (.ireturn, 1) := by decide +kernel
theorem dX11_begin_14 : decode cX11_begin 14 = .ok (.aload_n 0, 1) := by decide +kernel
end
section
theorem dX11_begin_15 : decode cX11_begin 15 = .ok (.getfield 95, 3) := by decide +kernel
theorem dX11_begin_18 : decode cX11_begin 18 = .ok (.ifCond .ne 10, 3) := by decide +kernel
theorem dX11_begin_21 : decode cX11_begin 21 = .ok (.aload_n 0, 1) := by decide +kernel
theorem dX11_begin_22 : decode cX11_begin 22 = .ok (.bipush (-11), 2) := by decide +kernel
theorem dX11_begin_24 : decode cX11_begin 24 = .ok (.invokevirtual 118, 3) := by decide +kernel
theorem dX11_begin_27 : decode cX11_begin 27 = .ok (.ireturn, 1) := by decide +kernel
theorem dX11_begin_28 : decode cX11_begin 28 = .ok (.iconst 0, 1) := by decide +kernel
theorem dX11_begin_29 : decode cX11_begin 29 = .ok (.istore_n 1, 1) := by decide +kernel
theorem dX11_begin_30 : decode cX11_begin 30 = .ok (.iconst 1, 1) := by decide +kernel
theorem dX11_begin_31 : decode cX11_begin 31 = .ok (.istore_n 2, 1) := by decide +kernel
theorem dX11_begin_32 : decode cX11_begin 32 = .ok (.iload_n 2, 1) := by decide +kernel
theorem dX11_begin_33 : decode cX11_begin 33 = .ok (.ifCond .eq 110, 3) := by decide +kernel
theorem dX11_begin_36 : decode cX11_begin 36 = .ok (.iconst 0, 1) := by decide +kernel
theorem dX11_begin_37 : decode cX11_begin 37 = .ok (.istore_n 2, 1) := by decide +kernel
theorem dX11_begin_38 : decode cX11_begin 38 = .ok (.iconst 0, 1) := by decide +kernel
theorem dX11_begin_39 : decode cX11_begin 39 = .ok (.istore_n 3, 1) := by decide +kernel
theorem dX11_begin_40 : decode cX11_begin 40 = .ok (.iload_n 3, 1) := by decide +kernel
theorem dX11_begin_41 : decode cX11_begin 41 = .ok (.aload_n 0, 1) := by decide +kernel
theorem dX11_begin_42 : decode cX11_begin 42 = .ok (.getfield 95, 3) := by decide +kernel
theorem dX11_begin_45 : decode cX11_begin 45 = .ok (.if_icmp .ge 95, 3) := by decide +kernel
theorem dX11_begin_48 : decode cX11_begin 48 = .ok (.iload_n 1, 1) := by decide +kernel
theorem dX11_begin_49 : decode cX11_begin 49 = .ok (.iload_n 3, 1) := by decide +kernel
theorem dX11_begin_50 : decode cX11_begin 50 = .ok (.ishr, 1) := by decide +kernel
theorem dX11_begin_51 : decode cX11_begin 51 = .ok (.iconst 1, 1) := by decide +kernel
theorem dX11_begin_52 : decode cX11_begin 52 = .ok (.iand, 1) := by decide +kernel
theorem dX11_begin_53 : decode cX11_begin 53 = .ok (.iconst 1, 1) := by decide +kernel
theorem dX11_begin_54 : decode cX11_begin 54 = .ok (.if_icmp .ne 6, 3) := by decide +kernel
theorem dX11_begin_57 : decode cX11_begin 57 = .ok (.goto 77, 3) := by decide +kernel
theorem dX11_begin_60 : decode cX11_begin 60 = .ok (.iconst 0, 1) := by decide +kernel
theorem dX11_begin_61 : decode cX11_begin 61 = .ok (.istore 4, 2) := by decide +kernel
theorem dX11_begin_63 : decode cX11_begin 63 = .ok (.iconst 0, 1) := by decide +kernel
theorem dX11_begin_64 : decode cX11_begin 64 = .ok (.istore 5, 2) := by decide +kernel
theorem dX11_begin_66 : decode cX11_begin 66 = .ok (.iload 5, 2) := by decide +kernel
theorem dX11_begin_68 : decode cX11_begin 68 = .ok (.bipush 15, 2) := by decide +kernel
theorem dX11_begin_70 : decode cX11_begin 70 = .ok (.if_icmp .ge 48, 3) := by decide +kernel
theorem dX11_begin_73 : decode cX11_begin 73 = .ok (.iload 4, 2) := by decide +kernel
theorem dX11_begin_75 : decode cX11_begin 75 = .ok (.ifCond .ne 30, 3) := by decide +kernel
theorem dX11_begin_78 : decode cX11_begin 78 = .ok (.aload_n 0, 1) := by decide +kernel
theorem dX11_begin_79 : decode cX11_begin 79 = .ok (.iload_n 3, 1) := by decide +kernel
theorem dX11_begin_80 : decode cX11_begin 80 = .ok (.iload 5, 2) := by decide +kernel
theorem dX11_begin_82 : decode cX11_begin 82 = .ok (.invokevirtual 102, 3) := by decide +kernel
theorem dX11_begin_85 : decode cX11_begin 85 = .ok (.ifCond .le 24, 3) := by decide +kernel
theorem dX11_begin_88 : decode cX11_begin 88 = .ok (.iload 5, 2) := by decide +kernel
theorem dX11_begin_90 : decode cX11_begin 90 = .ok (.bipush 11, 2) := by decide +kernel
theorem dX11_begin_92 : decode cX11_begin 92 = .ok (.if_icmp .gt 13, 3) := by decide +kernel
theorem dX11_begin_95 : decode cX11_begin 95 = .ok (.iload_n 1, 1) := by decide +kernel
theorem dX11_begin_96 : decode cX11_begin 96 = .ok (.iload 5, 2) := by decide +kernel
theorem dX11_begin_98 : decode cX11_begin 98 = .ok (.ishr, 1) := by decide +kernel
theorem dX11_begin_99 : decode cX11_begin 99 = .ok (.iconst 1, 1) := by decide +kernel
theorem dX11_begin_100 : decode cX11_begin 100 = .ok (.iand, 1) := by decide +kernel
theorem dX11_begin_101 : decode cX11_begin 101 = .ok (.iconst 1, 1) := by decide +kernel
theorem dX11_begin_102 : decode cX11_begin 102 = .ok (.if_icmp .ne 7, 3) := by decide +kernel
theorem dX11_begin_105 : decode cX11_begin 105 = .ok (.iconst 1, 1) := by decide +kernel
theorem dX11_begin_106 : decode cX11_begin 106 = .ok (.goto 4, 3) := by decide +kernel
theorem dX11_begin_109 : decode cX11_begin 109 = .ok (.iconst 0, 1) := by decide +kernel
theorem dX11_begin_110 : decode cX11_begin 110 = .ok (.istore 4, 2) := by decide +kernel
theorem dX11_begin_112 : decode cX11_begin 112 = .ok (.iinc 5 1, 3) := by decide +kernel
theorem dX11_begin_115 : decode cX11_begin 115 = .ok (.goto (-49), 3) := by decide +kernel
theorem dX11_begin_118 : decode cX11_begin 118 = .ok (.iload 4, 2) := by decide +kernel
theorem dX11_begin_120 : decode cX11_begin 120 = .ok (.ifCond .ne 6, 3) := by decide +kernel
theorem dX11_begin_123 : decode cX11_begin 123 = .ok (.goto 11, 3) := by decide +kernel
theorem dX11_begin_126 : decode cX11_begin 126 = .ok (.iload_n 1, 1) := by decide +kernel
theorem dX11_begin_127 : decode cX11_begin 127 = .ok (.iconst 1, 1) := by decide +kernel
theorem dX11_begin_128 : decode cX11_begin 128 = .ok (.iload_n 3, 1) := by decide +kernel
theorem dX11_begin_129 : decode cX11_begin 129 = .ok (.ishl, 1) := by decide +kernel
theorem dX11_begin_130 : decode cX11_begin 130 = .ok (.ior, 1) := by decide +kernel
theorem dX11_begin_131 : decode cX11_begin 131 = .ok (.istore_n 1, 1) := by decide +kernel
theorem dX11_begin_132 : decode cX11_begin 132 = .ok (.iconst 1, 1) := by decide +kernel
theorem dX11_begin_133 : decode cX11_begin 133 = .ok (.istore_n 2, 1) := by decide +kernel
theorem dX11_begin_134 : decode cX11_begin 134 = .ok (.iinc 3 1, 3) := by decide +kernel
theorem dX11_begin_137 : decode cX11_begin 137 = .ok (.goto (-97), 3) := by decide +kernel
theorem dX11_begin_140 : decode cX11_begin 140 = .ok (.goto (-108), 3) := by decide +kernel
theorem dX11_begin_143 : decode cX11_begin 143 = .ok (.iconst 1, 1) := by decide +kernel
theorem dX11_begin_144 : decode cX11_begin 144 = .ok (.aload_n 0, 1) := by decide +kernel
theorem dX11_begin_145 : decode cX11_begin 145 = .ok (.getfield 95, 3) := by decide +kernel
theorem dX11_begin_148 : decode cX11_begin 148 = .ok (.ishl, 1) := by decide +kernel
theorem dX11_begin_149 : decode cX11_begin 149 = .ok (.iconst 1, 1) := by decide +kernel
theorem dX11_begin_150 : decode cX11_begin 150 = .ok (.isub, 1) := by decide +kernel
theorem dX11_begin_151 : decode cX11_begin 151 = .ok (.iload_n 1, 1) := by decide +kernel
theorem dX11_begin_152 : decode cX11_begin 152 = .ok (.isub, 1) := by decide +kernel
theorem dX11_begin_153 : decode cX11_begin 153 = .ok (.istore_n 3, 1) := by decide +kernel
theorem dX11_begin_154 : decode cX11_begin 154 = .ok (.iload_n 3, 1) := by decide +kernel
theorem dX11_begin_155 : decode cX11_begin 155 = .ok (.ifCond .eq 15, 3) := by decide +kernel
theorem dX11_begin_158 : decode cX11_begin 158 = .ok (.aload_n 0, 1) := by decide +kernel
theorem dX11_begin_159 : decode cX11_begin 159 = .ok (.iload_n 3, 1) := by decide +kernel
theorem dX11_begin_160 : decode cX11_begin 160 = .ok (.putfield 125, 3) := by decide +kernel
theorem dX11_begin_163 : decode cX11_begin 163 = .ok (.aload_n 0, 1) := by decide +kernel
theorem dX11_begin_164 : decode cX11_begin 164 = .ok (.bipush (-7), 2) := by decide +kernel
theorem dX11_begin_166 : decode cX11_begin 166 = .ok (.invokevirtual 118, 3) := by decide +kernel
theorem dX11_begin_169 : decode cX11_begin 169 = .ok (.ireturn, 1) := by decide +kernel
theorem dX11_begin_170 : decode cX11_begin 170 = .ok (.aload_n 0, 1) := by decide +kernel
theorem dX11_begin_171 : decode cX11_begin 171 = .ok (.iconst 1, 1) := by decide +kernel
theorem dX11_begin_172 : decode cX11_begin 172 = .ok (.putfield 114, 3) := by decide +kernel
theorem dX11_begin_175 : decode cX11_begin 175 = .ok (.aload_n 0, 1) := by decide +kernel
theorem dX11_begin_176 : decode cX11_begin 176 = .ok (.getfield 95, 3) := by decide +kernel
theorem dX11_begin_179 : decode cX11_begin 179 = .ok (.ireturn, 1) := by decide +kernel
theorem dX11_anew_0 : decode cX11_anew 0 = .ok (.aload_n 0, 1) := by decide +kernel
theorem dX11_anew_1 : decode cX11_anew 1 = .ok (.iconst 0, 1) := by decide +kernel
theorem dX11_anew_2 : decode cX11_anew 2 = .ok (.putfield 95, 3) := by decide +kernel
theorem dX11_anew_5 : decode cX11_anew 5 = .ok (.iconst 0, 1) := by decide +kernel
theorem dX11_anew_6 : decode cX11_anew 6 = .ok (.istore_n 1, 1) := by decide +kernel
theorem dX11_anew_7 : decode cX11_anew 7 = .ok (.iload_n 1, 1) := by decide +kernel
theorem dX11_anew_8 : decode cX11_anew 8 = .ok (.sipush 180, 3) := by decide +kernel
theorem dX11_anew_11 : decode cX11_anew 11 = .ok (.if_icmp .ge 16, 3) := by decide +kernel
theorem dX11_anew_14 : decode cX11_anew 14 = .ok (.aload_n 0, 1) := by decide +kernel
theorem dX11_anew_15 : decode cX11_anew 15 = .ok (.getfield 13, 3) := by decide +kernel
theorem dX11_anew_18 : decode cX11_anew 18 = .ok (.iload_n 1, 1) := by decide +kernel
theorem dX11_anew_19 : decode cX11_anew 19 = .ok (.iconst 0, 1) := by decide +kernel
theorem dX11_anew_20 : decode cX11_anew 20 = .ok (.iastore, 1) := by decide +kernel
theorem dX11_anew_21 : decode cX11_anew 21 = .ok (.iinc 1 1, 3) := by decide +kernel
theorem dX11_anew_24 : decode cX11_anew 24 = .ok (.goto (-17), 3) := by decide +kernel
theorem dX11_anew_27 : decode cX11_anew 27 = .ok (.iconst 0, 1) := by decide +kernel
theorem dX11_anew_28 : decode cX11_anew 28 = .ok (.istore_n 1, 1) := by decide +kernel
theorem dX11_anew_29 : decode cX11_anew 29 = .ok (.iload_n 1, 1) := by decide +kernel
theorem dX11_anew_30 : decode cX11_anew 30 = .ok (.bipush 15, 2) := by decide +kernel
theorem dX11_anew_32 : decode cX11_anew 32 = .ok (.if_icmp .ge 16, 3) := by decide +kernel
theorem dX11_anew_35 : decode cX11_anew 35 = .ok (.aload_n 0, 1) := by decide +kernel
theorem dX11_anew_36 : decode cX11_anew 36 = .ok (.getfield 16, 3) := by decide +kernel
theorem dX11_anew_39 : decode cX11_anew 39 = .ok (.iload_n 1, 1) := by decide +kernel
theorem dX11_anew_40 : decode cX11_anew 40 = .ok (.lconst 0, 1) := by decide +kernel
theorem dX11_anew_41 : decode cX11_anew 41 = .ok (.lastore, 1) := by decide +kernel
theorem dX11_anew_42 : decode cX11_anew 42 = .ok (.iinc 1 1, 3) := by decide +kernel
theorem dX11_anew_45 : decode cX11_anew 45 = .ok (.goto (-16), 3) := by decide +kernel
theorem dX11_anew_48 : decode cX11_anew 48 = .ok (.iconst 0, 1) := by decide +kernel
theorem dX11_anew_49 : decode cX11_anew 49 = .ok (.istore_n 1, 1) := by decide +kernel
theorem dX11_anew_50 : decode cX11_anew 50 = .ok (.iload_n 1, 1) := by decide +kernel
theorem dX11_anew_51 : decode cX11_anew 51 = .ok (.bipush 12, 2) := by decide +kernel
theorem dX11_anew_53 : decode cX11_anew 53 = .ok (.if_icmp .ge 16, 3) := by decide +kernel
theorem dX11_anew_56 : decode cX11_anew 56 = .ok (.aload_n 0, 1) := by decide +kernel
theorem dX11_anew_57 : decode cX11_anew 57 = .ok (.getfield 20, 3) := by decide +kernel
theorem dX11_anew_60 : decode cX11_anew 60 = .ok (.iload_n 1, 1) := by decide +kernel
theorem dX11_anew_61 : decode cX11_anew 61 = .ok (.lconst 0, 1) := by decide +kernel
theorem dX11_anew_62 : decode cX11_anew 62 = .ok (.lastore, 1) := by decide +kernel
theorem dX11_anew_63 : decode cX11_anew 63 = .ok (.iinc 1 1, 3) := by decide +kernel
theorem dX11_anew_66 : decode cX11_anew 66 = .ok (.goto (-16), 3) := by decide +kernel
theorem dX11_anew_69 : decode cX11_anew 69 = .ok (.aload_n 0, 1) := by decide +kernel
theorem dX11_anew_70 : decode cX11_anew 70 = .ok (.iconst 0, 1) := by decide +kernel
theorem dX11_anew_71 : decode cX11_anew 71 = .ok (.putfield 114, 3) := by decide +kernel
theorem dX11_anew_74 : decode cX11_anew 74 = .ok (.aload_n 0, 1) := by decide +kernel
theorem dX11_anew_75 : decode cX11_anew 75 = .ok (.iconst 0, 1) := by decide +kernel
theorem dX11_anew_76 : decode cX11_anew 76 = .ok (.putfield 128, 3) := by decide +kernel
theorem dX11_anew_79 : decode cX11_anew 79 = .ok (.aload_n 0, 1) := by decide +kernel
theorem dX11_anew_80 : decode cX11_anew 80 = .ok (.lconst 1, 1) := by decide +kernel
theorem dX11_anew_81 : decode cX11_anew 81 = .ok (.putfield 23, 3) := by decide +kernel
theorem dX11_anew_84 : decode cX11_anew 84 = .ok (.aload_n 0, 1) := by decide +kernel
theorem dX11_anew_85 : decode cX11_anew 85 = .ok (.iconst 0, 1) := by decide +kernel
theorem dX11_anew_86 : decode cX11_anew 86 = .ok (.putfield 125, 3) := by decide +kernel
theorem dX11_anew_89 : decode cX11_anew 89 = .ok (.aload_n 0, 1) := by decide +kernel
theorem dX11_anew_90 : decode cX11_anew 90 = .ok (.iconst 0, 1) := by decide +kernel
theorem dX11_anew_91 : decode cX11_anew 91 = .ok (.putfield 131, 3) := by decide +kernel
theorem dX11_anew_94 : decode cX11_anew 94 = .ok (.aload_n 0, 1) := by decide +kernel
theorem dX11_anew_95 : decode cX11_anew 95 = .ok (.iconst 0, 1) := by decide +kernel
theorem dX11_anew_96 : decode cX11_anew 96 = .ok (.putfield 134, 3) := by decide +kernel
theorem dX11_anew_99 : decode cX11_anew 99 = .ok (.aload_n 0, 1) := by decide +kernel
theorem dX11_anew_100 : decode cX11_anew 100 = .ok (.iconst 0, 1) := by decide +kernel
theorem dX11_anew_101 : decode cX11_anew 101 = .ok (.putfield 137, 3) := by decide +kernel
theorem dX11_anew_104 : decode cX11_anew 104 = .ok (.aload_n 0, 1) := by decide +kernel
theorem dX11_anew_105 : decode cX11_anew 105 = .ok (.iconst 0, 1) := by decide +kernel
theorem dX11_anew_106 : decode cX11_anew 106 = .ok (.putfield 140, 3) := by decide +kernel
theorem dX11_anew_109 : decode cX11_anew 109 = .ok (.iconst 0, 1) := by decide +kernel
theorem dX11_anew_110 : decode cX11_anew 110 = .ok (.istore_n 1, 1) := by decide +kernel
theorem dX11_anew_111 : decode cX11_anew 111 = .ok (.iload_n 1, 1) := by decide +kernel
theorem dX11_anew_112 : decode cX11_anew 112 = .ok (.bipush 8, 2) := by decide +kernel
theorem dX11_anew_114 : decode cX11_anew 114 = .ok (.if_icmp .ge 16, 3) := by decide +kernel
theorem dX11_anew_117 : decode cX11_anew 117 = .ok (.aload_n 0, 1) := by decide +kernel
theorem dX11_anew_118 : decode cX11_anew 118 = .ok (.getfield 39, 3) := by decide +kernel
theorem dX11_anew_121 : decode cX11_anew 121 = .ok (.iload_n 1, 1) := by decide +kernel
theorem dX11_anew_122 : decode cX11_anew 122 = .ok (.iconst 0, 1) := by decide +kernel
theorem dX11_anew_123 : decode cX11_anew 123 = .ok (.bastore, 1) := by decide +kernel
theorem dX11_anew_124 : decode cX11_anew 124 = .ok (.iinc 1 1, 3) := by decide +kernel
theorem dX11_anew_127 : decode cX11_anew 127 = .ok (.goto (-16), 3) := by decide +kernel
theorem dX11_anew_130 : decode cX11_anew 130 = .ok (.aload_n 0, 1) := by decide +kernel
theorem dX11_anew_131 : decode cX11_anew 131 = .ok (.iconst 0, 1) := by decide +kernel
theorem dX11_anew_132 : decode cX11_anew 132 = .ok (.putfield 143, 3) := by decide +kernel
theorem dX11_anew_135 : decode cX11_anew 135 = .ok (.iconst 0, 1) := by decide +kernel
theorem dX11_anew_136 : decode cX11_anew 136 = .ok (.ireturn, 1) := by decide +kernel
theorem dX11_as_0 : decode cX11_as 0 = .ok (.aload_n 0, 1) := by decide +kernel
theorem dX11_as_1 : decode cX11_as 1 = .ok (.iload_n 1, 1) := by decide +kernel
theorem dX11_as_2 : decode cX11_as 2 = .ok (.invokevirtual 121, 3) := by decide +kernel
theorem dX11_as_5 : decode cX11_as 5 = .ok (.ifCond .eq 12, 3) := by decide +kernel
theorem dX11_as_8 : decode cX11_as 8 = .ok (.iload_n 2, 1) := by decide +kernel
theorem dX11_as_9 : decode cX11_as 9 = .ok (.iconst 0, 1) := by decide +kernel
theorem dX11_as_10 : decode cX11_as 10 = .ok (.iconst 4, 1) := by decide +kernel
theorem dX11_as_11 : decode cX11_as 11 = .ok (.invokestatic 98, 3) := by decide +kernel
theorem dX11_as_14 : decode cX11_as 14 = .ok (.ifCond .ne 9, 3) := by decide +kernel
theorem dX11_as_17 : decode cX11_as 17 = .ok (.aload_n 0, 1) := by decide +kernel
theorem dX11_as_18 : decode cX11_as 18 = .ok (.iconst (-1), 1) := by decide +kernel
theorem dX11_as_19 : decode cX11_as 19 = .ok (.invokevirtual 118, 3) := by decide +kernel
theorem dX11_as_22 : decode cX11_as 22 = .ok (.ireturn, 1) := by decide +kernel
theorem dX11_as_23 : decode cX11_as 23 = .ok (.aload_n 0, 1) := by decide +kernel
theorem dX11_as_24 : decode cX11_as 24 = .ok (.getfield 7, 3) := by decide +kernel
theorem dX11_as_27 : decode cX11_as 27 = .ok (.iload_n 1, 1) := by decide +kernel
theorem dX11_as_28 : decode cX11_as 28 = .ok (.iaload, 1) := by decide +kernel
theorem dX11_as_29 : decode cX11_as 29 = .ok (.istore_n 3, 1) := by decide +kernel
theorem dX11_as_30 : decode cX11_as 30 = .ok (.iload_n 2, 1) := by decide +kernel
theorem dX11_as_31 : decode cX11_as 31 = .ok (.ifCond .eq 18, 3) := by decide +kernel
theorem dX11_as_34 : decode cX11_as 34 = .ok (.iload_n 2, 1) := by decide +kernel
theorem dX11_as_35 : decode cX11_as 35 = .ok (.iload_n 3, 1) := by decide +kernel
theorem dX11_as_36 : decode cX11_as 36 = .ok (.if_icmp .eq 13, 3) := by decide +kernel
theorem dX11_as_39 : decode cX11_as 39 = .ok (.iload_n 2, 1) := by decide +kernel
theorem dX11_as_40 : decode cX11_as 40 = .ok (.iload_n 3, 1) := by decide +kernel
theorem dX11_as_41 : decode cX11_as 41 = .ok (.if_icmp .ge 12, 3) := by decide +kernel
theorem dX11_as_44 : decode cX11_as 44 = .ok (.iload_n 3, 1) := by decide +kernel
theorem dX11_as_45 : decode cX11_as 45 = .ok (.iconst 4, 1) := by decide +kernel
theorem dX11_as_46 : decode cX11_as 46 = .ok (.if_icmp .ge 7, 3) := by decide +kernel
theorem dX11_as_49 : decode cX11_as 49 = .ok (.iconst 1, 1) := by decide +kernel
theorem dX11_as_50 : decode cX11_as 50 = .ok (.goto 4, 3) := by decide +kernel
theorem dX11_as_53 : decode cX11_as 53 = .ok (.iconst 0, 1) := by decide +kernel
theorem dX11_as_54 : decode cX11_as 54 = .ok (.istore 4, 2) := by decide +kernel
theorem dX11_as_56 : decode cX11_as 56 = .ok (.iload 4, 2) := by decide +kernel
theorem dX11_as_58 : decode cX11_as 58 = .ok (.ifCond .eq 7, 3) := by decide +kernel
theorem dX11_as_61 : decode cX11_as 61 = .ok (.iload_n 1, 1) := by decide +kernel
theorem dX11_as_62 : decode cX11_as 62 = .ok (.goto 9, 3) := by decide +kernel
theorem dX11_as_65 : decode cX11_as 65 = .ok (.aload_n 0, 1) := by decide +kernel
theorem dX11_as_66 : decode cX11_as 66 = .ok (.bipush (-4), 2) := by decide +kernel
theorem dX11_as_68 : decode cX11_as 68 = .ok (.invokevirtual 118, 3) := by decide +kernel
theorem dX11_as_71 : decode cX11_as 71 = .ok (.ireturn, 1) := by decide +kernel
theorem dX11_weight_0 : decode cX11_weight 0 = .ok (.aload_n 0, 1) := by decide +kernel
theorem dX11_weight_1 : decode cX11_weight 1 = .ok (.iload_n 1, 1) := by decide +kernel
theorem dX11_weight_2 : decode cX11_weight 2 = .ok (.invokevirtual 121, 3) := by decide +kernel
theorem dX11_weight_5 : decode cX11_weight 5 = .ok (.ifCond .eq 21, 3) := by decide +kernel
theorem dX11_weight_8 : decode cX11_weight 8 = .ok (.aload_n 0, 1) := by decide +kernel
theorem dX11_weight_9 : decode cX11_weight 9 = .ok (.iload_n 2, 1) := by decide +kernel
theorem dX11_weight_10 : decode cX11_weight 10 = .ok (.invokevirtual 121, 3) := by decide +kernel
theorem dX11_weight_13 : decode cX11_weight 13 = .ok (.ifCond .ne 19, 3) := by decide +kernel
theorem dX11_weight_16 : decode cX11_weight 16 = .ok (.iload_n 2, 1) := by decide +kernel
theorem dX11_weight_17 : decode cX11_weight 17 = .ok (.bipush (-3), 2) := by decide +kernel
theorem dX11_weight_19 : decode cX11_weight 19 = .ok (.iconst (-1), 1) := by decide +kernel
theorem dX11_weight_20 : decode cX11_weight 20 = .ok (.invokestatic 98, 3) := by decide +kernel
theorem dX11_weight_23 : decode cX11_weight 23 = .ok (.ifCond .ne 9, 3) := by decide +kernel
theorem dX11_weight_26 : decode cX11_weight 26 = .ok (.aload_n 0, 1) := by decide +kernel
theorem dX11_weight_27 : decode cX11_weight 27 = .ok (.iconst (-1), 1) := by decide +kernel
theorem dX11_weight_28 : decode cX11_weight 28 = .ok (.invokevirtual 118, 3) := by decide +kernel
theorem dX11_weight_31 : decode cX11_weight 31 = .ok (.ireturn, 1) := by decide +kernel
theorem dX11_weight_32 : decode cX11_weight 32 = .ok (.aload_n 0, 1) := by decide +kernel
theorem dX11_weight_33 : decode cX11_weight 33 = .ok (.iload_n 1, 1) := by decide +kernel
theorem dX11_weight_34 : decode cX11_weight 34 = .ok (.iload_n 2, 1) := by decide +kernel
theorem dX11_weight_35 : decode cX11_weight 35 = .ok (.ifCond .ge 10, 3) := by decide +kernel
theorem dX11_weight_38 : decode cX11_weight 38 = .ok (.bipush 11, 2) := by decide +kernel
theorem dX11_weight_40 : decode cX11_weight 40 = .ok (.iload_n 2, 1) := by decide +kernel
theorem dX11_weight_41 : decode cX11_weight 41 = .ok (.isub, 1) := by decide +kernel
theorem dX11_weight_42 : decode cX11_weight 42 = .ok (.goto 4, 3) := by decide +kernel
theorem dX11_weight_45 : decode cX11_weight 45 = .ok (.iload_n 2, 1) := by decide +kernel
theorem dX11_weight_46 : decode cX11_weight 46 = .ok (.invokevirtual 102, 3) := by decide +kernel
theorem dX11_weight_49 : decode cX11_weight 49 = .ok (.ireturn, 1) := by decide +kernel
theorem dX11_store_0 : decode cX11_store 0 = .ok (.aload_n 0, 1) := by decide +kernel
theorem dX11_store_1 : decode cX11_store 1 = .ok (.getfield 143, 3) := by decide +kernel
theorem dX11_store_4 : decode cX11_store 4 = .ok (.bipush 20, 2) := by decide +kernel
theorem dX11_store_6 : decode cX11_store 6 = .ok (.if_icmp .ne 155, 3) := by decide +kernel
theorem dX11_store_9 : decode cX11_store 9 = .ok (.iconst 0, 1) := by decide +kernel
theorem dX11_store_10 : decode cX11_store 10 = .ok (.istore_n 1, 1) := by decide +kernel
theorem dX11_store_11 : decode cX11_store 11 = .ok (.iload_n 1, 1) := by decide +kernel
theorem dX11_store_12 : decode cX11_store 12 = .ok (.sipush 285, 3) := by decide +kernel
theorem dX11_store_15 : decode cX11_store 15 = .ok (.if_icmp .ge 24, 3) := by decide +kernel
theorem dX11_store_18 : decode cX11_store 18 = .ok (.aload_n 0, 1) := by decide +kernel
theorem dX11_store_19 : decode cX11_store 19 = .ok (.getfield 58, 3) := by decide +kernel
theorem dX11_store_22 : decode cX11_store 22 = .ok (.iload_n 1, 1) := by decide +kernel
theorem dX11_store_23 : decode cX11_store 23 = .ok (.aload_n 0, 1) := by decide +kernel
theorem dX11_store_24 : decode cX11_store 24 = .ok (.getfield 58, 3) := by decide +kernel
theorem dX11_store_27 : decode cX11_store 27 = .ok (.iload_n 1, 1) := by decide +kernel
theorem dX11_store_28 : decode cX11_store 28 = .ok (.bipush 15, 2) := by decide +kernel
theorem dX11_store_30 : decode cX11_store 30 = .ok (.iadd, 1) := by decide +kernel
theorem dX11_store_31 : decode cX11_store 31 = .ok (.laload, 1) := by decide +kernel
theorem dX11_store_32 : decode cX11_store 32 = .ok (.lastore, 1) := by decide +kernel
theorem dX11_store_33 : decode cX11_store 33 = .ok (.iinc 1 1, 3) := by decide +kernel
theorem dX11_store_36 : decode cX11_store 36 = .ok (.goto (-25), 3) := by decide +kernel
theorem dX11_store_39 : decode cX11_store 39 = .ok (.iconst 0, 1) := by decide +kernel
theorem dX11_store_40 : decode cX11_store 40 = .ok (.istore_n 1, 1) := by decide +kernel
theorem dX11_store_41 : decode cX11_store 41 = .ok (.iload_n 1, 1) := by decide +kernel
theorem dX11_store_42 : decode cX11_store 42 = .ok (.sipush 228, 3) := by decide +kernel
theorem dX11_store_45 : decode cX11_store 45 = .ok (.if_icmp .ge 24, 3) := by decide +kernel
theorem dX11_store_48 : decode cX11_store 48 = .ok (.aload_n 0, 1) := by decide +kernel
theorem dX11_store_49 : decode cX11_store 49 = .ok (.getfield 61, 3) := by decide +kernel
theorem dX11_store_52 : decode cX11_store 52 = .ok (.iload_n 1, 1) := by decide +kernel
theorem dX11_store_53 : decode cX11_store 53 = .ok (.aload_n 0, 1) := by decide +kernel
theorem dX11_store_54 : decode cX11_store 54 = .ok (.getfield 61, 3) := by decide +kernel
theorem dX11_store_57 : decode cX11_store 57 = .ok (.iload_n 1, 1) := by decide +kernel
theorem dX11_store_58 : decode cX11_store 58 = .ok (.bipush 12, 2) := by decide +kernel
theorem dX11_store_60 : decode cX11_store 60 = .ok (.iadd, 1) := by decide +kernel
theorem dX11_store_61 : decode cX11_store 61 = .ok (.laload, 1) := by decide +kernel
theorem dX11_store_62 : decode cX11_store 62 = .ok (.lastore, 1) := by decide +kernel
theorem dX11_store_63 : decode cX11_store 63 = .ok (.iinc 1 1, 3) := by decide +kernel
theorem dX11_store_66 : decode cX11_store 66 = .ok (.goto (-25), 3) := by decide +kernel
theorem dX11_store_69 : decode cX11_store 69 = .ok (.iconst 0, 1) := by decide +kernel
theorem dX11_store_70 : decode cX11_store 70 = .ok (.istore_n 1, 1) := by decide +kernel
theorem dX11_store_71 : decode cX11_store 71 = .ok (.iload_n 1, 1) := by decide +kernel
theorem dX11_store_72 : decode cX11_store 72 = .ok (.sipush 228, 3) := by decide +kernel
theorem dX11_store_75 : decode cX11_store 75 = .ok (.if_icmp .ge 24, 3) := by decide +kernel
theorem dX11_store_78 : decode cX11_store 78 = .ok (.aload_n 0, 1) := by decide +kernel
theorem dX11_store_79 : decode cX11_store 79 = .ok (.getfield 67, 3) := by decide +kernel
theorem dX11_store_82 : decode cX11_store 82 = .ok (.iload_n 1, 1) := by decide +kernel
theorem dX11_store_83 : decode cX11_store 83 = .ok (.aload_n 0, 1) := by decide +kernel
theorem dX11_store_84 : decode cX11_store 84 = .ok (.getfield 67, 3) := by decide +kernel
theorem dX11_store_87 : decode cX11_store 87 = .ok (.iload_n 1, 1) := by decide +kernel
theorem dX11_store_88 : decode cX11_store 88 = .ok (.bipush 12, 2) := by decide +kernel
theorem dX11_store_90 : decode cX11_store 90 = .ok (.iadd, 1) := by decide +kernel
theorem dX11_store_91 : decode cX11_store 91 = .ok (.iaload, 1) := by decide +kernel
theorem dX11_store_92 : decode cX11_store 92 = .ok (.iastore, 1) := by decide +kernel
theorem dX11_store_93 : decode cX11_store 93 = .ok (.iinc 1 1, 3) := by decide +kernel
theorem dX11_store_96 : decode cX11_store 96 = .ok (.goto (-25), 3) := by decide +kernel
theorem dX11_store_99 : decode cX11_store 99 = .ok (.iconst 0, 1) := by decide +kernel
theorem dX11_store_100 : decode cX11_store 100 = .ok (.istore_n 1, 1) := by decide +kernel
theorem dX11_store_101 : decode cX11_store 101 = .ok (.iload_n 1, 1) := by decide +kernel
theorem dX11_store_102 : decode cX11_store 102 = .ok (.bipush 19, 2) := by decide +kernel
theorem dX11_store_104 : decode cX11_store 104 = .ok (.if_icmp .ge 23, 3) := by decide +kernel
theorem dX11_store_107 : decode cX11_store 107 = .ok (.aload_n 0, 1) := by decide +kernel
theorem dX11_store_108 : decode cX11_store 108 = .ok (.getfield 64, 3) := by decide +kernel
theorem dX11_store_111 : decode cX11_store 111 = .ok (.iload_n 1, 1) := by decide +kernel
theorem dX11_store_112 : decode cX11_store 112 = .ok (.aload_n 0, 1) := by decide +kernel
theorem dX11_store_113 : decode cX11_store 113 = .ok (.getfield 64, 3) := by decide +kernel
theorem dX11_store_116 : decode cX11_store 116 = .ok (.iload_n 1, 1) := by decide +kernel
theorem dX11_store_117 : decode cX11_store 117 = .ok (.iconst 1, 1) := by decide +kernel
theorem dX11_store_118 : decode cX11_store 118 = .ok (.iadd, 1) := by decide +kernel
theorem dX11_store_119 : decode cX11_store 119 = .ok (.laload, 1) := by decide +kernel
theorem dX11_store_120 : decode cX11_store 120 = .ok (.lastore, 1) := by decide +kernel
theorem dX11_store_121 : decode cX11_store 121 = .ok (.iinc 1 1, 3) := by decide +kernel
theorem dX11_store_124 : decode cX11_store 124 = .ok (.goto (-23), 3) := by decide +kernel
theorem dX11_store_127 : decode cX11_store 127 = .ok (.iconst 0, 1) := by decide +kernel
theorem dX11_store_128 : decode cX11_store 128 = .ok (.istore_n 1, 1) := by decide +kernel
theorem dX11_store_129 : decode cX11_store 129 = .ok (.iload_n 1, 1) := by decide +kernel
theorem dX11_store_130 : decode cX11_store 130 = .ok (.bipush 19, 2) := by decide +kernel
theorem dX11_store_132 : decode cX11_store 132 = .ok (.if_icmp .ge 23, 3) := by decide +kernel
theorem dX11_store_135 : decode cX11_store 135 = .ok (.aload_n 0, 1) := by decide +kernel
theorem dX11_store_136 : decode cX11_store 136 = .ok (.getfield 70, 3) := by decide +kernel
theorem dX11_store_139 : decode cX11_store 139 = .ok (.iload_n 1, 1) := by decide +kernel
theorem dX11_store_140 : decode cX11_store 140 = .ok (.aload_n 0, 1) := by decide +kernel
theorem dX11_store_141 : decode cX11_store 141 = .ok (.getfield 70, 3) := by decide +kernel
theorem dX11_store_144 : decode cX11_store 144 = .ok (.iload_n 1, 1) := by decide +kernel
theorem dX11_store_145 : decode cX11_store 145 = .ok (.iconst 1, 1) := by decide +kernel
theorem dX11_store_146 : decode cX11_store 146 = .ok (.iadd, 1) := by decide +kernel
theorem dX11_store_147 : decode cX11_store 147 = .ok (.iaload, 1) := by decide +kernel
theorem dX11_store_148 : decode cX11_store 148 = .ok (.iastore, 1) := by decide +kernel
theorem dX11_store_149 : decode cX11_store 149 = .ok (.iinc 1 1, 3) := by decide +kernel
theorem dX11_store_152 : decode cX11_store 152 = .ok (.goto (-23), 3) := by decide +kernel
theorem dX11_store_155 : decode cX11_store 155 = .ok (.aload_n 0, 1) := by decide +kernel
theorem dX11_store_156 : decode cX11_store 156 = .ok (.bipush 19, 2) := by decide +kernel
theorem dX11_store_158 : decode cX11_store 158 = .ok (.putfield 143, 3) := by decide +kernel
theorem dX11_store_161 : decode cX11_store 161 = .ok (.iconst 0, 1) := by decide +kernel
theorem dX11_store_162 : decode cX11_store 162 = .ok (.istore_n 1, 1) := by decide +kernel
theorem dX11_store_163 : decode cX11_store 163 = .ok (.iload_n 1, 1) := by decide +kernel
theorem dX11_store_164 : decode cX11_store 164 = .ok (.bipush 15, 2) := by decide +kernel
theorem dX11_store_166 : decode cX11_store 166 = .ok (.if_icmp .ge 29, 3) := by decide +kernel
theorem dX11_store_169 : decode cX11_store 169 = .ok (.aload_n 0, 1) := by decide +kernel
theorem dX11_store_170 : decode cX11_store 170 = .ok (.getfield 58, 3) := by decide +kernel
theorem dX11_store_173 : decode cX11_store 173 = .ok (.bipush 15, 2) := by decide +kernel
theorem dX11_store_175 : decode cX11_store 175 = .ok (.aload_n 0, 1) := by decide +kernel
theorem dX11_store_176 : decode cX11_store 176 = .ok (.getfield 143, 3) := by decide +kernel
theorem dX11_store_179 : decode cX11_store 179 = .ok (.imul, 1) := by decide +kernel
theorem dX11_store_180 : decode cX11_store 180 = .ok (.iload_n 1, 1) := by decide +kernel
theorem dX11_store_181 : decode cX11_store 181 = .ok (.iadd, 1) := by decide +kernel
theorem dX11_store_182 : decode cX11_store 182 = .ok (.aload_n 0, 1) := by decide +kernel
theorem dX11_store_183 : decode cX11_store 183 = .ok (.getfield 16, 3) := by decide +kernel
theorem dX11_store_186 : decode cX11_store 186 = .ok (.iload_n 1, 1) := by decide +kernel
theorem dX11_store_187 : decode cX11_store 187 = .ok (.laload, 1) := by decide +kernel
theorem dX11_store_188 : decode cX11_store 188 = .ok (.lastore, 1) := by decide +kernel
theorem dX11_store_189 : decode cX11_store 189 = .ok (.iinc 1 1, 3) := by decide +kernel
theorem dX11_store_192 : decode cX11_store 192 = .ok (.goto (-29), 3) := by decide +kernel
theorem dX11_store_195 : decode cX11_store 195 = .ok (.iconst 0, 1) := by decide +kernel
theorem dX11_store_196 : decode cX11_store 196 = .ok (.istore_n 1, 1) := by decide +kernel
theorem dX11_store_197 : decode cX11_store 197 = .ok (.iload_n 1, 1) := by decide +kernel
theorem dX11_store_198 : decode cX11_store 198 = .ok (.bipush 12, 2) := by decide +kernel
theorem dX11_store_200 : decode cX11_store 200 = .ok (.if_icmp .ge 29, 3) := by decide +kernel
theorem dX11_store_203 : decode cX11_store 203 = .ok (.aload_n 0, 1) := by decide +kernel
theorem dX11_store_204 : decode cX11_store 204 = .ok (.getfield 61, 3) := by decide +kernel
theorem dX11_store_207 : decode cX11_store 207 = .ok (.bipush 12, 2) := by decide +kernel
theorem dX11_store_209 : decode cX11_store 209 = .ok (.aload_n 0, 1) := by decide +kernel
theorem dX11_store_210 : decode cX11_store 210 = .ok (.getfield 143, 3) := by decide +kernel
theorem dX11_store_213 : decode cX11_store 213 = .ok (.imul, 1) := by decide +kernel
theorem dX11_store_214 : decode cX11_store 214 = .ok (.iload_n 1, 1) := by decide +kernel
theorem dX11_store_215 : decode cX11_store 215 = .ok (.iadd, 1) := by decide +kernel
theorem dX11_store_216 : decode cX11_store 216 = .ok (.aload_n 0, 1) := by decide +kernel
theorem dX11_store_217 : decode cX11_store 217 = .ok (.getfield 20, 3) := by decide +kernel
theorem dX11_store_220 : decode cX11_store 220 = .ok (.iload_n 1, 1) := by decide +kernel
theorem dX11_store_221 : decode cX11_store 221 = .ok (.laload, 1) := by decide +kernel
theorem dX11_store_222 : decode cX11_store 222 = .ok (.lastore, 1) := by decide +kernel
theorem dX11_store_223 : decode cX11_store 223 = .ok (.iinc 1 1, 3) := by decide +kernel
theorem dX11_store_226 : decode cX11_store 226 = .ok (.goto (-29), 3) := by decide +kernel
theorem dX11_store_229 : decode cX11_store 229 = .ok (.iconst 0, 1) := by decide +kernel
theorem dX11_store_230 : decode cX11_store 230 = .ok (.istore_n 1, 1) := by decide +kernel
theorem dX11_store_231 : decode cX11_store 231 = .ok (.iload_n 1, 1) := by decide +kernel
theorem dX11_store_232 : decode cX11_store 232 = .ok (.bipush 12, 2) := by decide +kernel
theorem dX11_store_234 : decode cX11_store 234 = .ok (.if_icmp .ge 29, 3) := by decide +kernel
theorem dX11_store_237 : decode cX11_store 237 = .ok (.aload_n 0, 1) := by decide +kernel
theorem dX11_store_238 : decode cX11_store 238 = .ok (.getfield 67, 3) := by decide +kernel
theorem dX11_store_241 : decode cX11_store 241 = .ok (.bipush 12, 2) := by decide +kernel
theorem dX11_store_243 : decode cX11_store 243 = .ok (.aload_n 0, 1) := by decide +kernel
theorem dX11_store_244 : decode cX11_store 244 = .ok (.getfield 143, 3) := by decide +kernel
theorem dX11_store_247 : decode cX11_store 247 = .ok (.imul, 1) := by decide +kernel
theorem dX11_store_248 : decode cX11_store 248 = .ok (.iload_n 1, 1) := by decide +kernel
theorem dX11_store_249 : decode cX11_store 249 = .ok (.iadd, 1) := by decide +kernel
theorem dX11_store_250 : decode cX11_store 250 = .ok (.aload_n 0, 1) := by decide +kernel
theorem dX11_store_251 : decode cX11_store 251 = .ok (.getfield 30, 3) := by decide +kernel
theorem dX11_store_254 : decode cX11_store 254 = .ok (.iload_n 1, 1) := by decide +kernel
theorem dX11_store_255 : decode cX11_store 255 = .ok (.iaload, 1) := by decide +kernel
theorem dX11_store_256 : decode cX11_store 256 = .ok (.iastore, 1) := by decide +kernel
theorem dX11_store_257 : decode cX11_store 257 = .ok (.iinc 1 1, 3) := by decide +kernel
theorem dX11_store_260 : decode cX11_store 260 = .ok (.goto (-29), 3) := by decide +kernel
theorem dX11_store_263 : decode cX11_store 263 = .ok (.aload_n 0, 1) := by decide +kernel
theorem dX11_store_264 : decode cX11_store 264 = .ok (.getfield 64, 3) := by decide +kernel
theorem dX11_store_267 : decode cX11_store 267 = .ok (.aload_n 0, 1) := by decide +kernel
theorem dX11_store_268 : decode cX11_store 268 = .ok (.getfield 143, 3) := by decide +kernel
theorem dX11_store_271 : decode cX11_store 271 = .ok (.aload_n 0, 1) := by decide +kernel
theorem dX11_store_272 : decode cX11_store 272 = .ok (.getfield 23, 3) := by decide +kernel
theorem dX11_store_275 : decode cX11_store 275 = .ok (.lastore, 1) := by decide +kernel
theorem dX11_store_276 : decode cX11_store 276 = .ok (.aload_n 0, 1) := by decide +kernel
theorem dX11_store_277 : decode cX11_store 277 = .ok (.getfield 70, 3) := by decide +kernel
theorem dX11_store_280 : decode cX11_store 280 = .ok (.aload_n 0, 1) := by decide +kernel
theorem dX11_store_281 : decode cX11_store 281 = .ok (.getfield 143, 3) := by decide +kernel
theorem dX11_store_284 : decode cX11_store 284 = .ok (.aload_n 0, 1) := by decide +kernel
theorem dX11_store_285 : decode cX11_store 285 = .ok (.getfield 131, 3) := by decide +kernel
theorem dX11_store_288 : decode cX11_store 288 = .ok (.iastore, 1) := by decide +kernel
theorem dX11_store_289 : decode cX11_store 289 = .ok (.aload_n 0, 1) := by decide +kernel
theorem dX11_store_290 : decode cX11_store 290 = .ok (.dup, 1) := by decide +kernel
theorem dX11_store_291 : decode cX11_store 291 = .ok (.getfield 143, 3) := by decide +kernel
theorem dX11_store_294 : decode cX11_store 294 = .ok (.iconst 1, 1) := by decide +kernel
theorem dX11_store_295 : decode cX11_store 295 = .ok (.iadd, 1) := by decide +kernel
theorem dX11_store_296 : decode cX11_store 296 = .ok (.putfield 143, 3) := by decide +kernel
theorem dX11_store_299 : decode cX11_store 299 = .ok (.return_, 1) := by decide +kernel
theorem dX11_undo_0 : decode cX11_undo 0 = .ok (.aload_n 0, 1) := by decide +kernel
theorem dX11_undo_1 : decode cX11_undo 1 = .ok (.getfield 143, 3) := by decide +kernel
theorem dX11_undo_4 : decode cX11_undo 4 = .ok (.ifCond .ne 10, 3) := by decide +kernel
theorem dX11_undo_7 : decode cX11_undo 7 = .ok (.aload_n 0, 1) := by decide +kernel
theorem dX11_undo_8 : decode cX11_undo 8 = .ok (.bipush (-11), 2) := by decide +kernel
theorem dX11_undo_10 : decode cX11_undo 10 = .ok (.invokevirtual 118, 3) := by decide +kernel
theorem dX11_undo_13 : decode cX11_undo 13 = .ok (.ireturn, 1) := by decide +kernel
theorem dX11_undo_14 : decode cX11_undo 14 = .ok (.aload_n 0, 1) := by decide +kernel
theorem dX11_undo_15 : decode cX11_undo 15 = .ok (.dup, 1) := by decide +kernel
theorem dX11_undo_16 : decode cX11_undo 16 = .ok (.getfield 143, 3) := by decide +kernel
theorem dX11_undo_19 : decode cX11_undo 19 = .ok (.iconst 1, 1) := by decide +kernel
theorem dX11_undo_20 : decode cX11_undo 20 = .ok (.isub, 1) := by decide +kernel
theorem dX11_undo_21 : decode cX11_undo 21 = .ok (.putfield 143, 3) := by decide +kernel
theorem dX11_undo_24 : decode cX11_undo 24 = .ok (.iconst 0, 1) := by decide +kernel
theorem dX11_undo_25 : decode cX11_undo 25 = .ok (.istore_n 1, 1) := by decide +kernel
theorem dX11_undo_26 : decode cX11_undo 26 = .ok (.iload_n 1, 1) := by decide +kernel
theorem dX11_undo_27 : decode cX11_undo 27 = .ok (.bipush 15, 2) := by decide +kernel
theorem dX11_undo_29 : decode cX11_undo 29 = .ok (.if_icmp .ge 29, 3) := by decide +kernel
theorem dX11_undo_32 : decode cX11_undo 32 = .ok (.aload_n 0, 1) := by decide +kernel
theorem dX11_undo_33 : decode cX11_undo 33 = .ok (.getfield 16, 3) := by decide +kernel
theorem dX11_undo_36 : decode cX11_undo 36 = .ok (.iload_n 1, 1) := by decide +kernel
theorem dX11_undo_37 : decode cX11_undo 37 = .ok (.aload_n 0, 1) := by decide +kernel
theorem dX11_undo_38 : decode cX11_undo 38 = .ok (.getfield 58, 3) := by decide +kernel
theorem dX11_undo_41 : decode cX11_undo 41 = .ok (.bipush 15, 2) := by decide +kernel
theorem dX11_undo_43 : decode cX11_undo 43 = .ok (.aload_n 0, 1) := by decide +kernel
theorem dX11_undo_44 : decode cX11_undo 44 = .ok (.getfield 143, 3) := by decide +kernel
theorem dX11_undo_47 : decode cX11_undo 47 = .ok (.imul, 1) := by decide +kernel
theorem dX11_undo_48 : decode cX11_undo 48 = .ok (.iload_n 1, 1) := by decide +kernel
theorem dX11_undo_49 : decode cX11_undo 49 = .ok (.iadd, 1) := by decide +kernel
theorem dX11_undo_50 : decode cX11_undo 50 = .ok (.laload, 1) := by decide +kernel
theorem dX11_undo_51 : decode cX11_undo 51 = .ok (.lastore, 1) := by decide +kernel
theorem dX11_undo_52 : decode cX11_undo 52 = .ok (.iinc 1 1, 3) := by decide +kernel
theorem dX11_undo_55 : decode cX11_undo 55 = .ok (.goto (-29), 3) := by decide +kernel
theorem dX11_undo_58 : decode cX11_undo 58 = .ok (.iconst 0, 1) := by decide +kernel
theorem dX11_undo_59 : decode cX11_undo 59 = .ok (.istore_n 1, 1) := by decide +kernel
theorem dX11_undo_60 : decode cX11_undo 60 = .ok (.iload_n 1, 1) := by decide +kernel
theorem dX11_undo_61 : decode cX11_undo 61 = .ok (.bipush 12, 2) := by decide +kernel
theorem dX11_undo_63 : decode cX11_undo 63 = .ok (.if_icmp .ge 29, 3) := by decide +kernel
theorem dX11_undo_66 : decode cX11_undo 66 = .ok (.aload_n 0, 1) := by decide +kernel
theorem dX11_undo_67 : decode cX11_undo 67 = .ok (.getfield 20, 3) := by decide +kernel
theorem dX11_undo_70 : decode cX11_undo 70 = .ok (.iload_n 1, 1) := by decide +kernel
theorem dX11_undo_71 : decode cX11_undo 71 = .ok (.aload_n 0, 1) := by decide +kernel
theorem dX11_undo_72 : decode cX11_undo 72 = .ok (.getfield 61, 3) := by decide +kernel
theorem dX11_undo_75 : decode cX11_undo 75 = .ok (.bipush 12, 2) := by decide +kernel
theorem dX11_undo_77 : decode cX11_undo 77 = .ok (.aload_n 0, 1) := by decide +kernel
theorem dX11_undo_78 : decode cX11_undo 78 = .ok (.getfield 143, 3) := by decide +kernel
theorem dX11_undo_81 : decode cX11_undo 81 = .ok (.imul, 1) := by decide +kernel
theorem dX11_undo_82 : decode cX11_undo 82 = .ok (.iload_n 1, 1) := by decide +kernel
theorem dX11_undo_83 : decode cX11_undo 83 = .ok (.iadd, 1) := by decide +kernel
theorem dX11_undo_84 : decode cX11_undo 84 = .ok (.laload, 1) := by decide +kernel
theorem dX11_undo_85 : decode cX11_undo 85 = .ok (.lastore, 1) := by decide +kernel
theorem dX11_undo_86 : decode cX11_undo 86 = .ok (.iinc 1 1, 3) := by decide +kernel
theorem dX11_undo_89 : decode cX11_undo 89 = .ok (.goto (-29), 3) := by decide +kernel
theorem dX11_undo_92 : decode cX11_undo 92 = .ok (.iconst 0, 1) := by decide +kernel
theorem dX11_undo_93 : decode cX11_undo 93 = .ok (.istore_n 1, 1) := by decide +kernel
theorem dX11_undo_94 : decode cX11_undo 94 = .ok (.iload_n 1, 1) := by decide +kernel
theorem dX11_undo_95 : decode cX11_undo 95 = .ok (.bipush 12, 2) := by decide +kernel
theorem dX11_undo_97 : decode cX11_undo 97 = .ok (.if_icmp .ge 29, 3) := by decide +kernel
theorem dX11_undo_100 : decode cX11_undo 100 = .ok (.aload_n 0, 1) := by decide +kernel
theorem dX11_undo_101 : decode cX11_undo 101 = .ok (.getfield 30, 3) := by decide +kernel
theorem dX11_undo_104 : decode cX11_undo 104 = .ok (.iload_n 1, 1) := by decide +kernel
theorem dX11_undo_105 : decode cX11_undo 105 = .ok (.aload_n 0, 1) := by decide +kernel
theorem dX11_undo_106 : decode cX11_undo 106 = .ok (.getfield 67, 3) := by decide +kernel
theorem dX11_undo_109 : decode cX11_undo 109 = .ok (.bipush 12, 2) := by decide +kernel
theorem dX11_undo_111 : decode cX11_undo 111 = .ok (.aload_n 0, 1) := by decide +kernel
theorem dX11_undo_112 : decode cX11_undo 112 = .ok (.getfield 143, 3) := by decide +kernel
theorem dX11_undo_115 : decode cX11_undo 115 = .ok (.imul, 1) := by decide +kernel
theorem dX11_undo_116 : decode cX11_undo 116 = .ok (.iload_n 1, 1) := by decide +kernel
theorem dX11_undo_117 : decode cX11_undo 117 = .ok (.iadd, 1) := by decide +kernel
theorem dX11_undo_118 : decode cX11_undo 118 = .ok (.iaload, 1) := by decide +kernel
theorem dX11_undo_119 : decode cX11_undo 119 = .ok (.iastore, 1) := by decide +kernel
theorem dX11_undo_120 : decode cX11_undo 120 = .ok (.iinc 1 1, 3) := by decide +kernel
theorem dX11_undo_123 : decode cX11_undo 123 = .ok (.goto (-29), 3) := by decide +kernel
theorem dX11_undo_126 : decode cX11_undo 126 = .ok (.aload_n 0, 1) := by decide +kernel
theorem dX11_undo_127 : decode cX11_undo 127 = .ok (.aload_n 0, 1) := by decide +kernel
theorem dX11_undo_128 : decode cX11_undo 128 = .ok (.getfield 64, 3) := by decide +kernel
theorem dX11_undo_131 : decode cX11_undo 131 = .ok (.aload_n 0, 1) := by decide +kernel
theorem dX11_undo_132 : decode cX11_undo 132 = .ok (.getfield 143, 3) := by decide +kernel
theorem dX11_undo_135 : decode cX11_undo 135 = .ok (.laload, 1) := by decide +kernel
theorem dX11_undo_136 : decode cX11_undo 136 = .ok (.putfield 23, 3) := by decide +kernel
theorem dX11_undo_139 : decode cX11_undo 139 = .ok (.aload_n 0, 1) := by decide +kernel
theorem dX11_undo_140 : decode cX11_undo 140 = .ok (.aload_n 0, 1) := by decide +kernel
theorem dX11_undo_141 : decode cX11_undo 141 = .ok (.getfield 70, 3) := by decide +kernel
theorem dX11_undo_144 : decode cX11_undo 144 = .ok (.aload_n 0, 1) := by decide +kernel
theorem dX11_undo_145 : decode cX11_undo 145 = .ok (.getfield 143, 3) := by decide +kernel
theorem dX11_undo_148 : decode cX11_undo 148 = .ok (.iaload, 1) := by decide +kernel
theorem dX11_undo_149 : decode cX11_undo 149 = .ok (.putfield 131, 3) := by decide +kernel
theorem dX11_undo_152 : decode cX11_undo 152 = .ok (.aload_n 0, 1) := by decide +kernel
theorem dX11_undo_153 : decode cX11_undo 153 = .ok (.getfield 143, 3) := by decide +kernel
theorem dX11_undo_156 : decode cX11_undo 156 = .ok (.ireturn, 1) := by decide +kernel
theorem dX11_lay_0 : decode cX11_lay 0 = .ok (.aload_n 0, 1) := by decide +kernel
theorem dX11_lay_1 : decode cX11_lay 1 = .ok (.iload_n 1, 1) := by decide +kernel
theorem dX11_lay_2 : decode cX11_lay 2 = .ok (.invokevirtual 121, 3) := by decide +kernel
theorem dX11_lay_5 : decode cX11_lay 5 = .ok (.ifCond .ne 9, 3) := by decide +kernel
theorem dX11_lay_8 : decode cX11_lay 8 = .ok (.aload_n 0, 1) := by decide +kernel
theorem dX11_lay_9 : decode cX11_lay 9 = .ok (.iconst (-1), 1) := by decide +kernel
theorem dX11_lay_10 : decode cX11_lay 10 = .ok (.invokevirtual 118, 3) := by decide +kernel
theorem dX11_lay_13 : decode cX11_lay 13 = .ok (.ireturn, 1) := by decide +kernel
theorem dX11_lay_14 : decode cX11_lay 14 = .ok (.aload_n 0, 1) := by decide +kernel
theorem dX11_lay_15 : decode cX11_lay 15 = .ok (.getfield 114, 3) := by decide +kernel
theorem dX11_lay_18 : decode cX11_lay 18 = .ok (.ifCond .ne 10, 3) := by decide +kernel
theorem dX11_lay_21 : decode cX11_lay 21 = .ok (.aload_n 0, 1) := by decide +kernel
theorem dX11_lay_22 : decode cX11_lay 22 = .ok (.bipush (-8), 2) := by decide +kernel
theorem dX11_lay_24 : decode cX11_lay 24 = .ok (.invokevirtual 118, 3) := by decide +kernel
theorem dX11_lay_27 : decode cX11_lay 27 = .ok (.ireturn, 1) := by decide +kernel
theorem dX11_lay_28 : decode cX11_lay 28 = .ok (.aload_n 0, 1) := by decide +kernel
theorem dX11_lay_29 : decode cX11_lay 29 = .ok (.getfield 16, 3) := by decide +kernel
theorem dX11_lay_32 : decode cX11_lay 32 = .ok (.iload_n 1, 1) := by decide +kernel
theorem dX11_lay_33 : decode cX11_lay 33 = .ok (.laload, 1) := by decide +kernel
theorem dX11_lay_34 : decode cX11_lay 34 = .ok (.iload_n 2, 1) := by decide +kernel
theorem dX11_lay_35 : decode cX11_lay 35 = .ok (.i2l, 1) := by decide +kernel
theorem dX11_lay_36 : decode cX11_lay 36 = .ok (.ladd, 1) := by decide +kernel
theorem dX11_lay_37 : decode cX11_lay 37 = .ok (.lstore_n 3, 1) := by decide +kernel
theorem dX11_lay_38 : decode cX11_lay 38 = .ok (.lload_n 3, 1) := by decide +kernel
theorem dX11_lay_39 : decode cX11_lay 39 = .ok (.lconst 0, 1) := by decide +kernel
theorem dX11_lay_40 : decode cX11_lay 40 = .ok (.lcmp, 1) := by decide +kernel
theorem dX11_lay_41 : decode cX11_lay 41 = .ok (.ifCond .ge 10, 3) := by decide +kernel
theorem dX11_lay_44 : decode cX11_lay 44 = .ok (.aload_n 0, 1) := by decide +kernel
theorem dX11_lay_45 : decode cX11_lay 45 = .ok (.bipush (-13), 2) := by decide +kernel
theorem dX11_lay_47 : decode cX11_lay 47 = .ok (.invokevirtual 118, 3) := by decide +kernel
theorem dX11_lay_50 : decode cX11_lay 50 = .ok (.ireturn, 1) := by decide +kernel
theorem dX11_lay_51 : decode cX11_lay 51 = .ok (.lload_n 3, 1) := by decide +kernel
theorem dX11_lay_52 : decode cX11_lay 52 = .ok (.ldc2_w 146, 3) := by decide +kernel
theorem dX11_lay_55 : decode cX11_lay 55 = .ok (.lcmp, 1) := by decide +kernel
theorem dX11_lay_56 : decode cX11_lay 56 = .ok (.ifCond .le 10, 3) := by decide +kernel
theorem dX11_lay_59 : decode cX11_lay 59 = .ok (.aload_n 0, 1) := by decide +kernel
theorem dX11_lay_60 : decode cX11_lay 60 = .ok (.bipush (-5), 2) := by decide +kernel
theorem dX11_lay_62 : decode cX11_lay 62 = .ok (.invokevirtual 118, 3) := by decide +kernel
theorem dX11_lay_65 : decode cX11_lay 65 = .ok (.ireturn, 1) := by decide +kernel
theorem dX11_lay_66 : decode cX11_lay 66 = .ok (.aload_n 0, 1) := by decide +kernel
theorem dX11_lay_67 : decode cX11_lay 67 = .ok (.invokevirtual 148, 3) := by decide +kernel
theorem dX11_lay_70 : decode cX11_lay 70 = .ok (.aload_n 0, 1) := by decide +kernel
theorem dX11_lay_71 : decode cX11_lay 71 = .ok (.getfield 16, 3) := by decide +kernel
theorem dX11_lay_74 : decode cX11_lay 74 = .ok (.iload_n 1, 1) := by decide +kernel
theorem dX11_lay_75 : decode cX11_lay 75 = .ok (.lload_n 3, 1) := by decide +kernel
theorem dX11_lay_76 : decode cX11_lay 76 = .ok (.lastore, 1) := by decide +kernel
theorem dX11_lay_77 : decode cX11_lay 77 = .ok (.lload_n 3, 1) := by decide +kernel
theorem dX11_lay_78 : decode cX11_lay 78 = .ok (.l2i, 1) := by decide +kernel
theorem dX11_lay_79 : decode cX11_lay 79 = .ok (.ireturn, 1) := by decide +kernel
theorem dX11_grains_0 : decode cX11_grains 0 = .ok (.aload_n 0, 1) := by decide +kernel
theorem dX11_grains_1 : decode cX11_grains 1 = .ok (.iload_n 1, 1) := by decide +kernel
theorem dX11_grains_2 : decode cX11_grains 2 = .ok (.invokevirtual 121, 3) := by decide +kernel
theorem dX11_grains_5 : decode cX11_grains 5 = .ok (.ifCond .ne 20, 3) := by decide +kernel
theorem dX11_grains_8 : decode cX11_grains 8 = .ok (.iload_n 1, 1) := by decide +kernel
theorem dX11_grains_9 : decode cX11_grains 9 = .ok (.bipush (-3), 2) := by decide +kernel
theorem dX11_grains_11 : decode cX11_grains 11 = .ok (.iconst (-1), 1) := by decide +kernel
theorem dX11_grains_12 : decode cX11_grains 12 = .ok (.invokestatic 98, 3) := by decide +kernel
theorem dX11_grains_15 : decode cX11_grains 15 = .ok (.ifCond .ne 10, 3) := by decide +kernel
theorem dX11_grains_18 : decode cX11_grains 18 = .ok (.aload_n 0, 1) := by decide +kernel
theorem dX11_grains_19 : decode cX11_grains 19 = .ok (.iconst (-1), 1) := by decide +kernel
theorem dX11_grains_20 : decode cX11_grains 20 = .ok (.invokevirtual 118, 3) := by decide +kernel
theorem dX11_grains_23 : decode cX11_grains 23 = .ok (.i2l, 1) := by decide +kernel
theorem dX11_grains_24 : decode cX11_grains 24 = .ok (.lreturn, 1) := by decide +kernel
theorem dX11_grains_25 : decode cX11_grains 25 = .ok (.aload_n 0, 1) := by decide +kernel
theorem dX11_grains_26 : decode cX11_grains 26 = .ok (.getfield 16, 3) := by decide +kernel
theorem dX11_grains_29 : decode cX11_grains 29 = .ok (.iload_n 1, 1) := by decide +kernel
theorem dX11_grains_30 : decode cX11_grains 30 = .ok (.ifCond .ge 10, 3) := by decide +kernel
theorem dX11_grains_33 : decode cX11_grains 33 = .ok (.bipush 11, 2) := by decide +kernel
theorem dX11_grains_35 : decode cX11_grains 35 = .ok (.iload_n 1, 1) := by decide +kernel
theorem dX11_grains_36 : decode cX11_grains 36 = .ok (.isub, 1) := by decide +kernel
theorem dX11_grains_37 : decode cX11_grains 37 = .ok (.goto 4, 3) := by decide +kernel
theorem dX11_grains_40 : decode cX11_grains 40 = .ok (.iload_n 1, 1) := by decide +kernel
theorem dX11_grains_41 : decode cX11_grains 41 = .ok (.laload, 1) := by decide +kernel
theorem dX11_grains_42 : decode cX11_grains 42 = .ok (.lreturn, 1) := by decide +kernel
theorem dX11_due_0 : decode cX11_due 0 = .ok (.aload_n 0, 1) := by decide +kernel
theorem dX11_due_1 : decode cX11_due 1 = .ok (.invokevirtual 151, 3) := by decide +kernel
theorem dX11_due_4 : decode cX11_due 4 = .ok (.ireturn, 1) := by decide +kernel
theorem dX11_times_0 : decode cX11_times 0 = .ok (.aload_n 0, 1) := by decide +kernel
theorem dX11_times_1 : decode cX11_times 1 = .ok (.iload_n 2, 1) := by decide +kernel
theorem dX11_times_2 : decode cX11_times 2 = .ok (.invokevirtual 155, 3) := by decide +kernel
theorem dX11_times_5 : decode cX11_times 5 = .ok (.ifCond .eq 16, 3) := by decide +kernel
theorem dX11_times_8 : decode cX11_times 8 = .ok (.aload_n 1, 1) := by decide +kernel
theorem dX11_times_9 : decode cX11_times 9 = .ok (.iload_n 2, 1) := by decide +kernel
theorem dX11_times_10 : decode cX11_times 10 = .ok (.laload, 1) := by decide +kernel
theorem dX11_times_11 : decode cX11_times 11 = .ok (.aload_n 0, 1) := by decide +kernel
theorem dX11_times_12 : decode cX11_times 12 = .ok (.iload_n 2, 1) := by decide +kernel
theorem dX11_times_13 : decode cX11_times 13 = .ok (.invokevirtual 106, 3) := by decide +kernel
theorem dX11_times_16 : decode cX11_times 16 = .ok (.i2l, 1) := by decide +kernel
theorem dX11_times_17 : decode cX11_times 17 = .ok (.ldiv, 1) := by decide +kernel
theorem dX11_times_18 : decode cX11_times 18 = .ok (.goto 4, 3) := by decide +kernel
theorem dX11_times_21 : decode cX11_times 21 = .ok (.lconst 1, 1) := by decide +kernel
theorem dX11_times_22 : decode cX11_times 22 = .ok (.lreturn, 1) := by decide +kernel
theorem dX11_isTooMuch_0 : decode cX11_isTooMuch 0 = .ok (.aload_n 0, 1) := by decide +kernel
theorem dX11_isTooMuch_1 : decode cX11_isTooMuch 1 = .ok (.aload_n 1, 1) := by decide +kernel
theorem dX11_isTooMuch_2 : decode cX11_isTooMuch 2 = .ok (.iload_n 2, 1) := by decide +kernel
theorem dX11_isTooMuch_3 : decode cX11_isTooMuch 3 = .ok (.invokevirtual 158, 3) := by decide +kernel
theorem dX11_isTooMuch_6 : decode cX11_isTooMuch 6 = .ok (.lstore_n 3, 1) := by decide +kernel
theorem dX11_isTooMuch_7 : decode cX11_isTooMuch 7 = .ok (.iconst 0, 1) := by decide +kernel
theorem dX11_isTooMuch_8 : decode cX11_isTooMuch 8 = .ok (.istore 5, 2) := by decide +kernel
theorem dX11_isTooMuch_10 : decode cX11_isTooMuch 10 = .ok (.iload 5, 2) := by decide +kernel
theorem dX11_isTooMuch_12 : decode cX11_isTooMuch 12 = .ok (.aload_n 0, 1) := by decide +kernel
theorem dX11_isTooMuch_13 : decode cX11_isTooMuch 13 = .ok (.getfield 95, 3) := by decide +kernel
theorem dX11_isTooMuch_16 : decode cX11_isTooMuch 16 = .ok (.if_icmp .ge 39, 3) := by decide +kernel
theorem dX11_isTooMuch_19 : decode cX11_isTooMuch 19 = .ok (.aload_n 1, 1) := by decide +kernel
theorem dX11_isTooMuch_20 : decode cX11_isTooMuch 20 = .ok (.iload 5, 2) := by decide +kernel
theorem dX11_isTooMuch_22 : decode cX11_isTooMuch 22 = .ok (.laload, 1) := by decide +kernel
theorem dX11_isTooMuch_23 : decode cX11_isTooMuch 23 = .ok (.lload_n 3, 1) := by decide +kernel
theorem dX11_isTooMuch_24 : decode cX11_isTooMuch 24 = .ok (.aload_n 0, 1) := by decide +kernel
theorem dX11_isTooMuch_25 : decode cX11_isTooMuch 25 = .ok (.iload_n 2, 1) := by decide +kernel
theorem dX11_isTooMuch_26 : decode cX11_isTooMuch 26 = .ok (.iload 5, 2) := by decide +kernel
theorem dX11_isTooMuch_28 : decode cX11_isTooMuch 28 = .ok (.invokevirtual 102, 3) := by decide +kernel
theorem dX11_isTooMuch_31 : decode cX11_isTooMuch 31 = .ok (.i2l, 1) := by decide +kernel
theorem dX11_isTooMuch_32 : decode cX11_isTooMuch 32 = .ok (.lmul, 1) := by decide +kernel
theorem dX11_isTooMuch_33 : decode cX11_isTooMuch 33 = .ok (.ladd, 1) := by decide +kernel
theorem dX11_isTooMuch_34 : decode cX11_isTooMuch 34 = .ok (.ldc2_w 146, 3) := by decide +kernel
theorem dX11_isTooMuch_37 : decode cX11_isTooMuch 37 = .ok (.lcmp, 1) := by decide +kernel
theorem dX11_isTooMuch_38 : decode cX11_isTooMuch 38 = .ok (.ifCond .le 11, 3) := by decide +kernel
theorem dX11_isTooMuch_41 : decode cX11_isTooMuch 41 = .ok (.iload 5, 2) := by decide +kernel
theorem dX11_isTooMuch_43 : decode cX11_isTooMuch 43 = .ok (.iload_n 2, 1) := by decide +kernel
theorem dX11_isTooMuch_44 : decode cX11_isTooMuch 44 = .ok (.if_icmp .eq 5, 3) := by decide +kernel
theorem dX11_isTooMuch_47 : decode cX11_isTooMuch 47 = .ok (.iconst 1, 1) := by decide +kernel
theorem dX11_isTooMuch_48 : decode cX11_isTooMuch 48 = .ok (.ireturn, 1) := by decide +kernel
theorem dX11_isTooMuch_49 : decode cX11_isTooMuch 49 = .ok (.iinc 5 1, 3) := by decide +kernel
theorem dX11_isTooMuch_52 : decode cX11_isTooMuch 52 = .ok (.goto (-42), 3) := by decide +kernel
theorem dX11_isTooMuch_55 : decode cX11_isTooMuch 55 = .ok (.iconst 0, 1) := by decide +kernel
theorem dX11_isTooMuch_56 : decode cX11_isTooMuch 56 = .ok (.ireturn, 1) := by decide +kernel
theorem dX11_slides_0 : decode cX11_slides 0 = .ok (.aload_n 0, 1) := by decide +kernel
theorem dX11_slides_1 : decode cX11_slides 1 = .ok (.aload_n 1, 1) := by decide +kernel
theorem dX11_slides_2 : decode cX11_slides 2 = .ok (.iload_n 2, 1) := by decide +kernel
theorem dX11_slides_3 : decode cX11_slides 3 = .ok (.invokevirtual 158, 3) := by decide +kernel
theorem dX11_slides_6 : decode cX11_slides 6 = .ok (.lstore_n 3, 1) := by decide +kernel
theorem dX11_slides_7 : decode cX11_slides 7 = .ok (.aload_n 1, 1) := by decide +kernel
theorem dX11_slides_8 : decode cX11_slides 8 = .ok (.iload_n 2, 1) := by decide +kernel
theorem dX11_slides_9 : decode cX11_slides 9 = .ok (.dup2, 1) := by decide +kernel
theorem dX11_slides_10 : decode cX11_slides 10 = .ok (.laload, 1) := by decide +kernel
theorem dX11_slides_11 : decode cX11_slides 11 = .ok (.lload_n 3, 1) := by decide +kernel
theorem dX11_slides_12 : decode cX11_slides 12 = .ok (.aload_n 0, 1) := by decide +kernel
theorem dX11_slides_13 : decode cX11_slides 13 = .ok (.iload_n 2, 1) := by decide +kernel
theorem dX11_slides_14 : decode cX11_slides 14 = .ok (.invokevirtual 106, 3) := by decide +kernel
theorem dX11_slides_17 : decode cX11_slides 17 = .ok (.i2l, 1) := by decide +kernel
theorem dX11_slides_18 : decode cX11_slides 18 = .ok (.lmul, 1) := by decide +kernel
theorem dX11_slides_19 : decode cX11_slides 19 = .ok (.lsub, 1) := by decide +kernel
theorem dX11_slides_20 : decode cX11_slides 20 = .ok (.lastore, 1) := by decide +kernel
theorem dX11_slides_21 : decode cX11_slides 21 = .ok (.iconst 0, 1) := by decide +kernel
theorem dX11_slides_22 : decode cX11_slides 22 = .ok (.istore 5, 2) := by decide +kernel
theorem dX11_slides_24 : decode cX11_slides 24 = .ok (.iload 5, 2) := by decide +kernel
theorem dX11_slides_26 : decode cX11_slides 26 = .ok (.bipush 15, 2) := by decide +kernel
theorem dX11_slides_28 : decode cX11_slides 28 = .ok (.if_icmp .ge 26, 3) := by decide +kernel
theorem dX11_slides_31 : decode cX11_slides 31 = .ok (.aload_n 1, 1) := by decide +kernel
theorem dX11_slides_32 : decode cX11_slides 32 = .ok (.iload 5, 2) := by decide +kernel
theorem dX11_slides_34 : decode cX11_slides 34 = .ok (.dup2, 1) := by decide +kernel
theorem dX11_slides_35 : decode cX11_slides 35 = .ok (.laload, 1) := by decide +kernel
theorem dX11_slides_36 : decode cX11_slides 36 = .ok (.lload_n 3, 1) := by decide +kernel
theorem dX11_slides_37 : decode cX11_slides 37 = .ok (.aload_n 0, 1) := by decide +kernel
theorem dX11_slides_38 : decode cX11_slides 38 = .ok (.iload_n 2, 1) := by decide +kernel
theorem dX11_slides_39 : decode cX11_slides 39 = .ok (.iload 5, 2) := by decide +kernel
theorem dX11_slides_41 : decode cX11_slides 41 = .ok (.invokevirtual 102, 3) := by decide +kernel
theorem dX11_slides_44 : decode cX11_slides 44 = .ok (.i2l, 1) := by decide +kernel
theorem dX11_slides_45 : decode cX11_slides 45 = .ok (.lmul, 1) := by decide +kernel
theorem dX11_slides_46 : decode cX11_slides 46 = .ok (.ladd, 1) := by decide +kernel
theorem dX11_slides_47 : decode cX11_slides 47 = .ok (.lastore, 1) := by decide +kernel
theorem dX11_slides_48 : decode cX11_slides 48 = .ok (.iinc 5 1, 3) := by decide +kernel
theorem dX11_slides_51 : decode cX11_slides 51 = .ok (.goto (-27), 3) := by decide +kernel
theorem dX11_slides_54 : decode cX11_slides 54 = .ok (.lload_n 3, 1) := by decide +kernel
theorem dX11_slides_55 : decode cX11_slides 55 = .ok (.lreturn, 1) := by decide +kernel
theorem dX11_slide_0 : decode cX11_slide 0 = .ok (.aload_n 0, 1) := by decide +kernel
theorem dX11_slide_1 : decode cX11_slide 1 = .ok (.iload_n 1, 1) := by decide +kernel
theorem dX11_slide_2 : decode cX11_slide 2 = .ok (.invokevirtual 121, 3) := by decide +kernel
theorem dX11_slide_5 : decode cX11_slide 5 = .ok (.ifCond .ne 9, 3) := by decide +kernel
theorem dX11_slide_8 : decode cX11_slide 8 = .ok (.aload_n 0, 1) := by decide +kernel
theorem dX11_slide_9 : decode cX11_slide 9 = .ok (.iconst (-1), 1) := by decide +kernel
theorem dX11_slide_10 : decode cX11_slide 10 = .ok (.invokevirtual 118, 3) := by decide +kernel
theorem dX11_slide_13 : decode cX11_slide 13 = .ok (.ireturn, 1) := by decide +kernel
theorem dX11_slide_14 : decode cX11_slide 14 = .ok (.aload_n 0, 1) := by decide +kernel
theorem dX11_slide_15 : decode cX11_slide 15 = .ok (.getfield 16, 3) := by decide +kernel
theorem dX11_slide_18 : decode cX11_slide 18 = .ok (.iload_n 1, 1) := by decide +kernel
theorem dX11_slide_19 : decode cX11_slide 19 = .ok (.laload, 1) := by decide +kernel
theorem dX11_slide_20 : decode cX11_slide 20 = .ok (.aload_n 0, 1) := by decide +kernel
theorem dX11_slide_21 : decode cX11_slide 21 = .ok (.iload_n 1, 1) := by decide +kernel
theorem dX11_slide_22 : decode cX11_slide 22 = .ok (.invokevirtual 106, 3) := by decide +kernel
theorem dX11_slide_25 : decode cX11_slide 25 = .ok (.invokestatic 110, 3) := by decide +kernel
theorem dX11_slide_28 : decode cX11_slide 28 = .ok (.ifCond .ne 10, 3) := by decide +kernel
theorem dX11_slide_31 : decode cX11_slide 31 = .ok (.aload_n 0, 1) := by decide +kernel
theorem dX11_slide_32 : decode cX11_slide 32 = .ok (.bipush (-8), 2) := by decide +kernel
theorem dX11_slide_34 : decode cX11_slide 34 = .ok (.invokevirtual 118, 3) := by decide +kernel
theorem dX11_slide_37 : decode cX11_slide 37 = .ok (.ireturn, 1) := by decide +kernel
theorem dX11_slide_38 : decode cX11_slide 38 = .ok (.aload_n 0, 1) := by decide +kernel
theorem dX11_slide_39 : decode cX11_slide 39 = .ok (.aload_n 0, 1) := by decide +kernel
theorem dX11_slide_40 : decode cX11_slide 40 = .ok (.getfield 16, 3) := by decide +kernel
theorem dX11_slide_43 : decode cX11_slide 43 = .ok (.iload_n 1, 1) := by decide +kernel
theorem dX11_slide_44 : decode cX11_slide 44 = .ok (.invokevirtual 162, 3) := by decide +kernel
theorem dX11_slide_47 : decode cX11_slide 47 = .ok (.ifCond .eq 10, 3) := by decide +kernel
theorem dX11_slide_50 : decode cX11_slide 50 = .ok (.aload_n 0, 1) := by decide +kernel
theorem dX11_slide_51 : decode cX11_slide 51 = .ok (.bipush (-5), 2) := by decide +kernel
theorem dX11_slide_53 : decode cX11_slide 53 = .ok (.invokevirtual 118, 3) := by decide +kernel
theorem dX11_slide_56 : decode cX11_slide 56 = .ok (.ireturn, 1) := by decide +kernel
theorem dX11_slide_57 : decode cX11_slide 57 = .ok (.aload_n 0, 1) := by decide +kernel
theorem dX11_slide_58 : decode cX11_slide 58 = .ok (.invokevirtual 148, 3) := by decide +kernel
theorem dX11_slide_61 : decode cX11_slide 61 = .ok (.aload_n 0, 1) := by decide +kernel
theorem dX11_slide_62 : decode cX11_slide 62 = .ok (.aload_n 0, 1) := by decide +kernel
theorem dX11_slide_63 : decode cX11_slide 63 = .ok (.getfield 16, 3) := by decide +kernel
theorem dX11_slide_66 : decode cX11_slide 66 = .ok (.iload_n 1, 1) := by decide +kernel
theorem dX11_slide_67 : decode cX11_slide 67 = .ok (.invokevirtual 166, 3) := by decide +kernel
theorem dX11_slide_70 : decode cX11_slide 70 = .ok (.lstore_n 2, 1) := by decide +kernel
theorem dX11_slide_71 : decode cX11_slide 71 = .ok (.aload_n 0, 1) := by decide +kernel
theorem dX11_slide_72 : decode cX11_slide 72 = .ok (.getfield 20, 3) := by decide +kernel
theorem dX11_slide_75 : decode cX11_slide 75 = .ok (.iload_n 1, 1) := by decide +kernel
theorem dX11_slide_76 : decode cX11_slide 76 = .ok (.dup2, 1) := by decide +kernel
theorem dX11_slide_77 : decode cX11_slide 77 = .ok (.laload, 1) := by decide +kernel
theorem dX11_slide_78 : decode cX11_slide 78 = .ok (.lload_n 2, 1) := by decide +kernel
theorem dX11_slide_79 : decode cX11_slide 79 = .ok (.ladd, 1) := by decide +kernel
theorem dX11_slide_80 : decode cX11_slide 80 = .ok (.lastore, 1) := by decide +kernel
theorem dX11_slide_81 : decode cX11_slide 81 = .ok (.lload_n 2, 1) := by decide +kernel
theorem dX11_slide_82 : decode cX11_slide 82 = .ok (.l2i, 1) := by decide +kernel
theorem dX11_slide_83 : decode cX11_slide 83 = .ok (.ireturn, 1) := by decide +kernel
theorem dX11_manner_0 : decode cX11_manner 0 = .ok (.iload_n 1, 1) := by decide +kernel
theorem dX11_manner_1 : decode cX11_manner 1 = .ok (.iconst 0, 1) := by decide +kernel
theorem dX11_manner_2 : decode cX11_manner 2 = .ok (.iconst 4, 1) := by decide +kernel
theorem dX11_manner_3 : decode cX11_manner 3 = .ok (.invokestatic 98, 3) := by decide +kernel
theorem dX11_manner_6 : decode cX11_manner 6 = .ok (.ifCond .eq 12, 3) := by decide +kernel
theorem dX11_manner_9 : decode cX11_manner 9 = .ok (.iload_n 1, 1) := by decide +kernel
theorem dX11_manner_10 : decode cX11_manner 10 = .ok (.iconst 3, 1) := by decide +kernel
theorem dX11_manner_11 : decode cX11_manner 11 = .ok (.if_icmp .ne 13, 3) := by decide +kernel
theorem dX11_manner_14 : decode cX11_manner 14 = .ok (.iload_n 2, 1) := by decide +kernel
theorem dX11_manner_15 : decode cX11_manner 15 = .ok (.ifCond .ge 9, 3) := by decide +kernel
theorem dX11_manner_18 : decode cX11_manner 18 = .ok (.aload_n 0, 1) := by decide +kernel
theorem dX11_manner_19 : decode cX11_manner 19 = .ok (.iconst (-1), 1) := by decide +kernel
theorem dX11_manner_20 : decode cX11_manner 20 = .ok (.invokevirtual 118, 3) := by decide +kernel
theorem dX11_manner_23 : decode cX11_manner 23 = .ok (.ireturn, 1) := by decide +kernel
theorem dX11_manner_24 : decode cX11_manner 24 = .ok (.aload_n 0, 1) := by decide +kernel
theorem dX11_manner_25 : decode cX11_manner 25 = .ok (.getfield 114, 3) := by decide +kernel
theorem dX11_manner_28 : decode cX11_manner 28 = .ok (.ifCond .ne 10, 3) := by decide +kernel
theorem dX11_manner_31 : decode cX11_manner 31 = .ok (.aload_n 0, 1) := by decide +kernel
theorem dX11_manner_32 : decode cX11_manner 32 = .ok (.bipush (-8), 2) := by decide +kernel
theorem dX11_manner_34 : decode cX11_manner 34 = .ok (.invokevirtual 118, 3) := by decide +kernel
theorem dX11_manner_37 : decode cX11_manner 37 = .ok (.ireturn, 1) := by decide +kernel
theorem dX11_manner_38 : decode cX11_manner 38 = .ok (.iload_n 1, 1) := by decide +kernel
theorem dX11_manner_39 : decode cX11_manner 39 = .ok (.iconst 2, 1) := by decide +kernel
theorem dX11_manner_40 : decode cX11_manner 40 = .ok (.if_icmp .ne 115, 3) := by decide +kernel
theorem dX11_manner_43 : decode cX11_manner 43 = .ok (.iconst 0, 1) := by decide +kernel
theorem dX11_manner_44 : decode cX11_manner 44 = .ok (.istore_n 3, 1) := by decide +kernel
theorem dX11_manner_45 : decode cX11_manner 45 = .ok (.iconst 0, 1) := by decide +kernel
theorem dX11_manner_46 : decode cX11_manner 46 = .ok (.istore 4, 2) := by decide +kernel
theorem dX11_manner_48 : decode cX11_manner 48 = .ok (.iload 4, 2) := by decide +kernel
theorem dX11_manner_50 : decode cX11_manner 50 = .ok (.aload_n 0, 1) := by decide +kernel
theorem dX11_manner_51 : decode cX11_manner 51 = .ok (.getfield 169, 3) := by decide +kernel
theorem dX11_manner_54 : decode cX11_manner 54 = .ok (.if_icmp .ge 35, 3) := by decide +kernel
theorem dX11_manner_57 : decode cX11_manner 57 = .ok (.aload_n 0, 1) := by decide +kernel
theorem dX11_manner_58 : decode cX11_manner 58 = .ok (.aload_n 0, 1) := by decide +kernel
theorem dX11_manner_59 : decode cX11_manner 59 = .ok (.getfield 55, 3) := by decide +kernel
theorem dX11_manner_62 : decode cX11_manner 62 = .ok (.iload 4, 2) := by decide +kernel
theorem dX11_manner_64 : decode cX11_manner 64 = .ok (.iaload, 1) := by decide +kernel
theorem dX11_manner_65 : decode cX11_manner 65 = .ok (.invokevirtual 121, 3) := by decide +kernel
theorem dX11_manner_68 : decode cX11_manner 68 = .ok (.ifCond .eq 15, 3) := by decide +kernel
theorem dX11_manner_71 : decode cX11_manner 71 = .ok (.iload_n 3, 1) := by decide +kernel
theorem dX11_manner_72 : decode cX11_manner 72 = .ok (.iconst 1, 1) := by decide +kernel
theorem dX11_manner_73 : decode cX11_manner 73 = .ok (.aload_n 0, 1) := by decide +kernel
theorem dX11_manner_74 : decode cX11_manner 74 = .ok (.getfield 55, 3) := by decide +kernel
theorem dX11_manner_77 : decode cX11_manner 77 = .ok (.iload 4, 2) := by decide +kernel
theorem dX11_manner_79 : decode cX11_manner 79 = .ok (.iaload, 1) := by decide +kernel
theorem dX11_manner_80 : decode cX11_manner 80 = .ok (.ishl, 1) := by decide +kernel
theorem dX11_manner_81 : decode cX11_manner 81 = .ok (.ior, 1) := by decide +kernel
theorem dX11_manner_82 : decode cX11_manner 82 = .ok (.istore_n 3, 1) := by decide +kernel
theorem dX11_manner_83 : decode cX11_manner 83 = .ok (.iinc 4 1, 3) := by decide +kernel
theorem dX11_manner_86 : decode cX11_manner 86 = .ok (.goto (-38), 3) := by decide +kernel
theorem dX11_manner_89 : decode cX11_manner 89 = .ok (.aload_n 0, 1) := by decide +kernel
theorem dX11_manner_90 : decode cX11_manner 90 = .ok (.getfield 169, 3) := by decide +kernel
theorem dX11_manner_93 : decode cX11_manner 93 = .ok (.aload_n 0, 1) := by decide +kernel
theorem dX11_manner_94 : decode cX11_manner 94 = .ok (.getfield 95, 3) := by decide +kernel
theorem dX11_manner_97 : decode cX11_manner 97 = .ok (.if_icmp .ne 15, 3) := by decide +kernel
theorem dX11_manner_100 : decode cX11_manner 100 = .ok (.iload_n 3, 1) := by decide +kernel
theorem dX11_manner_101 : decode cX11_manner 101 = .ok (.iconst 1, 1) := by decide +kernel
theorem dX11_manner_102 : decode cX11_manner 102 = .ok (.aload_n 0, 1) := by decide +kernel
theorem dX11_manner_103 : decode cX11_manner 103 = .ok (.getfield 95, 3) := by decide +kernel
theorem dX11_manner_106 : decode cX11_manner 106 = .ok (.ishl, 1) := by decide +kernel
theorem dX11_manner_107 : decode cX11_manner 107 = .ok (.iconst 1, 1) := by decide +kernel
theorem dX11_manner_108 : decode cX11_manner 108 = .ok (.isub, 1) := by decide +kernel
theorem dX11_manner_109 : decode cX11_manner 109 = .ok (.if_icmp .eq 9, 3) := by decide +kernel
theorem dX11_manner_112 : decode cX11_manner 112 = .ok (.aload_n 0, 1) := by decide +kernel
theorem dX11_manner_113 : decode cX11_manner 113 = .ok (.iconst (-1), 1) := by decide +kernel
theorem dX11_manner_114 : decode cX11_manner 114 = .ok (.invokevirtual 118, 3) := by decide +kernel
theorem dX11_manner_117 : decode cX11_manner 117 = .ok (.ireturn, 1) := by decide +kernel
theorem dX11_manner_118 : decode cX11_manner 118 = .ok (.iconst 0, 1) := by decide +kernel
theorem dX11_manner_119 : decode cX11_manner 119 = .ok (.istore 4, 2) := by decide +kernel
theorem dX11_manner_121 : decode cX11_manner 121 = .ok (.iload 4, 2) := by decide +kernel
theorem dX11_manner_123 : decode cX11_manner 123 = .ok (.aload_n 0, 1) := by decide +kernel
theorem dX11_manner_124 : decode cX11_manner 124 = .ok (.getfield 95, 3) := by decide +kernel
theorem dX11_manner_127 : decode cX11_manner 127 = .ok (.if_icmp .ge 23, 3) := by decide +kernel
theorem dX11_manner_130 : decode cX11_manner 130 = .ok (.aload_n 0, 1) := by decide +kernel
theorem dX11_manner_131 : decode cX11_manner 131 = .ok (.getfield 27, 3) := by decide +kernel
theorem dX11_manner_134 : decode cX11_manner 134 = .ok (.iload 4, 2) := by decide +kernel
theorem dX11_manner_136 : decode cX11_manner 136 = .ok (.aload_n 0, 1) := by decide +kernel
theorem dX11_manner_137 : decode cX11_manner 137 = .ok (.getfield 55, 3) := by decide +kernel
theorem dX11_manner_140 : decode cX11_manner 140 = .ok (.iload 4, 2) := by decide +kernel
theorem dX11_manner_142 : decode cX11_manner 142 = .ok (.iaload, 1) := by decide +kernel
theorem dX11_manner_143 : decode cX11_manner 143 = .ok (.iastore, 1) := by decide +kernel
theorem dX11_manner_144 : decode cX11_manner 144 = .ok (.iinc 4 1, 3) := by decide +kernel
theorem dX11_manner_147 : decode cX11_manner 147 = .ok (.goto (-26), 3) := by decide +kernel
theorem dX11_manner_150 : decode cX11_manner 150 = .ok (.aload_n 0, 1) := by decide +kernel
theorem dX11_manner_151 : decode cX11_manner 151 = .ok (.iconst 0, 1) := by decide +kernel
theorem dX11_manner_152 : decode cX11_manner 152 = .ok (.putfield 169, 3) := by decide +kernel
theorem dX11_manner_155 : decode cX11_manner 155 = .ok (.aload_n 0, 1) := by decide +kernel
theorem dX11_manner_156 : decode cX11_manner 156 = .ok (.getfield 128, 3) := by decide +kernel
theorem dX11_manner_159 : decode cX11_manner 159 = .ok (.istore_n 3, 1) := by decide +kernel
theorem dX11_manner_160 : decode cX11_manner 160 = .ok (.aload_n 0, 1) := by decide +kernel
theorem dX11_manner_161 : decode cX11_manner 161 = .ok (.iload_n 1, 1) := by decide +kernel
theorem dX11_manner_162 : decode cX11_manner 162 = .ok (.putfield 128, 3) := by decide +kernel
theorem dX11_manner_165 : decode cX11_manner 165 = .ok (.iload_n 1, 1) := by decide +kernel
theorem dX11_manner_166 : decode cX11_manner 166 = .ok (.iconst 3, 1) := by decide +kernel
theorem dX11_manner_167 : decode cX11_manner 167 = .ok (.if_icmp .ne 9, 3) := by decide +kernel
theorem dX11_manner_170 : decode cX11_manner 170 = .ok (.aload_n 0, 1) := by decide +kernel
theorem dX11_manner_171 : decode cX11_manner 171 = .ok (.iload_n 2, 1) := by decide +kernel
theorem dX11_manner_172 : decode cX11_manner 172 = .ok (.i2l, 1) := by decide +kernel
theorem dX11_manner_173 : decode cX11_manner 173 = .ok (.putfield 23, 3) := by decide +kernel
theorem dX11_manner_176 : decode cX11_manner 176 = .ok (.iload_n 1, 1) := by decide +kernel
theorem dX11_manner_177 : decode cX11_manner 177 = .ok (.iconst 4, 1) := by decide +kernel
theorem dX11_manner_178 : decode cX11_manner 178 = .ok (.if_icmp .ne 8, 3) := by decide +kernel
theorem dX11_manner_181 : decode cX11_manner 181 = .ok (.aload_n 0, 1) := by decide +kernel
theorem dX11_manner_182 : decode cX11_manner 182 = .ok (.iconst 0, 1) := by decide +kernel
theorem dX11_manner_183 : decode cX11_manner 183 = .ok (.putfield 131, 3) := by decide +kernel
theorem dX11_manner_186 : decode cX11_manner 186 = .ok (.aload_n 0, 1) := by decide +kernel
theorem dX11_manner_187 : decode cX11_manner 187 = .ok (.iconst 0, 1) := by decide +kernel
theorem dX11_manner_188 : decode cX11_manner 188 = .ok (.putfield 143, 3) := by decide +kernel
theorem dX11_manner_191 : decode cX11_manner 191 = .ok (.iload_n 3, 1) := by decide +kernel
theorem dX11_manner_192 : decode cX11_manner 192 = .ok (.ireturn, 1) := by decide +kernel
theorem dX11_isAsked_0 : decode cX11_isAsked 0 = .ok (.iconst 0, 1) := by decide +kernel
theorem dX11_isAsked_1 : decode cX11_isAsked 1 = .ok (.istore_n 2, 1) := by decide +kernel
theorem dX11_isAsked_2 : decode cX11_isAsked 2 = .ok (.iload_n 2, 1) := by decide +kernel
theorem dX11_isAsked_3 : decode cX11_isAsked 3 = .ok (.aload_n 0, 1) := by decide +kernel
theorem dX11_isAsked_4 : decode cX11_isAsked 4 = .ok (.getfield 131, 3) := by decide +kernel
theorem dX11_isAsked_7 : decode cX11_isAsked 7 = .ok (.if_icmp .ge 21, 3) := by decide +kernel
theorem dX11_isAsked_10 : decode cX11_isAsked 10 = .ok (.aload_n 0, 1) := by decide +kernel
theorem dX11_isAsked_11 : decode cX11_isAsked 11 = .ok (.getfield 30, 3) := by decide +kernel
theorem dX11_isAsked_14 : decode cX11_isAsked 14 = .ok (.iload_n 2, 1) := by decide +kernel
theorem dX11_isAsked_15 : decode cX11_isAsked 15 = .ok (.iaload, 1) := by decide +kernel
theorem dX11_isAsked_16 : decode cX11_isAsked 16 = .ok (.iload_n 1, 1) := by decide +kernel
theorem dX11_isAsked_17 : decode cX11_isAsked 17 = .ok (.if_icmp .ne 5, 3) := by decide +kernel
theorem dX11_isAsked_20 : decode cX11_isAsked 20 = .ok (.iconst 1, 1) := by decide +kernel
theorem dX11_isAsked_21 : decode cX11_isAsked 21 = .ok (.ireturn, 1) := by decide +kernel
theorem dX11_isAsked_22 : decode cX11_isAsked 22 = .ok (.iinc 2 1, 3) := by decide +kernel
theorem dX11_isAsked_25 : decode cX11_isAsked 25 = .ok (.goto (-23), 3) := by decide +kernel
theorem dX11_isAsked_28 : decode cX11_isAsked 28 = .ok (.iconst 0, 1) := by decide +kernel
theorem dX11_isAsked_29 : decode cX11_isAsked 29 = .ok (.ireturn, 1) := by decide +kernel
theorem dX11_next_0 : decode cX11_next 0 = .ok (.iconst (-1), 1) := by decide +kernel
theorem dX11_next_1 : decode cX11_next 1 = .ok (.istore_n 1, 1) := by decide +kernel
theorem dX11_next_2 : decode cX11_next 2 = .ok (.aload_n 0, 1) := by decide +kernel
theorem dX11_next_3 : decode cX11_next 3 = .ok (.getfield 128, 3) := by decide +kernel
theorem dX11_next_6 : decode cX11_next 6 = .ok (.tableswitch 261 0 3 #[30, 68, 125, 178], 30) := by decide +kernel
theorem dX11_next_36 : decode cX11_next 36 = .ok (.aload_n 0, 1) := by decide +kernel
theorem dX11_next_37 : decode cX11_next 37 = .ok (.getfield 95, 3) := by decide +kernel
theorem dX11_next_40 : decode cX11_next 40 = .ok (.iconst 1, 1) := by decide +kernel
theorem dX11_next_41 : decode cX11_next 41 = .ok (.isub, 1) := by decide +kernel
theorem dX11_next_42 : decode cX11_next 42 = .ok (.istore_n 2, 1) := by decide +kernel
theorem dX11_next_43 : decode cX11_next 43 = .ok (.iload_n 2, 1) := by decide +kernel
theorem dX11_next_44 : decode cX11_next 44 = .ok (.ifCond .lt 28, 3) := by decide +kernel
theorem dX11_next_47 : decode cX11_next 47 = .ok (.aload_n 0, 1) := by decide +kernel
theorem dX11_next_48 : decode cX11_next 48 = .ok (.getfield 16, 3) := by decide +kernel
theorem dX11_next_51 : decode cX11_next 51 = .ok (.iload_n 2, 1) := by decide +kernel
theorem dX11_next_52 : decode cX11_next 52 = .ok (.laload, 1) := by decide +kernel
theorem dX11_next_53 : decode cX11_next 53 = .ok (.aload_n 0, 1) := by decide +kernel
theorem dX11_next_54 : decode cX11_next 54 = .ok (.iload_n 2, 1) := by decide +kernel
theorem dX11_next_55 : decode cX11_next 55 = .ok (.invokevirtual 106, 3) := by decide +kernel
theorem dX11_next_58 : decode cX11_next 58 = .ok (.invokestatic 110, 3) := by decide +kernel
theorem dX11_next_61 : decode cX11_next 61 = .ok (.ifCond .eq 5, 3) := by decide +kernel
theorem dX11_next_64 : decode cX11_next 64 = .ok (.iload_n 2, 1) := by decide +kernel
theorem dX11_next_65 : decode cX11_next 65 = .ok (.istore_n 1, 1) := by decide +kernel
theorem dX11_next_66 : decode cX11_next 66 = .ok (.iinc 2 (-1), 3) := by decide +kernel
theorem dX11_next_69 : decode cX11_next 69 = .ok (.goto (-26), 3) := by decide +kernel
theorem dX11_next_72 : decode cX11_next 72 = .ok (.iload_n 1, 1) := by decide +kernel
theorem dX11_next_73 : decode cX11_next 73 = .ok (.ireturn, 1) := by decide +kernel
theorem dX11_next_74 : decode cX11_next 74 = .ok (.iconst 0, 1) := by decide +kernel
theorem dX11_next_75 : decode cX11_next 75 = .ok (.istore_n 2, 1) := by decide +kernel
theorem dX11_next_76 : decode cX11_next 76 = .ok (.iload_n 2, 1) := by decide +kernel
theorem dX11_next_77 : decode cX11_next 77 = .ok (.aload_n 0, 1) := by decide +kernel
theorem dX11_next_78 : decode cX11_next 78 = .ok (.getfield 95, 3) := by decide +kernel
theorem dX11_next_81 : decode cX11_next 81 = .ok (.if_icmp .ge 48, 3) := by decide +kernel
theorem dX11_next_84 : decode cX11_next 84 = .ok (.aload_n 0, 1) := by decide +kernel
theorem dX11_next_85 : decode cX11_next 85 = .ok (.getfield 16, 3) := by decide +kernel
theorem dX11_next_88 : decode cX11_next 88 = .ok (.iload_n 2, 1) := by decide +kernel
theorem dX11_next_89 : decode cX11_next 89 = .ok (.laload, 1) := by decide +kernel
theorem dX11_next_90 : decode cX11_next 90 = .ok (.aload_n 0, 1) := by decide +kernel
theorem dX11_next_91 : decode cX11_next 91 = .ok (.iload_n 2, 1) := by decide +kernel
theorem dX11_next_92 : decode cX11_next 92 = .ok (.invokevirtual 106, 3) := by decide +kernel
theorem dX11_next_95 : decode cX11_next 95 = .ok (.invokestatic 110, 3) := by decide +kernel
theorem dX11_next_98 : decode cX11_next 98 = .ok (.ifCond .eq 25, 3) := by decide +kernel
theorem dX11_next_101 : decode cX11_next 101 = .ok (.iload_n 1, 1) := by decide +kernel
theorem dX11_next_102 : decode cX11_next 102 = .ok (.ifCond .lt 19, 3) := by decide +kernel
theorem dX11_next_105 : decode cX11_next 105 = .ok (.aload_n 0, 1) := by decide +kernel
theorem dX11_next_106 : decode cX11_next 106 = .ok (.getfield 16, 3) := by decide +kernel
theorem dX11_next_109 : decode cX11_next 109 = .ok (.iload_n 2, 1) := by decide +kernel
theorem dX11_next_110 : decode cX11_next 110 = .ok (.laload, 1) := by decide +kernel
theorem dX11_next_111 : decode cX11_next 111 = .ok (.aload_n 0, 1) := by decide +kernel
theorem dX11_next_112 : decode cX11_next 112 = .ok (.getfield 16, 3) := by decide +kernel
theorem dX11_next_115 : decode cX11_next 115 = .ok (.iload_n 1, 1) := by decide +kernel
theorem dX11_next_116 : decode cX11_next 116 = .ok (.laload, 1) := by decide +kernel
theorem dX11_next_117 : decode cX11_next 117 = .ok (.lcmp, 1) := by decide +kernel
theorem dX11_next_118 : decode cX11_next 118 = .ok (.ifCond .le 5, 3) := by decide +kernel
theorem dX11_next_121 : decode cX11_next 121 = .ok (.iload_n 2, 1) := by decide +kernel
theorem dX11_next_122 : decode cX11_next 122 = .ok (.istore_n 1, 1) := by decide +kernel
theorem dX11_next_123 : decode cX11_next 123 = .ok (.iinc 2 1, 3) := by decide +kernel
theorem dX11_next_126 : decode cX11_next 126 = .ok (.goto (-50), 3) := by decide +kernel
theorem dX11_next_129 : decode cX11_next 129 = .ok (.iload_n 1, 1) := by decide +kernel
theorem dX11_next_130 : decode cX11_next 130 = .ok (.ireturn, 1) := by decide +kernel
theorem dX11_next_131 : decode cX11_next 131 = .ok (.aload_n 0, 1) := by decide +kernel
theorem dX11_next_132 : decode cX11_next 132 = .ok (.getfield 95, 3) := by decide +kernel
theorem dX11_next_135 : decode cX11_next 135 = .ok (.iconst 1, 1) := by decide +kernel
theorem dX11_next_136 : decode cX11_next 136 = .ok (.isub, 1) := by decide +kernel
theorem dX11_next_137 : decode cX11_next 137 = .ok (.istore_n 2, 1) := by decide +kernel
theorem dX11_next_138 : decode cX11_next 138 = .ok (.iload_n 2, 1) := by decide +kernel
theorem dX11_next_139 : decode cX11_next 139 = .ok (.ifCond .lt 43, 3) := by decide +kernel
theorem dX11_next_142 : decode cX11_next 142 = .ok (.aload_n 0, 1) := by decide +kernel
theorem dX11_next_143 : decode cX11_next 143 = .ok (.getfield 16, 3) := by decide +kernel
theorem dX11_next_146 : decode cX11_next 146 = .ok (.aload_n 0, 1) := by decide +kernel
theorem dX11_next_147 : decode cX11_next 147 = .ok (.getfield 27, 3) := by decide +kernel
theorem dX11_next_150 : decode cX11_next 150 = .ok (.iload_n 2, 1) := by decide +kernel
theorem dX11_next_151 : decode cX11_next 151 = .ok (.iaload, 1) := by decide +kernel
theorem dX11_next_152 : decode cX11_next 152 = .ok (.laload, 1) := by decide +kernel
theorem dX11_next_153 : decode cX11_next 153 = .ok (.aload_n 0, 1) := by decide +kernel
theorem dX11_next_154 : decode cX11_next 154 = .ok (.aload_n 0, 1) := by decide +kernel
theorem dX11_next_155 : decode cX11_next 155 = .ok (.getfield 27, 3) := by decide +kernel
theorem dX11_next_158 : decode cX11_next 158 = .ok (.iload_n 2, 1) := by decide +kernel
theorem dX11_next_159 : decode cX11_next 159 = .ok (.iaload, 1) := by decide +kernel
theorem dX11_next_160 : decode cX11_next 160 = .ok (.invokevirtual 106, 3) := by decide +kernel
theorem dX11_next_163 : decode cX11_next 163 = .ok (.invokestatic 110, 3) := by decide +kernel
theorem dX11_next_166 : decode cX11_next 166 = .ok (.ifCond .eq 10, 3) := by decide +kernel
theorem dX11_next_169 : decode cX11_next 169 = .ok (.aload_n 0, 1) := by decide +kernel
theorem dX11_next_170 : decode cX11_next 170 = .ok (.getfield 27, 3) := by decide +kernel
theorem dX11_next_173 : decode cX11_next 173 = .ok (.iload_n 2, 1) := by decide +kernel
theorem dX11_next_174 : decode cX11_next 174 = .ok (.iaload, 1) := by decide +kernel
theorem dX11_next_175 : decode cX11_next 175 = .ok (.istore_n 1, 1) := by decide +kernel
theorem dX11_next_176 : decode cX11_next 176 = .ok (.iinc 2 (-1), 3) := by decide +kernel
theorem dX11_next_179 : decode cX11_next 179 = .ok (.goto (-41), 3) := by decide +kernel
theorem dX11_next_182 : decode cX11_next 182 = .ok (.iload_n 1, 1) := by decide +kernel
theorem dX11_next_183 : decode cX11_next 183 = .ok (.ireturn, 1) := by decide +kernel
theorem dX11_next_184 : decode cX11_next 184 = .ok (.aload_n 0, 1) := by decide +kernel
theorem dX11_next_185 : decode cX11_next 185 = .ok (.aload_n 0, 1) := by decide +kernel
theorem dX11_next_186 : decode cX11_next 186 = .ok (.getfield 23, 3) := by decide +kernel
theorem dX11_next_189 : decode cX11_next 189 = .ok (.ldc2_w 172, 3) := by decide +kernel
theorem dX11_next_192 : decode cX11_next 192 = .ok (.lmul, 1) := by decide +kernel
theorem dX11_next_193 : decode cX11_next 193 = .ok (.ldc2_w 174, 3) := by decide +kernel
theorem dX11_next_196 : decode cX11_next 196 = .ok (.ladd, 1) := by decide +kernel
theorem dX11_next_197 : decode cX11_next 197 = .ok (.ldc2_w 176, 3) := by decide +kernel
theorem dX11_next_200 : decode cX11_next 200 = .ok (.lrem, 1) := by decide +kernel
theorem dX11_next_201 : decode cX11_next 201 = .ok (.putfield 23, 3) := by decide +kernel
theorem dX11_next_204 : decode cX11_next 204 = .ok (.aload_n 0, 1) := by decide +kernel
theorem dX11_next_205 : decode cX11_next 205 = .ok (.getfield 23, 3) := by decide +kernel
theorem dX11_next_208 : decode cX11_next 208 = .ok (.ldc2_w 178, 3) := by decide +kernel
theorem dX11_next_211 : decode cX11_next 211 = .ok (.ldiv, 1) := by decide +kernel
theorem dX11_next_212 : decode cX11_next 212 = .ok (.aload_n 0, 1) := by decide +kernel
theorem dX11_next_213 : decode cX11_next 213 = .ok (.invokevirtual 151, 3) := by decide +kernel
theorem dX11_next_216 : decode cX11_next 216 = .ok (.i2l, 1) := by decide +kernel
theorem dX11_next_217 : decode cX11_next 217 = .ok (.lrem, 1) := by decide +kernel
theorem dX11_next_218 : decode cX11_next 218 = .ok (.l2i, 1) := by decide +kernel
theorem dX11_next_219 : decode cX11_next 219 = .ok (.istore_n 2, 1) := by decide +kernel
theorem dX11_next_220 : decode cX11_next 220 = .ok (.iconst 0, 1) := by decide +kernel
theorem dX11_next_221 : decode cX11_next 221 = .ok (.istore_n 3, 1) := by decide +kernel
theorem dX11_next_222 : decode cX11_next 222 = .ok (.iload_n 3, 1) := by decide +kernel
theorem dX11_next_223 : decode cX11_next 223 = .ok (.aload_n 0, 1) := by decide +kernel
theorem dX11_next_224 : decode cX11_next 224 = .ok (.getfield 95, 3) := by decide +kernel
theorem dX11_next_227 : decode cX11_next 227 = .ok (.if_icmp .ge 38, 3) := by decide +kernel
theorem dX11_next_230 : decode cX11_next 230 = .ok (.aload_n 0, 1) := by decide +kernel
theorem dX11_next_231 : decode cX11_next 231 = .ok (.getfield 16, 3) := by decide +kernel
theorem dX11_next_234 : decode cX11_next 234 = .ok (.iload_n 3, 1) := by decide +kernel
theorem dX11_next_235 : decode cX11_next 235 = .ok (.laload, 1) := by decide +kernel
theorem dX11_next_236 : decode cX11_next 236 = .ok (.aload_n 0, 1) := by decide +kernel
theorem dX11_next_237 : decode cX11_next 237 = .ok (.iload_n 3, 1) := by decide +kernel
theorem dX11_next_238 : decode cX11_next 238 = .ok (.invokevirtual 106, 3) := by decide +kernel
theorem dX11_next_241 : decode cX11_next 241 = .ok (.invokestatic 110, 3) := by decide +kernel
theorem dX11_next_244 : decode cX11_next 244 = .ok (.ifCond .ne 6, 3) := by decide +kernel
theorem dX11_next_247 : decode cX11_next 247 = .ok (.goto 12, 3) := by decide +kernel
theorem dX11_next_250 : decode cX11_next 250 = .ok (.iload_n 2, 1) := by decide +kernel
theorem dX11_next_251 : decode cX11_next 251 = .ok (.ifCond .ne 5, 3) := by decide +kernel
theorem dX11_next_254 : decode cX11_next 254 = .ok (.iload_n 3, 1) := by decide +kernel
theorem dX11_next_255 : decode cX11_next 255 = .ok (.ireturn, 1) := by decide +kernel
theorem dX11_next_256 : decode cX11_next 256 = .ok (.iinc 2 (-1), 3) := by decide +kernel
theorem dX11_next_259 : decode cX11_next 259 = .ok (.iinc 3 1, 3) := by decide +kernel
theorem dX11_next_262 : decode cX11_next 262 = .ok (.goto (-40), 3) := by decide +kernel
theorem dX11_next_265 : decode cX11_next 265 = .ok (.iload_n 1, 1) := by decide +kernel
theorem dX11_next_266 : decode cX11_next 266 = .ok (.ireturn, 1) := by decide +kernel
theorem dX11_next_267 : decode cX11_next 267 = .ok (.iload_n 1, 1) := by decide +kernel
theorem dX11_next_268 : decode cX11_next 268 = .ok (.ifCond .ge 110, 3) := by decide +kernel
theorem dX11_next_271 : decode cX11_next 271 = .ok (.aload_n 0, 1) := by decide +kernel
theorem dX11_next_272 : decode cX11_next 272 = .ok (.getfield 131, 3) := by decide +kernel
theorem dX11_next_275 : decode cX11_next 275 = .ok (.ifCond .ne 34, 3) := by decide +kernel
theorem dX11_next_278 : decode cX11_next 278 = .ok (.iconst 0, 1) := by decide +kernel
theorem dX11_next_279 : decode cX11_next 279 = .ok (.istore_n 2, 1) := by decide +kernel
theorem dX11_next_280 : decode cX11_next 280 = .ok (.iload_n 2, 1) := by decide +kernel
theorem dX11_next_281 : decode cX11_next 281 = .ok (.aload_n 0, 1) := by decide +kernel
theorem dX11_next_282 : decode cX11_next 282 = .ok (.getfield 95, 3) := by decide +kernel
theorem dX11_next_285 : decode cX11_next 285 = .ok (.if_icmp .ge 16, 3) := by decide +kernel
theorem dX11_next_288 : decode cX11_next 288 = .ok (.aload_n 0, 1) := by decide +kernel
theorem dX11_next_289 : decode cX11_next 289 = .ok (.getfield 30, 3) := by decide +kernel
theorem dX11_next_292 : decode cX11_next 292 = .ok (.iload_n 2, 1) := by decide +kernel
theorem dX11_next_293 : decode cX11_next 293 = .ok (.iload_n 2, 1) := by decide +kernel
theorem dX11_next_294 : decode cX11_next 294 = .ok (.iastore, 1) := by decide +kernel
theorem dX11_next_295 : decode cX11_next 295 = .ok (.iinc 2 1, 3) := by decide +kernel
theorem dX11_next_298 : decode cX11_next 298 = .ok (.goto (-18), 3) := by decide +kernel
theorem dX11_next_301 : decode cX11_next 301 = .ok (.aload_n 0, 1) := by decide +kernel
theorem dX11_next_302 : decode cX11_next 302 = .ok (.aload_n 0, 1) := by decide +kernel
theorem dX11_next_303 : decode cX11_next 303 = .ok (.getfield 95, 3) := by decide +kernel
theorem dX11_next_306 : decode cX11_next 306 = .ok (.putfield 131, 3) := by decide +kernel
theorem dX11_next_309 : decode cX11_next 309 = .ok (.aload_n 0, 1) := by decide +kernel
theorem dX11_next_310 : decode cX11_next 310 = .ok (.getfield 30, 3) := by decide +kernel
theorem dX11_next_313 : decode cX11_next 313 = .ok (.iconst 0, 1) := by decide +kernel
theorem dX11_next_314 : decode cX11_next 314 = .ok (.iaload, 1) := by decide +kernel
theorem dX11_next_315 : decode cX11_next 315 = .ok (.istore_n 2, 1) := by decide +kernel
theorem dX11_next_316 : decode cX11_next 316 = .ok (.iconst 1, 1) := by decide +kernel
theorem dX11_next_317 : decode cX11_next 317 = .ok (.istore_n 3, 1) := by decide +kernel
theorem dX11_next_318 : decode cX11_next 318 = .ok (.iload_n 3, 1) := by decide +kernel
theorem dX11_next_319 : decode cX11_next 319 = .ok (.aload_n 0, 1) := by decide +kernel
theorem dX11_next_320 : decode cX11_next 320 = .ok (.getfield 131, 3) := by decide +kernel
theorem dX11_next_323 : decode cX11_next 323 = .ok (.if_icmp .ge 23, 3) := by decide +kernel
theorem dX11_next_326 : decode cX11_next 326 = .ok (.aload_n 0, 1) := by decide +kernel
theorem dX11_next_327 : decode cX11_next 327 = .ok (.getfield 30, 3) := by decide +kernel
theorem dX11_next_330 : decode cX11_next 330 = .ok (.iload_n 3, 1) := by decide +kernel
theorem dX11_next_331 : decode cX11_next 331 = .ok (.iconst 1, 1) := by decide +kernel
theorem dX11_next_332 : decode cX11_next 332 = .ok (.isub, 1) := by decide +kernel
theorem dX11_next_333 : decode cX11_next 333 = .ok (.aload_n 0, 1) := by decide +kernel
theorem dX11_next_334 : decode cX11_next 334 = .ok (.getfield 30, 3) := by decide +kernel
theorem dX11_next_337 : decode cX11_next 337 = .ok (.iload_n 3, 1) := by decide +kernel
theorem dX11_next_338 : decode cX11_next 338 = .ok (.iaload, 1) := by decide +kernel
theorem dX11_next_339 : decode cX11_next 339 = .ok (.iastore, 1) := by decide +kernel
theorem dX11_next_340 : decode cX11_next 340 = .ok (.iinc 3 1, 3) := by decide +kernel
theorem dX11_next_343 : decode cX11_next 343 = .ok (.goto (-25), 3) := by decide +kernel
theorem dX11_next_346 : decode cX11_next 346 = .ok (.aload_n 0, 1) := by decide +kernel
theorem dX11_next_347 : decode cX11_next 347 = .ok (.dup, 1) := by decide +kernel
theorem dX11_next_348 : decode cX11_next 348 = .ok (.getfield 131, 3) := by decide +kernel
theorem dX11_next_351 : decode cX11_next 351 = .ok (.iconst 1, 1) := by decide +kernel
theorem dX11_next_352 : decode cX11_next 352 = .ok (.isub, 1) := by decide +kernel
theorem dX11_next_353 : decode cX11_next 353 = .ok (.putfield 131, 3) := by decide +kernel
theorem dX11_next_356 : decode cX11_next 356 = .ok (.aload_n 0, 1) := by decide +kernel
theorem dX11_next_357 : decode cX11_next 357 = .ok (.getfield 16, 3) := by decide +kernel
theorem dX11_next_360 : decode cX11_next 360 = .ok (.iload_n 2, 1) := by decide +kernel
theorem dX11_next_361 : decode cX11_next 361 = .ok (.laload, 1) := by decide +kernel
theorem dX11_next_362 : decode cX11_next 362 = .ok (.aload_n 0, 1) := by decide +kernel
theorem dX11_next_363 : decode cX11_next 363 = .ok (.iload_n 2, 1) := by decide +kernel
theorem dX11_next_364 : decode cX11_next 364 = .ok (.invokevirtual 106, 3) := by decide +kernel
theorem dX11_next_367 : decode cX11_next 367 = .ok (.invokestatic 110, 3) := by decide +kernel
theorem dX11_next_370 : decode cX11_next 370 = .ok (.ifCond .eq 5, 3) := by decide +kernel
theorem dX11_next_373 : decode cX11_next 373 = .ok (.iload_n 2, 1) := by decide +kernel
theorem dX11_next_374 : decode cX11_next 374 = .ok (.istore_n 1, 1) := by decide +kernel
theorem dX11_next_375 : decode cX11_next 375 = .ok (.goto (-108), 3) := by decide +kernel
theorem dX11_next_378 : decode cX11_next 378 = .ok (.iload_n 1, 1) := by decide +kernel
theorem dX11_next_379 : decode cX11_next 379 = .ok (.ireturn, 1) := by decide +kernel
theorem dX11_asks_0 : decode cX11_asks 0 = .ok (.aload_n 0, 1) := by decide +kernel
theorem dX11_asks_1 : decode cX11_asks 1 = .ok (.getfield 7, 3) := by decide +kernel
theorem dX11_asks_4 : decode cX11_asks 4 = .ok (.iload_n 1, 1) := by decide +kernel
theorem dX11_asks_5 : decode cX11_asks 5 = .ok (.iaload, 1) := by decide +kernel
theorem dX11_asks_6 : decode cX11_asks 6 = .ok (.iconst 4, 1) := by decide +kernel
theorem dX11_asks_7 : decode cX11_asks 7 = .ok (.if_icmp .ne 89, 3) := by decide +kernel
theorem dX11_asks_10 : decode cX11_asks 10 = .ok (.aload_n 0, 1) := by decide +kernel
theorem dX11_asks_11 : decode cX11_asks 11 = .ok (.getfield 95, 3) := by decide +kernel
theorem dX11_asks_14 : decode cX11_asks 14 = .ok (.iconst 1, 1) := by decide +kernel
theorem dX11_asks_15 : decode cX11_asks 15 = .ok (.isub, 1) := by decide +kernel
theorem dX11_asks_16 : decode cX11_asks 16 = .ok (.istore_n 2, 1) := by decide +kernel
theorem dX11_asks_17 : decode cX11_asks 17 = .ok (.iload_n 2, 1) := by decide +kernel
theorem dX11_asks_18 : decode cX11_asks 18 = .ok (.ifCond .lt 75, 3) := by decide +kernel
theorem dX11_asks_21 : decode cX11_asks 21 = .ok (.aload_n 0, 1) := by decide +kernel
theorem dX11_asks_22 : decode cX11_asks 22 = .ok (.iload_n 1, 1) := by decide +kernel
theorem dX11_asks_23 : decode cX11_asks 23 = .ok (.iload_n 2, 1) := by decide +kernel
theorem dX11_asks_24 : decode cX11_asks 24 = .ok (.invokevirtual 102, 3) := by decide +kernel
theorem dX11_asks_27 : decode cX11_asks 27 = .ok (.ifCond .eq 60, 3) := by decide +kernel
theorem dX11_asks_30 : decode cX11_asks 30 = .ok (.aload_n 0, 1) := by decide +kernel
theorem dX11_asks_31 : decode cX11_asks 31 = .ok (.iload_n 2, 1) := by decide +kernel
theorem dX11_asks_32 : decode cX11_asks 32 = .ok (.invokevirtual 180, 3) := by decide +kernel
theorem dX11_asks_35 : decode cX11_asks 35 = .ok (.ifCond .eq 6, 3) := by decide +kernel
theorem dX11_asks_38 : decode cX11_asks 38 = .ok (.goto 49, 3) := by decide +kernel
theorem dX11_asks_41 : decode cX11_asks 41 = .ok (.aload_n 0, 1) := by decide +kernel
theorem dX11_asks_42 : decode cX11_asks 42 = .ok (.getfield 131, 3) := by decide +kernel
theorem dX11_asks_45 : decode cX11_asks 45 = .ok (.istore_n 3, 1) := by decide +kernel
theorem dX11_asks_46 : decode cX11_asks 46 = .ok (.iload_n 3, 1) := by decide +kernel
theorem dX11_asks_47 : decode cX11_asks 47 = .ok (.ifCond .le 23, 3) := by decide +kernel
theorem dX11_asks_50 : decode cX11_asks 50 = .ok (.aload_n 0, 1) := by decide +kernel
theorem dX11_asks_51 : decode cX11_asks 51 = .ok (.getfield 30, 3) := by decide +kernel
theorem dX11_asks_54 : decode cX11_asks 54 = .ok (.iload_n 3, 1) := by decide +kernel
theorem dX11_asks_55 : decode cX11_asks 55 = .ok (.aload_n 0, 1) := by decide +kernel
theorem dX11_asks_56 : decode cX11_asks 56 = .ok (.getfield 30, 3) := by decide +kernel
theorem dX11_asks_59 : decode cX11_asks 59 = .ok (.iload_n 3, 1) := by decide +kernel
theorem dX11_asks_60 : decode cX11_asks 60 = .ok (.iconst 1, 1) := by decide +kernel
theorem dX11_asks_61 : decode cX11_asks 61 = .ok (.isub, 1) := by decide +kernel
theorem dX11_asks_62 : decode cX11_asks 62 = .ok (.iaload, 1) := by decide +kernel
theorem dX11_asks_63 : decode cX11_asks 63 = .ok (.iastore, 1) := by decide +kernel
theorem dX11_asks_64 : decode cX11_asks 64 = .ok (.iinc 3 (-1), 3) := by decide +kernel
theorem dX11_asks_67 : decode cX11_asks 67 = .ok (.goto (-21), 3) := by decide +kernel
theorem dX11_asks_70 : decode cX11_asks 70 = .ok (.aload_n 0, 1) := by decide +kernel
theorem dX11_asks_71 : decode cX11_asks 71 = .ok (.getfield 30, 3) := by decide +kernel
theorem dX11_asks_74 : decode cX11_asks 74 = .ok (.iconst 0, 1) := by decide +kernel
theorem dX11_asks_75 : decode cX11_asks 75 = .ok (.iload_n 2, 1) := by decide +kernel
theorem dX11_asks_76 : decode cX11_asks 76 = .ok (.iastore, 1) := by decide +kernel
theorem dX11_asks_77 : decode cX11_asks 77 = .ok (.aload_n 0, 1) := by decide +kernel
theorem dX11_asks_78 : decode cX11_asks 78 = .ok (.dup, 1) := by decide +kernel
theorem dX11_asks_79 : decode cX11_asks 79 = .ok (.getfield 131, 3) := by decide +kernel
theorem dX11_asks_82 : decode cX11_asks 82 = .ok (.iconst 1, 1) := by decide +kernel
theorem dX11_asks_83 : decode cX11_asks 83 = .ok (.iadd, 1) := by decide +kernel
theorem dX11_asks_84 : decode cX11_asks 84 = .ok (.putfield 131, 3) := by decide +kernel
theorem dX11_asks_87 : decode cX11_asks 87 = .ok (.iinc 2 (-1), 3) := by decide +kernel
theorem dX11_asks_90 : decode cX11_asks 90 = .ok (.goto (-73), 3) := by decide +kernel
theorem dX11_asks_93 : decode cX11_asks 93 = .ok (.goto 59, 3) := by decide +kernel
theorem dX11_asks_96 : decode cX11_asks 96 = .ok (.iconst 0, 1) := by decide +kernel
theorem dX11_asks_97 : decode cX11_asks 97 = .ok (.istore_n 2, 1) := by decide +kernel
theorem dX11_asks_98 : decode cX11_asks 98 = .ok (.iload_n 2, 1) := by decide +kernel
theorem dX11_asks_99 : decode cX11_asks 99 = .ok (.aload_n 0, 1) := by decide +kernel
theorem dX11_asks_100 : decode cX11_asks 100 = .ok (.getfield 95, 3) := by decide +kernel
theorem dX11_asks_103 : decode cX11_asks 103 = .ok (.if_icmp .ge 49, 3) := by decide +kernel
theorem dX11_asks_106 : decode cX11_asks 106 = .ok (.aload_n 0, 1) := by decide +kernel
theorem dX11_asks_107 : decode cX11_asks 107 = .ok (.iload_n 1, 1) := by decide +kernel
theorem dX11_asks_108 : decode cX11_asks 108 = .ok (.iload_n 2, 1) := by decide +kernel
theorem dX11_asks_109 : decode cX11_asks 109 = .ok (.invokevirtual 102, 3) := by decide +kernel
theorem dX11_asks_112 : decode cX11_asks 112 = .ok (.ifCond .eq 34, 3) := by decide +kernel
theorem dX11_asks_115 : decode cX11_asks 115 = .ok (.aload_n 0, 1) := by decide +kernel
theorem dX11_asks_116 : decode cX11_asks 116 = .ok (.iload_n 2, 1) := by decide +kernel
theorem dX11_asks_117 : decode cX11_asks 117 = .ok (.invokevirtual 180, 3) := by decide +kernel
theorem dX11_asks_120 : decode cX11_asks 120 = .ok (.ifCond .eq 6, 3) := by decide +kernel
theorem dX11_asks_123 : decode cX11_asks 123 = .ok (.goto 23, 3) := by decide +kernel
theorem dX11_asks_126 : decode cX11_asks 126 = .ok (.aload_n 0, 1) := by decide +kernel
theorem dX11_asks_127 : decode cX11_asks 127 = .ok (.getfield 30, 3) := by decide +kernel
theorem dX11_asks_130 : decode cX11_asks 130 = .ok (.aload_n 0, 1) := by decide +kernel
theorem dX11_asks_131 : decode cX11_asks 131 = .ok (.getfield 131, 3) := by decide +kernel
theorem dX11_asks_134 : decode cX11_asks 134 = .ok (.iload_n 2, 1) := by decide +kernel
theorem dX11_asks_135 : decode cX11_asks 135 = .ok (.iastore, 1) := by decide +kernel
theorem dX11_asks_136 : decode cX11_asks 136 = .ok (.aload_n 0, 1) := by decide +kernel
theorem dX11_asks_137 : decode cX11_asks 137 = .ok (.dup, 1) := by decide +kernel
theorem dX11_asks_138 : decode cX11_asks 138 = .ok (.getfield 131, 3) := by decide +kernel
theorem dX11_asks_141 : decode cX11_asks 141 = .ok (.iconst 1, 1) := by decide +kernel
theorem dX11_asks_142 : decode cX11_asks 142 = .ok (.iadd, 1) := by decide +kernel
theorem dX11_asks_143 : decode cX11_asks 143 = .ok (.putfield 131, 3) := by decide +kernel
theorem dX11_asks_146 : decode cX11_asks 146 = .ok (.iinc 2 1, 3) := by decide +kernel
theorem dX11_asks_149 : decode cX11_asks 149 = .ok (.goto (-51), 3) := by decide +kernel
theorem dX11_asks_152 : decode cX11_asks 152 = .ok (.return_, 1) := by decide +kernel
theorem dX11_run_0 : decode cX11_run 0 = .ok (.iload_n 1, 1) := by decide +kernel
theorem dX11_run_1 : decode cX11_run 1 = .ok (.iconst 1, 1) := by decide +kernel
theorem dX11_run_2 : decode cX11_run 2 = .ok (.sipush 5000, 3) := by decide +kernel
theorem dX11_run_5 : decode cX11_run 5 = .ok (.invokestatic 98, 3) := by decide +kernel
theorem dX11_run_8 : decode cX11_run 8 = .ok (.ifCond .ne 9, 3) := by decide +kernel
theorem dX11_run_11 : decode cX11_run 11 = .ok (.aload_n 0, 1) := by decide +kernel
theorem dX11_run_12 : decode cX11_run 12 = .ok (.iconst (-1), 1) := by decide +kernel
theorem dX11_run_13 : decode cX11_run 13 = .ok (.invokevirtual 118, 3) := by decide +kernel
theorem dX11_run_16 : decode cX11_run 16 = .ok (.ireturn, 1) := by decide +kernel
theorem dX11_run_17 : decode cX11_run 17 = .ok (.aload_n 0, 1) := by decide +kernel
theorem dX11_run_18 : decode cX11_run 18 = .ok (.getfield 114, 3) := by decide +kernel
theorem dX11_run_21 : decode cX11_run 21 = .ok (.ifCond .ne 10, 3) := by decide +kernel
theorem dX11_run_24 : decode cX11_run 24 = .ok (.aload_n 0, 1) := by decide +kernel
theorem dX11_run_25 : decode cX11_run 25 = .ok (.bipush (-8), 2) := by decide +kernel
theorem dX11_run_27 : decode cX11_run 27 = .ok (.invokevirtual 118, 3) := by decide +kernel
theorem dX11_run_30 : decode cX11_run 30 = .ok (.ireturn, 1) := by decide +kernel
theorem dX11_run_31 : decode cX11_run 31 = .ok (.aload_n 0, 1) := by decide +kernel
theorem dX11_run_32 : decode cX11_run 32 = .ok (.invokevirtual 148, 3) := by decide +kernel
theorem dX11_run_35 : decode cX11_run 35 = .ok (.iconst 0, 1) := by decide +kernel
theorem dX11_run_36 : decode cX11_run 36 = .ok (.istore_n 2, 1) := by decide +kernel
theorem dX11_run_37 : decode cX11_run 37 = .ok (.aload_n 0, 1) := by decide +kernel
theorem dX11_run_38 : decode cX11_run 38 = .ok (.invokevirtual 151, 3) := by decide +kernel
theorem dX11_run_41 : decode cX11_run 41 = .ok (.ifCond .le 69, 3) := by decide +kernel
theorem dX11_run_44 : decode cX11_run 44 = .ok (.iload_n 2, 1) := by decide +kernel
theorem dX11_run_45 : decode cX11_run 45 = .ok (.iload_n 1, 1) := by decide +kernel
theorem dX11_run_46 : decode cX11_run 46 = .ok (.if_icmp .ge 64, 3) := by decide +kernel
theorem dX11_run_49 : decode cX11_run 49 = .ok (.aload_n 0, 1) := by decide +kernel
theorem dX11_run_50 : decode cX11_run 50 = .ok (.invokevirtual 183, 3) := by decide +kernel
theorem dX11_run_53 : decode cX11_run 53 = .ok (.istore_n 3, 1) := by decide +kernel
theorem dX11_run_54 : decode cX11_run 54 = .ok (.aload_n 0, 1) := by decide +kernel
theorem dX11_run_55 : decode cX11_run 55 = .ok (.aload_n 0, 1) := by decide +kernel
theorem dX11_run_56 : decode cX11_run 56 = .ok (.getfield 16, 3) := by decide +kernel
theorem dX11_run_59 : decode cX11_run 59 = .ok (.iload_n 3, 1) := by decide +kernel
theorem dX11_run_60 : decode cX11_run 60 = .ok (.invokevirtual 162, 3) := by decide +kernel
theorem dX11_run_63 : decode cX11_run 63 = .ok (.ifCond .eq 10, 3) := by decide +kernel
theorem dX11_run_66 : decode cX11_run 66 = .ok (.aload_n 0, 1) := by decide +kernel
theorem dX11_run_67 : decode cX11_run 67 = .ok (.bipush (-5), 2) := by decide +kernel
theorem dX11_run_69 : decode cX11_run 69 = .ok (.invokevirtual 118, 3) := by decide +kernel
theorem dX11_run_72 : decode cX11_run 72 = .ok (.ireturn, 1) := by decide +kernel
theorem dX11_run_73 : decode cX11_run 73 = .ok (.aload_n 0, 1) := by decide +kernel
theorem dX11_run_74 : decode cX11_run 74 = .ok (.getfield 20, 3) := by decide +kernel
theorem dX11_run_77 : decode cX11_run 77 = .ok (.iload_n 3, 1) := by decide +kernel
theorem dX11_run_78 : decode cX11_run 78 = .ok (.dup2, 1) := by decide +kernel
theorem dX11_run_79 : decode cX11_run 79 = .ok (.laload, 1) := by decide +kernel
theorem dX11_run_80 : decode cX11_run 80 = .ok (.aload_n 0, 1) := by decide +kernel
theorem dX11_run_81 : decode cX11_run 81 = .ok (.aload_n 0, 1) := by decide +kernel
theorem dX11_run_82 : decode cX11_run 82 = .ok (.getfield 16, 3) := by decide +kernel
theorem dX11_run_85 : decode cX11_run 85 = .ok (.iload_n 3, 1) := by decide +kernel
theorem dX11_run_86 : decode cX11_run 86 = .ok (.invokevirtual 166, 3) := by decide +kernel
theorem dX11_run_89 : decode cX11_run 89 = .ok (.ladd, 1) := by decide +kernel
theorem dX11_run_90 : decode cX11_run 90 = .ok (.lastore, 1) := by decide +kernel
theorem dX11_run_91 : decode cX11_run 91 = .ok (.aload_n 0, 1) := by decide +kernel
theorem dX11_run_92 : decode cX11_run 92 = .ok (.getfield 128, 3) := by decide +kernel
theorem dX11_run_95 : decode cX11_run 95 = .ok (.iconst 4, 1) := by decide +kernel
theorem dX11_run_96 : decode cX11_run 96 = .ok (.if_icmp .ne 8, 3) := by decide +kernel
theorem dX11_run_99 : decode cX11_run 99 = .ok (.aload_n 0, 1) := by decide +kernel
theorem dX11_run_100 : decode cX11_run 100 = .ok (.iload_n 3, 1) := by decide +kernel
theorem dX11_run_101 : decode cX11_run 101 = .ok (.invokevirtual 186, 3) := by decide +kernel
theorem dX11_run_104 : decode cX11_run 104 = .ok (.iinc 2 1, 3) := by decide +kernel
theorem dX11_run_107 : decode cX11_run 107 = .ok (.goto (-70), 3) := by decide +kernel
theorem dX11_run_110 : decode cX11_run 110 = .ok (.aload_n 0, 1) := by decide +kernel
theorem dX11_run_111 : decode cX11_run 111 = .ok (.invokevirtual 151, 3) := by decide +kernel
theorem dX11_run_114 : decode cX11_run 114 = .ok (.ifCond .le 12, 3) := by decide +kernel
theorem dX11_run_117 : decode cX11_run 117 = .ok (.aload_n 0, 1) := by decide +kernel
theorem dX11_run_118 : decode cX11_run 118 = .ok (.bipush (-9), 2) := by decide +kernel
theorem dX11_run_120 : decode cX11_run 120 = .ok (.invokevirtual 118, 3) := by decide +kernel
theorem dX11_run_123 : decode cX11_run 123 = .ok (.goto 4, 3) := by decide +kernel
theorem dX11_run_126 : decode cX11_run 126 = .ok (.iload_n 2, 1) := by decide +kernel
theorem dX11_run_127 : decode cX11_run 127 = .ok (.ireturn, 1) := by decide +kernel
theorem dX11_odometer_0 : decode cX11_odometer 0 = .ok (.aload_n 0, 1) := by decide +kernel
theorem dX11_odometer_1 : decode cX11_odometer 1 = .ok (.iload_n 1, 1) := by decide +kernel
theorem dX11_odometer_2 : decode cX11_odometer 2 = .ok (.invokevirtual 121, 3) := by decide +kernel
theorem dX11_odometer_5 : decode cX11_odometer 5 = .ok (.ifCond .eq 12, 3) := by decide +kernel
theorem dX11_odometer_8 : decode cX11_odometer 8 = .ok (.aload_n 0, 1) := by decide +kernel
theorem dX11_odometer_9 : decode cX11_odometer 9 = .ok (.getfield 20, 3) := by decide +kernel
theorem dX11_odometer_12 : decode cX11_odometer 12 = .ok (.iload_n 1, 1) := by decide +kernel
theorem dX11_odometer_13 : decode cX11_odometer 13 = .ok (.laload, 1) := by decide +kernel
theorem dX11_odometer_14 : decode cX11_odometer 14 = .ok (.goto 9, 3) := by decide +kernel
theorem dX11_odometer_17 : decode cX11_odometer 17 = .ok (.aload_n 0, 1) := by decide +kernel
theorem dX11_odometer_18 : decode cX11_odometer 18 = .ok (.iconst (-1), 1) := by decide +kernel
theorem dX11_odometer_19 : decode cX11_odometer 19 = .ok (.invokevirtual 118, 3) := by decide +kernel
theorem dX11_odometer_22 : decode cX11_odometer 22 = .ok (.i2l, 1) := by decide +kernel
theorem dX11_odometer_23 : decode cX11_odometer 23 = .ok (.lreturn, 1) := by decide +kernel
theorem dX11_reset_0 : decode cX11_reset 0 = .ok (.iconst 0, 1) := by decide +kernel
theorem dX11_reset_1 : decode cX11_reset 1 = .ok (.istore_n 1, 1) := by decide +kernel
theorem dX11_reset_2 : decode cX11_reset 2 = .ok (.iconst 0, 1) := by decide +kernel
theorem dX11_reset_3 : decode cX11_reset 3 = .ok (.istore_n 2, 1) := by decide +kernel
theorem dX11_reset_4 : decode cX11_reset 4 = .ok (.iload_n 2, 1) := by decide +kernel
theorem dX11_reset_5 : decode cX11_reset 5 = .ok (.bipush 12, 2) := by decide +kernel
theorem dX11_reset_7 : decode cX11_reset 7 = .ok (.if_icmp .ge 35, 3) := by decide +kernel
theorem dX11_reset_10 : decode cX11_reset 10 = .ok (.iload_n 1, 1) := by decide +kernel
theorem dX11_reset_11 : decode cX11_reset 11 = .ok (.aload_n 0, 1) := by decide +kernel
theorem dX11_reset_12 : decode cX11_reset 12 = .ok (.getfield 20, 3) := by decide +kernel
theorem dX11_reset_15 : decode cX11_reset 15 = .ok (.iload_n 2, 1) := by decide +kernel
theorem dX11_reset_16 : decode cX11_reset 16 = .ok (.laload, 1) := by decide +kernel
theorem dX11_reset_17 : decode cX11_reset 17 = .ok (.lconst 0, 1) := by decide +kernel
theorem dX11_reset_18 : decode cX11_reset 18 = .ok (.lcmp, 1) := by decide +kernel
theorem dX11_reset_19 : decode cX11_reset 19 = .ok (.ifCond .eq 7, 3) := by decide +kernel
theorem dX11_reset_22 : decode cX11_reset 22 = .ok (.iconst 1, 1) := by decide +kernel
theorem dX11_reset_23 : decode cX11_reset 23 = .ok (.goto 4, 3) := by decide +kernel
theorem dX11_reset_26 : decode cX11_reset 26 = .ok (.iconst 0, 1) := by decide +kernel
theorem dX11_reset_27 : decode cX11_reset 27 = .ok (.iadd, 1) := by decide +kernel
theorem dX11_reset_28 : decode cX11_reset 28 = .ok (.istore_n 1, 1) := by decide +kernel
theorem dX11_reset_29 : decode cX11_reset 29 = .ok (.aload_n 0, 1) := by decide +kernel
theorem dX11_reset_30 : decode cX11_reset 30 = .ok (.getfield 20, 3) := by decide +kernel
theorem dX11_reset_33 : decode cX11_reset 33 = .ok (.iload_n 2, 1) := by decide +kernel
theorem dX11_reset_34 : decode cX11_reset 34 = .ok (.lconst 0, 1) := by decide +kernel
theorem dX11_reset_35 : decode cX11_reset 35 = .ok (.lastore, 1) := by decide +kernel
theorem dX11_reset_36 : decode cX11_reset 36 = .ok (.iinc 2 1, 3) := by decide +kernel
theorem dX11_reset_39 : decode cX11_reset 39 = .ok (.goto (-35), 3) := by decide +kernel
theorem dX11_reset_42 : decode cX11_reset 42 = .ok (.aload_n 0, 1) := by decide +kernel
theorem dX11_reset_43 : decode cX11_reset 43 = .ok (.iconst 0, 1) := by decide +kernel
theorem dX11_reset_44 : decode cX11_reset 44 = .ok (.putfield 143, 3) := by decide +kernel
theorem dX11_reset_47 : decode cX11_reset 47 = .ok (.iload_n 1, 1) := by decide +kernel
theorem dX11_reset_48 : decode cX11_reset 48 = .ok (.ireturn, 1) := by decide +kernel
theorem dX11_isTwoWay_0 : decode cX11_isTwoWay 0 = .ok (.iconst 0, 1) := by decide +kernel
theorem dX11_isTwoWay_1 : decode cX11_isTwoWay 1 = .ok (.istore_n 1, 1) := by decide +kernel
theorem dX11_isTwoWay_2 : decode cX11_isTwoWay 2 = .ok (.iload_n 1, 1) := by decide +kernel
theorem dX11_isTwoWay_3 : decode cX11_isTwoWay 3 = .ok (.aload_n 0, 1) := by decide +kernel
theorem dX11_isTwoWay_4 : decode cX11_isTwoWay 4 = .ok (.getfield 95, 3) := by decide +kernel
theorem dX11_isTwoWay_7 : decode cX11_isTwoWay 7 = .ok (.if_icmp .ge 39, 3) := by decide +kernel
theorem dX11_isTwoWay_10 : decode cX11_isTwoWay 10 = .ok (.iconst 0, 1) := by decide +kernel
theorem dX11_isTwoWay_11 : decode cX11_isTwoWay 11 = .ok (.istore_n 2, 1) := by decide +kernel
theorem dX11_isTwoWay_12 : decode cX11_isTwoWay 12 = .ok (.iload_n 2, 1) := by decide +kernel
theorem dX11_isTwoWay_13 : decode cX11_isTwoWay 13 = .ok (.iload_n 1, 1) := by decide +kernel
theorem dX11_isTwoWay_14 : decode cX11_isTwoWay 14 = .ok (.if_icmp .ge 26, 3) := by decide +kernel
theorem dX11_isTwoWay_17 : decode cX11_isTwoWay 17 = .ok (.aload_n 0, 1) := by decide +kernel
theorem dX11_isTwoWay_18 : decode cX11_isTwoWay 18 = .ok (.iload_n 1, 1) := by decide +kernel
theorem dX11_isTwoWay_19 : decode cX11_isTwoWay 19 = .ok (.iload_n 2, 1) := by decide +kernel
theorem dX11_isTwoWay_20 : decode cX11_isTwoWay 20 = .ok (.invokevirtual 102, 3) := by decide +kernel
theorem dX11_isTwoWay_23 : decode cX11_isTwoWay 23 = .ok (.aload_n 0, 1) := by decide +kernel
theorem dX11_isTwoWay_24 : decode cX11_isTwoWay 24 = .ok (.iload_n 2, 1) := by decide +kernel
theorem dX11_isTwoWay_25 : decode cX11_isTwoWay 25 = .ok (.iload_n 1, 1) := by decide +kernel
theorem dX11_isTwoWay_26 : decode cX11_isTwoWay 26 = .ok (.invokevirtual 102, 3) := by decide +kernel
theorem dX11_isTwoWay_29 : decode cX11_isTwoWay 29 = .ok (.if_icmp .eq 5, 3) := by decide +kernel
theorem dX11_isTwoWay_32 : decode cX11_isTwoWay 32 = .ok (.iconst 0, 1) := by decide +kernel
theorem dX11_isTwoWay_33 : decode cX11_isTwoWay 33 = .ok (.ireturn, 1) := by decide +kernel
theorem dX11_isTwoWay_34 : decode cX11_isTwoWay 34 = .ok (.iinc 2 1, 3) := by decide +kernel
theorem dX11_isTwoWay_37 : decode cX11_isTwoWay 37 = .ok (.goto (-25), 3) := by decide +kernel
theorem dX11_isTwoWay_40 : decode cX11_isTwoWay 40 = .ok (.iinc 1 1, 3) := by decide +kernel
theorem dX11_isTwoWay_43 : decode cX11_isTwoWay 43 = .ok (.goto (-41), 3) := by decide +kernel
theorem dX11_isTwoWay_46 : decode cX11_isTwoWay 46 = .ok (.iconst 1, 1) := by decide +kernel
theorem dX11_isTwoWay_47 : decode cX11_isTwoWay 47 = .ok (.ireturn, 1) := by decide +kernel
theorem dX11_twoWay_0 : decode cX11_twoWay 0 = .ok (.aload_n 0, 1) := by decide +kernel
theorem dX11_twoWay_1 : decode cX11_twoWay 1 = .ok (.getfield 114, 3) := by decide +kernel
theorem dX11_twoWay_4 : decode cX11_twoWay 4 = .ok (.ifCond .ne 12, 3) := by decide +kernel
theorem dX11_twoWay_7 : decode cX11_twoWay 7 = .ok (.aload_n 0, 1) := by decide +kernel
theorem dX11_twoWay_8 : decode cX11_twoWay 8 = .ok (.bipush (-8), 2) := by decide +kernel
theorem dX11_twoWay_10 : decode cX11_twoWay 10 = .ok (.invokevirtual 118, 3) := by decide +kernel
theorem dX11_twoWay_13 : decode cX11_twoWay 13 = .ok (.goto 15, 3) := by decide +kernel
theorem dX11_twoWay_16 : decode cX11_twoWay 16 = .ok (.aload_n 0, 1) := by decide +kernel
theorem dX11_twoWay_17 : decode cX11_twoWay 17 = .ok (.invokevirtual 190, 3) := by decide +kernel
theorem dX11_twoWay_20 : decode cX11_twoWay 20 = .ok (.ifCond .eq 7, 3) := by decide +kernel
theorem dX11_twoWay_23 : decode cX11_twoWay 23 = .ok (.iconst 1, 1) := by decide +kernel
theorem dX11_twoWay_24 : decode cX11_twoWay 24 = .ok (.goto 4, 3) := by decide +kernel
theorem dX11_twoWay_27 : decode cX11_twoWay 27 = .ok (.iconst 0, 1) := by decide +kernel
theorem dX11_twoWay_28 : decode cX11_twoWay 28 = .ok (.ireturn, 1) := by decide +kernel
theorem dX11_burns_0 : decode cX11_burns 0 = .ok (.iconst 0, 1) := by decide +kernel
theorem dX11_burns_1 : decode cX11_burns 1 = .ok (.istore_n 2, 1) := by decide +kernel
theorem dX11_burns_2 : decode cX11_burns 2 = .ok (.iconst 0, 1) := by decide +kernel
theorem dX11_burns_3 : decode cX11_burns 3 = .ok (.istore_n 3, 1) := by decide +kernel
theorem dX11_burns_4 : decode cX11_burns 4 = .ok (.iconst 0, 1) := by decide +kernel
theorem dX11_burns_5 : decode cX11_burns 5 = .ok (.istore 4, 2) := by decide +kernel
theorem dX11_burns_7 : decode cX11_burns 7 = .ok (.iload 4, 2) := by decide +kernel
theorem dX11_burns_9 : decode cX11_burns 9 = .ok (.aload_n 0, 1) := by decide +kernel
theorem dX11_burns_10 : decode cX11_burns 10 = .ok (.getfield 95, 3) := by decide +kernel
theorem dX11_burns_13 : decode cX11_burns 13 = .ok (.if_icmp .ge 97, 3) := by decide +kernel
theorem dX11_burns_16 : decode cX11_burns 16 = .ok (.lconst 0, 1) := by decide +kernel
theorem dX11_burns_17 : decode cX11_burns 17 = .ok (.lstore 5, 2) := by decide +kernel
theorem dX11_burns_19 : decode cX11_burns 19 = .ok (.iconst 0, 1) := by decide +kernel
theorem dX11_burns_20 : decode cX11_burns 20 = .ok (.istore 7, 2) := by decide +kernel
theorem dX11_burns_22 : decode cX11_burns 22 = .ok (.iload 7, 2) := by decide +kernel
theorem dX11_burns_24 : decode cX11_burns 24 = .ok (.aload_n 0, 1) := by decide +kernel
theorem dX11_burns_25 : decode cX11_burns 25 = .ok (.getfield 95, 3) := by decide +kernel
theorem dX11_burns_28 : decode cX11_burns 28 = .ok (.if_icmp .ge 32, 3) := by decide +kernel
theorem dX11_burns_31 : decode cX11_burns 31 = .ok (.iload_n 2, 1) := by decide +kernel
theorem dX11_burns_32 : decode cX11_burns 32 = .ok (.iload 7, 2) := by decide +kernel
theorem dX11_burns_34 : decode cX11_burns 34 = .ok (.ishr, 1) := by decide +kernel
theorem dX11_burns_35 : decode cX11_burns 35 = .ok (.iconst 1, 1) := by decide +kernel
theorem dX11_burns_36 : decode cX11_burns 36 = .ok (.iand, 1) := by decide +kernel
theorem dX11_burns_37 : decode cX11_burns 37 = .ok (.ifCond .ne 17, 3) := by decide +kernel
theorem dX11_burns_40 : decode cX11_burns 40 = .ok (.lload 5, 2) := by decide +kernel
theorem dX11_burns_42 : decode cX11_burns 42 = .ok (.aload_n 0, 1) := by decide +kernel
theorem dX11_burns_43 : decode cX11_burns 43 = .ok (.iload 4, 2) := by decide +kernel
theorem dX11_burns_45 : decode cX11_burns 45 = .ok (.iload 7, 2) := by decide +kernel
theorem dX11_burns_47 : decode cX11_burns 47 = .ok (.invokevirtual 102, 3) := by decide +kernel
theorem dX11_burns_50 : decode cX11_burns 50 = .ok (.i2l, 1) := by decide +kernel
theorem dX11_burns_51 : decode cX11_burns 51 = .ok (.ladd, 1) := by decide +kernel
theorem dX11_burns_52 : decode cX11_burns 52 = .ok (.lstore 5, 2) := by decide +kernel
theorem dX11_burns_54 : decode cX11_burns 54 = .ok (.iinc 7 1, 3) := by decide +kernel
theorem dX11_burns_57 : decode cX11_burns 57 = .ok (.goto (-35), 3) := by decide +kernel
theorem dX11_burns_60 : decode cX11_burns 60 = .ok (.iload_n 2, 1) := by decide +kernel
theorem dX11_burns_61 : decode cX11_burns 61 = .ok (.iload 4, 2) := by decide +kernel
theorem dX11_burns_63 : decode cX11_burns 63 = .ok (.ishr, 1) := by decide +kernel
theorem dX11_burns_64 : decode cX11_burns 64 = .ok (.iconst 1, 1) := by decide +kernel
theorem dX11_burns_65 : decode cX11_burns 65 = .ok (.iand, 1) := by decide +kernel
theorem dX11_burns_66 : decode cX11_burns 66 = .ok (.iconst 1, 1) := by decide +kernel
theorem dX11_burns_67 : decode cX11_burns 67 = .ok (.if_icmp .eq 13, 3) := by decide +kernel
theorem dX11_burns_70 : decode cX11_burns 70 = .ok (.aload_n 1, 1) := by decide +kernel
theorem dX11_burns_71 : decode cX11_burns 71 = .ok (.iload 4, 2) := by decide +kernel
theorem dX11_burns_73 : decode cX11_burns 73 = .ok (.laload, 1) := by decide +kernel
theorem dX11_burns_74 : decode cX11_burns 74 = .ok (.lload 5, 2) := by decide +kernel
theorem dX11_burns_76 : decode cX11_burns 76 = .ok (.lcmp, 1) := by decide +kernel
theorem dX11_burns_77 : decode cX11_burns 77 = .ok (.ifCond .ge 9, 3) := by decide +kernel
theorem dX11_burns_80 : decode cX11_burns 80 = .ok (.iinc 4 1, 3) := by decide +kernel
theorem dX11_burns_83 : decode cX11_burns 83 = .ok (.goto (-76), 3) := by decide +kernel
theorem dX11_burns_86 : decode cX11_burns 86 = .ok (.iload_n 2, 1) := by decide +kernel
theorem dX11_burns_87 : decode cX11_burns 87 = .ok (.iconst 1, 1) := by decide +kernel
theorem dX11_burns_88 : decode cX11_burns 88 = .ok (.iload 4, 2) := by decide +kernel
theorem dX11_burns_90 : decode cX11_burns 90 = .ok (.ishl, 1) := by decide +kernel
theorem dX11_burns_91 : decode cX11_burns 91 = .ok (.ior, 1) := by decide +kernel
theorem dX11_burns_92 : decode cX11_burns 92 = .ok (.istore_n 2, 1) := by decide +kernel
theorem dX11_burns_93 : decode cX11_burns 93 = .ok (.aload_n 0, 1) := by decide +kernel
theorem dX11_burns_94 : decode cX11_burns 94 = .ok (.getfield 73, 3) := by decide +kernel
theorem dX11_burns_97 : decode cX11_burns 97 = .ok (.iload_n 3, 1) := by decide +kernel
theorem dX11_burns_98 : decode cX11_burns 98 = .ok (.iload 4, 2) := by decide +kernel
theorem dX11_burns_100 : decode cX11_burns 100 = .ok (.iastore, 1) := by decide +kernel
theorem dX11_burns_101 : decode cX11_burns 101 = .ok (.iinc 3 1, 3) := by decide +kernel
theorem dX11_burns_104 : decode cX11_burns 104 = .ok (.iconst 0, 1) := by decide +kernel
theorem dX11_burns_105 : decode cX11_burns 105 = .ok (.istore 4, 2) := by decide +kernel
theorem dX11_burns_107 : decode cX11_burns 107 = .ok (.goto (-100), 3) := by decide +kernel
theorem dX11_burns_110 : decode cX11_burns 110 = .ok (.iload_n 2, 1) := by decide +kernel
theorem dX11_burns_111 : decode cX11_burns 111 = .ok (.ireturn, 1) := by decide +kernel
theorem dX11_burn_0 : decode cX11_burn 0 = .ok (.aload_n 0, 1) := by decide +kernel
theorem dX11_burn_1 : decode cX11_burn 1 = .ok (.getfield 114, 3) := by decide +kernel
theorem dX11_burn_4 : decode cX11_burn 4 = .ok (.ifCond .eq 10, 3) := by decide +kernel
theorem dX11_burn_7 : decode cX11_burn 7 = .ok (.aload_n 0, 1) := by decide +kernel
theorem dX11_burn_8 : decode cX11_burn 8 = .ok (.invokevirtual 151, 3) := by decide +kernel
theorem dX11_burn_11 : decode cX11_burn 11 = .ok (.ifCond .le 10, 3) := by decide +kernel
theorem dX11_burn_14 : decode cX11_burn 14 = .ok (.aload_n 0, 1) := by decide +kernel
theorem dX11_burn_15 : decode cX11_burn 15 = .ok (.bipush (-8), 2) := by decide +kernel
theorem dX11_burn_17 : decode cX11_burn 17 = .ok (.invokevirtual 118, 3) := by decide +kernel
theorem dX11_burn_20 : decode cX11_burn 20 = .ok (.ireturn, 1) := by decide +kernel
theorem dX11_burn_21 : decode cX11_burn 21 = .ok (.aload_n 0, 1) := by decide +kernel
theorem dX11_burn_22 : decode cX11_burn 22 = .ok (.invokevirtual 190, 3) := by decide +kernel
theorem dX11_burn_25 : decode cX11_burn 25 = .ok (.ifCond .ne 10, 3) := by decide +kernel
theorem dX11_burn_28 : decode cX11_burn 28 = .ok (.aload_n 0, 1) := by decide +kernel
theorem dX11_burn_29 : decode cX11_burn 29 = .ok (.bipush (-12), 2) := by decide +kernel
theorem dX11_burn_31 : decode cX11_burn 31 = .ok (.invokevirtual 118, 3) := by decide +kernel
theorem dX11_burn_34 : decode cX11_burn 34 = .ok (.ireturn, 1) := by decide +kernel
theorem dX11_burn_35 : decode cX11_burn 35 = .ok (.aload_n 0, 1) := by decide +kernel
theorem dX11_burn_36 : decode cX11_burn 36 = .ok (.aload_n 0, 1) := by decide +kernel
theorem dX11_burn_37 : decode cX11_burn 37 = .ok (.getfield 16, 3) := by decide +kernel
theorem dX11_burn_40 : decode cX11_burn 40 = .ok (.invokevirtual 194, 3) := by decide +kernel
theorem dX11_burn_43 : decode cX11_burn 43 = .ok (.istore_n 1, 1) := by decide +kernel
theorem dX11_burn_44 : decode cX11_burn 44 = .ok (.aload_n 0, 1) := by decide +kernel
theorem dX11_burn_45 : decode cX11_burn 45 = .ok (.iconst 0, 1) := by decide +kernel
theorem dX11_burn_46 : decode cX11_burn 46 = .ok (.putfield 134, 3) := by decide +kernel
theorem dX11_burn_49 : decode cX11_burn 49 = .ok (.iconst 0, 1) := by decide +kernel
theorem dX11_burn_50 : decode cX11_burn 50 = .ok (.istore_n 2, 1) := by decide +kernel
theorem dX11_burn_51 : decode cX11_burn 51 = .ok (.iload_n 2, 1) := by decide +kernel
theorem dX11_burn_52 : decode cX11_burn 52 = .ok (.aload_n 0, 1) := by decide +kernel
theorem dX11_burn_53 : decode cX11_burn 53 = .ok (.getfield 95, 3) := by decide +kernel
theorem dX11_burn_56 : decode cX11_burn 56 = .ok (.if_icmp .ge 23, 3) := by decide +kernel
theorem dX11_burn_59 : decode cX11_burn 59 = .ok (.aload_n 0, 1) := by decide +kernel
theorem dX11_burn_60 : decode cX11_burn 60 = .ok (.dup, 1) := by decide +kernel
theorem dX11_burn_61 : decode cX11_burn 61 = .ok (.getfield 134, 3) := by decide +kernel
theorem dX11_burn_64 : decode cX11_burn 64 = .ok (.iload_n 1, 1) := by decide +kernel
theorem dX11_burn_65 : decode cX11_burn 65 = .ok (.iload_n 2, 1) := by decide +kernel
theorem dX11_burn_66 : decode cX11_burn 66 = .ok (.ishr, 1) := by decide +kernel
theorem dX11_burn_67 : decode cX11_burn 67 = .ok (.iconst 1, 1) := by decide +kernel
theorem dX11_burn_68 : decode cX11_burn 68 = .ok (.iand, 1) := by decide +kernel
theorem dX11_burn_69 : decode cX11_burn 69 = .ok (.iadd, 1) := by decide +kernel
theorem dX11_burn_70 : decode cX11_burn 70 = .ok (.putfield 134, 3) := by decide +kernel
theorem dX11_burn_73 : decode cX11_burn 73 = .ok (.iinc 2 1, 3) := by decide +kernel
theorem dX11_burn_76 : decode cX11_burn 76 = .ok (.goto (-25), 3) := by decide +kernel
theorem dX11_burn_79 : decode cX11_burn 79 = .ok (.iconst 0, 1) := by decide +kernel
theorem dX11_burn_80 : decode cX11_burn 80 = .ok (.istore_n 2, 1) := by decide +kernel
theorem dX11_burn_81 : decode cX11_burn 81 = .ok (.iload_n 2, 1) := by decide +kernel
theorem dX11_burn_82 : decode cX11_burn 82 = .ok (.aload_n 0, 1) := by decide +kernel
theorem dX11_burn_83 : decode cX11_burn 83 = .ok (.getfield 134, 3) := by decide +kernel
theorem dX11_burn_86 : decode cX11_burn 86 = .ok (.if_icmp .ge 21, 3) := by decide +kernel
theorem dX11_burn_89 : decode cX11_burn 89 = .ok (.aload_n 0, 1) := by decide +kernel
theorem dX11_burn_90 : decode cX11_burn 90 = .ok (.getfield 33, 3) := by decide +kernel
theorem dX11_burn_93 : decode cX11_burn 93 = .ok (.iload_n 2, 1) := by decide +kernel
theorem dX11_burn_94 : decode cX11_burn 94 = .ok (.aload_n 0, 1) := by decide +kernel
theorem dX11_burn_95 : decode cX11_burn 95 = .ok (.getfield 73, 3) := by decide +kernel
theorem dX11_burn_98 : decode cX11_burn 98 = .ok (.iload_n 2, 1) := by decide +kernel
theorem dX11_burn_99 : decode cX11_burn 99 = .ok (.iaload, 1) := by decide +kernel
theorem dX11_burn_100 : decode cX11_burn 100 = .ok (.iastore, 1) := by decide +kernel
theorem dX11_burn_101 : decode cX11_burn 101 = .ok (.iinc 2 1, 3) := by decide +kernel
theorem dX11_burn_104 : decode cX11_burn 104 = .ok (.goto (-23), 3) := by decide +kernel
theorem dX11_burn_107 : decode cX11_burn 107 = .ok (.aload_n 0, 1) := by decide +kernel
theorem dX11_burn_108 : decode cX11_burn 108 = .ok (.iconst 1, 1) := by decide +kernel
theorem dX11_burn_109 : decode cX11_burn 109 = .ok (.aload_n 0, 1) := by decide +kernel
theorem dX11_burn_110 : decode cX11_burn 110 = .ok (.getfield 95, 3) := by decide +kernel
theorem dX11_burn_113 : decode cX11_burn 113 = .ok (.ishl, 1) := by decide +kernel
theorem dX11_burn_114 : decode cX11_burn 114 = .ok (.iconst 1, 1) := by decide +kernel
theorem dX11_burn_115 : decode cX11_burn 115 = .ok (.isub, 1) := by decide +kernel
theorem dX11_burn_116 : decode cX11_burn 116 = .ok (.iload_n 1, 1) := by decide +kernel
theorem dX11_burn_117 : decode cX11_burn 117 = .ok (.isub, 1) := by decide +kernel
theorem dX11_burn_118 : decode cX11_burn 118 = .ok (.putfield 137, 3) := by decide +kernel
theorem dX11_burn_121 : decode cX11_burn 121 = .ok (.aload_n 0, 1) := by decide +kernel
theorem dX11_burn_122 : decode cX11_burn 122 = .ok (.getfield 137, 3) := by decide +kernel
theorem dX11_burn_125 : decode cX11_burn 125 = .ok (.ifCond .ne 7, 3) := by decide +kernel
theorem dX11_burn_128 : decode cX11_burn 128 = .ok (.iconst 1, 1) := by decide +kernel
theorem dX11_burn_129 : decode cX11_burn 129 = .ok (.goto 4, 3) := by decide +kernel
theorem dX11_burn_132 : decode cX11_burn 132 = .ok (.iconst 0, 1) := by decide +kernel
theorem dX11_burn_133 : decode cX11_burn 133 = .ok (.ireturn, 1) := by decide +kernel
theorem dX11_burnt_0 : decode cX11_burnt 0 = .ok (.iload_n 1, 1) := by decide +kernel
theorem dX11_burnt_1 : decode cX11_burnt 1 = .ok (.iconst (-1), 1) := by decide +kernel
theorem dX11_burnt_2 : decode cX11_burnt 2 = .ok (.aload_n 0, 1) := by decide +kernel
theorem dX11_burnt_3 : decode cX11_burnt 3 = .ok (.getfield 134, 3) := by decide +kernel
theorem dX11_burnt_6 : decode cX11_burnt 6 = .ok (.iconst 1, 1) := by decide +kernel
theorem dX11_burnt_7 : decode cX11_burnt 7 = .ok (.isub, 1) := by decide +kernel
theorem dX11_burnt_8 : decode cX11_burnt 8 = .ok (.invokestatic 98, 3) := by decide +kernel
theorem dX11_burnt_11 : decode cX11_burnt 11 = .ok (.ifCond .ne 10, 3) := by decide +kernel
theorem dX11_burnt_14 : decode cX11_burnt 14 = .ok (.aload_n 0, 1) := by decide +kernel
theorem dX11_burnt_15 : decode cX11_burnt 15 = .ok (.bipush (-11), 2) := by decide +kernel
theorem dX11_burnt_17 : decode cX11_burnt 17 = .ok (.invokevirtual 118, 3) := by decide +kernel
theorem dX11_burnt_20 : decode cX11_burnt 20 = .ok (.ireturn, 1) := by decide +kernel
theorem dX11_burnt_21 : decode cX11_burnt 21 = .ok (.iload_n 1, 1) := by decide +kernel
theorem dX11_burnt_22 : decode cX11_burnt 22 = .ok (.ifCond .ge 10, 3) := by decide +kernel
theorem dX11_burnt_25 : decode cX11_burnt 25 = .ok (.aload_n 0, 1) := by decide +kernel
theorem dX11_burnt_26 : decode cX11_burnt 26 = .ok (.getfield 137, 3) := by decide +kernel
theorem dX11_burnt_29 : decode cX11_burnt 29 = .ok (.goto 9, 3) := by decide +kernel
theorem dX11_burnt_32 : decode cX11_burnt 32 = .ok (.aload_n 0, 1) := by decide +kernel
theorem dX11_burnt_33 : decode cX11_burnt 33 = .ok (.getfield 33, 3) := by decide +kernel
theorem dX11_burnt_36 : decode cX11_burnt 36 = .ok (.iload_n 1, 1) := by decide +kernel
theorem dX11_burnt_37 : decode cX11_burnt 37 = .ok (.iaload, 1) := by decide +kernel
theorem dX11_burnt_38 : decode cX11_burnt 38 = .ok (.ireturn, 1) := by decide +kernel
theorem dX11_isSlot_0 : decode cX11_isSlot 0 = .ok (.iload_n 0, 1) := by decide +kernel
theorem dX11_isSlot_1 : decode cX11_isSlot 1 = .ok (.iconst 0, 1) := by decide +kernel
theorem dX11_isSlot_2 : decode cX11_isSlot 2 = .ok (.bipush 7, 2) := by decide +kernel
theorem dX11_isSlot_4 : decode cX11_isSlot 4 = .ok (.invokestatic 98, 3) := by decide +kernel
theorem dX11_isSlot_7 : decode cX11_isSlot 7 = .ok (.ireturn, 1) := by decide +kernel
theorem dX11_stored_0 : decode cX11_stored 0 = .ok (.lconst 0, 1) := by decide +kernel
theorem dX11_stored_1 : decode cX11_stored 1 = .ok (.lstore_n 3, 1) := by decide +kernel
theorem dX11_stored_2 : decode cX11_stored 2 = .ok (.iconst 0, 1) := by decide +kernel
theorem dX11_stored_3 : decode cX11_stored 3 = .ok (.istore 5, 2) := by decide +kernel
theorem dX11_stored_5 : decode cX11_stored 5 = .ok (.iload 5, 2) := by decide +kernel
theorem dX11_stored_7 : decode cX11_stored 7 = .ok (.bipush 12, 2) := by decide +kernel
theorem dX11_stored_9 : decode cX11_stored 9 = .ok (.if_icmp .ge 53, 3) := by decide +kernel
theorem dX11_stored_12 : decode cX11_stored 12 = .ok (.aload_n 0, 1) := by decide +kernel
theorem dX11_stored_13 : decode cX11_stored 13 = .ok (.getfield 36, 3) := by decide +kernel
theorem dX11_stored_16 : decode cX11_stored 16 = .ok (.bipush 12, 2) := by decide +kernel
theorem dX11_stored_18 : decode cX11_stored 18 = .ok (.iload_n 1, 1) := by decide +kernel
theorem dX11_stored_19 : decode cX11_stored 19 = .ok (.imul, 1) := by decide +kernel
theorem dX11_stored_20 : decode cX11_stored 20 = .ok (.iload 5, 2) := by decide +kernel
theorem dX11_stored_22 : decode cX11_stored 22 = .ok (.iadd, 1) := by decide +kernel
theorem dX11_stored_23 : decode cX11_stored 23 = .ok (.iload 5, 2) := by decide +kernel
theorem dX11_stored_25 : decode cX11_stored 25 = .ok (.aload_n 0, 1) := by decide +kernel
theorem dX11_stored_26 : decode cX11_stored 26 = .ok (.getfield 95, 3) := by decide +kernel
theorem dX11_stored_29 : decode cX11_stored 29 = .ok (.if_icmp .ge 10, 3) := by decide +kernel
theorem dX11_stored_32 : decode cX11_stored 32 = .ok (.aload_n 2, 1) := by decide +kernel
theorem dX11_stored_33 : decode cX11_stored 33 = .ok (.iload 5, 2) := by decide +kernel
theorem dX11_stored_35 : decode cX11_stored 35 = .ok (.laload, 1) := by decide +kernel
theorem dX11_stored_36 : decode cX11_stored 36 = .ok (.goto 4, 3) := by decide +kernel
theorem dX11_stored_39 : decode cX11_stored 39 = .ok (.lconst 0, 1) := by decide +kernel
theorem dX11_stored_40 : decode cX11_stored 40 = .ok (.lastore, 1) := by decide +kernel
theorem dX11_stored_41 : decode cX11_stored 41 = .ok (.lload_n 3, 1) := by decide +kernel
theorem dX11_stored_42 : decode cX11_stored 42 = .ok (.aload_n 0, 1) := by decide +kernel
theorem dX11_stored_43 : decode cX11_stored 43 = .ok (.getfield 36, 3) := by decide +kernel
theorem dX11_stored_46 : decode cX11_stored 46 = .ok (.bipush 12, 2) := by decide +kernel
theorem dX11_stored_48 : decode cX11_stored 48 = .ok (.iload_n 1, 1) := by decide +kernel
theorem dX11_stored_49 : decode cX11_stored 49 = .ok (.imul, 1) := by decide +kernel
theorem dX11_stored_50 : decode cX11_stored 50 = .ok (.iload 5, 2) := by decide +kernel
theorem dX11_stored_52 : decode cX11_stored 52 = .ok (.iadd, 1) := by decide +kernel
theorem dX11_stored_53 : decode cX11_stored 53 = .ok (.laload, 1) := by decide +kernel
theorem dX11_stored_54 : decode cX11_stored 54 = .ok (.ladd, 1) := by decide +kernel
theorem dX11_stored_55 : decode cX11_stored 55 = .ok (.lstore_n 3, 1) := by decide +kernel
theorem dX11_stored_56 : decode cX11_stored 56 = .ok (.iinc 5 1, 3) := by decide +kernel
theorem dX11_stored_59 : decode cX11_stored 59 = .ok (.goto (-54), 3) := by decide +kernel
theorem dX11_stored_62 : decode cX11_stored 62 = .ok (.aload_n 0, 1) := by decide +kernel
theorem dX11_stored_63 : decode cX11_stored 63 = .ok (.getfield 39, 3) := by decide +kernel
theorem dX11_stored_66 : decode cX11_stored 66 = .ok (.iload_n 1, 1) := by decide +kernel
theorem dX11_stored_67 : decode cX11_stored 67 = .ok (.iconst 1, 1) := by decide +kernel
theorem dX11_stored_68 : decode cX11_stored 68 = .ok (.bastore, 1) := by decide +kernel
theorem dX11_stored_69 : decode cX11_stored 69 = .ok (.lload_n 3, 1) := by decide +kernel
theorem dX11_stored_70 : decode cX11_stored 70 = .ok (.l2i, 1) := by decide +kernel
theorem dX11_stored_71 : decode cX11_stored 71 = .ok (.ireturn, 1) := by decide +kernel
theorem dX11_keep_0 : decode cX11_keep 0 = .ok (.iload_n 1, 1) := by decide +kernel
theorem dX11_keep_1 : decode cX11_keep 1 = .ok (.invokestatic 198, 3) := by decide +kernel
theorem dX11_keep_4 : decode cX11_keep 4 = .ok (.ifCond .ne 9, 3) := by decide +kernel
theorem dX11_keep_7 : decode cX11_keep 7 = .ok (.aload_n 0, 1) := by decide +kernel
theorem dX11_keep_8 : decode cX11_keep 8 = .ok (.iconst (-1), 1) := by decide +kernel
theorem dX11_keep_9 : decode cX11_keep 9 = .ok (.invokevirtual 118, 3) := by decide +kernel
theorem dX11_keep_12 : decode cX11_keep 12 = .ok (.ireturn, 1) := by decide +kernel
theorem dX11_keep_13 : decode cX11_keep 13 = .ok (.aload_n 0, 1) := by decide +kernel
theorem dX11_keep_14 : decode cX11_keep 14 = .ok (.getfield 114, 3) := by decide +kernel
theorem dX11_keep_17 : decode cX11_keep 17 = .ok (.ifCond .ne 10, 3) := by decide +kernel
theorem dX11_keep_20 : decode cX11_keep 20 = .ok (.aload_n 0, 1) := by decide +kernel
theorem dX11_keep_21 : decode cX11_keep 21 = .ok (.bipush (-8), 2) := by decide +kernel
theorem dX11_keep_23 : decode cX11_keep 23 = .ok (.invokevirtual 118, 3) := by decide +kernel
theorem dX11_keep_26 : decode cX11_keep 26 = .ok (.ireturn, 1) := by decide +kernel
theorem dX11_keep_27 : decode cX11_keep 27 = .ok (.aload_n 0, 1) := by decide +kernel
theorem dX11_keep_28 : decode cX11_keep 28 = .ok (.iload_n 1, 1) := by decide +kernel
theorem dX11_keep_29 : decode cX11_keep 29 = .ok (.aload_n 0, 1) := by decide +kernel
theorem dX11_keep_30 : decode cX11_keep 30 = .ok (.getfield 16, 3) := by decide +kernel
theorem dX11_keep_33 : decode cX11_keep 33 = .ok (.invokevirtual 201, 3) := by decide +kernel
theorem dX11_keep_36 : decode cX11_keep 36 = .ok (.ireturn, 1) := by decide +kernel
theorem dX11_bring_0 : decode cX11_bring 0 = .ok (.iload_n 1, 1) := by decide +kernel
theorem dX11_bring_1 : decode cX11_bring 1 = .ok (.invokestatic 198, 3) := by decide +kernel
theorem dX11_bring_4 : decode cX11_bring 4 = .ok (.ifCond .ne 9, 3) := by decide +kernel
theorem dX11_bring_7 : decode cX11_bring 7 = .ok (.aload_n 0, 1) := by decide +kernel
theorem dX11_bring_8 : decode cX11_bring 8 = .ok (.iconst (-1), 1) := by decide +kernel
theorem dX11_bring_9 : decode cX11_bring 9 = .ok (.invokevirtual 118, 3) := by decide +kernel
theorem dX11_bring_12 : decode cX11_bring 12 = .ok (.ireturn, 1) := by decide +kernel
theorem dX11_bring_13 : decode cX11_bring 13 = .ok (.aload_n 0, 1) := by decide +kernel
theorem dX11_bring_14 : decode cX11_bring 14 = .ok (.getfield 39, 3) := by decide +kernel
theorem dX11_bring_17 : decode cX11_bring 17 = .ok (.iload_n 1, 1) := by decide +kernel
theorem dX11_bring_18 : decode cX11_bring 18 = .ok (.baload, 1) := by decide +kernel
theorem dX11_bring_19 : decode cX11_bring 19 = .ok (.ifCond .ne 10, 3) := by decide +kernel
theorem dX11_bring_22 : decode cX11_bring 22 = .ok (.aload_n 0, 1) := by decide +kernel
theorem dX11_bring_23 : decode cX11_bring 23 = .ok (.bipush (-11), 2) := by decide +kernel
theorem dX11_bring_25 : decode cX11_bring 25 = .ok (.invokevirtual 118, 3) := by decide +kernel
theorem dX11_bring_28 : decode cX11_bring 28 = .ok (.ireturn, 1) := by decide +kernel
theorem dX11_bring_29 : decode cX11_bring 29 = .ok (.aload_n 0, 1) := by decide +kernel
theorem dX11_bring_30 : decode cX11_bring 30 = .ok (.getfield 114, 3) := by decide +kernel
theorem dX11_bring_33 : decode cX11_bring 33 = .ok (.ifCond .ne 10, 3) := by decide +kernel
theorem dX11_bring_36 : decode cX11_bring 36 = .ok (.aload_n 0, 1) := by decide +kernel
theorem dX11_bring_37 : decode cX11_bring 37 = .ok (.bipush (-8), 2) := by decide +kernel
theorem dX11_bring_39 : decode cX11_bring 39 = .ok (.invokevirtual 118, 3) := by decide +kernel
theorem dX11_bring_42 : decode cX11_bring 42 = .ok (.ireturn, 1) := by decide +kernel
theorem dX11_bring_43 : decode cX11_bring 43 = .ok (.lconst 0, 1) := by decide +kernel
theorem dX11_bring_44 : decode cX11_bring 44 = .ok (.lstore_n 2, 1) := by decide +kernel
theorem dX11_bring_45 : decode cX11_bring 45 = .ok (.iconst 0, 1) := by decide +kernel
theorem dX11_bring_46 : decode cX11_bring 46 = .ok (.istore 4, 2) := by decide +kernel
theorem dX11_bring_48 : decode cX11_bring 48 = .ok (.iload 4, 2) := by decide +kernel
theorem dX11_bring_50 : decode cX11_bring 50 = .ok (.aload_n 0, 1) := by decide +kernel
theorem dX11_bring_51 : decode cX11_bring 51 = .ok (.getfield 95, 3) := by decide +kernel
theorem dX11_bring_54 : decode cX11_bring 54 = .ok (.if_icmp .ge 38, 3) := by decide +kernel
theorem dX11_bring_57 : decode cX11_bring 57 = .ok (.aload_n 0, 1) := by decide +kernel
theorem dX11_bring_58 : decode cX11_bring 58 = .ok (.getfield 16, 3) := by decide +kernel
theorem dX11_bring_61 : decode cX11_bring 61 = .ok (.iload 4, 2) := by decide +kernel
theorem dX11_bring_63 : decode cX11_bring 63 = .ok (.aload_n 0, 1) := by decide +kernel
theorem dX11_bring_64 : decode cX11_bring 64 = .ok (.getfield 36, 3) := by decide +kernel
theorem dX11_bring_67 : decode cX11_bring 67 = .ok (.bipush 12, 2) := by decide +kernel
theorem dX11_bring_69 : decode cX11_bring 69 = .ok (.iload_n 1, 1) := by decide +kernel
theorem dX11_bring_70 : decode cX11_bring 70 = .ok (.imul, 1) := by decide +kernel
theorem dX11_bring_71 : decode cX11_bring 71 = .ok (.iload 4, 2) := by decide +kernel
theorem dX11_bring_73 : decode cX11_bring 73 = .ok (.iadd, 1) := by decide +kernel
theorem dX11_bring_74 : decode cX11_bring 74 = .ok (.laload, 1) := by decide +kernel
theorem dX11_bring_75 : decode cX11_bring 75 = .ok (.lastore, 1) := by decide +kernel
theorem dX11_bring_76 : decode cX11_bring 76 = .ok (.lload_n 2, 1) := by decide +kernel
theorem dX11_bring_77 : decode cX11_bring 77 = .ok (.aload_n 0, 1) := by decide +kernel
theorem dX11_bring_78 : decode cX11_bring 78 = .ok (.getfield 16, 3) := by decide +kernel
theorem dX11_bring_81 : decode cX11_bring 81 = .ok (.iload 4, 2) := by decide +kernel
theorem dX11_bring_83 : decode cX11_bring 83 = .ok (.laload, 1) := by decide +kernel
theorem dX11_bring_84 : decode cX11_bring 84 = .ok (.ladd, 1) := by decide +kernel
theorem dX11_bring_85 : decode cX11_bring 85 = .ok (.lstore_n 2, 1) := by decide +kernel
theorem dX11_bring_86 : decode cX11_bring 86 = .ok (.iinc 4 1, 3) := by decide +kernel
theorem dX11_bring_89 : decode cX11_bring 89 = .ok (.goto (-41), 3) := by decide +kernel
theorem dX11_bring_92 : decode cX11_bring 92 = .ok (.aload_n 0, 1) := by decide +kernel
theorem dX11_bring_93 : decode cX11_bring 93 = .ok (.iconst 0, 1) := by decide +kernel
theorem dX11_bring_94 : decode cX11_bring 94 = .ok (.putfield 143, 3) := by decide +kernel
theorem dX11_bring_97 : decode cX11_bring 97 = .ok (.lload_n 2, 1) := by decide +kernel
theorem dX11_bring_98 : decode cX11_bring 98 = .ok (.l2i, 1) := by decide +kernel
theorem dX11_bring_99 : decode cX11_bring 99 = .ok (.ireturn, 1) := by decide +kernel
theorem dX11_settles_0 : decode cX11_settles 0 = .ok (.bipush 12, 2) := by decide +kernel
theorem dX11_settles_2 : decode cX11_settles 2 = .ok (.istore_n 1, 1) := by decide +kernel
theorem dX11_settles_3 : decode cX11_settles 3 = .ok (.iload_n 1, 1) := by decide +kernel
theorem dX11_settles_4 : decode cX11_settles 4 = .ok (.bipush 15, 2) := by decide +kernel
theorem dX11_settles_6 : decode cX11_settles 6 = .ok (.if_icmp .ge 16, 3) := by decide +kernel
theorem dX11_settles_9 : decode cX11_settles 9 = .ok (.aload_n 0, 1) := by decide +kernel
theorem dX11_settles_10 : decode cX11_settles 10 = .ok (.getfield 76, 3) := by decide +kernel
theorem dX11_settles_13 : decode cX11_settles 13 = .ok (.iload_n 1, 1) := by decide +kernel
theorem dX11_settles_14 : decode cX11_settles 14 = .ok (.lconst 0, 1) := by decide +kernel
theorem dX11_settles_15 : decode cX11_settles 15 = .ok (.lastore, 1) := by decide +kernel
theorem dX11_settles_16 : decode cX11_settles 16 = .ok (.iinc 1 1, 3) := by decide +kernel
theorem dX11_settles_19 : decode cX11_settles 19 = .ok (.goto (-16), 3) := by decide +kernel
theorem dX11_settles_22 : decode cX11_settles 22 = .ok (.iconst 0, 1) := by decide +kernel
theorem dX11_settles_23 : decode cX11_settles 23 = .ok (.istore_n 1, 1) := by decide +kernel
theorem dX11_settles_24 : decode cX11_settles 24 = .ok (.iload_n 1, 1) := by decide +kernel
theorem dX11_settles_25 : decode cX11_settles 25 = .ok (.aload_n 0, 1) := by decide +kernel
theorem dX11_settles_26 : decode cX11_settles 26 = .ok (.getfield 95, 3) := by decide +kernel
theorem dX11_settles_29 : decode cX11_settles 29 = .ok (.if_icmp .ge 24, 3) := by decide +kernel
theorem dX11_settles_32 : decode cX11_settles 32 = .ok (.aload_n 0, 1) := by decide +kernel
theorem dX11_settles_33 : decode cX11_settles 33 = .ok (.getfield 76, 3) := by decide +kernel
theorem dX11_settles_36 : decode cX11_settles 36 = .ok (.iload_n 1, 1) := by decide +kernel
theorem dX11_settles_37 : decode cX11_settles 37 = .ok (.laload, 1) := by decide +kernel
theorem dX11_settles_38 : decode cX11_settles 38 = .ok (.ldc2_w 146, 3) := by decide +kernel
theorem dX11_settles_41 : decode cX11_settles 41 = .ok (.lcmp, 1) := by decide +kernel
theorem dX11_settles_42 : decode cX11_settles 42 = .ok (.ifCond .le 5, 3) := by decide +kernel
theorem dX11_settles_45 : decode cX11_settles 45 = .ok (.iconst 0, 1) := by decide +kernel
theorem dX11_settles_46 : decode cX11_settles 46 = .ok (.ireturn, 1) := by decide +kernel
theorem dX11_settles_47 : decode cX11_settles 47 = .ok (.iinc 1 1, 3) := by decide +kernel
theorem dX11_settles_50 : decode cX11_settles 50 = .ok (.goto (-26), 3) := by decide +kernel
theorem dX11_settles_53 : decode cX11_settles 53 = .ok (.iconst 0, 1) := by decide +kernel
theorem dX11_settles_54 : decode cX11_settles 54 = .ok (.istore_n 1, 1) := by decide +kernel
theorem dX11_settles_55 : decode cX11_settles 55 = .ok (.iconst 0, 1) := by decide +kernel
theorem dX11_settles_56 : decode cX11_settles 56 = .ok (.istore_n 2, 1) := by decide +kernel
theorem dX11_settles_57 : decode cX11_settles 57 = .ok (.iload_n 2, 1) := by decide +kernel
theorem dX11_settles_58 : decode cX11_settles 58 = .ok (.aload_n 0, 1) := by decide +kernel
theorem dX11_settles_59 : decode cX11_settles 59 = .ok (.getfield 95, 3) := by decide +kernel
theorem dX11_settles_62 : decode cX11_settles 62 = .ok (.if_icmp .ge 65, 3) := by decide +kernel
theorem dX11_settles_65 : decode cX11_settles 65 = .ok (.aload_n 0, 1) := by decide +kernel
theorem dX11_settles_66 : decode cX11_settles 66 = .ok (.getfield 76, 3) := by decide +kernel
theorem dX11_settles_69 : decode cX11_settles 69 = .ok (.iload_n 2, 1) := by decide +kernel
theorem dX11_settles_70 : decode cX11_settles 70 = .ok (.laload, 1) := by decide +kernel
theorem dX11_settles_71 : decode cX11_settles 71 = .ok (.aload_n 0, 1) := by decide +kernel
theorem dX11_settles_72 : decode cX11_settles 72 = .ok (.iload_n 2, 1) := by decide +kernel
theorem dX11_settles_73 : decode cX11_settles 73 = .ok (.invokevirtual 106, 3) := by decide +kernel
theorem dX11_settles_76 : decode cX11_settles 76 = .ok (.invokestatic 110, 3) := by decide +kernel
theorem dX11_settles_79 : decode cX11_settles 79 = .ok (.ifCond .ne 9, 3) := by decide +kernel
theorem dX11_settles_82 : decode cX11_settles 82 = .ok (.iinc 2 1, 3) := by decide +kernel
theorem dX11_settles_85 : decode cX11_settles 85 = .ok (.goto (-28), 3) := by decide +kernel
theorem dX11_settles_88 : decode cX11_settles 88 = .ok (.iload_n 1, 1) := by decide +kernel
theorem dX11_settles_89 : decode cX11_settles 89 = .ok (.sipush 20000, 3) := by decide +kernel
theorem dX11_settles_92 : decode cX11_settles 92 = .ok (.if_icmp .eq 15, 3) := by decide +kernel
theorem dX11_settles_95 : decode cX11_settles 95 = .ok (.aload_n 0, 1) := by decide +kernel
theorem dX11_settles_96 : decode cX11_settles 96 = .ok (.aload_n 0, 1) := by decide +kernel
theorem dX11_settles_97 : decode cX11_settles 97 = .ok (.getfield 76, 3) := by decide +kernel
theorem dX11_settles_100 : decode cX11_settles 100 = .ok (.iload_n 2, 1) := by decide +kernel
theorem dX11_settles_101 : decode cX11_settles 101 = .ok (.invokevirtual 162, 3) := by decide +kernel
theorem dX11_settles_104 : decode cX11_settles 104 = .ok (.ifCond .eq 5, 3) := by decide +kernel
theorem dX11_settles_107 : decode cX11_settles 107 = .ok (.iconst 0, 1) := by decide +kernel
theorem dX11_settles_108 : decode cX11_settles 108 = .ok (.ireturn, 1) := by decide +kernel
theorem dX11_settles_109 : decode cX11_settles 109 = .ok (.aload_n 0, 1) := by decide +kernel
theorem dX11_settles_110 : decode cX11_settles 110 = .ok (.aload_n 0, 1) := by decide +kernel
theorem dX11_settles_111 : decode cX11_settles 111 = .ok (.getfield 76, 3) := by decide +kernel
theorem dX11_settles_114 : decode cX11_settles 114 = .ok (.iload_n 2, 1) := by decide +kernel
theorem dX11_settles_115 : decode cX11_settles 115 = .ok (.invokevirtual 166, 3) := by decide +kernel
theorem dX11_settles_118 : decode cX11_settles 118 = .ok (.lstore_n 3, 1) := by decide +kernel
theorem dX11_settles_119 : decode cX11_settles 119 = .ok (.iinc 1 1, 3) := by decide +kernel
theorem dX11_settles_122 : decode cX11_settles 122 = .ok (.iconst 0, 1) := by decide +kernel
theorem dX11_settles_123 : decode cX11_settles 123 = .ok (.istore_n 2, 1) := by decide +kernel
theorem dX11_settles_124 : decode cX11_settles 124 = .ok (.goto (-67), 3) := by decide +kernel
theorem dX11_settles_127 : decode cX11_settles 127 = .ok (.iconst 1, 1) := by decide +kernel
theorem dX11_settles_128 : decode cX11_settles 128 = .ok (.ireturn, 1) := by decide +kernel
theorem dX11_plus_0 : decode cX11_plus 0 = .ok (.iload_n 1, 1) := by decide +kernel
theorem dX11_plus_1 : decode cX11_plus 1 = .ok (.invokestatic 198, 3) := by decide +kernel
theorem dX11_plus_4 : decode cX11_plus 4 = .ok (.ifCond .eq 17, 3) := by decide +kernel
theorem dX11_plus_7 : decode cX11_plus 7 = .ok (.iload_n 2, 1) := by decide +kernel
theorem dX11_plus_8 : decode cX11_plus 8 = .ok (.invokestatic 198, 3) := by decide +kernel
theorem dX11_plus_11 : decode cX11_plus 11 = .ok (.ifCond .eq 10, 3) := by decide +kernel
theorem dX11_plus_14 : decode cX11_plus 14 = .ok (.iload_n 3, 1) := by decide +kernel
theorem dX11_plus_15 : decode cX11_plus 15 = .ok (.invokestatic 198, 3) := by decide +kernel
theorem dX11_plus_18 : decode cX11_plus 18 = .ok (.ifCond .ne 9, 3) := by decide +kernel
theorem dX11_plus_21 : decode cX11_plus 21 = .ok (.aload_n 0, 1) := by decide +kernel
theorem dX11_plus_22 : decode cX11_plus 22 = .ok (.iconst (-1), 1) := by decide +kernel
theorem dX11_plus_23 : decode cX11_plus 23 = .ok (.invokevirtual 118, 3) := by decide +kernel
theorem dX11_plus_26 : decode cX11_plus 26 = .ok (.ireturn, 1) := by decide +kernel
theorem dX11_plus_27 : decode cX11_plus 27 = .ok (.aload_n 0, 1) := by decide +kernel
theorem dX11_plus_28 : decode cX11_plus 28 = .ok (.getfield 39, 3) := by decide +kernel
theorem dX11_plus_31 : decode cX11_plus 31 = .ok (.iload_n 1, 1) := by decide +kernel
theorem dX11_plus_32 : decode cX11_plus 32 = .ok (.baload, 1) := by decide +kernel
theorem dX11_plus_33 : decode cX11_plus 33 = .ok (.ifCond .eq 12, 3) := by decide +kernel
theorem dX11_plus_36 : decode cX11_plus 36 = .ok (.aload_n 0, 1) := by decide +kernel
theorem dX11_plus_37 : decode cX11_plus 37 = .ok (.getfield 39, 3) := by decide +kernel
theorem dX11_plus_40 : decode cX11_plus 40 = .ok (.iload_n 2, 1) := by decide +kernel
theorem dX11_plus_41 : decode cX11_plus 41 = .ok (.baload, 1) := by decide +kernel
theorem dX11_plus_42 : decode cX11_plus 42 = .ok (.ifCond .ne 10, 3) := by decide +kernel
theorem dX11_plus_45 : decode cX11_plus 45 = .ok (.aload_n 0, 1) := by decide +kernel
theorem dX11_plus_46 : decode cX11_plus 46 = .ok (.bipush (-11), 2) := by decide +kernel
theorem dX11_plus_48 : decode cX11_plus 48 = .ok (.invokevirtual 118, 3) := by decide +kernel
theorem dX11_plus_51 : decode cX11_plus 51 = .ok (.ireturn, 1) := by decide +kernel
theorem dX11_plus_52 : decode cX11_plus 52 = .ok (.aload_n 0, 1) := by decide +kernel
theorem dX11_plus_53 : decode cX11_plus 53 = .ok (.getfield 114, 3) := by decide +kernel
theorem dX11_plus_56 : decode cX11_plus 56 = .ok (.ifCond .ne 10, 3) := by decide +kernel
theorem dX11_plus_59 : decode cX11_plus 59 = .ok (.aload_n 0, 1) := by decide +kernel
theorem dX11_plus_60 : decode cX11_plus 60 = .ok (.bipush (-8), 2) := by decide +kernel
theorem dX11_plus_62 : decode cX11_plus 62 = .ok (.invokevirtual 118, 3) := by decide +kernel
theorem dX11_plus_65 : decode cX11_plus 65 = .ok (.ireturn, 1) := by decide +kernel
theorem dX11_plus_66 : decode cX11_plus 66 = .ok (.iconst 0, 1) := by decide +kernel
theorem dX11_plus_67 : decode cX11_plus 67 = .ok (.istore 4, 2) := by decide +kernel
theorem dX11_plus_69 : decode cX11_plus 69 = .ok (.iload 4, 2) := by decide +kernel
theorem dX11_plus_71 : decode cX11_plus 71 = .ok (.aload_n 0, 1) := by decide +kernel
theorem dX11_plus_72 : decode cX11_plus 72 = .ok (.getfield 95, 3) := by decide +kernel
theorem dX11_plus_75 : decode cX11_plus 75 = .ok (.if_icmp .ge 41, 3) := by decide +kernel
theorem dX11_plus_78 : decode cX11_plus 78 = .ok (.aload_n 0, 1) := by decide +kernel
theorem dX11_plus_79 : decode cX11_plus 79 = .ok (.getfield 76, 3) := by decide +kernel
theorem dX11_plus_82 : decode cX11_plus 82 = .ok (.iload 4, 2) := by decide +kernel
theorem dX11_plus_84 : decode cX11_plus 84 = .ok (.aload_n 0, 1) := by decide +kernel
theorem dX11_plus_85 : decode cX11_plus 85 = .ok (.getfield 36, 3) := by decide +kernel
theorem dX11_plus_88 : decode cX11_plus 88 = .ok (.bipush 12, 2) := by decide +kernel
theorem dX11_plus_90 : decode cX11_plus 90 = .ok (.iload_n 1, 1) := by decide +kernel
theorem dX11_plus_91 : decode cX11_plus 91 = .ok (.imul, 1) := by decide +kernel
theorem dX11_plus_92 : decode cX11_plus 92 = .ok (.iload 4, 2) := by decide +kernel
theorem dX11_plus_94 : decode cX11_plus 94 = .ok (.iadd, 1) := by decide +kernel
theorem dX11_plus_95 : decode cX11_plus 95 = .ok (.laload, 1) := by decide +kernel
theorem dX11_plus_96 : decode cX11_plus 96 = .ok (.aload_n 0, 1) := by decide +kernel
theorem dX11_plus_97 : decode cX11_plus 97 = .ok (.getfield 36, 3) := by decide +kernel
theorem dX11_plus_100 : decode cX11_plus 100 = .ok (.bipush 12, 2) := by decide +kernel
theorem dX11_plus_102 : decode cX11_plus 102 = .ok (.iload_n 2, 1) := by decide +kernel
theorem dX11_plus_103 : decode cX11_plus 103 = .ok (.imul, 1) := by decide +kernel
theorem dX11_plus_104 : decode cX11_plus 104 = .ok (.iload 4, 2) := by decide +kernel
theorem dX11_plus_106 : decode cX11_plus 106 = .ok (.iadd, 1) := by decide +kernel
theorem dX11_plus_107 : decode cX11_plus 107 = .ok (.laload, 1) := by decide +kernel
theorem dX11_plus_108 : decode cX11_plus 108 = .ok (.ladd, 1) := by decide +kernel
theorem dX11_plus_109 : decode cX11_plus 109 = .ok (.lastore, 1) := by decide +kernel
theorem dX11_plus_110 : decode cX11_plus 110 = .ok (.iinc 4 1, 3) := by decide +kernel
theorem dX11_plus_113 : decode cX11_plus 113 = .ok (.goto (-44), 3) := by decide +kernel
theorem dX11_plus_116 : decode cX11_plus 116 = .ok (.aload_n 0, 1) := by decide +kernel
theorem dX11_plus_117 : decode cX11_plus 117 = .ok (.invokevirtual 205, 3) := by decide +kernel
theorem dX11_plus_120 : decode cX11_plus 120 = .ok (.ifCond .eq 15, 3) := by decide +kernel
theorem dX11_plus_123 : decode cX11_plus 123 = .ok (.aload_n 0, 1) := by decide +kernel
theorem dX11_plus_124 : decode cX11_plus 124 = .ok (.iload_n 3, 1) := by decide +kernel
theorem dX11_plus_125 : decode cX11_plus 125 = .ok (.aload_n 0, 1) := by decide +kernel
theorem dX11_plus_126 : decode cX11_plus 126 = .ok (.getfield 76, 3) := by decide +kernel
theorem dX11_plus_129 : decode cX11_plus 129 = .ok (.invokevirtual 201, 3) := by decide +kernel
theorem dX11_plus_132 : decode cX11_plus 132 = .ok (.goto 9, 3) := by decide +kernel
theorem dX11_plus_135 : decode cX11_plus 135 = .ok (.aload_n 0, 1) := by decide +kernel
theorem dX11_plus_136 : decode cX11_plus 136 = .ok (.bipush (-5), 2) := by decide +kernel
theorem dX11_plus_138 : decode cX11_plus 138 = .ok (.invokevirtual 118, 3) := by decide +kernel
theorem dX11_plus_141 : decode cX11_plus 141 = .ok (.ireturn, 1) := by decide +kernel
theorem dX11_greatest_0 : decode cX11_greatest 0 = .ok (.iconst 0, 1) := by decide +kernel
theorem dX11_greatest_1 : decode cX11_greatest 1 = .ok (.istore_n 1, 1) := by decide +kernel
theorem dX11_greatest_2 : decode cX11_greatest 2 = .ok (.iload_n 1, 1) := by decide +kernel
theorem dX11_greatest_3 : decode cX11_greatest 3 = .ok (.aload_n 0, 1) := by decide +kernel
theorem dX11_greatest_4 : decode cX11_greatest 4 = .ok (.getfield 95, 3) := by decide +kernel
theorem dX11_greatest_7 : decode cX11_greatest 7 = .ok (.if_icmp .ge 27, 3) := by decide +kernel
theorem dX11_greatest_10 : decode cX11_greatest 10 = .ok (.aload_n 0, 1) := by decide +kernel
theorem dX11_greatest_11 : decode cX11_greatest 11 = .ok (.getfield 76, 3) := by decide +kernel
theorem dX11_greatest_14 : decode cX11_greatest 14 = .ok (.iload_n 1, 1) := by decide +kernel
theorem dX11_greatest_15 : decode cX11_greatest 15 = .ok (.ldc2_w 208, 3) := by decide +kernel
theorem dX11_greatest_18 : decode cX11_greatest 18 = .ok (.aload_n 0, 1) := by decide +kernel
theorem dX11_greatest_19 : decode cX11_greatest 19 = .ok (.iload_n 1, 1) := by decide +kernel
theorem dX11_greatest_20 : decode cX11_greatest 20 = .ok (.invokevirtual 106, 3) := by decide +kernel
theorem dX11_greatest_23 : decode cX11_greatest 23 = .ok (.iconst 1, 1) := by decide +kernel
theorem dX11_greatest_24 : decode cX11_greatest 24 = .ok (.isub, 1) := by decide +kernel
theorem dX11_greatest_25 : decode cX11_greatest 25 = .ok (.i2l, 1) := by decide +kernel
theorem dX11_greatest_26 : decode cX11_greatest 26 = .ok (.lmul, 1) := by decide +kernel
theorem dX11_greatest_27 : decode cX11_greatest 27 = .ok (.lastore, 1) := by decide +kernel
theorem dX11_greatest_28 : decode cX11_greatest 28 = .ok (.iinc 1 1, 3) := by decide +kernel
theorem dX11_greatest_31 : decode cX11_greatest 31 = .ok (.goto (-29), 3) := by decide +kernel
theorem dX11_greatest_34 : decode cX11_greatest 34 = .ok (.return_, 1) := by decide +kernel
theorem dX11_nought_0 : decode cX11_nought 0 = .ok (.iload_n 1, 1) := by decide +kernel
theorem dX11_nought_1 : decode cX11_nought 1 = .ok (.invokestatic 198, 3) := by decide +kernel
theorem dX11_nought_4 : decode cX11_nought 4 = .ok (.ifCond .ne 9, 3) := by decide +kernel
theorem dX11_nought_7 : decode cX11_nought 7 = .ok (.aload_n 0, 1) := by decide +kernel
theorem dX11_nought_8 : decode cX11_nought 8 = .ok (.iconst (-1), 1) := by decide +kernel
theorem dX11_nought_9 : decode cX11_nought 9 = .ok (.invokevirtual 118, 3) := by decide +kernel
theorem dX11_nought_12 : decode cX11_nought 12 = .ok (.ireturn, 1) := by decide +kernel
theorem dX11_nought_13 : decode cX11_nought 13 = .ok (.aload_n 0, 1) := by decide +kernel
theorem dX11_nought_14 : decode cX11_nought 14 = .ok (.getfield 114, 3) := by decide +kernel
theorem dX11_nought_17 : decode cX11_nought 17 = .ok (.ifCond .ne 10, 3) := by decide +kernel
theorem dX11_nought_20 : decode cX11_nought 20 = .ok (.aload_n 0, 1) := by decide +kernel
theorem dX11_nought_21 : decode cX11_nought 21 = .ok (.bipush (-8), 2) := by decide +kernel
theorem dX11_nought_23 : decode cX11_nought 23 = .ok (.invokevirtual 118, 3) := by decide +kernel
theorem dX11_nought_26 : decode cX11_nought 26 = .ok (.ireturn, 1) := by decide +kernel
theorem dX11_nought_27 : decode cX11_nought 27 = .ok (.aload_n 0, 1) := by decide +kernel
theorem dX11_nought_28 : decode cX11_nought 28 = .ok (.invokevirtual 190, 3) := by decide +kernel
theorem dX11_nought_31 : decode cX11_nought 31 = .ok (.ifCond .ne 10, 3) := by decide +kernel
theorem dX11_nought_34 : decode cX11_nought 34 = .ok (.aload_n 0, 1) := by decide +kernel
theorem dX11_nought_35 : decode cX11_nought 35 = .ok (.bipush (-12), 2) := by decide +kernel
theorem dX11_nought_37 : decode cX11_nought 37 = .ok (.invokevirtual 118, 3) := by decide +kernel
theorem dX11_nought_40 : decode cX11_nought 40 = .ok (.ireturn, 1) := by decide +kernel
theorem dX11_nought_41 : decode cX11_nought 41 = .ok (.aload_n 0, 1) := by decide +kernel
theorem dX11_nought_42 : decode cX11_nought 42 = .ok (.invokevirtual 210, 3) := by decide +kernel
theorem dX11_nought_45 : decode cX11_nought 45 = .ok (.aload_n 0, 1) := by decide +kernel
theorem dX11_nought_46 : decode cX11_nought 46 = .ok (.invokevirtual 205, 3) := by decide +kernel
theorem dX11_nought_49 : decode cX11_nought 49 = .ok (.ifCond .ne 10, 3) := by decide +kernel
theorem dX11_nought_52 : decode cX11_nought 52 = .ok (.aload_n 0, 1) := by decide +kernel
theorem dX11_nought_53 : decode cX11_nought 53 = .ok (.bipush (-5), 2) := by decide +kernel
theorem dX11_nought_55 : decode cX11_nought 55 = .ok (.invokevirtual 118, 3) := by decide +kernel
theorem dX11_nought_58 : decode cX11_nought 58 = .ok (.ireturn, 1) := by decide +kernel
theorem dX11_nought_59 : decode cX11_nought 59 = .ok (.iconst 0, 1) := by decide +kernel
theorem dX11_nought_60 : decode cX11_nought 60 = .ok (.istore_n 2, 1) := by decide +kernel
theorem dX11_nought_61 : decode cX11_nought 61 = .ok (.iload_n 2, 1) := by decide +kernel
theorem dX11_nought_62 : decode cX11_nought 62 = .ok (.aload_n 0, 1) := by decide +kernel
theorem dX11_nought_63 : decode cX11_nought 63 = .ok (.getfield 95, 3) := by decide +kernel
theorem dX11_nought_66 : decode cX11_nought 66 = .ok (.if_icmp .ge 34, 3) := by decide +kernel
theorem dX11_nought_69 : decode cX11_nought 69 = .ok (.aload_n 0, 1) := by decide +kernel
theorem dX11_nought_70 : decode cX11_nought 70 = .ok (.getfield 76, 3) := by decide +kernel
theorem dX11_nought_73 : decode cX11_nought 73 = .ok (.iload_n 2, 1) := by decide +kernel
theorem dX11_nought_74 : decode cX11_nought 74 = .ok (.ldc2_w 208, 3) := by decide +kernel
theorem dX11_nought_77 : decode cX11_nought 77 = .ok (.aload_n 0, 1) := by decide +kernel
theorem dX11_nought_78 : decode cX11_nought 78 = .ok (.iload_n 2, 1) := by decide +kernel
theorem dX11_nought_79 : decode cX11_nought 79 = .ok (.invokevirtual 106, 3) := by decide +kernel
theorem dX11_nought_82 : decode cX11_nought 82 = .ok (.iconst 1, 1) := by decide +kernel
theorem dX11_nought_83 : decode cX11_nought 83 = .ok (.isub, 1) := by decide +kernel
theorem dX11_nought_84 : decode cX11_nought 84 = .ok (.i2l, 1) := by decide +kernel
theorem dX11_nought_85 : decode cX11_nought 85 = .ok (.lmul, 1) := by decide +kernel
theorem dX11_nought_86 : decode cX11_nought 86 = .ok (.aload_n 0, 1) := by decide +kernel
theorem dX11_nought_87 : decode cX11_nought 87 = .ok (.getfield 76, 3) := by decide +kernel
theorem dX11_nought_90 : decode cX11_nought 90 = .ok (.iload_n 2, 1) := by decide +kernel
theorem dX11_nought_91 : decode cX11_nought 91 = .ok (.laload, 1) := by decide +kernel
theorem dX11_nought_92 : decode cX11_nought 92 = .ok (.lsub, 1) := by decide +kernel
theorem dX11_nought_93 : decode cX11_nought 93 = .ok (.lastore, 1) := by decide +kernel
theorem dX11_nought_94 : decode cX11_nought 94 = .ok (.iinc 2 1, 3) := by decide +kernel
theorem dX11_nought_97 : decode cX11_nought 97 = .ok (.goto (-36), 3) := by decide +kernel
theorem dX11_nought_100 : decode cX11_nought 100 = .ok (.aload_n 0, 1) := by decide +kernel
theorem dX11_nought_101 : decode cX11_nought 101 = .ok (.invokevirtual 205, 3) := by decide +kernel
theorem dX11_nought_104 : decode cX11_nought 104 = .ok (.ifCond .eq 15, 3) := by decide +kernel
theorem dX11_nought_107 : decode cX11_nought 107 = .ok (.aload_n 0, 1) := by decide +kernel
theorem dX11_nought_108 : decode cX11_nought 108 = .ok (.iload_n 1, 1) := by decide +kernel
theorem dX11_nought_109 : decode cX11_nought 109 = .ok (.aload_n 0, 1) := by decide +kernel
theorem dX11_nought_110 : decode cX11_nought 110 = .ok (.getfield 76, 3) := by decide +kernel
theorem dX11_nought_113 : decode cX11_nought 113 = .ok (.invokevirtual 201, 3) := by decide +kernel
theorem dX11_nought_116 : decode cX11_nought 116 = .ok (.goto 9, 3) := by decide +kernel
theorem dX11_nought_119 : decode cX11_nought 119 = .ok (.aload_n 0, 1) := by decide +kernel
theorem dX11_nought_120 : decode cX11_nought 120 = .ok (.bipush (-5), 2) := by decide +kernel
theorem dX11_nought_122 : decode cX11_nought 122 = .ok (.invokevirtual 118, 3) := by decide +kernel
theorem dX11_nought_125 : decode cX11_nought 125 = .ok (.ireturn, 1) := by decide +kernel
theorem dX11_contrary_0 : decode cX11_contrary 0 = .ok (.iload_n 1, 1) := by decide +kernel
theorem dX11_contrary_1 : decode cX11_contrary 1 = .ok (.invokestatic 198, 3) := by decide +kernel
theorem dX11_contrary_4 : decode cX11_contrary 4 = .ok (.ifCond .eq 10, 3) := by decide +kernel
theorem dX11_contrary_7 : decode cX11_contrary 7 = .ok (.iload_n 2, 1) := by decide +kernel
theorem dX11_contrary_8 : decode cX11_contrary 8 = .ok (.invokestatic 198, 3) := by decide +kernel
theorem dX11_contrary_11 : decode cX11_contrary 11 = .ok (.ifCond .ne 9, 3) := by decide +kernel
theorem dX11_contrary_14 : decode cX11_contrary 14 = .ok (.aload_n 0, 1) := by decide +kernel
theorem dX11_contrary_15 : decode cX11_contrary 15 = .ok (.iconst (-1), 1) := by decide +kernel
theorem dX11_contrary_16 : decode cX11_contrary 16 = .ok (.invokevirtual 118, 3) := by decide +kernel
theorem dX11_contrary_19 : decode cX11_contrary 19 = .ok (.ireturn, 1) := by decide +kernel
theorem dX11_contrary_20 : decode cX11_contrary 20 = .ok (.aload_n 0, 1) := by decide +kernel
theorem dX11_contrary_21 : decode cX11_contrary 21 = .ok (.getfield 39, 3) := by decide +kernel
theorem dX11_contrary_24 : decode cX11_contrary 24 = .ok (.iload_n 1, 1) := by decide +kernel
theorem dX11_contrary_25 : decode cX11_contrary 25 = .ok (.baload, 1) := by decide +kernel
theorem dX11_contrary_26 : decode cX11_contrary 26 = .ok (.ifCond .ne 10, 3) := by decide +kernel
theorem dX11_contrary_29 : decode cX11_contrary 29 = .ok (.aload_n 0, 1) := by decide +kernel
theorem dX11_contrary_30 : decode cX11_contrary 30 = .ok (.bipush (-11), 2) := by decide +kernel
theorem dX11_contrary_32 : decode cX11_contrary 32 = .ok (.invokevirtual 118, 3) := by decide +kernel
theorem dX11_contrary_35 : decode cX11_contrary 35 = .ok (.ireturn, 1) := by decide +kernel
theorem dX11_contrary_36 : decode cX11_contrary 36 = .ok (.aload_n 0, 1) := by decide +kernel
theorem dX11_contrary_37 : decode cX11_contrary 37 = .ok (.getfield 114, 3) := by decide +kernel
theorem dX11_contrary_40 : decode cX11_contrary 40 = .ok (.ifCond .ne 10, 3) := by decide +kernel
theorem dX11_contrary_43 : decode cX11_contrary 43 = .ok (.aload_n 0, 1) := by decide +kernel
theorem dX11_contrary_44 : decode cX11_contrary 44 = .ok (.bipush (-8), 2) := by decide +kernel
theorem dX11_contrary_46 : decode cX11_contrary 46 = .ok (.invokevirtual 118, 3) := by decide +kernel
theorem dX11_contrary_49 : decode cX11_contrary 49 = .ok (.ireturn, 1) := by decide +kernel
theorem dX11_contrary_50 : decode cX11_contrary 50 = .ok (.aload_n 0, 1) := by decide +kernel
theorem dX11_contrary_51 : decode cX11_contrary 51 = .ok (.invokevirtual 190, 3) := by decide +kernel
theorem dX11_contrary_54 : decode cX11_contrary 54 = .ok (.ifCond .ne 10, 3) := by decide +kernel
theorem dX11_contrary_57 : decode cX11_contrary 57 = .ok (.aload_n 0, 1) := by decide +kernel
theorem dX11_contrary_58 : decode cX11_contrary 58 = .ok (.bipush (-12), 2) := by decide +kernel
theorem dX11_contrary_60 : decode cX11_contrary 60 = .ok (.invokevirtual 118, 3) := by decide +kernel
theorem dX11_contrary_63 : decode cX11_contrary 63 = .ok (.ireturn, 1) := by decide +kernel
theorem dX11_contrary_64 : decode cX11_contrary 64 = .ok (.aload_n 0, 1) := by decide +kernel
theorem dX11_contrary_65 : decode cX11_contrary 65 = .ok (.invokevirtual 210, 3) := by decide +kernel
theorem dX11_contrary_68 : decode cX11_contrary 68 = .ok (.aload_n 0, 1) := by decide +kernel
theorem dX11_contrary_69 : decode cX11_contrary 69 = .ok (.invokevirtual 205, 3) := by decide +kernel
theorem dX11_contrary_72 : decode cX11_contrary 72 = .ok (.ifCond .ne 10, 3) := by decide +kernel
theorem dX11_contrary_75 : decode cX11_contrary 75 = .ok (.aload_n 0, 1) := by decide +kernel
theorem dX11_contrary_76 : decode cX11_contrary 76 = .ok (.bipush (-5), 2) := by decide +kernel
theorem dX11_contrary_78 : decode cX11_contrary 78 = .ok (.invokevirtual 118, 3) := by decide +kernel
theorem dX11_contrary_81 : decode cX11_contrary 81 = .ok (.ireturn, 1) := by decide +kernel
theorem dX11_contrary_82 : decode cX11_contrary 82 = .ok (.iconst 0, 1) := by decide +kernel
theorem dX11_contrary_83 : decode cX11_contrary 83 = .ok (.istore_n 3, 1) := by decide +kernel
theorem dX11_contrary_84 : decode cX11_contrary 84 = .ok (.iload_n 3, 1) := by decide +kernel
theorem dX11_contrary_85 : decode cX11_contrary 85 = .ok (.aload_n 0, 1) := by decide +kernel
theorem dX11_contrary_86 : decode cX11_contrary 86 = .ok (.getfield 95, 3) := by decide +kernel
theorem dX11_contrary_89 : decode cX11_contrary 89 = .ok (.if_icmp .ge 34, 3) := by decide +kernel
theorem dX11_contrary_92 : decode cX11_contrary 92 = .ok (.aload_n 0, 1) := by decide +kernel
theorem dX11_contrary_93 : decode cX11_contrary 93 = .ok (.getfield 79, 3) := by decide +kernel
theorem dX11_contrary_96 : decode cX11_contrary 96 = .ok (.iload_n 3, 1) := by decide +kernel
theorem dX11_contrary_97 : decode cX11_contrary 97 = .ok (.ldc2_w 208, 3) := by decide +kernel
theorem dX11_contrary_100 : decode cX11_contrary 100 = .ok (.aload_n 0, 1) := by decide +kernel
theorem dX11_contrary_101 : decode cX11_contrary 101 = .ok (.iload_n 3, 1) := by decide +kernel
theorem dX11_contrary_102 : decode cX11_contrary 102 = .ok (.invokevirtual 106, 3) := by decide +kernel
theorem dX11_contrary_105 : decode cX11_contrary 105 = .ok (.iconst 1, 1) := by decide +kernel
theorem dX11_contrary_106 : decode cX11_contrary 106 = .ok (.isub, 1) := by decide +kernel
theorem dX11_contrary_107 : decode cX11_contrary 107 = .ok (.i2l, 1) := by decide +kernel
theorem dX11_contrary_108 : decode cX11_contrary 108 = .ok (.lmul, 1) := by decide +kernel
theorem dX11_contrary_109 : decode cX11_contrary 109 = .ok (.aload_n 0, 1) := by decide +kernel
theorem dX11_contrary_110 : decode cX11_contrary 110 = .ok (.getfield 76, 3) := by decide +kernel
theorem dX11_contrary_113 : decode cX11_contrary 113 = .ok (.iload_n 3, 1) := by decide +kernel
theorem dX11_contrary_114 : decode cX11_contrary 114 = .ok (.laload, 1) := by decide +kernel
theorem dX11_contrary_115 : decode cX11_contrary 115 = .ok (.lsub, 1) := by decide +kernel
theorem dX11_contrary_116 : decode cX11_contrary 116 = .ok (.lastore, 1) := by decide +kernel
theorem dX11_contrary_117 : decode cX11_contrary 117 = .ok (.iinc 3 1, 3) := by decide +kernel
theorem dX11_contrary_120 : decode cX11_contrary 120 = .ok (.goto (-36), 3) := by decide +kernel
theorem dX11_contrary_123 : decode cX11_contrary 123 = .ok (.iconst 0, 1) := by decide +kernel
theorem dX11_contrary_124 : decode cX11_contrary 124 = .ok (.istore_n 3, 1) := by decide +kernel
theorem dX11_contrary_125 : decode cX11_contrary 125 = .ok (.iload_n 3, 1) := by decide +kernel
theorem dX11_contrary_126 : decode cX11_contrary 126 = .ok (.aload_n 0, 1) := by decide +kernel
theorem dX11_contrary_127 : decode cX11_contrary 127 = .ok (.getfield 95, 3) := by decide +kernel
theorem dX11_contrary_130 : decode cX11_contrary 130 = .ok (.if_icmp .ge 26, 3) := by decide +kernel
theorem dX11_contrary_133 : decode cX11_contrary 133 = .ok (.aload_n 0, 1) := by decide +kernel
theorem dX11_contrary_134 : decode cX11_contrary 134 = .ok (.getfield 76, 3) := by decide +kernel
theorem dX11_contrary_137 : decode cX11_contrary 137 = .ok (.iload_n 3, 1) := by decide +kernel
theorem dX11_contrary_138 : decode cX11_contrary 138 = .ok (.aload_n 0, 1) := by decide +kernel
theorem dX11_contrary_139 : decode cX11_contrary 139 = .ok (.getfield 36, 3) := by decide +kernel
theorem dX11_contrary_142 : decode cX11_contrary 142 = .ok (.bipush 12, 2) := by decide +kernel
theorem dX11_contrary_144 : decode cX11_contrary 144 = .ok (.iload_n 1, 1) := by decide +kernel
theorem dX11_contrary_145 : decode cX11_contrary 145 = .ok (.imul, 1) := by decide +kernel
theorem dX11_contrary_146 : decode cX11_contrary 146 = .ok (.iload_n 3, 1) := by decide +kernel
theorem dX11_contrary_147 : decode cX11_contrary 147 = .ok (.iadd, 1) := by decide +kernel
theorem dX11_contrary_148 : decode cX11_contrary 148 = .ok (.laload, 1) := by decide +kernel
theorem dX11_contrary_149 : decode cX11_contrary 149 = .ok (.lastore, 1) := by decide +kernel
theorem dX11_contrary_150 : decode cX11_contrary 150 = .ok (.iinc 3 1, 3) := by decide +kernel
theorem dX11_contrary_153 : decode cX11_contrary 153 = .ok (.goto (-28), 3) := by decide +kernel
theorem dX11_contrary_156 : decode cX11_contrary 156 = .ok (.aload_n 0, 1) := by decide +kernel
theorem dX11_contrary_157 : decode cX11_contrary 157 = .ok (.invokevirtual 205, 3) := by decide +kernel
theorem dX11_contrary_160 : decode cX11_contrary 160 = .ok (.ifCond .ne 10, 3) := by decide +kernel
theorem dX11_contrary_163 : decode cX11_contrary 163 = .ok (.aload_n 0, 1) := by decide +kernel
theorem dX11_contrary_164 : decode cX11_contrary 164 = .ok (.bipush (-5), 2) := by decide +kernel
theorem dX11_contrary_166 : decode cX11_contrary 166 = .ok (.invokevirtual 118, 3) := by decide +kernel
theorem dX11_contrary_169 : decode cX11_contrary 169 = .ok (.ireturn, 1) := by decide +kernel
theorem dX11_contrary_170 : decode cX11_contrary 170 = .ok (.iconst 0, 1) := by decide +kernel
theorem dX11_contrary_171 : decode cX11_contrary 171 = .ok (.istore_n 3, 1) := by decide +kernel
theorem dX11_contrary_172 : decode cX11_contrary 172 = .ok (.iload_n 3, 1) := by decide +kernel
theorem dX11_contrary_173 : decode cX11_contrary 173 = .ok (.aload_n 0, 1) := by decide +kernel
theorem dX11_contrary_174 : decode cX11_contrary 174 = .ok (.getfield 95, 3) := by decide +kernel
theorem dX11_contrary_177 : decode cX11_contrary 177 = .ok (.if_icmp .ge 32, 3) := by decide +kernel
theorem dX11_contrary_180 : decode cX11_contrary 180 = .ok (.aload_n 0, 1) := by decide +kernel
theorem dX11_contrary_181 : decode cX11_contrary 181 = .ok (.getfield 76, 3) := by decide +kernel
theorem dX11_contrary_184 : decode cX11_contrary 184 = .ok (.iload_n 3, 1) := by decide +kernel
theorem dX11_contrary_185 : decode cX11_contrary 185 = .ok (.ldc2_w 208, 3) := by decide +kernel
theorem dX11_contrary_188 : decode cX11_contrary 188 = .ok (.aload_n 0, 1) := by decide +kernel
theorem dX11_contrary_189 : decode cX11_contrary 189 = .ok (.getfield 79, 3) := by decide +kernel
theorem dX11_contrary_192 : decode cX11_contrary 192 = .ok (.iload_n 3, 1) := by decide +kernel
theorem dX11_contrary_193 : decode cX11_contrary 193 = .ok (.laload, 1) := by decide +kernel
theorem dX11_contrary_194 : decode cX11_contrary 194 = .ok (.lmul, 1) := by decide +kernel
theorem dX11_contrary_195 : decode cX11_contrary 195 = .ok (.aload_n 0, 1) := by decide +kernel
theorem dX11_contrary_196 : decode cX11_contrary 196 = .ok (.getfield 76, 3) := by decide +kernel
theorem dX11_contrary_199 : decode cX11_contrary 199 = .ok (.iload_n 3, 1) := by decide +kernel
theorem dX11_contrary_200 : decode cX11_contrary 200 = .ok (.laload, 1) := by decide +kernel
theorem dX11_contrary_201 : decode cX11_contrary 201 = .ok (.lsub, 1) := by decide +kernel
theorem dX11_contrary_202 : decode cX11_contrary 202 = .ok (.lastore, 1) := by decide +kernel
theorem dX11_contrary_203 : decode cX11_contrary 203 = .ok (.iinc 3 1, 3) := by decide +kernel
theorem dX11_contrary_206 : decode cX11_contrary 206 = .ok (.goto (-34), 3) := by decide +kernel
theorem dX11_contrary_209 : decode cX11_contrary 209 = .ok (.aload_n 0, 1) := by decide +kernel
theorem dX11_contrary_210 : decode cX11_contrary 210 = .ok (.invokevirtual 205, 3) := by decide +kernel
theorem dX11_contrary_213 : decode cX11_contrary 213 = .ok (.ifCond .eq 15, 3) := by decide +kernel
theorem dX11_contrary_216 : decode cX11_contrary 216 = .ok (.aload_n 0, 1) := by decide +kernel
theorem dX11_contrary_217 : decode cX11_contrary 217 = .ok (.iload_n 2, 1) := by decide +kernel
theorem dX11_contrary_218 : decode cX11_contrary 218 = .ok (.aload_n 0, 1) := by decide +kernel
theorem dX11_contrary_219 : decode cX11_contrary 219 = .ok (.getfield 76, 3) := by decide +kernel
theorem dX11_contrary_222 : decode cX11_contrary 222 = .ok (.invokevirtual 201, 3) := by decide +kernel
theorem dX11_contrary_225 : decode cX11_contrary 225 = .ok (.goto 9, 3) := by decide +kernel
theorem dX11_contrary_228 : decode cX11_contrary 228 = .ok (.aload_n 0, 1) := by decide +kernel
theorem dX11_contrary_229 : decode cX11_contrary 229 = .ok (.bipush (-5), 2) := by decide +kernel
theorem dX11_contrary_231 : decode cX11_contrary 231 = .ok (.invokevirtual 118, 3) := by decide +kernel
theorem dX11_contrary_234 : decode cX11_contrary 234 = .ok (.ireturn, 1) := by decide +kernel
theorem dX11_isPrime_0 : decode cX11_isPrime 0 = .ok (.iconst 2, 1) := by decide +kernel
theorem dX11_isPrime_1 : decode cX11_isPrime 1 = .ok (.istore_n 1, 1) := by decide +kernel
theorem dX11_isPrime_2 : decode cX11_isPrime 2 = .ok (.iload_n 1, 1) := by decide +kernel
theorem dX11_isPrime_3 : decode cX11_isPrime 3 = .ok (.iload_n 1, 1) := by decide +kernel
theorem dX11_isPrime_4 : decode cX11_isPrime 4 = .ok (.imul, 1) := by decide +kernel
theorem dX11_isPrime_5 : decode cX11_isPrime 5 = .ok (.iload_n 0, 1) := by decide +kernel
theorem dX11_isPrime_6 : decode cX11_isPrime 6 = .ok (.if_icmp .gt 17, 3) := by decide +kernel
theorem dX11_isPrime_9 : decode cX11_isPrime 9 = .ok (.iload_n 0, 1) := by decide +kernel
theorem dX11_isPrime_10 : decode cX11_isPrime 10 = .ok (.iload_n 1, 1) := by decide +kernel
theorem dX11_isPrime_11 : decode cX11_isPrime 11 = .ok (.irem, 1) := by decide +kernel
theorem dX11_isPrime_12 : decode cX11_isPrime 12 = .ok (.ifCond .ne 5, 3) := by decide +kernel
theorem dX11_isPrime_15 : decode cX11_isPrime 15 = .ok (.iconst 0, 1) := by decide +kernel
theorem dX11_isPrime_16 : decode cX11_isPrime 16 = .ok (.ireturn, 1) := by decide +kernel
theorem dX11_isPrime_17 : decode cX11_isPrime 17 = .ok (.iinc 1 1, 3) := by decide +kernel
theorem dX11_isPrime_20 : decode cX11_isPrime 20 = .ok (.goto (-18), 3) := by decide +kernel
theorem dX11_isPrime_23 : decode cX11_isPrime 23 = .ok (.iload_n 0, 1) := by decide +kernel
theorem dX11_isPrime_24 : decode cX11_isPrime 24 = .ok (.iconst 1, 1) := by decide +kernel
theorem dX11_isPrime_25 : decode cX11_isPrime 25 = .ok (.if_icmp .le 7, 3) := by decide +kernel
theorem dX11_isPrime_28 : decode cX11_isPrime 28 = .ok (.iconst 1, 1) := by decide +kernel
theorem dX11_isPrime_29 : decode cX11_isPrime 29 = .ok (.goto 4, 3) := by decide +kernel
theorem dX11_isPrime_32 : decode cX11_isPrime 32 = .ok (.iconst 0, 1) := by decide +kernel
theorem dX11_isPrime_33 : decode cX11_isPrime 33 = .ok (.ireturn, 1) := by decide +kernel
theorem dX11_many_0 : decode cX11_many 0 = .ok (.iload_n 1, 1) := by decide +kernel
theorem dX11_many_1 : decode cX11_many 1 = .ok (.iconst 2, 1) := by decide +kernel
theorem dX11_many_2 : decode cX11_many 2 = .ok (.sipush 30011, 3) := by decide +kernel
theorem dX11_many_5 : decode cX11_many 5 = .ok (.invokestatic 98, 3) := by decide +kernel
theorem dX11_many_8 : decode cX11_many 8 = .ok (.ifCond .eq 10, 3) := by decide +kernel
theorem dX11_many_11 : decode cX11_many 11 = .ok (.iload_n 1, 1) := by decide +kernel
theorem dX11_many_12 : decode cX11_many 12 = .ok (.invokestatic 213, 3) := by decide +kernel
theorem dX11_many_15 : decode cX11_many 15 = .ok (.ifCond .ne 9, 3) := by decide +kernel
theorem dX11_many_18 : decode cX11_many 18 = .ok (.aload_n 0, 1) := by decide +kernel
theorem dX11_many_19 : decode cX11_many 19 = .ok (.iconst (-1), 1) := by decide +kernel
theorem dX11_many_20 : decode cX11_many 20 = .ok (.invokevirtual 118, 3) := by decide +kernel
theorem dX11_many_23 : decode cX11_many 23 = .ok (.ireturn, 1) := by decide +kernel
theorem dX11_many_24 : decode cX11_many 24 = .ok (.aload_n 0, 1) := by decide +kernel
theorem dX11_many_25 : decode cX11_many 25 = .ok (.getfield 114, 3) := by decide +kernel
theorem dX11_many_28 : decode cX11_many 28 = .ok (.ifCond .ne 10, 3) := by decide +kernel
theorem dX11_many_31 : decode cX11_many 31 = .ok (.aload_n 0, 1) := by decide +kernel
theorem dX11_many_32 : decode cX11_many 32 = .ok (.bipush (-8), 2) := by decide +kernel
theorem dX11_many_34 : decode cX11_many 34 = .ok (.invokevirtual 118, 3) := by decide +kernel
theorem dX11_many_37 : decode cX11_many 37 = .ok (.ireturn, 1) := by decide +kernel
theorem dX11_many_38 : decode cX11_many 38 = .ok (.aload_n 0, 1) := by decide +kernel
theorem dX11_many_39 : decode cX11_many 39 = .ok (.invokevirtual 190, 3) := by decide +kernel
theorem dX11_many_42 : decode cX11_many 42 = .ok (.ifCond .ne 10, 3) := by decide +kernel
theorem dX11_many_45 : decode cX11_many 45 = .ok (.aload_n 0, 1) := by decide +kernel
theorem dX11_many_46 : decode cX11_many 46 = .ok (.bipush (-12), 2) := by decide +kernel
theorem dX11_many_48 : decode cX11_many 48 = .ok (.invokevirtual 118, 3) := by decide +kernel
theorem dX11_many_51 : decode cX11_many 51 = .ok (.ireturn, 1) := by decide +kernel
end
section
theorem dX11_many_52 : decode cX11_many 52 = .ok (.iconst 0, 1) := by decide +kernel
theorem dX11_many_53 : decode cX11_many 53 = .ok (.istore_n 2, 1) := by decide +kernel
theorem dX11_many_54 : decode cX11_many 54 = .ok (.iload_n 2, 1) := by decide +kernel
theorem dX11_many_55 : decode cX11_many 55 = .ok (.aload_n 0, 1) := by decide +kernel
theorem dX11_many_56 : decode cX11_many 56 = .ok (.getfield 95, 3) := by decide +kernel
theorem dX11_many_59 : decode cX11_many 59 = .ok (.if_icmp .ge 63, 3) := by decide +kernel
theorem dX11_many_62 : decode cX11_many 62 = .ok (.iconst 0, 1) := by decide +kernel
theorem dX11_many_63 : decode cX11_many 63 = .ok (.istore_n 3, 1) := by decide +kernel
theorem dX11_many_64 : decode cX11_many 64 = .ok (.iload_n 3, 1) := by decide +kernel
theorem dX11_many_65 : decode cX11_many 65 = .ok (.aload_n 0, 1) := by decide +kernel
theorem dX11_many_66 : decode cX11_many 66 = .ok (.getfield 95, 3) := by decide +kernel
theorem dX11_many_69 : decode cX11_many 69 = .ok (.if_icmp .ge 47, 3) := by decide +kernel
theorem dX11_many_72 : decode cX11_many 72 = .ok (.aload_n 0, 1) := by decide +kernel
theorem dX11_many_73 : decode cX11_many 73 = .ok (.getfield 82, 3) := by decide +kernel
theorem dX11_many_76 : decode cX11_many 76 = .ok (.bipush 12, 2) := by decide +kernel
theorem dX11_many_78 : decode cX11_many 78 = .ok (.iload_n 2, 1) := by decide +kernel
theorem dX11_many_79 : decode cX11_many 79 = .ok (.imul, 1) := by decide +kernel
theorem dX11_many_80 : decode cX11_many 80 = .ok (.iload_n 3, 1) := by decide +kernel
theorem dX11_many_81 : decode cX11_many 81 = .ok (.iadd, 1) := by decide +kernel
theorem dX11_many_82 : decode cX11_many 82 = .ok (.iload_n 2, 1) := by decide +kernel
theorem dX11_many_83 : decode cX11_many 83 = .ok (.iload_n 3, 1) := by decide +kernel
theorem dX11_many_84 : decode cX11_many 84 = .ok (.if_icmp .ne 11, 3) := by decide +kernel
theorem dX11_many_87 : decode cX11_many 87 = .ok (.aload_n 0, 1) := by decide +kernel
theorem dX11_many_88 : decode cX11_many 88 = .ok (.iload_n 2, 1) := by decide +kernel
theorem dX11_many_89 : decode cX11_many 89 = .ok (.invokevirtual 106, 3) := by decide +kernel
theorem dX11_many_92 : decode cX11_many 92 = .ok (.goto 10, 3) := by decide +kernel
theorem dX11_many_95 : decode cX11_many 95 = .ok (.aload_n 0, 1) := by decide +kernel
theorem dX11_many_96 : decode cX11_many 96 = .ok (.iload_n 2, 1) := by decide +kernel
theorem dX11_many_97 : decode cX11_many 97 = .ok (.iload_n 3, 1) := by decide +kernel
theorem dX11_many_98 : decode cX11_many 98 = .ok (.invokevirtual 102, 3) := by decide +kernel
theorem dX11_many_101 : decode cX11_many 101 = .ok (.ineg, 1) := by decide +kernel
theorem dX11_many_102 : decode cX11_many 102 = .ok (.iload_n 1, 1) := by decide +kernel
theorem dX11_many_103 : decode cX11_many 103 = .ok (.irem, 1) := by decide +kernel
theorem dX11_many_104 : decode cX11_many 104 = .ok (.iload_n 1, 1) := by decide +kernel
theorem dX11_many_105 : decode cX11_many 105 = .ok (.iadd, 1) := by decide +kernel
theorem dX11_many_106 : decode cX11_many 106 = .ok (.iload_n 1, 1) := by decide +kernel
theorem dX11_many_107 : decode cX11_many 107 = .ok (.irem, 1) := by decide +kernel
theorem dX11_many_108 : decode cX11_many 108 = .ok (.i2l, 1) := by decide +kernel
theorem dX11_many_109 : decode cX11_many 109 = .ok (.lastore, 1) := by decide +kernel
theorem dX11_many_110 : decode cX11_many 110 = .ok (.iinc 3 1, 3) := by decide +kernel
theorem dX11_many_113 : decode cX11_many 113 = .ok (.goto (-49), 3) := by decide +kernel
theorem dX11_many_116 : decode cX11_many 116 = .ok (.iinc 2 1, 3) := by decide +kernel
theorem dX11_many_119 : decode cX11_many 119 = .ok (.goto (-65), 3) := by decide +kernel
theorem dX11_many_122 : decode cX11_many 122 = .ok (.lconst 1, 1) := by decide +kernel
theorem dX11_many_123 : decode cX11_many 123 = .ok (.lstore_n 2, 1) := by decide +kernel
theorem dX11_many_124 : decode cX11_many 124 = .ok (.iconst 0, 1) := by decide +kernel
theorem dX11_many_125 : decode cX11_many 125 = .ok (.istore 4, 2) := by decide +kernel
theorem dX11_many_127 : decode cX11_many 127 = .ok (.iload 4, 2) := by decide +kernel
theorem dX11_many_129 : decode cX11_many 129 = .ok (.aload_n 0, 1) := by decide +kernel
theorem dX11_many_130 : decode cX11_many 130 = .ok (.getfield 95, 3) := by decide +kernel
theorem dX11_many_133 : decode cX11_many 133 = .ok (.if_icmp .ge 311, 3) := by decide +kernel
theorem dX11_many_136 : decode cX11_many 136 = .ok (.iload 4, 2) := by decide +kernel
theorem dX11_many_138 : decode cX11_many 138 = .ok (.istore 5, 2) := by decide +kernel
theorem dX11_many_140 : decode cX11_many 140 = .ok (.iload 5, 2) := by decide +kernel
theorem dX11_many_142 : decode cX11_many 142 = .ok (.aload_n 0, 1) := by decide +kernel
theorem dX11_many_143 : decode cX11_many 143 = .ok (.getfield 95, 3) := by decide +kernel
theorem dX11_many_146 : decode cX11_many 146 = .ok (.if_icmp .ge 27, 3) := by decide +kernel
theorem dX11_many_149 : decode cX11_many 149 = .ok (.aload_n 0, 1) := by decide +kernel
theorem dX11_many_150 : decode cX11_many 150 = .ok (.getfield 82, 3) := by decide +kernel
theorem dX11_many_153 : decode cX11_many 153 = .ok (.bipush 12, 2) := by decide +kernel
theorem dX11_many_155 : decode cX11_many 155 = .ok (.iload 5, 2) := by decide +kernel
theorem dX11_many_157 : decode cX11_many 157 = .ok (.imul, 1) := by decide +kernel
theorem dX11_many_158 : decode cX11_many 158 = .ok (.iload 4, 2) := by decide +kernel
theorem dX11_many_160 : decode cX11_many 160 = .ok (.iadd, 1) := by decide +kernel
theorem dX11_many_161 : decode cX11_many 161 = .ok (.laload, 1) := by decide +kernel
theorem dX11_many_162 : decode cX11_many 162 = .ok (.lconst 0, 1) := by decide +kernel
theorem dX11_many_163 : decode cX11_many 163 = .ok (.lcmp, 1) := by decide +kernel
theorem dX11_many_164 : decode cX11_many 164 = .ok (.ifCond .ne 9, 3) := by decide +kernel
theorem dX11_many_167 : decode cX11_many 167 = .ok (.iinc 5 1, 3) := by decide +kernel
theorem dX11_many_170 : decode cX11_many 170 = .ok (.goto (-30), 3) := by decide +kernel
theorem dX11_many_173 : decode cX11_many 173 = .ok (.iload 5, 2) := by decide +kernel
theorem dX11_many_175 : decode cX11_many 175 = .ok (.aload_n 0, 1) := by decide +kernel
theorem dX11_many_176 : decode cX11_many 176 = .ok (.getfield 95, 3) := by decide +kernel
theorem dX11_many_179 : decode cX11_many 179 = .ok (.if_icmp .ne 5, 3) := by decide +kernel
theorem dX11_many_182 : decode cX11_many 182 = .ok (.iconst 0, 1) := by decide +kernel
theorem dX11_many_183 : decode cX11_many 183 = .ok (.ireturn, 1) := by decide +kernel
theorem dX11_many_184 : decode cX11_many 184 = .ok (.iload 5, 2) := by decide +kernel
theorem dX11_many_186 : decode cX11_many 186 = .ok (.iload 4, 2) := by decide +kernel
theorem dX11_many_188 : decode cX11_many 188 = .ok (.if_icmp .eq 11, 3) := by decide +kernel
theorem dX11_many_191 : decode cX11_many 191 = .ok (.iload_n 1, 1) := by decide +kernel
theorem dX11_many_192 : decode cX11_many 192 = .ok (.i2l, 1) := by decide +kernel
theorem dX11_many_193 : decode cX11_many 193 = .ok (.lload_n 2, 1) := by decide +kernel
theorem dX11_many_194 : decode cX11_many 194 = .ok (.lsub, 1) := by decide +kernel
theorem dX11_many_195 : decode cX11_many 195 = .ok (.iload_n 1, 1) := by decide +kernel
theorem dX11_many_196 : decode cX11_many 196 = .ok (.i2l, 1) := by decide +kernel
theorem dX11_many_197 : decode cX11_many 197 = .ok (.lrem, 1) := by decide +kernel
theorem dX11_many_198 : decode cX11_many 198 = .ok (.lstore_n 2, 1) := by decide +kernel
theorem dX11_many_199 : decode cX11_many 199 = .ok (.iconst 0, 1) := by decide +kernel
theorem dX11_many_200 : decode cX11_many 200 = .ok (.istore 6, 2) := by decide +kernel
theorem dX11_many_202 : decode cX11_many 202 = .ok (.iload 6, 2) := by decide +kernel
theorem dX11_many_204 : decode cX11_many 204 = .ok (.aload_n 0, 1) := by decide +kernel
theorem dX11_many_205 : decode cX11_many 205 = .ok (.getfield 95, 3) := by decide +kernel
theorem dX11_many_208 : decode cX11_many 208 = .ok (.if_icmp .ge 65, 3) := by decide +kernel
theorem dX11_many_211 : decode cX11_many 211 = .ok (.aload_n 0, 1) := by decide +kernel
theorem dX11_many_212 : decode cX11_many 212 = .ok (.getfield 82, 3) := by decide +kernel
theorem dX11_many_215 : decode cX11_many 215 = .ok (.bipush 12, 2) := by decide +kernel
theorem dX11_many_217 : decode cX11_many 217 = .ok (.iload 5, 2) := by decide +kernel
theorem dX11_many_219 : decode cX11_many 219 = .ok (.imul, 1) := by decide +kernel
theorem dX11_many_220 : decode cX11_many 220 = .ok (.iload 6, 2) := by decide +kernel
theorem dX11_many_222 : decode cX11_many 222 = .ok (.iadd, 1) := by decide +kernel
theorem dX11_many_223 : decode cX11_many 223 = .ok (.laload, 1) := by decide +kernel
theorem dX11_many_224 : decode cX11_many 224 = .ok (.lstore 7, 2) := by decide +kernel
theorem dX11_many_226 : decode cX11_many 226 = .ok (.aload_n 0, 1) := by decide +kernel
theorem dX11_many_227 : decode cX11_many 227 = .ok (.getfield 82, 3) := by decide +kernel
theorem dX11_many_230 : decode cX11_many 230 = .ok (.bipush 12, 2) := by decide +kernel
theorem dX11_many_232 : decode cX11_many 232 = .ok (.iload 5, 2) := by decide +kernel
theorem dX11_many_234 : decode cX11_many 234 = .ok (.imul, 1) := by decide +kernel
theorem dX11_many_235 : decode cX11_many 235 = .ok (.iload 6, 2) := by decide +kernel
theorem dX11_many_237 : decode cX11_many 237 = .ok (.iadd, 1) := by decide +kernel
theorem dX11_many_238 : decode cX11_many 238 = .ok (.aload_n 0, 1) := by decide +kernel
theorem dX11_many_239 : decode cX11_many 239 = .ok (.getfield 82, 3) := by decide +kernel
theorem dX11_many_242 : decode cX11_many 242 = .ok (.bipush 12, 2) := by decide +kernel
theorem dX11_many_244 : decode cX11_many 244 = .ok (.iload 4, 2) := by decide +kernel
theorem dX11_many_246 : decode cX11_many 246 = .ok (.imul, 1) := by decide +kernel
theorem dX11_many_247 : decode cX11_many 247 = .ok (.iload 6, 2) := by decide +kernel
theorem dX11_many_249 : decode cX11_many 249 = .ok (.iadd, 1) := by decide +kernel
theorem dX11_many_250 : decode cX11_many 250 = .ok (.laload, 1) := by decide +kernel
theorem dX11_many_251 : decode cX11_many 251 = .ok (.lastore, 1) := by decide +kernel
theorem dX11_many_252 : decode cX11_many 252 = .ok (.aload_n 0, 1) := by decide +kernel
theorem dX11_many_253 : decode cX11_many 253 = .ok (.getfield 82, 3) := by decide +kernel
theorem dX11_many_256 : decode cX11_many 256 = .ok (.bipush 12, 2) := by decide +kernel
theorem dX11_many_258 : decode cX11_many 258 = .ok (.iload 4, 2) := by decide +kernel
theorem dX11_many_260 : decode cX11_many 260 = .ok (.imul, 1) := by decide +kernel
theorem dX11_many_261 : decode cX11_many 261 = .ok (.iload 6, 2) := by decide +kernel
theorem dX11_many_263 : decode cX11_many 263 = .ok (.iadd, 1) := by decide +kernel
theorem dX11_many_264 : decode cX11_many 264 = .ok (.lload 7, 2) := by decide +kernel
theorem dX11_many_266 : decode cX11_many 266 = .ok (.lastore, 1) := by decide +kernel
theorem dX11_many_267 : decode cX11_many 267 = .ok (.iinc 6 1, 3) := by decide +kernel
theorem dX11_many_270 : decode cX11_many 270 = .ok (.goto (-68), 3) := by decide +kernel
theorem dX11_many_273 : decode cX11_many 273 = .ok (.lload_n 2, 1) := by decide +kernel
theorem dX11_many_274 : decode cX11_many 274 = .ok (.aload_n 0, 1) := by decide +kernel
theorem dX11_many_275 : decode cX11_many 275 = .ok (.getfield 82, 3) := by decide +kernel
theorem dX11_many_278 : decode cX11_many 278 = .ok (.bipush 12, 2) := by decide +kernel
theorem dX11_many_280 : decode cX11_many 280 = .ok (.iload 4, 2) := by decide +kernel
theorem dX11_many_282 : decode cX11_many 282 = .ok (.imul, 1) := by decide +kernel
theorem dX11_many_283 : decode cX11_many 283 = .ok (.iload 4, 2) := by decide +kernel
theorem dX11_many_285 : decode cX11_many 285 = .ok (.iadd, 1) := by decide +kernel
theorem dX11_many_286 : decode cX11_many 286 = .ok (.laload, 1) := by decide +kernel
theorem dX11_many_287 : decode cX11_many 287 = .ok (.lmul, 1) := by decide +kernel
theorem dX11_many_288 : decode cX11_many 288 = .ok (.iload_n 1, 1) := by decide +kernel
theorem dX11_many_289 : decode cX11_many 289 = .ok (.i2l, 1) := by decide +kernel
theorem dX11_many_290 : decode cX11_many 290 = .ok (.lrem, 1) := by decide +kernel
theorem dX11_many_291 : decode cX11_many 291 = .ok (.lstore_n 2, 1) := by decide +kernel
theorem dX11_many_292 : decode cX11_many 292 = .ok (.lconst 1, 1) := by decide +kernel
theorem dX11_many_293 : decode cX11_many 293 = .ok (.lstore 6, 2) := by decide +kernel
theorem dX11_many_295 : decode cX11_many 295 = .ok (.lload 6, 2) := by decide +kernel
theorem dX11_many_297 : decode cX11_many 297 = .ok (.aload_n 0, 1) := by decide +kernel
theorem dX11_many_298 : decode cX11_many 298 = .ok (.getfield 82, 3) := by decide +kernel
theorem dX11_many_301 : decode cX11_many 301 = .ok (.bipush 12, 2) := by decide +kernel
theorem dX11_many_303 : decode cX11_many 303 = .ok (.iload 4, 2) := by decide +kernel
theorem dX11_many_305 : decode cX11_many 305 = .ok (.imul, 1) := by decide +kernel
theorem dX11_many_306 : decode cX11_many 306 = .ok (.iload 4, 2) := by decide +kernel
theorem dX11_many_308 : decode cX11_many 308 = .ok (.iadd, 1) := by decide +kernel
theorem dX11_many_309 : decode cX11_many 309 = .ok (.laload, 1) := by decide +kernel
theorem dX11_many_310 : decode cX11_many 310 = .ok (.lmul, 1) := by decide +kernel
theorem dX11_many_311 : decode cX11_many 311 = .ok (.iload_n 1, 1) := by decide +kernel
theorem dX11_many_312 : decode cX11_many 312 = .ok (.i2l, 1) := by decide +kernel
theorem dX11_many_313 : decode cX11_many 313 = .ok (.lrem, 1) := by decide +kernel
theorem dX11_many_314 : decode cX11_many 314 = .ok (.lconst 1, 1) := by decide +kernel
theorem dX11_many_315 : decode cX11_many 315 = .ok (.lcmp, 1) := by decide +kernel
theorem dX11_many_316 : decode cX11_many 316 = .ok (.ifCond .eq 12, 3) := by decide +kernel
theorem dX11_many_319 : decode cX11_many 319 = .ok (.lload 6, 2) := by decide +kernel
theorem dX11_many_321 : decode cX11_many 321 = .ok (.lconst 1, 1) := by decide +kernel
theorem dX11_many_322 : decode cX11_many 322 = .ok (.ladd, 1) := by decide +kernel
theorem dX11_many_323 : decode cX11_many 323 = .ok (.lstore 6, 2) := by decide +kernel
theorem dX11_many_325 : decode cX11_many 325 = .ok (.goto (-30), 3) := by decide +kernel
theorem dX11_many_328 : decode cX11_many 328 = .ok (.iload 4, 2) := by decide +kernel
theorem dX11_many_330 : decode cX11_many 330 = .ok (.iconst 1, 1) := by decide +kernel
theorem dX11_many_331 : decode cX11_many 331 = .ok (.iadd, 1) := by decide +kernel
theorem dX11_many_332 : decode cX11_many 332 = .ok (.istore 8, 2) := by decide +kernel
theorem dX11_many_334 : decode cX11_many 334 = .ok (.iload 8, 2) := by decide +kernel
theorem dX11_many_336 : decode cX11_many 336 = .ok (.aload_n 0, 1) := by decide +kernel
theorem dX11_many_337 : decode cX11_many 337 = .ok (.getfield 95, 3) := by decide +kernel
theorem dX11_many_340 : decode cX11_many 340 = .ok (.if_icmp .ge 98, 3) := by decide +kernel
theorem dX11_many_343 : decode cX11_many 343 = .ok (.aload_n 0, 1) := by decide +kernel
theorem dX11_many_344 : decode cX11_many 344 = .ok (.getfield 82, 3) := by decide +kernel
theorem dX11_many_347 : decode cX11_many 347 = .ok (.bipush 12, 2) := by decide +kernel
theorem dX11_many_349 : decode cX11_many 349 = .ok (.iload 8, 2) := by decide +kernel
theorem dX11_many_351 : decode cX11_many 351 = .ok (.imul, 1) := by decide +kernel
theorem dX11_many_352 : decode cX11_many 352 = .ok (.iload 4, 2) := by decide +kernel
theorem dX11_many_354 : decode cX11_many 354 = .ok (.iadd, 1) := by decide +kernel
theorem dX11_many_355 : decode cX11_many 355 = .ok (.laload, 1) := by decide +kernel
theorem dX11_many_356 : decode cX11_many 356 = .ok (.lload 6, 2) := by decide +kernel
theorem dX11_many_358 : decode cX11_many 358 = .ok (.lmul, 1) := by decide +kernel
theorem dX11_many_359 : decode cX11_many 359 = .ok (.iload_n 1, 1) := by decide +kernel
theorem dX11_many_360 : decode cX11_many 360 = .ok (.i2l, 1) := by decide +kernel
theorem dX11_many_361 : decode cX11_many 361 = .ok (.lrem, 1) := by decide +kernel
theorem dX11_many_362 : decode cX11_many 362 = .ok (.lstore 9, 2) := by decide +kernel
theorem dX11_many_364 : decode cX11_many 364 = .ok (.iload 4, 2) := by decide +kernel
theorem dX11_many_366 : decode cX11_many 366 = .ok (.istore 11, 2) := by decide +kernel
theorem dX11_many_368 : decode cX11_many 368 = .ok (.iload 11, 2) := by decide +kernel
theorem dX11_many_370 : decode cX11_many 370 = .ok (.aload_n 0, 1) := by decide +kernel
theorem dX11_many_371 : decode cX11_many 371 = .ok (.getfield 95, 3) := by decide +kernel
theorem dX11_many_374 : decode cX11_many 374 = .ok (.if_icmp .ge 58, 3) := by decide +kernel
theorem dX11_many_377 : decode cX11_many 377 = .ok (.aload_n 0, 1) := by decide +kernel
theorem dX11_many_378 : decode cX11_many 378 = .ok (.getfield 82, 3) := by decide +kernel
theorem dX11_many_381 : decode cX11_many 381 = .ok (.bipush 12, 2) := by decide +kernel
theorem dX11_many_383 : decode cX11_many 383 = .ok (.iload 8, 2) := by decide +kernel
theorem dX11_many_385 : decode cX11_many 385 = .ok (.imul, 1) := by decide +kernel
theorem dX11_many_386 : decode cX11_many 386 = .ok (.iload 11, 2) := by decide +kernel
theorem dX11_many_388 : decode cX11_many 388 = .ok (.iadd, 1) := by decide +kernel
theorem dX11_many_389 : decode cX11_many 389 = .ok (.aload_n 0, 1) := by decide +kernel
theorem dX11_many_390 : decode cX11_many 390 = .ok (.getfield 82, 3) := by decide +kernel
theorem dX11_many_393 : decode cX11_many 393 = .ok (.bipush 12, 2) := by decide +kernel
theorem dX11_many_395 : decode cX11_many 395 = .ok (.iload 8, 2) := by decide +kernel
theorem dX11_many_397 : decode cX11_many 397 = .ok (.imul, 1) := by decide +kernel
theorem dX11_many_398 : decode cX11_many 398 = .ok (.iload 11, 2) := by decide +kernel
theorem dX11_many_400 : decode cX11_many 400 = .ok (.iadd, 1) := by decide +kernel
theorem dX11_many_401 : decode cX11_many 401 = .ok (.laload, 1) := by decide +kernel
theorem dX11_many_402 : decode cX11_many 402 = .ok (.iload_n 1, 1) := by decide +kernel
theorem dX11_many_403 : decode cX11_many 403 = .ok (.i2l, 1) := by decide +kernel
theorem dX11_many_404 : decode cX11_many 404 = .ok (.lload 9, 2) := by decide +kernel
theorem dX11_many_406 : decode cX11_many 406 = .ok (.lsub, 1) := by decide +kernel
theorem dX11_many_407 : decode cX11_many 407 = .ok (.aload_n 0, 1) := by decide +kernel
theorem dX11_many_408 : decode cX11_many 408 = .ok (.getfield 82, 3) := by decide +kernel
theorem dX11_many_411 : decode cX11_many 411 = .ok (.bipush 12, 2) := by decide +kernel
theorem dX11_many_413 : decode cX11_many 413 = .ok (.iload 4, 2) := by decide +kernel
theorem dX11_many_415 : decode cX11_many 415 = .ok (.imul, 1) := by decide +kernel
theorem dX11_many_416 : decode cX11_many 416 = .ok (.iload 11, 2) := by decide +kernel
theorem dX11_many_418 : decode cX11_many 418 = .ok (.iadd, 1) := by decide +kernel
theorem dX11_many_419 : decode cX11_many 419 = .ok (.laload, 1) := by decide +kernel
theorem dX11_many_420 : decode cX11_many 420 = .ok (.lmul, 1) := by decide +kernel
theorem dX11_many_421 : decode cX11_many 421 = .ok (.ladd, 1) := by decide +kernel
theorem dX11_many_422 : decode cX11_many 422 = .ok (.iload_n 1, 1) := by decide +kernel
theorem dX11_many_423 : decode cX11_many 423 = .ok (.i2l, 1) := by decide +kernel
theorem dX11_many_424 : decode cX11_many 424 = .ok (.lrem, 1) := by decide +kernel
theorem dX11_many_425 : decode cX11_many 425 = .ok (.lastore, 1) := by decide +kernel
theorem dX11_many_426 : decode cX11_many 426 = .ok (.iinc 11 1, 3) := by decide +kernel
theorem dX11_many_429 : decode cX11_many 429 = .ok (.goto (-61), 3) := by decide +kernel
theorem dX11_many_432 : decode cX11_many 432 = .ok (.iinc 8 1, 3) := by decide +kernel
theorem dX11_many_435 : decode cX11_many 435 = .ok (.goto (-101), 3) := by decide +kernel
theorem dX11_many_438 : decode cX11_many 438 = .ok (.iinc 4 1, 3) := by decide +kernel
theorem dX11_many_441 : decode cX11_many 441 = .ok (.goto (-314), 3) := by decide +kernel
theorem dX11_many_444 : decode cX11_many 444 = .ok (.lload_n 2, 1) := by decide +kernel
theorem dX11_many_445 : decode cX11_many 445 = .ok (.l2i, 1) := by decide +kernel
theorem dX11_many_446 : decode cX11_many 446 = .ok (.ireturn, 1) := by decide +kernel
theorem dX11_list_0 : decode cX11_list 0 = .ok (.aload_n 0, 1) := by decide +kernel
theorem dX11_list_1 : decode cX11_list 1 = .ok (.getfield 114, 3) := by decide +kernel
theorem dX11_list_4 : decode cX11_list 4 = .ok (.ifCond .ne 10, 3) := by decide +kernel
theorem dX11_list_7 : decode cX11_list 7 = .ok (.aload_n 0, 1) := by decide +kernel
theorem dX11_list_8 : decode cX11_list 8 = .ok (.bipush (-8), 2) := by decide +kernel
theorem dX11_list_10 : decode cX11_list 10 = .ok (.invokevirtual 118, 3) := by decide +kernel
theorem dX11_list_13 : decode cX11_list 13 = .ok (.ireturn, 1) := by decide +kernel
theorem dX11_list_14 : decode cX11_list 14 = .ok (.aload_n 0, 1) := by decide +kernel
theorem dX11_list_15 : decode cX11_list 15 = .ok (.invokevirtual 190, 3) := by decide +kernel
theorem dX11_list_18 : decode cX11_list 18 = .ok (.ifCond .ne 10, 3) := by decide +kernel
theorem dX11_list_21 : decode cX11_list 21 = .ok (.aload_n 0, 1) := by decide +kernel
theorem dX11_list_22 : decode cX11_list 22 = .ok (.bipush (-12), 2) := by decide +kernel
theorem dX11_list_24 : decode cX11_list 24 = .ok (.invokevirtual 118, 3) := by decide +kernel
theorem dX11_list_27 : decode cX11_list 27 = .ok (.ireturn, 1) := by decide +kernel
theorem dX11_list_28 : decode cX11_list 28 = .ok (.iconst 0, 1) := by decide +kernel
theorem dX11_list_29 : decode cX11_list 29 = .ok (.istore_n 1, 1) := by decide +kernel
theorem dX11_list_30 : decode cX11_list 30 = .ok (.iconst 0, 1) := by decide +kernel
theorem dX11_list_31 : decode cX11_list 31 = .ok (.istore_n 2, 1) := by decide +kernel
theorem dX11_list_32 : decode cX11_list 32 = .ok (.iconst 0, 1) := by decide +kernel
theorem dX11_list_33 : decode cX11_list 33 = .ok (.istore_n 3, 1) := by decide +kernel
theorem dX11_list_34 : decode cX11_list 34 = .ok (.iload_n 3, 1) := by decide +kernel
theorem dX11_list_35 : decode cX11_list 35 = .ok (.aload_n 0, 1) := by decide +kernel
theorem dX11_list_36 : decode cX11_list 36 = .ok (.getfield 95, 3) := by decide +kernel
theorem dX11_list_39 : decode cX11_list 39 = .ok (.if_icmp .ge 16, 3) := by decide +kernel
theorem dX11_list_42 : decode cX11_list 42 = .ok (.aload_n 0, 1) := by decide +kernel
theorem dX11_list_43 : decode cX11_list 43 = .ok (.getfield 76, 3) := by decide +kernel
theorem dX11_list_46 : decode cX11_list 46 = .ok (.iload_n 3, 1) := by decide +kernel
theorem dX11_list_47 : decode cX11_list 47 = .ok (.lconst 0, 1) := by decide +kernel
theorem dX11_list_48 : decode cX11_list 48 = .ok (.lastore, 1) := by decide +kernel
theorem dX11_list_49 : decode cX11_list 49 = .ok (.iinc 3 1, 3) := by decide +kernel
theorem dX11_list_52 : decode cX11_list 52 = .ok (.goto (-18), 3) := by decide +kernel
theorem dX11_list_55 : decode cX11_list 55 = .ok (.iload_n 2, 1) := by decide +kernel
theorem dX11_list_56 : decode cX11_list 56 = .ok (.ifCond .lt 220, 3) := by decide +kernel
theorem dX11_list_59 : decode cX11_list 59 = .ok (.iload_n 2, 1) := by decide +kernel
theorem dX11_list_60 : decode cX11_list 60 = .ok (.aload_n 0, 1) := by decide +kernel
theorem dX11_list_61 : decode cX11_list 61 = .ok (.getfield 95, 3) := by decide +kernel
theorem dX11_list_64 : decode cX11_list 64 = .ok (.if_icmp .ne 70, 3) := by decide +kernel
theorem dX11_list_67 : decode cX11_list 67 = .ok (.iload_n 1, 1) := by decide +kernel
theorem dX11_list_68 : decode cX11_list 68 = .ok (.sipush 200, 3) := by decide +kernel
theorem dX11_list_71 : decode cX11_list 71 = .ok (.if_icmp .ne 10, 3) := by decide +kernel
theorem dX11_list_74 : decode cX11_list 74 = .ok (.aload_n 0, 1) := by decide +kernel
theorem dX11_list_75 : decode cX11_list 75 = .ok (.bipush (-10), 2) := by decide +kernel
theorem dX11_list_77 : decode cX11_list 77 = .ok (.invokevirtual 118, 3) := by decide +kernel
theorem dX11_list_80 : decode cX11_list 80 = .ok (.ireturn, 1) := by decide +kernel
theorem dX11_list_81 : decode cX11_list 81 = .ok (.iconst 0, 1) := by decide +kernel
theorem dX11_list_82 : decode cX11_list 82 = .ok (.istore_n 3, 1) := by decide +kernel
theorem dX11_list_83 : decode cX11_list 83 = .ok (.iload_n 3, 1) := by decide +kernel
theorem dX11_list_84 : decode cX11_list 84 = .ok (.aload_n 0, 1) := by decide +kernel
theorem dX11_list_85 : decode cX11_list 85 = .ok (.getfield 95, 3) := by decide +kernel
theorem dX11_list_88 : decode cX11_list 88 = .ok (.if_icmp .ge 27, 3) := by decide +kernel
theorem dX11_list_91 : decode cX11_list 91 = .ok (.aload_n 0, 1) := by decide +kernel
theorem dX11_list_92 : decode cX11_list 92 = .ok (.getfield 85, 3) := by decide +kernel
theorem dX11_list_95 : decode cX11_list 95 = .ok (.bipush 12, 2) := by decide +kernel
theorem dX11_list_97 : decode cX11_list 97 = .ok (.iload_n 1, 1) := by decide +kernel
theorem dX11_list_98 : decode cX11_list 98 = .ok (.imul, 1) := by decide +kernel
theorem dX11_list_99 : decode cX11_list 99 = .ok (.iload_n 3, 1) := by decide +kernel
theorem dX11_list_100 : decode cX11_list 100 = .ok (.iadd, 1) := by decide +kernel
theorem dX11_list_101 : decode cX11_list 101 = .ok (.aload_n 0, 1) := by decide +kernel
theorem dX11_list_102 : decode cX11_list 102 = .ok (.getfield 76, 3) := by decide +kernel
theorem dX11_list_105 : decode cX11_list 105 = .ok (.iload_n 3, 1) := by decide +kernel
theorem dX11_list_106 : decode cX11_list 106 = .ok (.laload, 1) := by decide +kernel
theorem dX11_list_107 : decode cX11_list 107 = .ok (.l2i, 1) := by decide +kernel
theorem dX11_list_108 : decode cX11_list 108 = .ok (.iastore, 1) := by decide +kernel
theorem dX11_list_109 : decode cX11_list 109 = .ok (.iinc 3 1, 3) := by decide +kernel
theorem dX11_list_112 : decode cX11_list 112 = .ok (.goto (-29), 3) := by decide +kernel
theorem dX11_list_115 : decode cX11_list 115 = .ok (.iinc 1 1, 3) := by decide +kernel
theorem dX11_list_118 : decode cX11_list 118 = .ok (.iinc 2 (-1), 3) := by decide +kernel
theorem dX11_list_121 : decode cX11_list 121 = .ok (.aload_n 0, 1) := by decide +kernel
theorem dX11_list_122 : decode cX11_list 122 = .ok (.getfield 76, 3) := by decide +kernel
theorem dX11_list_125 : decode cX11_list 125 = .ok (.iload_n 2, 1) := by decide +kernel
theorem dX11_list_126 : decode cX11_list 126 = .ok (.dup2, 1) := by decide +kernel
theorem dX11_list_127 : decode cX11_list 127 = .ok (.laload, 1) := by decide +kernel
theorem dX11_list_128 : decode cX11_list 128 = .ok (.lconst 1, 1) := by decide +kernel
theorem dX11_list_129 : decode cX11_list 129 = .ok (.ladd, 1) := by decide +kernel
theorem dX11_list_130 : decode cX11_list 130 = .ok (.lastore, 1) := by decide +kernel
theorem dX11_list_131 : decode cX11_list 131 = .ok (.goto (-76), 3) := by decide +kernel
theorem dX11_list_134 : decode cX11_list 134 = .ok (.aload_n 0, 1) := by decide +kernel
theorem dX11_list_135 : decode cX11_list 135 = .ok (.getfield 76, 3) := by decide +kernel
theorem dX11_list_138 : decode cX11_list 138 = .ok (.iload_n 2, 1) := by decide +kernel
theorem dX11_list_139 : decode cX11_list 139 = .ok (.laload, 1) := by decide +kernel
theorem dX11_list_140 : decode cX11_list 140 = .ok (.aload_n 0, 1) := by decide +kernel
theorem dX11_list_141 : decode cX11_list 141 = .ok (.iload_n 2, 1) := by decide +kernel
theorem dX11_list_142 : decode cX11_list 142 = .ok (.invokevirtual 106, 3) := by decide +kernel
theorem dX11_list_145 : decode cX11_list 145 = .ok (.iconst 1, 1) := by decide +kernel
theorem dX11_list_146 : decode cX11_list 146 = .ok (.isub, 1) := by decide +kernel
theorem dX11_list_147 : decode cX11_list 147 = .ok (.i2l, 1) := by decide +kernel
theorem dX11_list_148 : decode cX11_list 148 = .ok (.lcmp, 1) := by decide +kernel
theorem dX11_list_149 : decode cX11_list 149 = .ok (.ifCond .le 30, 3) := by decide +kernel
theorem dX11_list_152 : decode cX11_list 152 = .ok (.aload_n 0, 1) := by decide +kernel
theorem dX11_list_153 : decode cX11_list 153 = .ok (.getfield 76, 3) := by decide +kernel
theorem dX11_list_156 : decode cX11_list 156 = .ok (.iload_n 2, 1) := by decide +kernel
theorem dX11_list_157 : decode cX11_list 157 = .ok (.lconst 0, 1) := by decide +kernel
theorem dX11_list_158 : decode cX11_list 158 = .ok (.lastore, 1) := by decide +kernel
theorem dX11_list_159 : decode cX11_list 159 = .ok (.iinc 2 (-1), 3) := by decide +kernel
theorem dX11_list_162 : decode cX11_list 162 = .ok (.iload_n 2, 1) := by decide +kernel
theorem dX11_list_163 : decode cX11_list 163 = .ok (.ifCond .lt (-108), 3) := by decide +kernel
theorem dX11_list_166 : decode cX11_list 166 = .ok (.aload_n 0, 1) := by decide +kernel
theorem dX11_list_167 : decode cX11_list 167 = .ok (.getfield 76, 3) := by decide +kernel
theorem dX11_list_170 : decode cX11_list 170 = .ok (.iload_n 2, 1) := by decide +kernel
theorem dX11_list_171 : decode cX11_list 171 = .ok (.dup2, 1) := by decide +kernel
theorem dX11_list_172 : decode cX11_list 172 = .ok (.laload, 1) := by decide +kernel
theorem dX11_list_173 : decode cX11_list 173 = .ok (.lconst 1, 1) := by decide +kernel
theorem dX11_list_174 : decode cX11_list 174 = .ok (.ladd, 1) := by decide +kernel
theorem dX11_list_175 : decode cX11_list 175 = .ok (.lastore, 1) := by decide +kernel
theorem dX11_list_176 : decode cX11_list 176 = .ok (.goto (-121), 3) := by decide +kernel
theorem dX11_list_179 : decode cX11_list 179 = .ok (.iconst 0, 1) := by decide +kernel
theorem dX11_list_180 : decode cX11_list 180 = .ok (.istore_n 3, 1) := by decide +kernel
theorem dX11_list_181 : decode cX11_list 181 = .ok (.iload_n 3, 1) := by decide +kernel
theorem dX11_list_182 : decode cX11_list 182 = .ok (.aload_n 0, 1) := by decide +kernel
theorem dX11_list_183 : decode cX11_list 183 = .ok (.getfield 95, 3) := by decide +kernel
theorem dX11_list_186 : decode cX11_list 186 = .ok (.if_icmp .ge 37, 3) := by decide +kernel
theorem dX11_list_189 : decode cX11_list 189 = .ok (.aload_n 0, 1) := by decide +kernel
theorem dX11_list_190 : decode cX11_list 190 = .ok (.getfield 79, 3) := by decide +kernel
theorem dX11_list_193 : decode cX11_list 193 = .ok (.iload_n 3, 1) := by decide +kernel
theorem dX11_list_194 : decode cX11_list 194 = .ok (.iload_n 3, 1) := by decide +kernel
theorem dX11_list_195 : decode cX11_list 195 = .ok (.iload_n 2, 1) := by decide +kernel
theorem dX11_list_196 : decode cX11_list 196 = .ok (.if_icmp .le 14, 3) := by decide +kernel
theorem dX11_list_199 : decode cX11_list 199 = .ok (.aload_n 0, 1) := by decide +kernel
theorem dX11_list_200 : decode cX11_list 200 = .ok (.iload_n 3, 1) := by decide +kernel
theorem dX11_list_201 : decode cX11_list 201 = .ok (.invokevirtual 106, 3) := by decide +kernel
theorem dX11_list_204 : decode cX11_list 204 = .ok (.iconst 1, 1) := by decide +kernel
theorem dX11_list_205 : decode cX11_list 205 = .ok (.isub, 1) := by decide +kernel
theorem dX11_list_206 : decode cX11_list 206 = .ok (.i2l, 1) := by decide +kernel
theorem dX11_list_207 : decode cX11_list 207 = .ok (.goto 9, 3) := by decide +kernel
theorem dX11_list_210 : decode cX11_list 210 = .ok (.aload_n 0, 1) := by decide +kernel
theorem dX11_list_211 : decode cX11_list 211 = .ok (.getfield 76, 3) := by decide +kernel
theorem dX11_list_214 : decode cX11_list 214 = .ok (.iload_n 3, 1) := by decide +kernel
theorem dX11_list_215 : decode cX11_list 215 = .ok (.laload, 1) := by decide +kernel
theorem dX11_list_216 : decode cX11_list 216 = .ok (.lastore, 1) := by decide +kernel
theorem dX11_list_217 : decode cX11_list 217 = .ok (.iinc 3 1, 3) := by decide +kernel
theorem dX11_list_220 : decode cX11_list 220 = .ok (.goto (-39), 3) := by decide +kernel
theorem dX11_list_223 : decode cX11_list 223 = .ok (.aload_n 0, 1) := by decide +kernel
theorem dX11_list_224 : decode cX11_list 224 = .ok (.aload_n 0, 1) := by decide +kernel
theorem dX11_list_225 : decode cX11_list 225 = .ok (.getfield 79, 3) := by decide +kernel
theorem dX11_list_228 : decode cX11_list 228 = .ok (.invokevirtual 194, 3) := by decide +kernel
theorem dX11_list_231 : decode cX11_list 231 = .ok (.iconst 1, 1) := by decide +kernel
theorem dX11_list_232 : decode cX11_list 232 = .ok (.aload_n 0, 1) := by decide +kernel
theorem dX11_list_233 : decode cX11_list 233 = .ok (.getfield 95, 3) := by decide +kernel
theorem dX11_list_236 : decode cX11_list 236 = .ok (.ishl, 1) := by decide +kernel
theorem dX11_list_237 : decode cX11_list 237 = .ok (.iconst 1, 1) := by decide +kernel
theorem dX11_list_238 : decode cX11_list 238 = .ok (.isub, 1) := by decide +kernel
theorem dX11_list_239 : decode cX11_list 239 = .ok (.if_icmp .eq 16, 3) := by decide +kernel
theorem dX11_list_242 : decode cX11_list 242 = .ok (.aload_n 0, 1) := by decide +kernel
theorem dX11_list_243 : decode cX11_list 243 = .ok (.getfield 76, 3) := by decide +kernel
theorem dX11_list_246 : decode cX11_list 246 = .ok (.iload_n 2, 1) := by decide +kernel
theorem dX11_list_247 : decode cX11_list 247 = .ok (.dup2, 1) := by decide +kernel
theorem dX11_list_248 : decode cX11_list 248 = .ok (.laload, 1) := by decide +kernel
theorem dX11_list_249 : decode cX11_list 249 = .ok (.lconst 1, 1) := by decide +kernel
theorem dX11_list_250 : decode cX11_list 250 = .ok (.ladd, 1) := by decide +kernel
theorem dX11_list_251 : decode cX11_list 251 = .ok (.lastore, 1) := by decide +kernel
theorem dX11_list_252 : decode cX11_list 252 = .ok (.goto (-197), 3) := by decide +kernel
theorem dX11_list_255 : decode cX11_list 255 = .ok (.iinc 2 1, 3) := by decide +kernel
theorem dX11_list_258 : decode cX11_list 258 = .ok (.iload_n 2, 1) := by decide +kernel
theorem dX11_list_259 : decode cX11_list 259 = .ok (.aload_n 0, 1) := by decide +kernel
theorem dX11_list_260 : decode cX11_list 260 = .ok (.getfield 95, 3) := by decide +kernel
theorem dX11_list_263 : decode cX11_list 263 = .ok (.if_icmp .ge (-208), 3) := by decide +kernel
theorem dX11_list_266 : decode cX11_list 266 = .ok (.aload_n 0, 1) := by decide +kernel
theorem dX11_list_267 : decode cX11_list 267 = .ok (.getfield 76, 3) := by decide +kernel
theorem dX11_list_270 : decode cX11_list 270 = .ok (.iload_n 2, 1) := by decide +kernel
theorem dX11_list_271 : decode cX11_list 271 = .ok (.lconst 0, 1) := by decide +kernel
theorem dX11_list_272 : decode cX11_list 272 = .ok (.lastore, 1) := by decide +kernel
theorem dX11_list_273 : decode cX11_list 273 = .ok (.goto (-218), 3) := by decide +kernel
theorem dX11_list_276 : decode cX11_list 276 = .ok (.iconst 0, 1) := by decide +kernel
theorem dX11_list_277 : decode cX11_list 277 = .ok (.istore_n 3, 1) := by decide +kernel
theorem dX11_list_278 : decode cX11_list 278 = .ok (.iload_n 3, 1) := by decide +kernel
theorem dX11_list_279 : decode cX11_list 279 = .ok (.bipush 12, 2) := by decide +kernel
theorem dX11_list_281 : decode cX11_list 281 = .ok (.iload_n 1, 1) := by decide +kernel
theorem dX11_list_282 : decode cX11_list 282 = .ok (.imul, 1) := by decide +kernel
theorem dX11_list_283 : decode cX11_list 283 = .ok (.if_icmp .ge 21, 3) := by decide +kernel
theorem dX11_list_286 : decode cX11_list 286 = .ok (.aload_n 0, 1) := by decide +kernel
theorem dX11_list_287 : decode cX11_list 287 = .ok (.getfield 43, 3) := by decide +kernel
theorem dX11_list_290 : decode cX11_list 290 = .ok (.iload_n 3, 1) := by decide +kernel
theorem dX11_list_291 : decode cX11_list 291 = .ok (.aload_n 0, 1) := by decide +kernel
theorem dX11_list_292 : decode cX11_list 292 = .ok (.getfield 85, 3) := by decide +kernel
theorem dX11_list_295 : decode cX11_list 295 = .ok (.iload_n 3, 1) := by decide +kernel
theorem dX11_list_296 : decode cX11_list 296 = .ok (.iaload, 1) := by decide +kernel
theorem dX11_list_297 : decode cX11_list 297 = .ok (.iastore, 1) := by decide +kernel
theorem dX11_list_298 : decode cX11_list 298 = .ok (.iinc 3 1, 3) := by decide +kernel
theorem dX11_list_301 : decode cX11_list 301 = .ok (.goto (-23), 3) := by decide +kernel
theorem dX11_list_304 : decode cX11_list 304 = .ok (.aload_n 0, 1) := by decide +kernel
theorem dX11_list_305 : decode cX11_list 305 = .ok (.iload_n 1, 1) := by decide +kernel
theorem dX11_list_306 : decode cX11_list 306 = .ok (.putfield 140, 3) := by decide +kernel
theorem dX11_list_309 : decode cX11_list 309 = .ok (.iload_n 1, 1) := by decide +kernel
theorem dX11_list_310 : decode cX11_list 310 = .ok (.ireturn, 1) := by decide +kernel
theorem dX11_listed_0 : decode cX11_listed 0 = .ok (.iload_n 1, 1) := by decide +kernel
theorem dX11_listed_1 : decode cX11_listed 1 = .ok (.iconst 0, 1) := by decide +kernel
theorem dX11_listed_2 : decode cX11_listed 2 = .ok (.aload_n 0, 1) := by decide +kernel
theorem dX11_listed_3 : decode cX11_listed 3 = .ok (.getfield 140, 3) := by decide +kernel
theorem dX11_listed_6 : decode cX11_listed 6 = .ok (.iconst 1, 1) := by decide +kernel
theorem dX11_listed_7 : decode cX11_listed 7 = .ok (.isub, 1) := by decide +kernel
theorem dX11_listed_8 : decode cX11_listed 8 = .ok (.invokestatic 98, 3) := by decide +kernel
theorem dX11_listed_11 : decode cX11_listed 11 = .ok (.ifCond .ne 10, 3) := by decide +kernel
theorem dX11_listed_14 : decode cX11_listed 14 = .ok (.aload_n 0, 1) := by decide +kernel
theorem dX11_listed_15 : decode cX11_listed 15 = .ok (.bipush (-11), 2) := by decide +kernel
theorem dX11_listed_17 : decode cX11_listed 17 = .ok (.invokevirtual 118, 3) := by decide +kernel
theorem dX11_listed_20 : decode cX11_listed 20 = .ok (.ireturn, 1) := by decide +kernel
theorem dX11_listed_21 : decode cX11_listed 21 = .ok (.aload_n 0, 1) := by decide +kernel
theorem dX11_listed_22 : decode cX11_listed 22 = .ok (.iload_n 2, 1) := by decide +kernel
theorem dX11_listed_23 : decode cX11_listed 23 = .ok (.invokevirtual 121, 3) := by decide +kernel
theorem dX11_listed_26 : decode cX11_listed 26 = .ok (.ifCond .eq 17, 3) := by decide +kernel
theorem dX11_listed_29 : decode cX11_listed 29 = .ok (.aload_n 0, 1) := by decide +kernel
theorem dX11_listed_30 : decode cX11_listed 30 = .ok (.getfield 43, 3) := by decide +kernel
theorem dX11_listed_33 : decode cX11_listed 33 = .ok (.bipush 12, 2) := by decide +kernel
theorem dX11_listed_35 : decode cX11_listed 35 = .ok (.iload_n 1, 1) := by decide +kernel
theorem dX11_listed_36 : decode cX11_listed 36 = .ok (.imul, 1) := by decide +kernel
theorem dX11_listed_37 : decode cX11_listed 37 = .ok (.iload_n 2, 1) := by decide +kernel
theorem dX11_listed_38 : decode cX11_listed 38 = .ok (.iadd, 1) := by decide +kernel
theorem dX11_listed_39 : decode cX11_listed 39 = .ok (.iaload, 1) := by decide +kernel
theorem dX11_listed_40 : decode cX11_listed 40 = .ok (.goto 8, 3) := by decide +kernel
theorem dX11_listed_43 : decode cX11_listed 43 = .ok (.aload_n 0, 1) := by decide +kernel
theorem dX11_listed_44 : decode cX11_listed 44 = .ok (.iconst (-1), 1) := by decide +kernel
theorem dX11_listed_45 : decode cX11_listed 45 = .ok (.invokevirtual 118, 3) := by decide +kernel
theorem dX11_listed_48 : decode cX11_listed 48 = .ok (.ireturn, 1) := by decide +kernel
theorem dX11_isTerrace_0 : decode cX11_isTerrace 0 = .ok (.iload_n 0, 1) := by decide +kernel
theorem dX11_isTerrace_1 : decode cX11_isTerrace 1 = .ok (.iconst 0, 1) := by decide +kernel
theorem dX11_isTerrace_2 : decode cX11_isTerrace 2 = .ok (.iconst 3, 1) := by decide +kernel
theorem dX11_isTerrace_3 : decode cX11_isTerrace 3 = .ok (.invokestatic 98, 3) := by decide +kernel
theorem dX11_isTerrace_6 : decode cX11_isTerrace 6 = .ok (.ireturn, 1) := by decide +kernel
theorem dX11_terrace_0 : decode cX11_terrace 0 = .ok (.iload_n 1, 1) := by decide +kernel
theorem dX11_terrace_1 : decode cX11_terrace 1 = .ok (.invokestatic 216, 3) := by decide +kernel
theorem dX11_terrace_4 : decode cX11_terrace 4 = .ok (.ifCond .eq 31, 3) := by decide +kernel
theorem dX11_terrace_7 : decode cX11_terrace 7 = .ok (.iload_n 2, 1) := by decide +kernel
theorem dX11_terrace_8 : decode cX11_terrace 8 = .ok (.ifCond .eq 33, 3) := by decide +kernel
theorem dX11_terrace_11 : decode cX11_terrace 11 = .ok (.iload_n 2, 1) := by decide +kernel
theorem dX11_terrace_12 : decode cX11_terrace 12 = .ok (.bipush 8, 2) := by decide +kernel
theorem dX11_terrace_14 : decode cX11_terrace 14 = .ok (.if_icmp .eq 27, 3) := by decide +kernel
theorem dX11_terrace_17 : decode cX11_terrace 17 = .ok (.iload_n 2, 1) := by decide +kernel
theorem dX11_terrace_18 : decode cX11_terrace 18 = .ok (.bipush 16, 2) := by decide +kernel
theorem dX11_terrace_20 : decode cX11_terrace 20 = .ok (.if_icmp .eq 21, 3) := by decide +kernel
theorem dX11_terrace_23 : decode cX11_terrace 23 = .ok (.iload_n 2, 1) := by decide +kernel
theorem dX11_terrace_24 : decode cX11_terrace 24 = .ok (.bipush 32, 2) := by decide +kernel
theorem dX11_terrace_26 : decode cX11_terrace 26 = .ok (.if_icmp .eq 15, 3) := by decide +kernel
theorem dX11_terrace_29 : decode cX11_terrace 29 = .ok (.iload_n 2, 1) := by decide +kernel
theorem dX11_terrace_30 : decode cX11_terrace 30 = .ok (.bipush 64, 2) := by decide +kernel
theorem dX11_terrace_32 : decode cX11_terrace 32 = .ok (.if_icmp .eq 9, 3) := by decide +kernel
theorem dX11_terrace_35 : decode cX11_terrace 35 = .ok (.aload_n 0, 1) := by decide +kernel
theorem dX11_terrace_36 : decode cX11_terrace 36 = .ok (.iconst (-1), 1) := by decide +kernel
theorem dX11_terrace_37 : decode cX11_terrace 37 = .ok (.invokevirtual 118, 3) := by decide +kernel
theorem dX11_terrace_40 : decode cX11_terrace 40 = .ok (.ireturn, 1) := by decide +kernel
theorem dX11_terrace_41 : decode cX11_terrace 41 = .ok (.iload_n 3, 1) := by decide +kernel
theorem dX11_terrace_42 : decode cX11_terrace 42 = .ok (.ifCond .ge 10, 3) := by decide +kernel
theorem dX11_terrace_45 : decode cX11_terrace 45 = .ok (.aload_n 0, 1) := by decide +kernel
theorem dX11_terrace_46 : decode cX11_terrace 46 = .ok (.bipush (-3), 2) := by decide +kernel
theorem dX11_terrace_48 : decode cX11_terrace 48 = .ok (.invokevirtual 118, 3) := by decide +kernel
theorem dX11_terrace_51 : decode cX11_terrace 51 = .ok (.ireturn, 1) := by decide +kernel
theorem dX11_terrace_52 : decode cX11_terrace 52 = .ok (.iload_n 3, 1) := by decide +kernel
theorem dX11_terrace_53 : decode cX11_terrace 53 = .ok (.bipush 16, 2) := by decide +kernel
theorem dX11_terrace_55 : decode cX11_terrace 55 = .ok (.if_icmp .le 9, 3) := by decide +kernel
theorem dX11_terrace_58 : decode cX11_terrace 58 = .ok (.aload_n 0, 1) := by decide +kernel
theorem dX11_terrace_59 : decode cX11_terrace 59 = .ok (.iconst (-1), 1) := by decide +kernel
theorem dX11_terrace_60 : decode cX11_terrace 60 = .ok (.invokevirtual 118, 3) := by decide +kernel
theorem dX11_terrace_63 : decode cX11_terrace 63 = .ok (.ireturn, 1) := by decide +kernel
theorem dX11_terrace_64 : decode cX11_terrace 64 = .ok (.aload_n 0, 1) := by decide +kernel
theorem dX11_terrace_65 : decode cX11_terrace 65 = .ok (.getfield 46, 3) := by decide +kernel
theorem dX11_terrace_68 : decode cX11_terrace 68 = .ok (.iload_n 1, 1) := by decide +kernel
theorem dX11_terrace_69 : decode cX11_terrace 69 = .ok (.iload_n 2, 1) := by decide +kernel
theorem dX11_terrace_70 : decode cX11_terrace 70 = .ok (.iastore, 1) := by decide +kernel
theorem dX11_terrace_71 : decode cX11_terrace 71 = .ok (.aload_n 0, 1) := by decide +kernel
theorem dX11_terrace_72 : decode cX11_terrace 72 = .ok (.getfield 49, 3) := by decide +kernel
theorem dX11_terrace_75 : decode cX11_terrace 75 = .ok (.iload_n 1, 1) := by decide +kernel
theorem dX11_terrace_76 : decode cX11_terrace 76 = .ok (.iload_n 2, 1) := by decide +kernel
theorem dX11_terrace_77 : decode cX11_terrace 77 = .ok (.ifCond .ne 7, 3) := by decide +kernel
theorem dX11_terrace_80 : decode cX11_terrace 80 = .ok (.iconst 0, 1) := by decide +kernel
theorem dX11_terrace_81 : decode cX11_terrace 81 = .ok (.goto 4, 3) := by decide +kernel
theorem dX11_terrace_84 : decode cX11_terrace 84 = .ok (.iload_n 3, 1) := by decide +kernel
theorem dX11_terrace_85 : decode cX11_terrace 85 = .ok (.iastore, 1) := by decide +kernel
theorem dX11_terrace_86 : decode cX11_terrace 86 = .ok (.iconst 0, 1) := by decide +kernel
theorem dX11_terrace_87 : decode cX11_terrace 87 = .ok (.istore 4, 2) := by decide +kernel
theorem dX11_terrace_89 : decode cX11_terrace 89 = .ok (.iload 4, 2) := by decide +kernel
theorem dX11_terrace_91 : decode cX11_terrace 91 = .ok (.bipush 16, 2) := by decide +kernel
theorem dX11_terrace_93 : decode cX11_terrace 93 = .ok (.if_icmp .ge 22, 3) := by decide +kernel
theorem dX11_terrace_96 : decode cX11_terrace 96 = .ok (.aload_n 0, 1) := by decide +kernel
theorem dX11_terrace_97 : decode cX11_terrace 97 = .ok (.getfield 52, 3) := by decide +kernel
theorem dX11_terrace_100 : decode cX11_terrace 100 = .ok (.bipush 16, 2) := by decide +kernel
theorem dX11_terrace_102 : decode cX11_terrace 102 = .ok (.iload_n 1, 1) := by decide +kernel
theorem dX11_terrace_103 : decode cX11_terrace 103 = .ok (.imul, 1) := by decide +kernel
theorem dX11_terrace_104 : decode cX11_terrace 104 = .ok (.iload 4, 2) := by decide +kernel
theorem dX11_terrace_106 : decode cX11_terrace 106 = .ok (.iadd, 1) := by decide +kernel
theorem dX11_terrace_107 : decode cX11_terrace 107 = .ok (.lconst 0, 1) := by decide +kernel
theorem dX11_terrace_108 : decode cX11_terrace 108 = .ok (.lastore, 1) := by decide +kernel
theorem dX11_terrace_109 : decode cX11_terrace 109 = .ok (.iinc 4 1, 3) := by decide +kernel
theorem dX11_terrace_112 : decode cX11_terrace 112 = .ok (.goto (-23), 3) := by decide +kernel
theorem dX11_terrace_115 : decode cX11_terrace 115 = .ok (.aload_n 0, 1) := by decide +kernel
theorem dX11_terrace_116 : decode cX11_terrace 116 = .ok (.getfield 49, 3) := by decide +kernel
theorem dX11_terrace_119 : decode cX11_terrace 119 = .ok (.iload_n 1, 1) := by decide +kernel
theorem dX11_terrace_120 : decode cX11_terrace 120 = .ok (.iaload, 1) := by decide +kernel
theorem dX11_terrace_121 : decode cX11_terrace 121 = .ok (.ireturn, 1) := by decide +kernel
theorem dX11_put_0 : decode cX11_put 0 = .ok (.iload_n 1, 1) := by decide +kernel
theorem dX11_put_1 : decode cX11_put 1 = .ok (.invokestatic 216, 3) := by decide +kernel
theorem dX11_put_4 : decode cX11_put 4 = .ok (.ifCond .eq 28, 3) := by decide +kernel
theorem dX11_put_7 : decode cX11_put 7 = .ok (.aload_n 0, 1) := by decide +kernel
theorem dX11_put_8 : decode cX11_put 8 = .ok (.getfield 46, 3) := by decide +kernel
theorem dX11_put_11 : decode cX11_put 11 = .ok (.iload_n 1, 1) := by decide +kernel
theorem dX11_put_12 : decode cX11_put 12 = .ok (.iaload, 1) := by decide +kernel
theorem dX11_put_13 : decode cX11_put 13 = .ok (.ifCond .eq 19, 3) := by decide +kernel
theorem dX11_put_16 : decode cX11_put 16 = .ok (.iload_n 2, 1) := by decide +kernel
theorem dX11_put_17 : decode cX11_put 17 = .ok (.iconst 0, 1) := by decide +kernel
theorem dX11_put_18 : decode cX11_put 18 = .ok (.aload_n 0, 1) := by decide +kernel
theorem dX11_put_19 : decode cX11_put 19 = .ok (.getfield 49, 3) := by decide +kernel
theorem dX11_put_22 : decode cX11_put 22 = .ok (.iload_n 1, 1) := by decide +kernel
theorem dX11_put_23 : decode cX11_put 23 = .ok (.iaload, 1) := by decide +kernel
theorem dX11_put_24 : decode cX11_put 24 = .ok (.iconst 1, 1) := by decide +kernel
theorem dX11_put_25 : decode cX11_put 25 = .ok (.isub, 1) := by decide +kernel
theorem dX11_put_26 : decode cX11_put 26 = .ok (.invokestatic 98, 3) := by decide +kernel
theorem dX11_put_29 : decode cX11_put 29 = .ok (.ifCond .ne 17, 3) := by decide +kernel
theorem dX11_put_32 : decode cX11_put 32 = .ok (.aload_n 0, 1) := by decide +kernel
theorem dX11_put_33 : decode cX11_put 33 = .ok (.dup, 1) := by decide +kernel
theorem dX11_put_34 : decode cX11_put 34 = .ok (.getfield 91, 3) := by decide +kernel
theorem dX11_put_37 : decode cX11_put 37 = .ok (.iconst 1, 1) := by decide +kernel
theorem dX11_put_38 : decode cX11_put 38 = .ok (.iadd, 1) := by decide +kernel
theorem dX11_put_39 : decode cX11_put 39 = .ok (.putfield 91, 3) := by decide +kernel
theorem dX11_put_42 : decode cX11_put 42 = .ok (.ldc2_w 219, 3) := by decide +kernel
theorem dX11_put_45 : decode cX11_put 45 = .ok (.lreturn, 1) := by decide +kernel
theorem dX11_put_46 : decode cX11_put 46 = .ok (.aload_n 0, 1) := by decide +kernel
theorem dX11_put_47 : decode cX11_put 47 = .ok (.getfield 46, 3) := by decide +kernel
theorem dX11_put_50 : decode cX11_put 50 = .ok (.iload_n 1, 1) := by decide +kernel
theorem dX11_put_51 : decode cX11_put 51 = .ok (.iaload, 1) := by decide +kernel
theorem dX11_put_52 : decode cX11_put 52 = .ok (.bipush 8, 2) := by decide +kernel
theorem dX11_put_54 : decode cX11_put 54 = .ok (.if_icmp .ne 10, 3) := by decide +kernel
theorem dX11_put_57 : decode cX11_put 57 = .ok (.lload_n 3, 1) := by decide +kernel
theorem dX11_put_58 : decode cX11_put 58 = .ok (.l2i, 1) := by decide +kernel
theorem dX11_put_59 : decode cX11_put 59 = .ok (.i2b, 1) := by decide +kernel
theorem dX11_put_60 : decode cX11_put 60 = .ok (.i2l, 1) := by decide +kernel
theorem dX11_put_61 : decode cX11_put 61 = .ok (.goto 39, 3) := by decide +kernel
theorem dX11_put_64 : decode cX11_put 64 = .ok (.aload_n 0, 1) := by decide +kernel
theorem dX11_put_65 : decode cX11_put 65 = .ok (.getfield 46, 3) := by decide +kernel
theorem dX11_put_68 : decode cX11_put 68 = .ok (.iload_n 1, 1) := by decide +kernel
theorem dX11_put_69 : decode cX11_put 69 = .ok (.iaload, 1) := by decide +kernel
theorem dX11_put_70 : decode cX11_put 70 = .ok (.bipush 16, 2) := by decide +kernel
theorem dX11_put_72 : decode cX11_put 72 = .ok (.if_icmp .ne 10, 3) := by decide +kernel
theorem dX11_put_75 : decode cX11_put 75 = .ok (.lload_n 3, 1) := by decide +kernel
theorem dX11_put_76 : decode cX11_put 76 = .ok (.l2i, 1) := by decide +kernel
theorem dX11_put_77 : decode cX11_put 77 = .ok (.i2s, 1) := by decide +kernel
theorem dX11_put_78 : decode cX11_put 78 = .ok (.i2l, 1) := by decide +kernel
theorem dX11_put_79 : decode cX11_put 79 = .ok (.goto 21, 3) := by decide +kernel
theorem dX11_put_82 : decode cX11_put 82 = .ok (.aload_n 0, 1) := by decide +kernel
theorem dX11_put_83 : decode cX11_put 83 = .ok (.getfield 46, 3) := by decide +kernel
theorem dX11_put_86 : decode cX11_put 86 = .ok (.iload_n 1, 1) := by decide +kernel
theorem dX11_put_87 : decode cX11_put 87 = .ok (.iaload, 1) := by decide +kernel
theorem dX11_put_88 : decode cX11_put 88 = .ok (.bipush 32, 2) := by decide +kernel
theorem dX11_put_90 : decode cX11_put 90 = .ok (.if_icmp .ne 9, 3) := by decide +kernel
theorem dX11_put_93 : decode cX11_put 93 = .ok (.lload_n 3, 1) := by decide +kernel
theorem dX11_put_94 : decode cX11_put 94 = .ok (.l2i, 1) := by decide +kernel
theorem dX11_put_95 : decode cX11_put 95 = .ok (.i2l, 1) := by decide +kernel
theorem dX11_put_96 : decode cX11_put 96 = .ok (.goto 4, 3) := by decide +kernel
theorem dX11_put_99 : decode cX11_put 99 = .ok (.lload_n 3, 1) := by decide +kernel
theorem dX11_put_100 : decode cX11_put 100 = .ok (.lstore 5, 2) := by decide +kernel
theorem dX11_put_102 : decode cX11_put 102 = .ok (.aload_n 0, 1) := by decide +kernel
theorem dX11_put_103 : decode cX11_put 103 = .ok (.getfield 52, 3) := by decide +kernel
theorem dX11_put_106 : decode cX11_put 106 = .ok (.bipush 16, 2) := by decide +kernel
theorem dX11_put_108 : decode cX11_put 108 = .ok (.iload_n 1, 1) := by decide +kernel
theorem dX11_put_109 : decode cX11_put 109 = .ok (.imul, 1) := by decide +kernel
theorem dX11_put_110 : decode cX11_put 110 = .ok (.iload_n 2, 1) := by decide +kernel
theorem dX11_put_111 : decode cX11_put 111 = .ok (.iadd, 1) := by decide +kernel
theorem dX11_put_112 : decode cX11_put 112 = .ok (.lload 5, 2) := by decide +kernel
theorem dX11_put_114 : decode cX11_put 114 = .ok (.lastore, 1) := by decide +kernel
theorem dX11_put_115 : decode cX11_put 115 = .ok (.lload 5, 2) := by decide +kernel
theorem dX11_put_117 : decode cX11_put 117 = .ok (.lreturn, 1) := by decide +kernel
theorem dX11_copy_0 : decode cX11_copy 0 = .ok (.iload_n 1, 1) := by decide +kernel
theorem dX11_copy_1 : decode cX11_copy 1 = .ok (.invokestatic 216, 3) := by decide +kernel
theorem dX11_copy_4 : decode cX11_copy 4 = .ok (.ifCond .eq 10, 3) := by decide +kernel
theorem dX11_copy_7 : decode cX11_copy 7 = .ok (.iload_n 3, 1) := by decide +kernel
theorem dX11_copy_8 : decode cX11_copy 8 = .ok (.invokestatic 216, 3) := by decide +kernel
theorem dX11_copy_11 : decode cX11_copy 11 = .ok (.ifCond .ne 9, 3) := by decide +kernel
theorem dX11_copy_14 : decode cX11_copy 14 = .ok (.aload_n 0, 1) := by decide +kernel
theorem dX11_copy_15 : decode cX11_copy 15 = .ok (.iconst (-1), 1) := by decide +kernel
theorem dX11_copy_16 : decode cX11_copy 16 = .ok (.invokevirtual 118, 3) := by decide +kernel
theorem dX11_copy_19 : decode cX11_copy 19 = .ok (.ireturn, 1) := by decide +kernel
theorem dX11_copy_20 : decode cX11_copy 20 = .ok (.aload_n 0, 1) := by decide +kernel
theorem dX11_copy_21 : decode cX11_copy 21 = .ok (.getfield 46, 3) := by decide +kernel
theorem dX11_copy_24 : decode cX11_copy 24 = .ok (.iload_n 1, 1) := by decide +kernel
theorem dX11_copy_25 : decode cX11_copy 25 = .ok (.iaload, 1) := by decide +kernel
theorem dX11_copy_26 : decode cX11_copy 26 = .ok (.ifCond .eq 12, 3) := by decide +kernel
theorem dX11_copy_29 : decode cX11_copy 29 = .ok (.aload_n 0, 1) := by decide +kernel
theorem dX11_copy_30 : decode cX11_copy 30 = .ok (.getfield 46, 3) := by decide +kernel
theorem dX11_copy_33 : decode cX11_copy 33 = .ok (.iload_n 3, 1) := by decide +kernel
theorem dX11_copy_34 : decode cX11_copy 34 = .ok (.iaload, 1) := by decide +kernel
theorem dX11_copy_35 : decode cX11_copy 35 = .ok (.ifCond .ne 10, 3) := by decide +kernel
theorem dX11_copy_38 : decode cX11_copy 38 = .ok (.aload_n 0, 1) := by decide +kernel
theorem dX11_copy_39 : decode cX11_copy 39 = .ok (.bipush (-2), 2) := by decide +kernel
theorem dX11_copy_41 : decode cX11_copy 41 = .ok (.invokevirtual 118, 3) := by decide +kernel
theorem dX11_copy_44 : decode cX11_copy 44 = .ok (.ireturn, 1) := by decide +kernel
theorem dX11_copy_45 : decode cX11_copy 45 = .ok (.aload_n 0, 1) := by decide +kernel
theorem dX11_copy_46 : decode cX11_copy 46 = .ok (.getfield 46, 3) := by decide +kernel
theorem dX11_copy_49 : decode cX11_copy 49 = .ok (.iload_n 1, 1) := by decide +kernel
theorem dX11_copy_50 : decode cX11_copy 50 = .ok (.iaload, 1) := by decide +kernel
theorem dX11_copy_51 : decode cX11_copy 51 = .ok (.aload_n 0, 1) := by decide +kernel
theorem dX11_copy_52 : decode cX11_copy 52 = .ok (.getfield 46, 3) := by decide +kernel
theorem dX11_copy_55 : decode cX11_copy 55 = .ok (.iload_n 3, 1) := by decide +kernel
theorem dX11_copy_56 : decode cX11_copy 56 = .ok (.iaload, 1) := by decide +kernel
theorem dX11_copy_57 : decode cX11_copy 57 = .ok (.if_icmp .eq 10, 3) := by decide +kernel
theorem dX11_copy_60 : decode cX11_copy 60 = .ok (.aload_n 0, 1) := by decide +kernel
theorem dX11_copy_61 : decode cX11_copy 61 = .ok (.bipush (-4), 2) := by decide +kernel
theorem dX11_copy_63 : decode cX11_copy 63 = .ok (.invokevirtual 118, 3) := by decide +kernel
theorem dX11_copy_66 : decode cX11_copy 66 = .ok (.ireturn, 1) := by decide +kernel
theorem dX11_copy_67 : decode cX11_copy 67 = .ok (.iload_n 2, 1) := by decide +kernel
theorem dX11_copy_68 : decode cX11_copy 68 = .ok (.ifCond .lt 48, 3) := by decide +kernel
theorem dX11_copy_71 : decode cX11_copy 71 = .ok (.iload 4, 2) := by decide +kernel
theorem dX11_copy_73 : decode cX11_copy 73 = .ok (.ifCond .lt 43, 3) := by decide +kernel
theorem dX11_copy_76 : decode cX11_copy 76 = .ok (.iload 5, 2) := by decide +kernel
theorem dX11_copy_78 : decode cX11_copy 78 = .ok (.ifCond .lt 38, 3) := by decide +kernel
theorem dX11_copy_81 : decode cX11_copy 81 = .ok (.iload_n 2, 1) := by decide +kernel
theorem dX11_copy_82 : decode cX11_copy 82 = .ok (.i2l, 1) := by decide +kernel
theorem dX11_copy_83 : decode cX11_copy 83 = .ok (.iload 5, 2) := by decide +kernel
theorem dX11_copy_85 : decode cX11_copy 85 = .ok (.i2l, 1) := by decide +kernel
theorem dX11_copy_86 : decode cX11_copy 86 = .ok (.ladd, 1) := by decide +kernel
theorem dX11_copy_87 : decode cX11_copy 87 = .ok (.aload_n 0, 1) := by decide +kernel
theorem dX11_copy_88 : decode cX11_copy 88 = .ok (.getfield 49, 3) := by decide +kernel
theorem dX11_copy_91 : decode cX11_copy 91 = .ok (.iload_n 1, 1) := by decide +kernel
theorem dX11_copy_92 : decode cX11_copy 92 = .ok (.iaload, 1) := by decide +kernel
theorem dX11_copy_93 : decode cX11_copy 93 = .ok (.i2l, 1) := by decide +kernel
theorem dX11_copy_94 : decode cX11_copy 94 = .ok (.lcmp, 1) := by decide +kernel
theorem dX11_copy_95 : decode cX11_copy 95 = .ok (.ifCond .gt 21, 3) := by decide +kernel
theorem dX11_copy_98 : decode cX11_copy 98 = .ok (.iload 4, 2) := by decide +kernel
theorem dX11_copy_100 : decode cX11_copy 100 = .ok (.i2l, 1) := by decide +kernel
theorem dX11_copy_101 : decode cX11_copy 101 = .ok (.iload 5, 2) := by decide +kernel
theorem dX11_copy_103 : decode cX11_copy 103 = .ok (.i2l, 1) := by decide +kernel
theorem dX11_copy_104 : decode cX11_copy 104 = .ok (.ladd, 1) := by decide +kernel
theorem dX11_copy_105 : decode cX11_copy 105 = .ok (.aload_n 0, 1) := by decide +kernel
theorem dX11_copy_106 : decode cX11_copy 106 = .ok (.getfield 49, 3) := by decide +kernel
theorem dX11_copy_109 : decode cX11_copy 109 = .ok (.iload_n 3, 1) := by decide +kernel
theorem dX11_copy_110 : decode cX11_copy 110 = .ok (.iaload, 1) := by decide +kernel
theorem dX11_copy_111 : decode cX11_copy 111 = .ok (.i2l, 1) := by decide +kernel
theorem dX11_copy_112 : decode cX11_copy 112 = .ok (.lcmp, 1) := by decide +kernel
theorem dX11_copy_113 : decode cX11_copy 113 = .ok (.ifCond .le 9, 3) := by decide +kernel
theorem dX11_copy_116 : decode cX11_copy 116 = .ok (.aload_n 0, 1) := by decide +kernel
theorem dX11_copy_117 : decode cX11_copy 117 = .ok (.iconst (-1), 1) := by decide +kernel
theorem dX11_copy_118 : decode cX11_copy 118 = .ok (.invokevirtual 118, 3) := by decide +kernel
theorem dX11_copy_121 : decode cX11_copy 121 = .ok (.ireturn, 1) := by decide +kernel
theorem dX11_copy_122 : decode cX11_copy 122 = .ok (.iconst 0, 1) := by decide +kernel
theorem dX11_copy_123 : decode cX11_copy 123 = .ok (.istore 6, 2) := by decide +kernel
theorem dX11_copy_125 : decode cX11_copy 125 = .ok (.iload 6, 2) := by decide +kernel
theorem dX11_copy_127 : decode cX11_copy 127 = .ok (.iload 5, 2) := by decide +kernel
theorem dX11_copy_129 : decode cX11_copy 129 = .ok (.if_icmp .ge 30, 3) := by decide +kernel
theorem dX11_copy_132 : decode cX11_copy 132 = .ok (.aload_n 0, 1) := by decide +kernel
theorem dX11_copy_133 : decode cX11_copy 133 = .ok (.getfield 88, 3) := by decide +kernel
theorem dX11_copy_136 : decode cX11_copy 136 = .ok (.iload 6, 2) := by decide +kernel
theorem dX11_copy_138 : decode cX11_copy 138 = .ok (.aload_n 0, 1) := by decide +kernel
theorem dX11_copy_139 : decode cX11_copy 139 = .ok (.getfield 52, 3) := by decide +kernel
theorem dX11_copy_142 : decode cX11_copy 142 = .ok (.bipush 16, 2) := by decide +kernel
theorem dX11_copy_144 : decode cX11_copy 144 = .ok (.iload_n 1, 1) := by decide +kernel
theorem dX11_copy_145 : decode cX11_copy 145 = .ok (.imul, 1) := by decide +kernel
theorem dX11_copy_146 : decode cX11_copy 146 = .ok (.iload_n 2, 1) := by decide +kernel
theorem dX11_copy_147 : decode cX11_copy 147 = .ok (.iadd, 1) := by decide +kernel
theorem dX11_copy_148 : decode cX11_copy 148 = .ok (.iload 6, 2) := by decide +kernel
theorem dX11_copy_150 : decode cX11_copy 150 = .ok (.iadd, 1) := by decide +kernel
theorem dX11_copy_151 : decode cX11_copy 151 = .ok (.laload, 1) := by decide +kernel
theorem dX11_copy_152 : decode cX11_copy 152 = .ok (.lastore, 1) := by decide +kernel
theorem dX11_copy_153 : decode cX11_copy 153 = .ok (.iinc 6 1, 3) := by decide +kernel
theorem dX11_copy_156 : decode cX11_copy 156 = .ok (.goto (-31), 3) := by decide +kernel
theorem dX11_copy_159 : decode cX11_copy 159 = .ok (.iconst 0, 1) := by decide +kernel
theorem dX11_copy_160 : decode cX11_copy 160 = .ok (.istore 6, 2) := by decide +kernel
theorem dX11_copy_162 : decode cX11_copy 162 = .ok (.iload 6, 2) := by decide +kernel
theorem dX11_copy_164 : decode cX11_copy 164 = .ok (.iload 5, 2) := by decide +kernel
theorem dX11_copy_166 : decode cX11_copy 166 = .ok (.if_icmp .ge 31, 3) := by decide +kernel
theorem dX11_copy_169 : decode cX11_copy 169 = .ok (.aload_n 0, 1) := by decide +kernel
theorem dX11_copy_170 : decode cX11_copy 170 = .ok (.getfield 52, 3) := by decide +kernel
theorem dX11_copy_173 : decode cX11_copy 173 = .ok (.bipush 16, 2) := by decide +kernel
theorem dX11_copy_175 : decode cX11_copy 175 = .ok (.iload_n 3, 1) := by decide +kernel
theorem dX11_copy_176 : decode cX11_copy 176 = .ok (.imul, 1) := by decide +kernel
theorem dX11_copy_177 : decode cX11_copy 177 = .ok (.iload 4, 2) := by decide +kernel
theorem dX11_copy_179 : decode cX11_copy 179 = .ok (.iadd, 1) := by decide +kernel
theorem dX11_copy_180 : decode cX11_copy 180 = .ok (.iload 6, 2) := by decide +kernel
theorem dX11_copy_182 : decode cX11_copy 182 = .ok (.iadd, 1) := by decide +kernel
theorem dX11_copy_183 : decode cX11_copy 183 = .ok (.aload_n 0, 1) := by decide +kernel
theorem dX11_copy_184 : decode cX11_copy 184 = .ok (.getfield 88, 3) := by decide +kernel
theorem dX11_copy_187 : decode cX11_copy 187 = .ok (.iload 6, 2) := by decide +kernel
theorem dX11_copy_189 : decode cX11_copy 189 = .ok (.laload, 1) := by decide +kernel
theorem dX11_copy_190 : decode cX11_copy 190 = .ok (.lastore, 1) := by decide +kernel
theorem dX11_copy_191 : decode cX11_copy 191 = .ok (.iinc 6 1, 3) := by decide +kernel
theorem dX11_copy_194 : decode cX11_copy 194 = .ok (.goto (-32), 3) := by decide +kernel
theorem dX11_copy_197 : decode cX11_copy 197 = .ok (.iload 5, 2) := by decide +kernel
theorem dX11_copy_199 : decode cX11_copy 199 = .ok (.ireturn, 1) := by decide +kernel
theorem dX11_spread_0 : decode cX11_spread 0 = .ok (.iload_n 1, 1) := by decide +kernel
theorem dX11_spread_1 : decode cX11_spread 1 = .ok (.invokestatic 216, 3) := by decide +kernel
theorem dX11_spread_4 : decode cX11_spread 4 = .ok (.ifCond .ne 9, 3) := by decide +kernel
theorem dX11_spread_7 : decode cX11_spread 7 = .ok (.aload_n 0, 1) := by decide +kernel
theorem dX11_spread_8 : decode cX11_spread 8 = .ok (.iconst (-1), 1) := by decide +kernel
theorem dX11_spread_9 : decode cX11_spread 9 = .ok (.invokevirtual 118, 3) := by decide +kernel
theorem dX11_spread_12 : decode cX11_spread 12 = .ok (.ireturn, 1) := by decide +kernel
theorem dX11_spread_13 : decode cX11_spread 13 = .ok (.aload_n 0, 1) := by decide +kernel
theorem dX11_spread_14 : decode cX11_spread 14 = .ok (.getfield 46, 3) := by decide +kernel
theorem dX11_spread_17 : decode cX11_spread 17 = .ok (.iload_n 1, 1) := by decide +kernel
theorem dX11_spread_18 : decode cX11_spread 18 = .ok (.iaload, 1) := by decide +kernel
theorem dX11_spread_19 : decode cX11_spread 19 = .ok (.ifCond .ne 10, 3) := by decide +kernel
theorem dX11_spread_22 : decode cX11_spread 22 = .ok (.aload_n 0, 1) := by decide +kernel
theorem dX11_spread_23 : decode cX11_spread 23 = .ok (.bipush (-2), 2) := by decide +kernel
theorem dX11_spread_25 : decode cX11_spread 25 = .ok (.invokevirtual 118, 3) := by decide +kernel
theorem dX11_spread_28 : decode cX11_spread 28 = .ok (.ireturn, 1) := by decide +kernel
theorem dX11_spread_29 : decode cX11_spread 29 = .ok (.iload_n 2, 1) := by decide +kernel
theorem dX11_spread_30 : decode cX11_spread 30 = .ok (.ifCond .lt 23, 3) := by decide +kernel
theorem dX11_spread_33 : decode cX11_spread 33 = .ok (.iload_n 3, 1) := by decide +kernel
theorem dX11_spread_34 : decode cX11_spread 34 = .ok (.ifCond .lt 19, 3) := by decide +kernel
theorem dX11_spread_37 : decode cX11_spread 37 = .ok (.iload_n 2, 1) := by decide +kernel
theorem dX11_spread_38 : decode cX11_spread 38 = .ok (.i2l, 1) := by decide +kernel
theorem dX11_spread_39 : decode cX11_spread 39 = .ok (.iload_n 3, 1) := by decide +kernel
theorem dX11_spread_40 : decode cX11_spread 40 = .ok (.i2l, 1) := by decide +kernel
theorem dX11_spread_41 : decode cX11_spread 41 = .ok (.ladd, 1) := by decide +kernel
theorem dX11_spread_42 : decode cX11_spread 42 = .ok (.aload_n 0, 1) := by decide +kernel
theorem dX11_spread_43 : decode cX11_spread 43 = .ok (.getfield 49, 3) := by decide +kernel
theorem dX11_spread_46 : decode cX11_spread 46 = .ok (.iload_n 1, 1) := by decide +kernel
theorem dX11_spread_47 : decode cX11_spread 47 = .ok (.iaload, 1) := by decide +kernel
theorem dX11_spread_48 : decode cX11_spread 48 = .ok (.i2l, 1) := by decide +kernel
theorem dX11_spread_49 : decode cX11_spread 49 = .ok (.lcmp, 1) := by decide +kernel
theorem dX11_spread_50 : decode cX11_spread 50 = .ok (.ifCond .le 9, 3) := by decide +kernel
theorem dX11_spread_53 : decode cX11_spread 53 = .ok (.aload_n 0, 1) := by decide +kernel
theorem dX11_spread_54 : decode cX11_spread 54 = .ok (.iconst (-1), 1) := by decide +kernel
theorem dX11_spread_55 : decode cX11_spread 55 = .ok (.invokevirtual 118, 3) := by decide +kernel
theorem dX11_spread_58 : decode cX11_spread 58 = .ok (.ireturn, 1) := by decide +kernel
theorem dX11_spread_59 : decode cX11_spread 59 = .ok (.iload 4, 2) := by decide +kernel
theorem dX11_spread_61 : decode cX11_spread 61 = .ok (.ifCond .lt 18, 3) := by decide +kernel
theorem dX11_spread_64 : decode cX11_spread 64 = .ok (.iload 4, 2) := by decide +kernel
theorem dX11_spread_66 : decode cX11_spread 66 = .ok (.i2l, 1) := by decide +kernel
theorem dX11_spread_67 : decode cX11_spread 67 = .ok (.iload_n 3, 1) := by decide +kernel
theorem dX11_spread_68 : decode cX11_spread 68 = .ok (.i2l, 1) := by decide +kernel
theorem dX11_spread_69 : decode cX11_spread 69 = .ok (.ladd, 1) := by decide +kernel
theorem dX11_spread_70 : decode cX11_spread 70 = .ok (.aload_n 0, 1) := by decide +kernel
theorem dX11_spread_71 : decode cX11_spread 71 = .ok (.getfield 95, 3) := by decide +kernel
theorem dX11_spread_74 : decode cX11_spread 74 = .ok (.i2l, 1) := by decide +kernel
theorem dX11_spread_75 : decode cX11_spread 75 = .ok (.lcmp, 1) := by decide +kernel
theorem dX11_spread_76 : decode cX11_spread 76 = .ok (.ifCond .le 9, 3) := by decide +kernel
theorem dX11_spread_79 : decode cX11_spread 79 = .ok (.aload_n 0, 1) := by decide +kernel
theorem dX11_spread_80 : decode cX11_spread 80 = .ok (.iconst (-1), 1) := by decide +kernel
theorem dX11_spread_81 : decode cX11_spread 81 = .ok (.invokevirtual 118, 3) := by decide +kernel
theorem dX11_spread_84 : decode cX11_spread 84 = .ok (.ireturn, 1) := by decide +kernel
theorem dX11_spread_85 : decode cX11_spread 85 = .ok (.aload_n 0, 1) := by decide +kernel
theorem dX11_spread_86 : decode cX11_spread 86 = .ok (.getfield 114, 3) := by decide +kernel
theorem dX11_spread_89 : decode cX11_spread 89 = .ok (.ifCond .ne 10, 3) := by decide +kernel
theorem dX11_spread_92 : decode cX11_spread 92 = .ok (.aload_n 0, 1) := by decide +kernel
theorem dX11_spread_93 : decode cX11_spread 93 = .ok (.bipush (-8), 2) := by decide +kernel
theorem dX11_spread_95 : decode cX11_spread 95 = .ok (.invokevirtual 118, 3) := by decide +kernel
theorem dX11_spread_98 : decode cX11_spread 98 = .ok (.ireturn, 1) := by decide +kernel
theorem dX11_spread_99 : decode cX11_spread 99 = .ok (.iconst 0, 1) := by decide +kernel
theorem dX11_spread_100 : decode cX11_spread 100 = .ok (.istore 5, 2) := by decide +kernel
theorem dX11_spread_102 : decode cX11_spread 102 = .ok (.iload 5, 2) := by decide +kernel
theorem dX11_spread_104 : decode cX11_spread 104 = .ok (.iload_n 3, 1) := by decide +kernel
theorem dX11_spread_105 : decode cX11_spread 105 = .ok (.if_icmp .ge 35, 3) := by decide +kernel
theorem dX11_spread_108 : decode cX11_spread 108 = .ok (.aload_n 0, 1) := by decide +kernel
theorem dX11_spread_109 : decode cX11_spread 109 = .ok (.getfield 52, 3) := by decide +kernel
theorem dX11_spread_112 : decode cX11_spread 112 = .ok (.bipush 16, 2) := by decide +kernel
theorem dX11_spread_114 : decode cX11_spread 114 = .ok (.iload_n 1, 1) := by decide +kernel
theorem dX11_spread_115 : decode cX11_spread 115 = .ok (.imul, 1) := by decide +kernel
theorem dX11_spread_116 : decode cX11_spread 116 = .ok (.iload_n 2, 1) := by decide +kernel
theorem dX11_spread_117 : decode cX11_spread 117 = .ok (.iadd, 1) := by decide +kernel
theorem dX11_spread_118 : decode cX11_spread 118 = .ok (.iload 5, 2) := by decide +kernel
theorem dX11_spread_120 : decode cX11_spread 120 = .ok (.iadd, 1) := by decide +kernel
theorem dX11_spread_121 : decode cX11_spread 121 = .ok (.laload, 1) := by decide +kernel
theorem dX11_spread_122 : decode cX11_spread 122 = .ok (.lconst 0, 1) := by decide +kernel
theorem dX11_spread_123 : decode cX11_spread 123 = .ok (.lcmp, 1) := by decide +kernel
theorem dX11_spread_124 : decode cX11_spread 124 = .ok (.ifCond .ge 10, 3) := by decide +kernel
theorem dX11_spread_127 : decode cX11_spread 127 = .ok (.aload_n 0, 1) := by decide +kernel
theorem dX11_spread_128 : decode cX11_spread 128 = .ok (.bipush (-13), 2) := by decide +kernel
theorem dX11_spread_130 : decode cX11_spread 130 = .ok (.invokevirtual 118, 3) := by decide +kernel
theorem dX11_spread_133 : decode cX11_spread 133 = .ok (.ireturn, 1) := by decide +kernel
theorem dX11_spread_134 : decode cX11_spread 134 = .ok (.iinc 5 1, 3) := by decide +kernel
theorem dX11_spread_137 : decode cX11_spread 137 = .ok (.goto (-35), 3) := by decide +kernel
theorem dX11_spread_140 : decode cX11_spread 140 = .ok (.iconst 0, 1) := by decide +kernel
theorem dX11_spread_141 : decode cX11_spread 141 = .ok (.istore 5, 2) := by decide +kernel
theorem dX11_spread_143 : decode cX11_spread 143 = .ok (.iload 5, 2) := by decide +kernel
theorem dX11_spread_145 : decode cX11_spread 145 = .ok (.iload_n 3, 1) := by decide +kernel
theorem dX11_spread_146 : decode cX11_spread 146 = .ok (.if_icmp .ge 48, 3) := by decide +kernel
theorem dX11_spread_149 : decode cX11_spread 149 = .ok (.aload_n 0, 1) := by decide +kernel
theorem dX11_spread_150 : decode cX11_spread 150 = .ok (.getfield 52, 3) := by decide +kernel
theorem dX11_spread_153 : decode cX11_spread 153 = .ok (.bipush 16, 2) := by decide +kernel
theorem dX11_spread_155 : decode cX11_spread 155 = .ok (.iload_n 1, 1) := by decide +kernel
theorem dX11_spread_156 : decode cX11_spread 156 = .ok (.imul, 1) := by decide +kernel
theorem dX11_spread_157 : decode cX11_spread 157 = .ok (.iload_n 2, 1) := by decide +kernel
theorem dX11_spread_158 : decode cX11_spread 158 = .ok (.iadd, 1) := by decide +kernel
theorem dX11_spread_159 : decode cX11_spread 159 = .ok (.iload 5, 2) := by decide +kernel
theorem dX11_spread_161 : decode cX11_spread 161 = .ok (.iadd, 1) := by decide +kernel
theorem dX11_spread_162 : decode cX11_spread 162 = .ok (.laload, 1) := by decide +kernel
theorem dX11_spread_163 : decode cX11_spread 163 = .ok (.ldc2_w 146, 3) := by decide +kernel
theorem dX11_spread_166 : decode cX11_spread 166 = .ok (.aload_n 0, 1) := by decide +kernel
theorem dX11_spread_167 : decode cX11_spread 167 = .ok (.getfield 16, 3) := by decide +kernel
theorem dX11_spread_170 : decode cX11_spread 170 = .ok (.iload 4, 2) := by decide +kernel
theorem dX11_spread_172 : decode cX11_spread 172 = .ok (.iload 5, 2) := by decide +kernel
theorem dX11_spread_174 : decode cX11_spread 174 = .ok (.iadd, 1) := by decide +kernel
theorem dX11_spread_175 : decode cX11_spread 175 = .ok (.laload, 1) := by decide +kernel
theorem dX11_spread_176 : decode cX11_spread 176 = .ok (.lsub, 1) := by decide +kernel
theorem dX11_spread_177 : decode cX11_spread 177 = .ok (.lcmp, 1) := by decide +kernel
theorem dX11_spread_178 : decode cX11_spread 178 = .ok (.ifCond .le 10, 3) := by decide +kernel
theorem dX11_spread_181 : decode cX11_spread 181 = .ok (.aload_n 0, 1) := by decide +kernel
theorem dX11_spread_182 : decode cX11_spread 182 = .ok (.bipush (-5), 2) := by decide +kernel
theorem dX11_spread_184 : decode cX11_spread 184 = .ok (.invokevirtual 118, 3) := by decide +kernel
theorem dX11_spread_187 : decode cX11_spread 187 = .ok (.ireturn, 1) := by decide +kernel
theorem dX11_spread_188 : decode cX11_spread 188 = .ok (.iinc 5 1, 3) := by decide +kernel
theorem dX11_spread_191 : decode cX11_spread 191 = .ok (.goto (-48), 3) := by decide +kernel
theorem dX11_spread_194 : decode cX11_spread 194 = .ok (.aload_n 0, 1) := by decide +kernel
theorem dX11_spread_195 : decode cX11_spread 195 = .ok (.invokevirtual 148, 3) := by decide +kernel
theorem dX11_spread_198 : decode cX11_spread 198 = .ok (.lconst 0, 1) := by decide +kernel
theorem dX11_spread_199 : decode cX11_spread 199 = .ok (.lstore 5, 2) := by decide +kernel
theorem dX11_spread_201 : decode cX11_spread 201 = .ok (.iconst 0, 1) := by decide +kernel
theorem dX11_spread_202 : decode cX11_spread 202 = .ok (.istore 7, 2) := by decide +kernel
theorem dX11_spread_204 : decode cX11_spread 204 = .ok (.iload 7, 2) := by decide +kernel
theorem dX11_spread_206 : decode cX11_spread 206 = .ok (.iload_n 3, 1) := by decide +kernel
theorem dX11_spread_207 : decode cX11_spread 207 = .ok (.if_icmp .ge 36, 3) := by decide +kernel
theorem dX11_spread_210 : decode cX11_spread 210 = .ok (.aload_n 0, 1) := by decide +kernel
theorem dX11_spread_211 : decode cX11_spread 211 = .ok (.getfield 16, 3) := by decide +kernel
theorem dX11_spread_214 : decode cX11_spread 214 = .ok (.iload 4, 2) := by decide +kernel
theorem dX11_spread_216 : decode cX11_spread 216 = .ok (.iload 7, 2) := by decide +kernel
theorem dX11_spread_218 : decode cX11_spread 218 = .ok (.iadd, 1) := by decide +kernel
theorem dX11_spread_219 : decode cX11_spread 219 = .ok (.dup2, 1) := by decide +kernel
theorem dX11_spread_220 : decode cX11_spread 220 = .ok (.laload, 1) := by decide +kernel
theorem dX11_spread_221 : decode cX11_spread 221 = .ok (.aload_n 0, 1) := by decide +kernel
theorem dX11_spread_222 : decode cX11_spread 222 = .ok (.getfield 52, 3) := by decide +kernel
theorem dX11_spread_225 : decode cX11_spread 225 = .ok (.bipush 16, 2) := by decide +kernel
theorem dX11_spread_227 : decode cX11_spread 227 = .ok (.iload_n 1, 1) := by decide +kernel
theorem dX11_spread_228 : decode cX11_spread 228 = .ok (.imul, 1) := by decide +kernel
theorem dX11_spread_229 : decode cX11_spread 229 = .ok (.iload_n 2, 1) := by decide +kernel
theorem dX11_spread_230 : decode cX11_spread 230 = .ok (.iadd, 1) := by decide +kernel
theorem dX11_spread_231 : decode cX11_spread 231 = .ok (.iload 7, 2) := by decide +kernel
theorem dX11_spread_233 : decode cX11_spread 233 = .ok (.iadd, 1) := by decide +kernel
theorem dX11_spread_234 : decode cX11_spread 234 = .ok (.laload, 1) := by decide +kernel
theorem dX11_spread_235 : decode cX11_spread 235 = .ok (.ladd, 1) := by decide +kernel
theorem dX11_spread_236 : decode cX11_spread 236 = .ok (.lastore, 1) := by decide +kernel
theorem dX11_spread_237 : decode cX11_spread 237 = .ok (.iinc 7 1, 3) := by decide +kernel
theorem dX11_spread_240 : decode cX11_spread 240 = .ok (.goto (-36), 3) := by decide +kernel
theorem dX11_spread_243 : decode cX11_spread 243 = .ok (.iconst 0, 1) := by decide +kernel
theorem dX11_spread_244 : decode cX11_spread 244 = .ok (.istore 7, 2) := by decide +kernel
theorem dX11_spread_246 : decode cX11_spread 246 = .ok (.iload 7, 2) := by decide +kernel
theorem dX11_spread_248 : decode cX11_spread 248 = .ok (.aload_n 0, 1) := by decide +kernel
theorem dX11_spread_249 : decode cX11_spread 249 = .ok (.getfield 95, 3) := by decide +kernel
theorem dX11_spread_252 : decode cX11_spread 252 = .ok (.if_icmp .ge 21, 3) := by decide +kernel
theorem dX11_spread_255 : decode cX11_spread 255 = .ok (.lload 5, 2) := by decide +kernel
theorem dX11_spread_257 : decode cX11_spread 257 = .ok (.aload_n 0, 1) := by decide +kernel
theorem dX11_spread_258 : decode cX11_spread 258 = .ok (.getfield 16, 3) := by decide +kernel
theorem dX11_spread_261 : decode cX11_spread 261 = .ok (.iload 7, 2) := by decide +kernel
theorem dX11_spread_263 : decode cX11_spread 263 = .ok (.laload, 1) := by decide +kernel
theorem dX11_spread_264 : decode cX11_spread 264 = .ok (.ladd, 1) := by decide +kernel
theorem dX11_spread_265 : decode cX11_spread 265 = .ok (.lstore 5, 2) := by decide +kernel
theorem dX11_spread_267 : decode cX11_spread 267 = .ok (.iinc 7 1, 3) := by decide +kernel
theorem dX11_spread_270 : decode cX11_spread 270 = .ok (.goto (-24), 3) := by decide +kernel
theorem dX11_spread_273 : decode cX11_spread 273 = .ok (.lload 5, 2) := by decide +kernel
theorem dX11_spread_275 : decode cX11_spread 275 = .ok (.l2i, 1) := by decide +kernel
theorem dX11_spread_276 : decode cX11_spread 276 = .ok (.ireturn, 1) := by decide +kernel
theorem dX11_tell_0 : decode cX11_tell 0 = .ok (.aload_n 0, 1) := by decide +kernel
theorem dX11_tell_1 : decode cX11_tell 1 = .ok (.getfield 169, 3) := by decide +kernel
theorem dX11_tell_4 : decode cX11_tell 4 = .ok (.sipush 200, 3) := by decide +kernel
theorem dX11_tell_7 : decode cX11_tell 7 = .ok (.if_icmp .ne 10, 3) := by decide +kernel
theorem dX11_tell_10 : decode cX11_tell 10 = .ok (.aload_n 0, 1) := by decide +kernel
theorem dX11_tell_11 : decode cX11_tell 11 = .ok (.bipush (-5), 2) := by decide +kernel
theorem dX11_tell_13 : decode cX11_tell 13 = .ok (.invokevirtual 118, 3) := by decide +kernel
theorem dX11_tell_16 : decode cX11_tell 16 = .ok (.ireturn, 1) := by decide +kernel
theorem dX11_tell_17 : decode cX11_tell 17 = .ok (.aload_n 0, 1) := by decide +kernel
theorem dX11_tell_18 : decode cX11_tell 18 = .ok (.getfield 55, 3) := by decide +kernel
theorem dX11_tell_21 : decode cX11_tell 21 = .ok (.aload_n 0, 1) := by decide +kernel
theorem dX11_tell_22 : decode cX11_tell 22 = .ok (.getfield 169, 3) := by decide +kernel
theorem dX11_tell_25 : decode cX11_tell 25 = .ok (.iload_n 1, 1) := by decide +kernel
theorem dX11_tell_26 : decode cX11_tell 26 = .ok (.iastore, 1) := by decide +kernel
theorem dX11_tell_27 : decode cX11_tell 27 = .ok (.aload_n 0, 1) := by decide +kernel
theorem dX11_tell_28 : decode cX11_tell 28 = .ok (.dup, 1) := by decide +kernel
theorem dX11_tell_29 : decode cX11_tell 29 = .ok (.getfield 169, 3) := by decide +kernel
theorem dX11_tell_32 : decode cX11_tell 32 = .ok (.iconst 1, 1) := by decide +kernel
theorem dX11_tell_33 : decode cX11_tell 33 = .ok (.iadd, 1) := by decide +kernel
theorem dX11_tell_34 : decode cX11_tell 34 = .ok (.putfield 169, 3) := by decide +kernel
theorem dX11_tell_37 : decode cX11_tell 37 = .ok (.aload_n 0, 1) := by decide +kernel
theorem dX11_tell_38 : decode cX11_tell 38 = .ok (.getfield 169, 3) := by decide +kernel
theorem dX11_tell_41 : decode cX11_tell 41 = .ok (.ireturn, 1) := by decide +kernel
theorem dX11_enough_0 : decode cX11_enough 0 = .ok (.aload_n 0, 1) := by decide +kernel
theorem dX11_enough_1 : decode cX11_enough 1 = .ok (.getfield 169, 3) := by decide +kernel
theorem dX11_enough_4 : decode cX11_enough 4 = .ok (.istore_n 1, 1) := by decide +kernel
theorem dX11_enough_5 : decode cX11_enough 5 = .ok (.aload_n 0, 1) := by decide +kernel
theorem dX11_enough_6 : decode cX11_enough 6 = .ok (.iconst 0, 1) := by decide +kernel
theorem dX11_enough_7 : decode cX11_enough 7 = .ok (.putfield 169, 3) := by decide +kernel
theorem dX11_enough_10 : decode cX11_enough 10 = .ok (.aload_n 0, 1) := by decide +kernel
theorem dX11_enough_11 : decode cX11_enough 11 = .ok (.getfield 114, 3) := by decide +kernel
theorem dX11_enough_14 : decode cX11_enough 14 = .ok (.ifCond .ne 10, 3) := by decide +kernel
theorem dX11_enough_17 : decode cX11_enough 17 = .ok (.aload_n 0, 1) := by decide +kernel
theorem dX11_enough_18 : decode cX11_enough 18 = .ok (.bipush (-8), 2) := by decide +kernel
theorem dX11_enough_20 : decode cX11_enough 20 = .ok (.invokevirtual 118, 3) := by decide +kernel
theorem dX11_enough_23 : decode cX11_enough 23 = .ok (.ireturn, 1) := by decide +kernel
theorem dX11_enough_24 : decode cX11_enough 24 = .ok (.iload_n 1, 1) := by decide +kernel
theorem dX11_enough_25 : decode cX11_enough 25 = .ok (.aload_n 0, 1) := by decide +kernel
theorem dX11_enough_26 : decode cX11_enough 26 = .ok (.getfield 95, 3) := by decide +kernel
theorem dX11_enough_29 : decode cX11_enough 29 = .ok (.if_icmp .eq 10, 3) := by decide +kernel
theorem dX11_enough_32 : decode cX11_enough 32 = .ok (.aload_n 0, 1) := by decide +kernel
theorem dX11_enough_33 : decode cX11_enough 33 = .ok (.bipush (-3), 2) := by decide +kernel
theorem dX11_enough_35 : decode cX11_enough 35 = .ok (.invokevirtual 118, 3) := by decide +kernel
theorem dX11_enough_38 : decode cX11_enough 38 = .ok (.ireturn, 1) := by decide +kernel
theorem dX11_enough_39 : decode cX11_enough 39 = .ok (.iconst 0, 1) := by decide +kernel
theorem dX11_enough_40 : decode cX11_enough 40 = .ok (.istore_n 2, 1) := by decide +kernel
theorem dX11_enough_41 : decode cX11_enough 41 = .ok (.iload_n 2, 1) := by decide +kernel
theorem dX11_enough_42 : decode cX11_enough 42 = .ok (.iload_n 1, 1) := by decide +kernel
theorem dX11_enough_43 : decode cX11_enough 43 = .ok (.if_icmp .ge 31, 3) := by decide +kernel
theorem dX11_enough_46 : decode cX11_enough 46 = .ok (.aload_n 0, 1) := by decide +kernel
theorem dX11_enough_47 : decode cX11_enough 47 = .ok (.getfield 55, 3) := by decide +kernel
theorem dX11_enough_50 : decode cX11_enough 50 = .ok (.iload_n 2, 1) := by decide +kernel
theorem dX11_enough_51 : decode cX11_enough 51 = .ok (.iaload, 1) := by decide +kernel
theorem dX11_enough_52 : decode cX11_enough 52 = .ok (.iconst 0, 1) := by decide +kernel
theorem dX11_enough_53 : decode cX11_enough 53 = .ok (.ldc 221, 2) := by decide +kernel
theorem dX11_enough_55 : decode cX11_enough 55 = .ok (.invokestatic 98, 3) := by decide +kernel
theorem dX11_enough_58 : decode cX11_enough 58 = .ok (.ifCond .ne 10, 3) := by decide +kernel
theorem dX11_enough_61 : decode cX11_enough 61 = .ok (.aload_n 0, 1) := by decide +kernel
theorem dX11_enough_62 : decode cX11_enough 62 = .ok (.bipush (-13), 2) := by decide +kernel
theorem dX11_enough_64 : decode cX11_enough 64 = .ok (.invokevirtual 118, 3) := by decide +kernel
theorem dX11_enough_67 : decode cX11_enough 67 = .ok (.ireturn, 1) := by decide +kernel
theorem dX11_enough_68 : decode cX11_enough 68 = .ok (.iinc 2 1, 3) := by decide +kernel
theorem dX11_enough_71 : decode cX11_enough 71 = .ok (.goto (-30), 3) := by decide +kernel
theorem dX11_enough_74 : decode cX11_enough 74 = .ok (.iconst 0, 1) := by decide +kernel
theorem dX11_enough_75 : decode cX11_enough 75 = .ok (.istore_n 2, 1) := by decide +kernel
theorem dX11_enough_76 : decode cX11_enough 76 = .ok (.iload_n 2, 1) := by decide +kernel
theorem dX11_enough_77 : decode cX11_enough 77 = .ok (.aload_n 0, 1) := by decide +kernel
theorem dX11_enough_78 : decode cX11_enough 78 = .ok (.getfield 95, 3) := by decide +kernel
theorem dX11_enough_81 : decode cX11_enough 81 = .ok (.if_icmp .ge 83, 3) := by decide +kernel
theorem dX11_enough_84 : decode cX11_enough 84 = .ok (.aload_n 0, 1) := by decide +kernel
theorem dX11_enough_85 : decode cX11_enough 85 = .ok (.getfield 16, 3) := by decide +kernel
theorem dX11_enough_88 : decode cX11_enough 88 = .ok (.iload_n 2, 1) := by decide +kernel
theorem dX11_enough_89 : decode cX11_enough 89 = .ok (.laload, 1) := by decide +kernel
theorem dX11_enough_90 : decode cX11_enough 90 = .ok (.aload_n 0, 1) := by decide +kernel
theorem dX11_enough_91 : decode cX11_enough 91 = .ok (.getfield 55, 3) := by decide +kernel
theorem dX11_enough_94 : decode cX11_enough 94 = .ok (.iload_n 2, 1) := by decide +kernel
theorem dX11_enough_95 : decode cX11_enough 95 = .ok (.iaload, 1) := by decide +kernel
theorem dX11_enough_96 : decode cX11_enough 96 = .ok (.i2l, 1) := by decide +kernel
theorem dX11_enough_97 : decode cX11_enough 97 = .ok (.aload_n 0, 1) := by decide +kernel
theorem dX11_enough_98 : decode cX11_enough 98 = .ok (.iload_n 2, 1) := by decide +kernel
theorem dX11_enough_99 : decode cX11_enough 99 = .ok (.invokevirtual 106, 3) := by decide +kernel
theorem dX11_enough_102 : decode cX11_enough 102 = .ok (.i2l, 1) := by decide +kernel
theorem dX11_enough_103 : decode cX11_enough 103 = .ok (.lmul, 1) := by decide +kernel
theorem dX11_enough_104 : decode cX11_enough 104 = .ok (.lsub, 1) := by decide +kernel
theorem dX11_enough_105 : decode cX11_enough 105 = .ok (.lstore_n 3, 1) := by decide +kernel
theorem dX11_enough_106 : decode cX11_enough 106 = .ok (.iconst 0, 1) := by decide +kernel
theorem dX11_enough_107 : decode cX11_enough 107 = .ok (.istore 5, 2) := by decide +kernel
theorem dX11_enough_109 : decode cX11_enough 109 = .ok (.iload 5, 2) := by decide +kernel
theorem dX11_enough_111 : decode cX11_enough 111 = .ok (.aload_n 0, 1) := by decide +kernel
theorem dX11_enough_112 : decode cX11_enough 112 = .ok (.getfield 95, 3) := by decide +kernel
theorem dX11_enough_115 : decode cX11_enough 115 = .ok (.if_icmp .ge 29, 3) := by decide +kernel
theorem dX11_enough_118 : decode cX11_enough 118 = .ok (.lload_n 3, 1) := by decide +kernel
theorem dX11_enough_119 : decode cX11_enough 119 = .ok (.aload_n 0, 1) := by decide +kernel
theorem dX11_enough_120 : decode cX11_enough 120 = .ok (.getfield 55, 3) := by decide +kernel
theorem dX11_enough_123 : decode cX11_enough 123 = .ok (.iload 5, 2) := by decide +kernel
theorem dX11_enough_125 : decode cX11_enough 125 = .ok (.iaload, 1) := by decide +kernel
theorem dX11_enough_126 : decode cX11_enough 126 = .ok (.i2l, 1) := by decide +kernel
theorem dX11_enough_127 : decode cX11_enough 127 = .ok (.aload_n 0, 1) := by decide +kernel
theorem dX11_enough_128 : decode cX11_enough 128 = .ok (.iload 5, 2) := by decide +kernel
theorem dX11_enough_130 : decode cX11_enough 130 = .ok (.iload_n 2, 1) := by decide +kernel
theorem dX11_enough_131 : decode cX11_enough 131 = .ok (.invokevirtual 102, 3) := by decide +kernel
theorem dX11_enough_134 : decode cX11_enough 134 = .ok (.i2l, 1) := by decide +kernel
theorem dX11_enough_135 : decode cX11_enough 135 = .ok (.lmul, 1) := by decide +kernel
theorem dX11_enough_136 : decode cX11_enough 136 = .ok (.ladd, 1) := by decide +kernel
theorem dX11_enough_137 : decode cX11_enough 137 = .ok (.lstore_n 3, 1) := by decide +kernel
theorem dX11_enough_138 : decode cX11_enough 138 = .ok (.iinc 5 1, 3) := by decide +kernel
theorem dX11_enough_141 : decode cX11_enough 141 = .ok (.goto (-32), 3) := by decide +kernel
theorem dX11_enough_144 : decode cX11_enough 144 = .ok (.lload_n 3, 1) := by decide +kernel
theorem dX11_enough_145 : decode cX11_enough 145 = .ok (.aload_n 0, 1) := by decide +kernel
theorem dX11_enough_146 : decode cX11_enough 146 = .ok (.iload_n 2, 1) := by decide +kernel
theorem dX11_enough_147 : decode cX11_enough 147 = .ok (.invokevirtual 106, 3) := by decide +kernel
theorem dX11_enough_150 : decode cX11_enough 150 = .ok (.invokestatic 110, 3) := by decide +kernel
theorem dX11_enough_153 : decode cX11_enough 153 = .ok (.ifCond .eq 5, 3) := by decide +kernel
theorem dX11_enough_156 : decode cX11_enough 156 = .ok (.iconst 0, 1) := by decide +kernel
theorem dX11_enough_157 : decode cX11_enough 157 = .ok (.ireturn, 1) := by decide +kernel
theorem dX11_enough_158 : decode cX11_enough 158 = .ok (.iinc 2 1, 3) := by decide +kernel
theorem dX11_enough_161 : decode cX11_enough 161 = .ok (.goto (-85), 3) := by decide +kernel
theorem dX11_enough_164 : decode cX11_enough 164 = .ok (.iconst 1, 1) := by decide +kernel
theorem dX11_enough_165 : decode cX11_enough 165 = .ok (.ireturn, 1) := by decide +kernel
theorem dX11_check_0 : decode cX11_check 0 = .ok (.aload_n 0, 1) := by decide +kernel
theorem dX11_check_1 : decode cX11_check 1 = .ok (.getfield 169, 3) := by decide +kernel
theorem dX11_check_4 : decode cX11_check 4 = .ok (.istore_n 1, 1) := by decide +kernel
theorem dX11_check_5 : decode cX11_check 5 = .ok (.aload_n 0, 1) := by decide +kernel
theorem dX11_check_6 : decode cX11_check 6 = .ok (.iconst 0, 1) := by decide +kernel
theorem dX11_check_7 : decode cX11_check 7 = .ok (.putfield 169, 3) := by decide +kernel
theorem dX11_check_10 : decode cX11_check 10 = .ok (.aload_n 0, 1) := by decide +kernel
theorem dX11_check_11 : decode cX11_check 11 = .ok (.getfield 114, 3) := by decide +kernel
theorem dX11_check_14 : decode cX11_check 14 = .ok (.ifCond .ne 10, 3) := by decide +kernel
theorem dX11_check_17 : decode cX11_check 17 = .ok (.aload_n 0, 1) := by decide +kernel
theorem dX11_check_18 : decode cX11_check 18 = .ok (.bipush (-8), 2) := by decide +kernel
theorem dX11_check_20 : decode cX11_check 20 = .ok (.invokevirtual 118, 3) := by decide +kernel
theorem dX11_check_23 : decode cX11_check 23 = .ok (.ireturn, 1) := by decide +kernel
theorem dX11_check_24 : decode cX11_check 24 = .ok (.iconst 0, 1) := by decide +kernel
theorem dX11_check_25 : decode cX11_check 25 = .ok (.istore_n 2, 1) := by decide +kernel
theorem dX11_check_26 : decode cX11_check 26 = .ok (.iload_n 2, 1) := by decide +kernel
theorem dX11_check_27 : decode cX11_check 27 = .ok (.bipush 15, 2) := by decide +kernel
theorem dX11_check_29 : decode cX11_check 29 = .ok (.if_icmp .ge 21, 3) := by decide +kernel
theorem dX11_check_32 : decode cX11_check 32 = .ok (.aload_n 0, 1) := by decide +kernel
theorem dX11_check_33 : decode cX11_check 33 = .ok (.getfield 76, 3) := by decide +kernel
theorem dX11_check_36 : decode cX11_check 36 = .ok (.iload_n 2, 1) := by decide +kernel
theorem dX11_check_37 : decode cX11_check 37 = .ok (.aload_n 0, 1) := by decide +kernel
theorem dX11_check_38 : decode cX11_check 38 = .ok (.getfield 16, 3) := by decide +kernel
theorem dX11_check_41 : decode cX11_check 41 = .ok (.iload_n 2, 1) := by decide +kernel
theorem dX11_check_42 : decode cX11_check 42 = .ok (.laload, 1) := by decide +kernel
theorem dX11_check_43 : decode cX11_check 43 = .ok (.lastore, 1) := by decide +kernel
theorem dX11_check_44 : decode cX11_check 44 = .ok (.iinc 2 1, 3) := by decide +kernel
theorem dX11_check_47 : decode cX11_check 47 = .ok (.goto (-21), 3) := by decide +kernel
theorem dX11_check_50 : decode cX11_check 50 = .ok (.iconst 0, 1) := by decide +kernel
theorem dX11_check_51 : decode cX11_check 51 = .ok (.istore_n 2, 1) := by decide +kernel
theorem dX11_check_52 : decode cX11_check 52 = .ok (.iconst 2, 1) := by decide +kernel
theorem dX11_check_53 : decode cX11_check 53 = .ok (.iload_n 2, 1) := by decide +kernel
theorem dX11_check_54 : decode cX11_check 54 = .ok (.imul, 1) := by decide +kernel
theorem dX11_check_55 : decode cX11_check 55 = .ok (.iload_n 1, 1) := by decide +kernel
theorem dX11_check_56 : decode cX11_check 56 = .ok (.if_icmp .ge 111, 3) := by decide +kernel
theorem dX11_check_59 : decode cX11_check 59 = .ok (.iconst 2, 1) := by decide +kernel
theorem dX11_check_60 : decode cX11_check 60 = .ok (.iload_n 2, 1) := by decide +kernel
theorem dX11_check_61 : decode cX11_check 61 = .ok (.imul, 1) := by decide +kernel
theorem dX11_check_62 : decode cX11_check 62 = .ok (.iconst 1, 1) := by decide +kernel
theorem dX11_check_63 : decode cX11_check 63 = .ok (.iadd, 1) := by decide +kernel
theorem dX11_check_64 : decode cX11_check 64 = .ok (.iload_n 1, 1) := by decide +kernel
theorem dX11_check_65 : decode cX11_check 65 = .ok (.if_icmp .ne 7, 3) := by decide +kernel
theorem dX11_check_68 : decode cX11_check 68 = .ok (.iload_n 2, 1) := by decide +kernel
theorem dX11_check_69 : decode cX11_check 69 = .ok (.iconst 1, 1) := by decide +kernel
theorem dX11_check_70 : decode cX11_check 70 = .ok (.iadd, 1) := by decide +kernel
theorem dX11_check_71 : decode cX11_check 71 = .ok (.ireturn, 1) := by decide +kernel
theorem dX11_check_72 : decode cX11_check 72 = .ok (.aload_n 0, 1) := by decide +kernel
theorem dX11_check_73 : decode cX11_check 73 = .ok (.getfield 55, 3) := by decide +kernel
theorem dX11_check_76 : decode cX11_check 76 = .ok (.iconst 2, 1) := by decide +kernel
theorem dX11_check_77 : decode cX11_check 77 = .ok (.iload_n 2, 1) := by decide +kernel
theorem dX11_check_78 : decode cX11_check 78 = .ok (.imul, 1) := by decide +kernel
theorem dX11_check_79 : decode cX11_check 79 = .ok (.iaload, 1) := by decide +kernel
theorem dX11_check_80 : decode cX11_check 80 = .ok (.istore_n 3, 1) := by decide +kernel
theorem dX11_check_81 : decode cX11_check 81 = .ok (.aload_n 0, 1) := by decide +kernel
theorem dX11_check_82 : decode cX11_check 82 = .ok (.iload_n 3, 1) := by decide +kernel
theorem dX11_check_83 : decode cX11_check 83 = .ok (.invokevirtual 121, 3) := by decide +kernel
theorem dX11_check_86 : decode cX11_check 86 = .ok (.ifCond .eq 41, 3) := by decide +kernel
theorem dX11_check_89 : decode cX11_check 89 = .ok (.aload_n 0, 1) := by decide +kernel
theorem dX11_check_90 : decode cX11_check 90 = .ok (.getfield 76, 3) := by decide +kernel
theorem dX11_check_93 : decode cX11_check 93 = .ok (.iload_n 3, 1) := by decide +kernel
theorem dX11_check_94 : decode cX11_check 94 = .ok (.laload, 1) := by decide +kernel
theorem dX11_check_95 : decode cX11_check 95 = .ok (.aload_n 0, 1) := by decide +kernel
theorem dX11_check_96 : decode cX11_check 96 = .ok (.iload_n 3, 1) := by decide +kernel
theorem dX11_check_97 : decode cX11_check 97 = .ok (.invokevirtual 106, 3) := by decide +kernel
theorem dX11_check_100 : decode cX11_check 100 = .ok (.invokestatic 110, 3) := by decide +kernel
theorem dX11_check_103 : decode cX11_check 103 = .ok (.ifCond .eq 24, 3) := by decide +kernel
theorem dX11_check_106 : decode cX11_check 106 = .ok (.aload_n 0, 1) := by decide +kernel
theorem dX11_check_107 : decode cX11_check 107 = .ok (.getfield 76, 3) := by decide +kernel
theorem dX11_check_110 : decode cX11_check 110 = .ok (.iload_n 3, 1) := by decide +kernel
theorem dX11_check_111 : decode cX11_check 111 = .ok (.laload, 1) := by decide +kernel
theorem dX11_check_112 : decode cX11_check 112 = .ok (.aload_n 0, 1) := by decide +kernel
theorem dX11_check_113 : decode cX11_check 113 = .ok (.getfield 55, 3) := by decide +kernel
theorem dX11_check_116 : decode cX11_check 116 = .ok (.iconst 2, 1) := by decide +kernel
theorem dX11_check_117 : decode cX11_check 117 = .ok (.iload_n 2, 1) := by decide +kernel
theorem dX11_check_118 : decode cX11_check 118 = .ok (.imul, 1) := by decide +kernel
theorem dX11_check_119 : decode cX11_check 119 = .ok (.iconst 1, 1) := by decide +kernel
theorem dX11_check_120 : decode cX11_check 120 = .ok (.iadd, 1) := by decide +kernel
theorem dX11_check_121 : decode cX11_check 121 = .ok (.iaload, 1) := by decide +kernel
theorem dX11_check_122 : decode cX11_check 122 = .ok (.i2l, 1) := by decide +kernel
theorem dX11_check_123 : decode cX11_check 123 = .ok (.lcmp, 1) := by decide +kernel
theorem dX11_check_124 : decode cX11_check 124 = .ok (.ifCond .eq 7, 3) := by decide +kernel
theorem dX11_check_127 : decode cX11_check 127 = .ok (.iload_n 2, 1) := by decide +kernel
theorem dX11_check_128 : decode cX11_check 128 = .ok (.iconst 1, 1) := by decide +kernel
theorem dX11_check_129 : decode cX11_check 129 = .ok (.iadd, 1) := by decide +kernel
theorem dX11_check_130 : decode cX11_check 130 = .ok (.ireturn, 1) := by decide +kernel
theorem dX11_check_131 : decode cX11_check 131 = .ok (.aload_n 0, 1) := by decide +kernel
theorem dX11_check_132 : decode cX11_check 132 = .ok (.aload_n 0, 1) := by decide +kernel
theorem dX11_check_133 : decode cX11_check 133 = .ok (.getfield 76, 3) := by decide +kernel
theorem dX11_check_136 : decode cX11_check 136 = .ok (.iload_n 3, 1) := by decide +kernel
theorem dX11_check_137 : decode cX11_check 137 = .ok (.invokevirtual 162, 3) := by decide +kernel
theorem dX11_check_140 : decode cX11_check 140 = .ok (.ifCond .eq 10, 3) := by decide +kernel
theorem dX11_check_143 : decode cX11_check 143 = .ok (.aload_n 0, 1) := by decide +kernel
theorem dX11_check_144 : decode cX11_check 144 = .ok (.bipush (-5), 2) := by decide +kernel
theorem dX11_check_146 : decode cX11_check 146 = .ok (.invokevirtual 118, 3) := by decide +kernel
theorem dX11_check_149 : decode cX11_check 149 = .ok (.ireturn, 1) := by decide +kernel
theorem dX11_check_150 : decode cX11_check 150 = .ok (.aload_n 0, 1) := by decide +kernel
theorem dX11_check_151 : decode cX11_check 151 = .ok (.aload_n 0, 1) := by decide +kernel
theorem dX11_check_152 : decode cX11_check 152 = .ok (.getfield 76, 3) := by decide +kernel
theorem dX11_check_155 : decode cX11_check 155 = .ok (.iload_n 3, 1) := by decide +kernel
theorem dX11_check_156 : decode cX11_check 156 = .ok (.invokevirtual 166, 3) := by decide +kernel
theorem dX11_check_159 : decode cX11_check 159 = .ok (.lstore 4, 2) := by decide +kernel
theorem dX11_check_161 : decode cX11_check 161 = .ok (.iinc 2 1, 3) := by decide +kernel
theorem dX11_check_164 : decode cX11_check 164 = .ok (.goto (-112), 3) := by decide +kernel
theorem dX11_check_167 : decode cX11_check 167 = .ok (.iconst 0, 1) := by decide +kernel
theorem dX11_check_168 : decode cX11_check 168 = .ok (.istore_n 2, 1) := by decide +kernel
theorem dX11_check_169 : decode cX11_check 169 = .ok (.iload_n 2, 1) := by decide +kernel
theorem dX11_check_170 : decode cX11_check 170 = .ok (.aload_n 0, 1) := by decide +kernel
theorem dX11_check_171 : decode cX11_check 171 = .ok (.getfield 95, 3) := by decide +kernel
theorem dX11_check_174 : decode cX11_check 174 = .ok (.if_icmp .ge 30, 3) := by decide +kernel
theorem dX11_check_177 : decode cX11_check 177 = .ok (.aload_n 0, 1) := by decide +kernel
theorem dX11_check_178 : decode cX11_check 178 = .ok (.getfield 76, 3) := by decide +kernel
theorem dX11_check_181 : decode cX11_check 181 = .ok (.iload_n 2, 1) := by decide +kernel
theorem dX11_check_182 : decode cX11_check 182 = .ok (.laload, 1) := by decide +kernel
theorem dX11_check_183 : decode cX11_check 183 = .ok (.aload_n 0, 1) := by decide +kernel
theorem dX11_check_184 : decode cX11_check 184 = .ok (.iload_n 2, 1) := by decide +kernel
theorem dX11_check_185 : decode cX11_check 185 = .ok (.invokevirtual 106, 3) := by decide +kernel
theorem dX11_check_188 : decode cX11_check 188 = .ok (.invokestatic 110, 3) := by decide +kernel
theorem dX11_check_191 : decode cX11_check 191 = .ok (.ifCond .eq 7, 3) := by decide +kernel
theorem dX11_check_194 : decode cX11_check 194 = .ok (.sipush 1000, 3) := by decide +kernel
theorem dX11_check_197 : decode cX11_check 197 = .ok (.ireturn, 1) := by decide +kernel
theorem dX11_check_198 : decode cX11_check 198 = .ok (.iinc 2 1, 3) := by decide +kernel
theorem dX11_check_201 : decode cX11_check 201 = .ok (.goto (-32), 3) := by decide +kernel
theorem dX11_check_204 : decode cX11_check 204 = .ok (.iconst 0, 1) := by decide +kernel
theorem dX11_check_205 : decode cX11_check 205 = .ok (.ireturn, 1) := by decide +kernel
theorem dX11_told_0 : decode cX11_told 0 = .ok (.iload_n 1, 1) := by decide +kernel
theorem dX11_told_1 : decode cX11_told 1 = .ok (.tableswitch 148 0 8 #[51, 56, 61, 74, 94, 127, 132, 138, 143], 51) := by decide +kernel
theorem dX11_told_52 : decode cX11_told 52 = .ok (.aload_n 0, 1) := by decide +kernel
theorem dX11_told_53 : decode cX11_told 53 = .ok (.getfield 125, 3) := by decide +kernel
theorem dX11_told_56 : decode cX11_told 56 = .ok (.ireturn, 1) := by decide +kernel
theorem dX11_told_57 : decode cX11_told 57 = .ok (.aload_n 0, 1) := by decide +kernel
theorem dX11_told_58 : decode cX11_told 58 = .ok (.getfield 95, 3) := by decide +kernel
theorem dX11_told_61 : decode cX11_told 61 = .ok (.ireturn, 1) := by decide +kernel
theorem dX11_told_62 : decode cX11_told 62 = .ok (.aload_n 0, 1) := by decide +kernel
theorem dX11_told_63 : decode cX11_told 63 = .ok (.getfield 114, 3) := by decide +kernel
theorem dX11_told_66 : decode cX11_told 66 = .ok (.ifCond .eq 7, 3) := by decide +kernel
theorem dX11_told_69 : decode cX11_told 69 = .ok (.iconst 1, 1) := by decide +kernel
theorem dX11_told_70 : decode cX11_told 70 = .ok (.goto 4, 3) := by decide +kernel
theorem dX11_told_73 : decode cX11_told 73 = .ok (.iconst 0, 1) := by decide +kernel
theorem dX11_told_74 : decode cX11_told 74 = .ok (.ireturn, 1) := by decide +kernel
theorem dX11_told_75 : decode cX11_told 75 = .ok (.aload_n 0, 1) := by decide +kernel
theorem dX11_told_76 : decode cX11_told 76 = .ok (.getfield 114, 3) := by decide +kernel
theorem dX11_told_79 : decode cX11_told 79 = .ok (.ifCond .eq 14, 3) := by decide +kernel
theorem dX11_told_82 : decode cX11_told 82 = .ok (.aload_n 0, 1) := by decide +kernel
theorem dX11_told_83 : decode cX11_told 83 = .ok (.invokevirtual 151, 3) := by decide +kernel
theorem dX11_told_86 : decode cX11_told 86 = .ok (.ifCond .ne 7, 3) := by decide +kernel
theorem dX11_told_89 : decode cX11_told 89 = .ok (.iconst 1, 1) := by decide +kernel
theorem dX11_told_90 : decode cX11_told 90 = .ok (.goto 4, 3) := by decide +kernel
theorem dX11_told_93 : decode cX11_told 93 = .ok (.iconst 0, 1) := by decide +kernel
theorem dX11_told_94 : decode cX11_told 94 = .ok (.ireturn, 1) := by decide +kernel
theorem dX11_told_95 : decode cX11_told 95 = .ok (.lconst 0, 1) := by decide +kernel
theorem dX11_told_96 : decode cX11_told 96 = .ok (.lstore_n 2, 1) := by decide +kernel
theorem dX11_told_97 : decode cX11_told 97 = .ok (.iconst 0, 1) := by decide +kernel
theorem dX11_told_98 : decode cX11_told 98 = .ok (.istore 4, 2) := by decide +kernel
theorem dX11_told_100 : decode cX11_told 100 = .ok (.iload 4, 2) := by decide +kernel
theorem dX11_told_102 : decode cX11_told 102 = .ok (.aload_n 0, 1) := by decide +kernel
theorem dX11_told_103 : decode cX11_told 103 = .ok (.getfield 95, 3) := by decide +kernel
theorem dX11_told_106 : decode cX11_told 106 = .ok (.if_icmp .ge 19, 3) := by decide +kernel
theorem dX11_told_109 : decode cX11_told 109 = .ok (.lload_n 2, 1) := by decide +kernel
theorem dX11_told_110 : decode cX11_told 110 = .ok (.aload_n 0, 1) := by decide +kernel
theorem dX11_told_111 : decode cX11_told 111 = .ok (.getfield 16, 3) := by decide +kernel
theorem dX11_told_114 : decode cX11_told 114 = .ok (.iload 4, 2) := by decide +kernel
theorem dX11_told_116 : decode cX11_told 116 = .ok (.laload, 1) := by decide +kernel
theorem dX11_told_117 : decode cX11_told 117 = .ok (.ladd, 1) := by decide +kernel
theorem dX11_told_118 : decode cX11_told 118 = .ok (.lstore_n 2, 1) := by decide +kernel
theorem dX11_told_119 : decode cX11_told 119 = .ok (.iinc 4 1, 3) := by decide +kernel
theorem dX11_told_122 : decode cX11_told 122 = .ok (.goto (-22), 3) := by decide +kernel
theorem dX11_told_125 : decode cX11_told 125 = .ok (.lload_n 2, 1) := by decide +kernel
theorem dX11_told_126 : decode cX11_told 126 = .ok (.l2i, 1) := by decide +kernel
theorem dX11_told_127 : decode cX11_told 127 = .ok (.ireturn, 1) := by decide +kernel
theorem dX11_told_128 : decode cX11_told 128 = .ok (.aload_n 0, 1) := by decide +kernel
theorem dX11_told_129 : decode cX11_told 129 = .ok (.getfield 169, 3) := by decide +kernel
theorem dX11_told_132 : decode cX11_told 132 = .ok (.ireturn, 1) := by decide +kernel
theorem dX11_told_133 : decode cX11_told 133 = .ok (.aload_n 0, 1) := by decide +kernel
theorem dX11_told_134 : decode cX11_told 134 = .ok (.getfield 23, 3) := by decide +kernel
theorem dX11_told_137 : decode cX11_told 137 = .ok (.l2i, 1) := by decide +kernel
theorem dX11_told_138 : decode cX11_told 138 = .ok (.ireturn, 1) := by decide +kernel
theorem dX11_told_139 : decode cX11_told 139 = .ok (.aload_n 0, 1) := by decide +kernel
theorem dX11_told_140 : decode cX11_told 140 = .ok (.getfield 140, 3) := by decide +kernel
theorem dX11_told_143 : decode cX11_told 143 = .ok (.ireturn, 1) := by decide +kernel
theorem dX11_told_144 : decode cX11_told 144 = .ok (.aload_n 0, 1) := by decide +kernel
theorem dX11_told_145 : decode cX11_told 145 = .ok (.getfield 91, 3) := by decide +kernel
theorem dX11_told_148 : decode cX11_told 148 = .ok (.ireturn, 1) := by decide +kernel
theorem dX11_told_149 : decode cX11_told 149 = .ok (.aload_n 0, 1) := by decide +kernel
theorem dX11_told_150 : decode cX11_told 150 = .ok (.iconst (-1), 1) := by decide +kernel
theorem dX11_told_151 : decode cX11_told 151 = .ok (.invokevirtual 118, 3) := by decide +kernel
theorem dX11_told_154 : decode cX11_told 154 = .ok (.ireturn, 1) := by decide +kernel
theorem dL_law_0 : decode cL_law 0 = .ok (.new 7, 3) := by decide +kernel
theorem dL_law_3 : decode cL_law 3 = .ok (.dup, 1) := by decide +kernel
theorem dL_law_4 : decode cL_law 4 = .ok (.invokespecial 9, 3) := by decide +kernel
theorem dL_law_7 : decode cL_law 7 = .ok (.astore_n 1, 1) := by decide +kernel
theorem dL_law_8 : decode cL_law 8 = .ok (.new 10, 3) := by decide +kernel
theorem dL_law_11 : decode cL_law 11 = .ok (.dup, 1) := by decide +kernel
theorem dL_law_12 : decode cL_law 12 = .ok (.invokespecial 12, 3) := by decide +kernel
theorem dL_law_15 : decode cL_law 15 = .ok (.astore_n 2, 1) := by decide +kernel
theorem dL_law_16 : decode cL_law 16 = .ok (.iconst 0, 1) := by decide +kernel
theorem dL_law_17 : decode cL_law 17 = .ok (.istore_n 3, 1) := by decide +kernel
theorem dL_law_18 : decode cL_law 18 = .ok (.iload_n 3, 1) := by decide +kernel
theorem dL_law_19 : decode cL_law 19 = .ok (.aload_n 0, 1) := by decide +kernel
theorem dL_law_20 : decode cL_law 20 = .ok (.arraylength, 1) := by decide +kernel
theorem dL_law_21 : decode cL_law 21 = .ok (.bipush 6, 2) := by decide +kernel
theorem dL_law_23 : decode cL_law 23 = .ok (.isub, 1) := by decide +kernel
theorem dL_law_24 : decode cL_law 24 = .ok (.if_icmp .gt 1091, 3) := by decide +kernel
theorem dL_law_27 : decode cL_law 27 = .ok (.aload_n 0, 1) := by decide +kernel
theorem dL_law_28 : decode cL_law 28 = .ok (.iload_n 3, 1) := by decide +kernel
theorem dL_law_29 : decode cL_law 29 = .ok (.iaload, 1) := by decide +kernel
theorem dL_law_30 : decode cL_law 30 = .ok (.bipush 63, 2) := by decide +kernel
theorem dL_law_32 : decode cL_law 32 = .ok (.iand, 1) := by decide +kernel
theorem dL_law_33 : decode cL_law 33 = .ok (.tableswitch 1076 0 33 #[151, 174, 217, 230, 243, 276, 309, 342, 366, 379, 402, 435, 458, 482, 495, 508, 521, 544, 567, 590, 633, 656, 689, 712, 725, 758, 801, 875, 938, 991, 1014, 1027, 1040, 1053], 151) := by decide +kernel
theorem dL_law_184 : decode cL_law 184 = .ok (.aload_n 1, 1) := by decide +kernel
theorem dL_law_185 : decode cL_law 185 = .ok (.aload_n 0, 1) := by decide +kernel
theorem dL_law_186 : decode cL_law 186 = .ok (.iload_n 3, 1) := by decide +kernel
theorem dL_law_187 : decode cL_law 187 = .ok (.iconst 1, 1) := by decide +kernel
theorem dL_law_188 : decode cL_law 188 = .ok (.iadd, 1) := by decide +kernel
theorem dL_law_189 : decode cL_law 189 = .ok (.iaload, 1) := by decide +kernel
theorem dL_law_190 : decode cL_law 190 = .ok (.invokevirtual 13, 3) := by decide +kernel
theorem dL_law_193 : decode cL_law 193 = .ok (.aload_n 2, 1) := by decide +kernel
theorem dL_law_194 : decode cL_law 194 = .ok (.aload_n 0, 1) := by decide +kernel
theorem dL_law_195 : decode cL_law 195 = .ok (.iload_n 3, 1) := by decide +kernel
theorem dL_law_196 : decode cL_law 196 = .ok (.iconst 1, 1) := by decide +kernel
theorem dL_law_197 : decode cL_law 197 = .ok (.iadd, 1) := by decide +kernel
theorem dL_law_198 : decode cL_law 198 = .ok (.iaload, 1) := by decide +kernel
theorem dL_law_199 : decode cL_law 199 = .ok (.invokevirtual 17, 3) := by decide +kernel
theorem dL_law_202 : decode cL_law 202 = .ok (.if_icmp .eq 907, 3) := by decide +kernel
theorem dL_law_205 : decode cL_law 205 = .ok (.iconst 0, 1) := by decide +kernel
theorem dL_law_206 : decode cL_law 206 = .ok (.ireturn, 1) := by decide +kernel
theorem dL_law_207 : decode cL_law 207 = .ok (.aload_n 1, 1) := by decide +kernel
theorem dL_law_208 : decode cL_law 208 = .ok (.aload_n 0, 1) := by decide +kernel
theorem dL_law_209 : decode cL_law 209 = .ok (.iload_n 3, 1) := by decide +kernel
theorem dL_law_210 : decode cL_law 210 = .ok (.iconst 1, 1) := by decide +kernel
theorem dL_law_211 : decode cL_law 211 = .ok (.iadd, 1) := by decide +kernel
theorem dL_law_212 : decode cL_law 212 = .ok (.iaload, 1) := by decide +kernel
theorem dL_law_213 : decode cL_law 213 = .ok (.aload_n 0, 1) := by decide +kernel
theorem dL_law_214 : decode cL_law 214 = .ok (.iload_n 3, 1) := by decide +kernel
theorem dL_law_215 : decode cL_law 215 = .ok (.iconst 2, 1) := by decide +kernel
theorem dL_law_216 : decode cL_law 216 = .ok (.iadd, 1) := by decide +kernel
theorem dL_law_217 : decode cL_law 217 = .ok (.iaload, 1) := by decide +kernel
theorem dL_law_218 : decode cL_law 218 = .ok (.aload_n 0, 1) := by decide +kernel
theorem dL_law_219 : decode cL_law 219 = .ok (.iload_n 3, 1) := by decide +kernel
theorem dL_law_220 : decode cL_law 220 = .ok (.iconst 3, 1) := by decide +kernel
theorem dL_law_221 : decode cL_law 221 = .ok (.iadd, 1) := by decide +kernel
theorem dL_law_222 : decode cL_law 222 = .ok (.iaload, 1) := by decide +kernel
theorem dL_law_223 : decode cL_law 223 = .ok (.invokevirtual 18, 3) := by decide +kernel
theorem dL_law_226 : decode cL_law 226 = .ok (.aload_n 2, 1) := by decide +kernel
theorem dL_law_227 : decode cL_law 227 = .ok (.aload_n 0, 1) := by decide +kernel
theorem dL_law_228 : decode cL_law 228 = .ok (.iload_n 3, 1) := by decide +kernel
theorem dL_law_229 : decode cL_law 229 = .ok (.iconst 1, 1) := by decide +kernel
theorem dL_law_230 : decode cL_law 230 = .ok (.iadd, 1) := by decide +kernel
theorem dL_law_231 : decode cL_law 231 = .ok (.iaload, 1) := by decide +kernel
theorem dL_law_232 : decode cL_law 232 = .ok (.aload_n 0, 1) := by decide +kernel
theorem dL_law_233 : decode cL_law 233 = .ok (.iload_n 3, 1) := by decide +kernel
theorem dL_law_234 : decode cL_law 234 = .ok (.iconst 2, 1) := by decide +kernel
theorem dL_law_235 : decode cL_law 235 = .ok (.iadd, 1) := by decide +kernel
theorem dL_law_236 : decode cL_law 236 = .ok (.iaload, 1) := by decide +kernel
theorem dL_law_237 : decode cL_law 237 = .ok (.aload_n 0, 1) := by decide +kernel
theorem dL_law_238 : decode cL_law 238 = .ok (.iload_n 3, 1) := by decide +kernel
theorem dL_law_239 : decode cL_law 239 = .ok (.iconst 3, 1) := by decide +kernel
theorem dL_law_240 : decode cL_law 240 = .ok (.iadd, 1) := by decide +kernel
theorem dL_law_241 : decode cL_law 241 = .ok (.iaload, 1) := by decide +kernel
theorem dL_law_242 : decode cL_law 242 = .ok (.invokevirtual 22, 3) := by decide +kernel
theorem dL_law_245 : decode cL_law 245 = .ok (.if_icmp .eq 864, 3) := by decide +kernel
theorem dL_law_248 : decode cL_law 248 = .ok (.iconst 0, 1) := by decide +kernel
theorem dL_law_249 : decode cL_law 249 = .ok (.ireturn, 1) := by decide +kernel
theorem dL_law_250 : decode cL_law 250 = .ok (.aload_n 1, 1) := by decide +kernel
theorem dL_law_251 : decode cL_law 251 = .ok (.invokevirtual 23, 3) := by decide +kernel
theorem dL_law_254 : decode cL_law 254 = .ok (.aload_n 2, 1) := by decide +kernel
theorem dL_law_255 : decode cL_law 255 = .ok (.invokevirtual 27, 3) := by decide +kernel
theorem dL_law_258 : decode cL_law 258 = .ok (.if_icmp .eq 851, 3) := by decide +kernel
theorem dL_law_261 : decode cL_law 261 = .ok (.iconst 0, 1) := by decide +kernel
theorem dL_law_262 : decode cL_law 262 = .ok (.ireturn, 1) := by decide +kernel
theorem dL_law_263 : decode cL_law 263 = .ok (.aload_n 1, 1) := by decide +kernel
theorem dL_law_264 : decode cL_law 264 = .ok (.invokevirtual 28, 3) := by decide +kernel
theorem dL_law_267 : decode cL_law 267 = .ok (.aload_n 2, 1) := by decide +kernel
theorem dL_law_268 : decode cL_law 268 = .ok (.invokevirtual 31, 3) := by decide +kernel
theorem dL_law_271 : decode cL_law 271 = .ok (.if_icmp .eq 838, 3) := by decide +kernel
theorem dL_law_274 : decode cL_law 274 = .ok (.iconst 0, 1) := by decide +kernel
theorem dL_law_275 : decode cL_law 275 = .ok (.ireturn, 1) := by decide +kernel
theorem dL_law_276 : decode cL_law 276 = .ok (.aload_n 1, 1) := by decide +kernel
theorem dL_law_277 : decode cL_law 277 = .ok (.aload_n 0, 1) := by decide +kernel
theorem dL_law_278 : decode cL_law 278 = .ok (.iload_n 3, 1) := by decide +kernel
theorem dL_law_279 : decode cL_law 279 = .ok (.iconst 1, 1) := by decide +kernel
theorem dL_law_280 : decode cL_law 280 = .ok (.iadd, 1) := by decide +kernel
theorem dL_law_281 : decode cL_law 281 = .ok (.iaload, 1) := by decide +kernel
theorem dL_law_282 : decode cL_law 282 = .ok (.aload_n 0, 1) := by decide +kernel
theorem dL_law_283 : decode cL_law 283 = .ok (.iload_n 3, 1) := by decide +kernel
theorem dL_law_284 : decode cL_law 284 = .ok (.iconst 2, 1) := by decide +kernel
theorem dL_law_285 : decode cL_law 285 = .ok (.iadd, 1) := by decide +kernel
theorem dL_law_286 : decode cL_law 286 = .ok (.iaload, 1) := by decide +kernel
theorem dL_law_287 : decode cL_law 287 = .ok (.invokevirtual 32, 3) := by decide +kernel
theorem dL_law_290 : decode cL_law 290 = .ok (.aload_n 2, 1) := by decide +kernel
theorem dL_law_291 : decode cL_law 291 = .ok (.aload_n 0, 1) := by decide +kernel
theorem dL_law_292 : decode cL_law 292 = .ok (.iload_n 3, 1) := by decide +kernel
theorem dL_law_293 : decode cL_law 293 = .ok (.iconst 1, 1) := by decide +kernel
theorem dL_law_294 : decode cL_law 294 = .ok (.iadd, 1) := by decide +kernel
theorem dL_law_295 : decode cL_law 295 = .ok (.iaload, 1) := by decide +kernel
theorem dL_law_296 : decode cL_law 296 = .ok (.aload_n 0, 1) := by decide +kernel
theorem dL_law_297 : decode cL_law 297 = .ok (.iload_n 3, 1) := by decide +kernel
theorem dL_law_298 : decode cL_law 298 = .ok (.iconst 2, 1) := by decide +kernel
theorem dL_law_299 : decode cL_law 299 = .ok (.iadd, 1) := by decide +kernel
theorem dL_law_300 : decode cL_law 300 = .ok (.iaload, 1) := by decide +kernel
theorem dL_law_301 : decode cL_law 301 = .ok (.invokevirtual 36, 3) := by decide +kernel
theorem dL_law_304 : decode cL_law 304 = .ok (.if_icmp .eq 805, 3) := by decide +kernel
theorem dL_law_307 : decode cL_law 307 = .ok (.iconst 0, 1) := by decide +kernel
theorem dL_law_308 : decode cL_law 308 = .ok (.ireturn, 1) := by decide +kernel
theorem dL_law_309 : decode cL_law 309 = .ok (.aload_n 1, 1) := by decide +kernel
theorem dL_law_310 : decode cL_law 310 = .ok (.aload_n 0, 1) := by decide +kernel
theorem dL_law_311 : decode cL_law 311 = .ok (.iload_n 3, 1) := by decide +kernel
theorem dL_law_312 : decode cL_law 312 = .ok (.iconst 1, 1) := by decide +kernel
theorem dL_law_313 : decode cL_law 313 = .ok (.iadd, 1) := by decide +kernel
theorem dL_law_314 : decode cL_law 314 = .ok (.iaload, 1) := by decide +kernel
theorem dL_law_315 : decode cL_law 315 = .ok (.aload_n 0, 1) := by decide +kernel
theorem dL_law_316 : decode cL_law 316 = .ok (.iload_n 3, 1) := by decide +kernel
theorem dL_law_317 : decode cL_law 317 = .ok (.iconst 2, 1) := by decide +kernel
theorem dL_law_318 : decode cL_law 318 = .ok (.iadd, 1) := by decide +kernel
theorem dL_law_319 : decode cL_law 319 = .ok (.iaload, 1) := by decide +kernel
theorem dL_law_320 : decode cL_law 320 = .ok (.invokevirtual 37, 3) := by decide +kernel
theorem dL_law_323 : decode cL_law 323 = .ok (.aload_n 2, 1) := by decide +kernel
theorem dL_law_324 : decode cL_law 324 = .ok (.aload_n 0, 1) := by decide +kernel
theorem dL_law_325 : decode cL_law 325 = .ok (.iload_n 3, 1) := by decide +kernel
theorem dL_law_326 : decode cL_law 326 = .ok (.iconst 1, 1) := by decide +kernel
theorem dL_law_327 : decode cL_law 327 = .ok (.iadd, 1) := by decide +kernel
theorem dL_law_328 : decode cL_law 328 = .ok (.iaload, 1) := by decide +kernel
theorem dL_law_329 : decode cL_law 329 = .ok (.aload_n 0, 1) := by decide +kernel
theorem dL_law_330 : decode cL_law 330 = .ok (.iload_n 3, 1) := by decide +kernel
theorem dL_law_331 : decode cL_law 331 = .ok (.iconst 2, 1) := by decide +kernel
theorem dL_law_332 : decode cL_law 332 = .ok (.iadd, 1) := by decide +kernel
theorem dL_law_333 : decode cL_law 333 = .ok (.iaload, 1) := by decide +kernel
theorem dL_law_334 : decode cL_law 334 = .ok (.invokevirtual 40, 3) := by decide +kernel
theorem dL_law_337 : decode cL_law 337 = .ok (.if_icmp .eq 772, 3) := by decide +kernel
theorem dL_law_340 : decode cL_law 340 = .ok (.iconst 0, 1) := by decide +kernel
theorem dL_law_341 : decode cL_law 341 = .ok (.ireturn, 1) := by decide +kernel
theorem dL_law_342 : decode cL_law 342 = .ok (.aload_n 1, 1) := by decide +kernel
theorem dL_law_343 : decode cL_law 343 = .ok (.aload_n 0, 1) := by decide +kernel
theorem dL_law_344 : decode cL_law 344 = .ok (.iload_n 3, 1) := by decide +kernel
theorem dL_law_345 : decode cL_law 345 = .ok (.iconst 1, 1) := by decide +kernel
theorem dL_law_346 : decode cL_law 346 = .ok (.iadd, 1) := by decide +kernel
theorem dL_law_347 : decode cL_law 347 = .ok (.iaload, 1) := by decide +kernel
theorem dL_law_348 : decode cL_law 348 = .ok (.aload_n 0, 1) := by decide +kernel
theorem dL_law_349 : decode cL_law 349 = .ok (.iload_n 3, 1) := by decide +kernel
theorem dL_law_350 : decode cL_law 350 = .ok (.iconst 2, 1) := by decide +kernel
theorem dL_law_351 : decode cL_law 351 = .ok (.iadd, 1) := by decide +kernel
theorem dL_law_352 : decode cL_law 352 = .ok (.iaload, 1) := by decide +kernel
theorem dL_law_353 : decode cL_law 353 = .ok (.invokevirtual 41, 3) := by decide +kernel
theorem dL_law_356 : decode cL_law 356 = .ok (.aload_n 2, 1) := by decide +kernel
theorem dL_law_357 : decode cL_law 357 = .ok (.aload_n 0, 1) := by decide +kernel
theorem dL_law_358 : decode cL_law 358 = .ok (.iload_n 3, 1) := by decide +kernel
theorem dL_law_359 : decode cL_law 359 = .ok (.iconst 1, 1) := by decide +kernel
theorem dL_law_360 : decode cL_law 360 = .ok (.iadd, 1) := by decide +kernel
theorem dL_law_361 : decode cL_law 361 = .ok (.iaload, 1) := by decide +kernel
theorem dL_law_362 : decode cL_law 362 = .ok (.aload_n 0, 1) := by decide +kernel
theorem dL_law_363 : decode cL_law 363 = .ok (.iload_n 3, 1) := by decide +kernel
theorem dL_law_364 : decode cL_law 364 = .ok (.iconst 2, 1) := by decide +kernel
theorem dL_law_365 : decode cL_law 365 = .ok (.iadd, 1) := by decide +kernel
theorem dL_law_366 : decode cL_law 366 = .ok (.iaload, 1) := by decide +kernel
theorem dL_law_367 : decode cL_law 367 = .ok (.invokevirtual 44, 3) := by decide +kernel
theorem dL_law_370 : decode cL_law 370 = .ok (.if_icmp .eq 739, 3) := by decide +kernel
theorem dL_law_373 : decode cL_law 373 = .ok (.iconst 0, 1) := by decide +kernel
theorem dL_law_374 : decode cL_law 374 = .ok (.ireturn, 1) := by decide +kernel
theorem dL_law_375 : decode cL_law 375 = .ok (.aload_n 1, 1) := by decide +kernel
theorem dL_law_376 : decode cL_law 376 = .ok (.aload_n 0, 1) := by decide +kernel
theorem dL_law_377 : decode cL_law 377 = .ok (.iload_n 3, 1) := by decide +kernel
theorem dL_law_378 : decode cL_law 378 = .ok (.iconst 1, 1) := by decide +kernel
theorem dL_law_379 : decode cL_law 379 = .ok (.iadd, 1) := by decide +kernel
theorem dL_law_380 : decode cL_law 380 = .ok (.iaload, 1) := by decide +kernel
theorem dL_law_381 : decode cL_law 381 = .ok (.invokevirtual 45, 3) := by decide +kernel
theorem dL_law_384 : decode cL_law 384 = .ok (.aload_n 2, 1) := by decide +kernel
theorem dL_law_385 : decode cL_law 385 = .ok (.aload_n 0, 1) := by decide +kernel
theorem dL_law_386 : decode cL_law 386 = .ok (.iload_n 3, 1) := by decide +kernel
theorem dL_law_387 : decode cL_law 387 = .ok (.iconst 1, 1) := by decide +kernel
theorem dL_law_388 : decode cL_law 388 = .ok (.iadd, 1) := by decide +kernel
theorem dL_law_389 : decode cL_law 389 = .ok (.iaload, 1) := by decide +kernel
theorem dL_law_390 : decode cL_law 390 = .ok (.invokevirtual 49, 3) := by decide +kernel
theorem dL_law_393 : decode cL_law 393 = .ok (.lcmp, 1) := by decide +kernel
theorem dL_law_394 : decode cL_law 394 = .ok (.ifCond .eq 715, 3) := by decide +kernel
theorem dL_law_397 : decode cL_law 397 = .ok (.iconst 0, 1) := by decide +kernel
theorem dL_law_398 : decode cL_law 398 = .ok (.ireturn, 1) := by decide +kernel
theorem dL_law_399 : decode cL_law 399 = .ok (.aload_n 1, 1) := by decide +kernel
theorem dL_law_400 : decode cL_law 400 = .ok (.invokevirtual 50, 3) := by decide +kernel
theorem dL_law_403 : decode cL_law 403 = .ok (.aload_n 2, 1) := by decide +kernel
theorem dL_law_404 : decode cL_law 404 = .ok (.invokevirtual 53, 3) := by decide +kernel
theorem dL_law_407 : decode cL_law 407 = .ok (.if_icmp .eq 702, 3) := by decide +kernel
theorem dL_law_410 : decode cL_law 410 = .ok (.iconst 0, 1) := by decide +kernel
theorem dL_law_411 : decode cL_law 411 = .ok (.ireturn, 1) := by decide +kernel
theorem dL_law_412 : decode cL_law 412 = .ok (.aload_n 1, 1) := by decide +kernel
theorem dL_law_413 : decode cL_law 413 = .ok (.aload_n 0, 1) := by decide +kernel
theorem dL_law_414 : decode cL_law 414 = .ok (.iload_n 3, 1) := by decide +kernel
theorem dL_law_415 : decode cL_law 415 = .ok (.iconst 1, 1) := by decide +kernel
theorem dL_law_416 : decode cL_law 416 = .ok (.iadd, 1) := by decide +kernel
theorem dL_law_417 : decode cL_law 417 = .ok (.iaload, 1) := by decide +kernel
theorem dL_law_418 : decode cL_law 418 = .ok (.invokevirtual 54, 3) := by decide +kernel
theorem dL_law_421 : decode cL_law 421 = .ok (.aload_n 2, 1) := by decide +kernel
theorem dL_law_422 : decode cL_law 422 = .ok (.aload_n 0, 1) := by decide +kernel
theorem dL_law_423 : decode cL_law 423 = .ok (.iload_n 3, 1) := by decide +kernel
theorem dL_law_424 : decode cL_law 424 = .ok (.iconst 1, 1) := by decide +kernel
theorem dL_law_425 : decode cL_law 425 = .ok (.iadd, 1) := by decide +kernel
theorem dL_law_426 : decode cL_law 426 = .ok (.iaload, 1) := by decide +kernel
theorem dL_law_427 : decode cL_law 427 = .ok (.invokevirtual 57, 3) := by decide +kernel
theorem dL_law_430 : decode cL_law 430 = .ok (.if_icmp .eq 679, 3) := by decide +kernel
theorem dL_law_433 : decode cL_law 433 = .ok (.iconst 0, 1) := by decide +kernel
theorem dL_law_434 : decode cL_law 434 = .ok (.ireturn, 1) := by decide +kernel
theorem dL_law_435 : decode cL_law 435 = .ok (.aload_n 1, 1) := by decide +kernel
theorem dL_law_436 : decode cL_law 436 = .ok (.aload_n 0, 1) := by decide +kernel
theorem dL_law_437 : decode cL_law 437 = .ok (.iload_n 3, 1) := by decide +kernel
theorem dL_law_438 : decode cL_law 438 = .ok (.iconst 1, 1) := by decide +kernel
theorem dL_law_439 : decode cL_law 439 = .ok (.iadd, 1) := by decide +kernel
theorem dL_law_440 : decode cL_law 440 = .ok (.iaload, 1) := by decide +kernel
theorem dL_law_441 : decode cL_law 441 = .ok (.aload_n 0, 1) := by decide +kernel
theorem dL_law_442 : decode cL_law 442 = .ok (.iload_n 3, 1) := by decide +kernel
theorem dL_law_443 : decode cL_law 443 = .ok (.iconst 2, 1) := by decide +kernel
theorem dL_law_444 : decode cL_law 444 = .ok (.iadd, 1) := by decide +kernel
theorem dL_law_445 : decode cL_law 445 = .ok (.iaload, 1) := by decide +kernel
theorem dL_law_446 : decode cL_law 446 = .ok (.invokevirtual 58, 3) := by decide +kernel
theorem dL_law_449 : decode cL_law 449 = .ok (.aload_n 2, 1) := by decide +kernel
theorem dL_law_450 : decode cL_law 450 = .ok (.aload_n 0, 1) := by decide +kernel
theorem dL_law_451 : decode cL_law 451 = .ok (.iload_n 3, 1) := by decide +kernel
theorem dL_law_452 : decode cL_law 452 = .ok (.iconst 1, 1) := by decide +kernel
theorem dL_law_453 : decode cL_law 453 = .ok (.iadd, 1) := by decide +kernel
theorem dL_law_454 : decode cL_law 454 = .ok (.iaload, 1) := by decide +kernel
theorem dL_law_455 : decode cL_law 455 = .ok (.aload_n 0, 1) := by decide +kernel
theorem dL_law_456 : decode cL_law 456 = .ok (.iload_n 3, 1) := by decide +kernel
theorem dL_law_457 : decode cL_law 457 = .ok (.iconst 2, 1) := by decide +kernel
theorem dL_law_458 : decode cL_law 458 = .ok (.iadd, 1) := by decide +kernel
theorem dL_law_459 : decode cL_law 459 = .ok (.iaload, 1) := by decide +kernel
theorem dL_law_460 : decode cL_law 460 = .ok (.invokevirtual 61, 3) := by decide +kernel
theorem dL_law_463 : decode cL_law 463 = .ok (.if_icmp .eq 646, 3) := by decide +kernel
theorem dL_law_466 : decode cL_law 466 = .ok (.iconst 0, 1) := by decide +kernel
theorem dL_law_467 : decode cL_law 467 = .ok (.ireturn, 1) := by decide +kernel
theorem dL_law_468 : decode cL_law 468 = .ok (.aload_n 1, 1) := by decide +kernel
theorem dL_law_469 : decode cL_law 469 = .ok (.aload_n 0, 1) := by decide +kernel
theorem dL_law_470 : decode cL_law 470 = .ok (.iload_n 3, 1) := by decide +kernel
theorem dL_law_471 : decode cL_law 471 = .ok (.iconst 1, 1) := by decide +kernel
theorem dL_law_472 : decode cL_law 472 = .ok (.iadd, 1) := by decide +kernel
theorem dL_law_473 : decode cL_law 473 = .ok (.iaload, 1) := by decide +kernel
theorem dL_law_474 : decode cL_law 474 = .ok (.invokevirtual 62, 3) := by decide +kernel
theorem dL_law_477 : decode cL_law 477 = .ok (.aload_n 2, 1) := by decide +kernel
theorem dL_law_478 : decode cL_law 478 = .ok (.aload_n 0, 1) := by decide +kernel
theorem dL_law_479 : decode cL_law 479 = .ok (.iload_n 3, 1) := by decide +kernel
theorem dL_law_480 : decode cL_law 480 = .ok (.iconst 1, 1) := by decide +kernel
theorem dL_law_481 : decode cL_law 481 = .ok (.iadd, 1) := by decide +kernel
theorem dL_law_482 : decode cL_law 482 = .ok (.iaload, 1) := by decide +kernel
theorem dL_law_483 : decode cL_law 483 = .ok (.invokevirtual 65, 3) := by decide +kernel
theorem dL_law_486 : decode cL_law 486 = .ok (.if_icmp .eq 623, 3) := by decide +kernel
theorem dL_law_489 : decode cL_law 489 = .ok (.iconst 0, 1) := by decide +kernel
theorem dL_law_490 : decode cL_law 490 = .ok (.ireturn, 1) := by decide +kernel
theorem dL_law_491 : decode cL_law 491 = .ok (.aload_n 1, 1) := by decide +kernel
theorem dL_law_492 : decode cL_law 492 = .ok (.aload_n 0, 1) := by decide +kernel
theorem dL_law_493 : decode cL_law 493 = .ok (.iload_n 3, 1) := by decide +kernel
theorem dL_law_494 : decode cL_law 494 = .ok (.iconst 1, 1) := by decide +kernel
theorem dL_law_495 : decode cL_law 495 = .ok (.iadd, 1) := by decide +kernel
theorem dL_law_496 : decode cL_law 496 = .ok (.iaload, 1) := by decide +kernel
theorem dL_law_497 : decode cL_law 497 = .ok (.invokevirtual 66, 3) := by decide +kernel
theorem dL_law_500 : decode cL_law 500 = .ok (.aload_n 2, 1) := by decide +kernel
theorem dL_law_501 : decode cL_law 501 = .ok (.aload_n 0, 1) := by decide +kernel
theorem dL_law_502 : decode cL_law 502 = .ok (.iload_n 3, 1) := by decide +kernel
theorem dL_law_503 : decode cL_law 503 = .ok (.iconst 1, 1) := by decide +kernel
theorem dL_law_504 : decode cL_law 504 = .ok (.iadd, 1) := by decide +kernel
theorem dL_law_505 : decode cL_law 505 = .ok (.iaload, 1) := by decide +kernel
theorem dL_law_506 : decode cL_law 506 = .ok (.invokevirtual 69, 3) := by decide +kernel
theorem dL_law_509 : decode cL_law 509 = .ok (.lcmp, 1) := by decide +kernel
theorem dL_law_510 : decode cL_law 510 = .ok (.ifCond .eq 599, 3) := by decide +kernel
theorem dL_law_513 : decode cL_law 513 = .ok (.iconst 0, 1) := by decide +kernel
theorem dL_law_514 : decode cL_law 514 = .ok (.ireturn, 1) := by decide +kernel
theorem dL_law_515 : decode cL_law 515 = .ok (.aload_n 1, 1) := by decide +kernel
theorem dL_law_516 : decode cL_law 516 = .ok (.invokevirtual 70, 3) := by decide +kernel
theorem dL_law_519 : decode cL_law 519 = .ok (.aload_n 2, 1) := by decide +kernel
theorem dL_law_520 : decode cL_law 520 = .ok (.invokevirtual 73, 3) := by decide +kernel
theorem dL_law_523 : decode cL_law 523 = .ok (.if_icmp .eq 586, 3) := by decide +kernel
theorem dL_law_526 : decode cL_law 526 = .ok (.iconst 0, 1) := by decide +kernel
theorem dL_law_527 : decode cL_law 527 = .ok (.ireturn, 1) := by decide +kernel
theorem dL_law_528 : decode cL_law 528 = .ok (.aload_n 1, 1) := by decide +kernel
theorem dL_law_529 : decode cL_law 529 = .ok (.invokevirtual 74, 3) := by decide +kernel
theorem dL_law_532 : decode cL_law 532 = .ok (.aload_n 2, 1) := by decide +kernel
theorem dL_law_533 : decode cL_law 533 = .ok (.invokevirtual 77, 3) := by decide +kernel
theorem dL_law_536 : decode cL_law 536 = .ok (.if_icmp .eq 573, 3) := by decide +kernel
theorem dL_law_539 : decode cL_law 539 = .ok (.iconst 0, 1) := by decide +kernel
theorem dL_law_540 : decode cL_law 540 = .ok (.ireturn, 1) := by decide +kernel
theorem dL_law_541 : decode cL_law 541 = .ok (.aload_n 1, 1) := by decide +kernel
theorem dL_law_542 : decode cL_law 542 = .ok (.invokevirtual 78, 3) := by decide +kernel
theorem dL_law_545 : decode cL_law 545 = .ok (.aload_n 2, 1) := by decide +kernel
theorem dL_law_546 : decode cL_law 546 = .ok (.invokevirtual 81, 3) := by decide +kernel
theorem dL_law_549 : decode cL_law 549 = .ok (.if_icmp .eq 560, 3) := by decide +kernel
theorem dL_law_552 : decode cL_law 552 = .ok (.iconst 0, 1) := by decide +kernel
theorem dL_law_553 : decode cL_law 553 = .ok (.ireturn, 1) := by decide +kernel
theorem dL_law_554 : decode cL_law 554 = .ok (.aload_n 1, 1) := by decide +kernel
theorem dL_law_555 : decode cL_law 555 = .ok (.aload_n 0, 1) := by decide +kernel
theorem dL_law_556 : decode cL_law 556 = .ok (.iload_n 3, 1) := by decide +kernel
theorem dL_law_557 : decode cL_law 557 = .ok (.iconst 1, 1) := by decide +kernel
theorem dL_law_558 : decode cL_law 558 = .ok (.iadd, 1) := by decide +kernel
theorem dL_law_559 : decode cL_law 559 = .ok (.iaload, 1) := by decide +kernel
theorem dL_law_560 : decode cL_law 560 = .ok (.invokevirtual 82, 3) := by decide +kernel
theorem dL_law_563 : decode cL_law 563 = .ok (.aload_n 2, 1) := by decide +kernel
theorem dL_law_564 : decode cL_law 564 = .ok (.aload_n 0, 1) := by decide +kernel
theorem dL_law_565 : decode cL_law 565 = .ok (.iload_n 3, 1) := by decide +kernel
theorem dL_law_566 : decode cL_law 566 = .ok (.iconst 1, 1) := by decide +kernel
theorem dL_law_567 : decode cL_law 567 = .ok (.iadd, 1) := by decide +kernel
theorem dL_law_568 : decode cL_law 568 = .ok (.iaload, 1) := by decide +kernel
theorem dL_law_569 : decode cL_law 569 = .ok (.invokevirtual 85, 3) := by decide +kernel
theorem dL_law_572 : decode cL_law 572 = .ok (.if_icmp .eq 537, 3) := by decide +kernel
theorem dL_law_575 : decode cL_law 575 = .ok (.iconst 0, 1) := by decide +kernel
theorem dL_law_576 : decode cL_law 576 = .ok (.ireturn, 1) := by decide +kernel
theorem dL_law_577 : decode cL_law 577 = .ok (.aload_n 1, 1) := by decide +kernel
theorem dL_law_578 : decode cL_law 578 = .ok (.aload_n 0, 1) := by decide +kernel
theorem dL_law_579 : decode cL_law 579 = .ok (.iload_n 3, 1) := by decide +kernel
theorem dL_law_580 : decode cL_law 580 = .ok (.iconst 1, 1) := by decide +kernel
theorem dL_law_581 : decode cL_law 581 = .ok (.iadd, 1) := by decide +kernel
theorem dL_law_582 : decode cL_law 582 = .ok (.iaload, 1) := by decide +kernel
theorem dL_law_583 : decode cL_law 583 = .ok (.invokevirtual 86, 3) := by decide +kernel
theorem dL_law_586 : decode cL_law 586 = .ok (.aload_n 2, 1) := by decide +kernel
theorem dL_law_587 : decode cL_law 587 = .ok (.aload_n 0, 1) := by decide +kernel
theorem dL_law_588 : decode cL_law 588 = .ok (.iload_n 3, 1) := by decide +kernel
theorem dL_law_589 : decode cL_law 589 = .ok (.iconst 1, 1) := by decide +kernel
theorem dL_law_590 : decode cL_law 590 = .ok (.iadd, 1) := by decide +kernel
theorem dL_law_591 : decode cL_law 591 = .ok (.iaload, 1) := by decide +kernel
theorem dL_law_592 : decode cL_law 592 = .ok (.invokevirtual 89, 3) := by decide +kernel
theorem dL_law_595 : decode cL_law 595 = .ok (.if_icmp .eq 514, 3) := by decide +kernel
theorem dL_law_598 : decode cL_law 598 = .ok (.iconst 0, 1) := by decide +kernel
theorem dL_law_599 : decode cL_law 599 = .ok (.ireturn, 1) := by decide +kernel
theorem dL_law_600 : decode cL_law 600 = .ok (.aload_n 1, 1) := by decide +kernel
theorem dL_law_601 : decode cL_law 601 = .ok (.aload_n 0, 1) := by decide +kernel
theorem dL_law_602 : decode cL_law 602 = .ok (.iload_n 3, 1) := by decide +kernel
theorem dL_law_603 : decode cL_law 603 = .ok (.iconst 1, 1) := by decide +kernel
theorem dL_law_604 : decode cL_law 604 = .ok (.iadd, 1) := by decide +kernel
theorem dL_law_605 : decode cL_law 605 = .ok (.iaload, 1) := by decide +kernel
theorem dL_law_606 : decode cL_law 606 = .ok (.invokevirtual 90, 3) := by decide +kernel
theorem dL_law_609 : decode cL_law 609 = .ok (.aload_n 2, 1) := by decide +kernel
theorem dL_law_610 : decode cL_law 610 = .ok (.aload_n 0, 1) := by decide +kernel
theorem dL_law_611 : decode cL_law 611 = .ok (.iload_n 3, 1) := by decide +kernel
theorem dL_law_612 : decode cL_law 612 = .ok (.iconst 1, 1) := by decide +kernel
theorem dL_law_613 : decode cL_law 613 = .ok (.iadd, 1) := by decide +kernel
theorem dL_law_614 : decode cL_law 614 = .ok (.iaload, 1) := by decide +kernel
theorem dL_law_615 : decode cL_law 615 = .ok (.invokevirtual 93, 3) := by decide +kernel
theorem dL_law_618 : decode cL_law 618 = .ok (.if_icmp .eq 491, 3) := by decide +kernel
theorem dL_law_621 : decode cL_law 621 = .ok (.iconst 0, 1) := by decide +kernel
theorem dL_law_622 : decode cL_law 622 = .ok (.ireturn, 1) := by decide +kernel
theorem dL_law_623 : decode cL_law 623 = .ok (.aload_n 1, 1) := by decide +kernel
theorem dL_law_624 : decode cL_law 624 = .ok (.aload_n 0, 1) := by decide +kernel
theorem dL_law_625 : decode cL_law 625 = .ok (.iload_n 3, 1) := by decide +kernel
theorem dL_law_626 : decode cL_law 626 = .ok (.iconst 1, 1) := by decide +kernel
theorem dL_law_627 : decode cL_law 627 = .ok (.iadd, 1) := by decide +kernel
theorem dL_law_628 : decode cL_law 628 = .ok (.iaload, 1) := by decide +kernel
theorem dL_law_629 : decode cL_law 629 = .ok (.aload_n 0, 1) := by decide +kernel
theorem dL_law_630 : decode cL_law 630 = .ok (.iload_n 3, 1) := by decide +kernel
theorem dL_law_631 : decode cL_law 631 = .ok (.iconst 2, 1) := by decide +kernel
theorem dL_law_632 : decode cL_law 632 = .ok (.iadd, 1) := by decide +kernel
theorem dL_law_633 : decode cL_law 633 = .ok (.iaload, 1) := by decide +kernel
theorem dL_law_634 : decode cL_law 634 = .ok (.aload_n 0, 1) := by decide +kernel
theorem dL_law_635 : decode cL_law 635 = .ok (.iload_n 3, 1) := by decide +kernel
theorem dL_law_636 : decode cL_law 636 = .ok (.iconst 3, 1) := by decide +kernel
theorem dL_law_637 : decode cL_law 637 = .ok (.iadd, 1) := by decide +kernel
theorem dL_law_638 : decode cL_law 638 = .ok (.iaload, 1) := by decide +kernel
theorem dL_law_639 : decode cL_law 639 = .ok (.invokevirtual 94, 3) := by decide +kernel
theorem dL_law_642 : decode cL_law 642 = .ok (.aload_n 2, 1) := by decide +kernel
theorem dL_law_643 : decode cL_law 643 = .ok (.aload_n 0, 1) := by decide +kernel
theorem dL_law_644 : decode cL_law 644 = .ok (.iload_n 3, 1) := by decide +kernel
theorem dL_law_645 : decode cL_law 645 = .ok (.iconst 1, 1) := by decide +kernel
theorem dL_law_646 : decode cL_law 646 = .ok (.iadd, 1) := by decide +kernel
theorem dL_law_647 : decode cL_law 647 = .ok (.iaload, 1) := by decide +kernel
theorem dL_law_648 : decode cL_law 648 = .ok (.aload_n 0, 1) := by decide +kernel
theorem dL_law_649 : decode cL_law 649 = .ok (.iload_n 3, 1) := by decide +kernel
theorem dL_law_650 : decode cL_law 650 = .ok (.iconst 2, 1) := by decide +kernel
theorem dL_law_651 : decode cL_law 651 = .ok (.iadd, 1) := by decide +kernel
theorem dL_law_652 : decode cL_law 652 = .ok (.iaload, 1) := by decide +kernel
theorem dL_law_653 : decode cL_law 653 = .ok (.aload_n 0, 1) := by decide +kernel
theorem dL_law_654 : decode cL_law 654 = .ok (.iload_n 3, 1) := by decide +kernel
theorem dL_law_655 : decode cL_law 655 = .ok (.iconst 3, 1) := by decide +kernel
theorem dL_law_656 : decode cL_law 656 = .ok (.iadd, 1) := by decide +kernel
theorem dL_law_657 : decode cL_law 657 = .ok (.iaload, 1) := by decide +kernel
theorem dL_law_658 : decode cL_law 658 = .ok (.invokevirtual 97, 3) := by decide +kernel
theorem dL_law_661 : decode cL_law 661 = .ok (.if_icmp .eq 448, 3) := by decide +kernel
theorem dL_law_664 : decode cL_law 664 = .ok (.iconst 0, 1) := by decide +kernel
theorem dL_law_665 : decode cL_law 665 = .ok (.ireturn, 1) := by decide +kernel
theorem dL_law_666 : decode cL_law 666 = .ok (.aload_n 1, 1) := by decide +kernel
theorem dL_law_667 : decode cL_law 667 = .ok (.aload_n 0, 1) := by decide +kernel
theorem dL_law_668 : decode cL_law 668 = .ok (.iload_n 3, 1) := by decide +kernel
theorem dL_law_669 : decode cL_law 669 = .ok (.iconst 1, 1) := by decide +kernel
theorem dL_law_670 : decode cL_law 670 = .ok (.iadd, 1) := by decide +kernel
theorem dL_law_671 : decode cL_law 671 = .ok (.iaload, 1) := by decide +kernel
theorem dL_law_672 : decode cL_law 672 = .ok (.invokevirtual 98, 3) := by decide +kernel
theorem dL_law_675 : decode cL_law 675 = .ok (.aload_n 2, 1) := by decide +kernel
theorem dL_law_676 : decode cL_law 676 = .ok (.aload_n 0, 1) := by decide +kernel
theorem dL_law_677 : decode cL_law 677 = .ok (.iload_n 3, 1) := by decide +kernel
theorem dL_law_678 : decode cL_law 678 = .ok (.iconst 1, 1) := by decide +kernel
theorem dL_law_679 : decode cL_law 679 = .ok (.iadd, 1) := by decide +kernel
theorem dL_law_680 : decode cL_law 680 = .ok (.iaload, 1) := by decide +kernel
theorem dL_law_681 : decode cL_law 681 = .ok (.invokevirtual 101, 3) := by decide +kernel
theorem dL_law_684 : decode cL_law 684 = .ok (.if_icmp .eq 425, 3) := by decide +kernel
theorem dL_law_687 : decode cL_law 687 = .ok (.iconst 0, 1) := by decide +kernel
theorem dL_law_688 : decode cL_law 688 = .ok (.ireturn, 1) := by decide +kernel
theorem dL_law_689 : decode cL_law 689 = .ok (.aload_n 1, 1) := by decide +kernel
theorem dL_law_690 : decode cL_law 690 = .ok (.aload_n 0, 1) := by decide +kernel
theorem dL_law_691 : decode cL_law 691 = .ok (.iload_n 3, 1) := by decide +kernel
theorem dL_law_692 : decode cL_law 692 = .ok (.iconst 1, 1) := by decide +kernel
theorem dL_law_693 : decode cL_law 693 = .ok (.iadd, 1) := by decide +kernel
theorem dL_law_694 : decode cL_law 694 = .ok (.iaload, 1) := by decide +kernel
theorem dL_law_695 : decode cL_law 695 = .ok (.aload_n 0, 1) := by decide +kernel
theorem dL_law_696 : decode cL_law 696 = .ok (.iload_n 3, 1) := by decide +kernel
theorem dL_law_697 : decode cL_law 697 = .ok (.iconst 2, 1) := by decide +kernel
theorem dL_law_698 : decode cL_law 698 = .ok (.iadd, 1) := by decide +kernel
theorem dL_law_699 : decode cL_law 699 = .ok (.iaload, 1) := by decide +kernel
theorem dL_law_700 : decode cL_law 700 = .ok (.invokevirtual 102, 3) := by decide +kernel
theorem dL_law_703 : decode cL_law 703 = .ok (.aload_n 2, 1) := by decide +kernel
theorem dL_law_704 : decode cL_law 704 = .ok (.aload_n 0, 1) := by decide +kernel
theorem dL_law_705 : decode cL_law 705 = .ok (.iload_n 3, 1) := by decide +kernel
theorem dL_law_706 : decode cL_law 706 = .ok (.iconst 1, 1) := by decide +kernel
theorem dL_law_707 : decode cL_law 707 = .ok (.iadd, 1) := by decide +kernel
theorem dL_law_708 : decode cL_law 708 = .ok (.iaload, 1) := by decide +kernel
theorem dL_law_709 : decode cL_law 709 = .ok (.aload_n 0, 1) := by decide +kernel
theorem dL_law_710 : decode cL_law 710 = .ok (.iload_n 3, 1) := by decide +kernel
theorem dL_law_711 : decode cL_law 711 = .ok (.iconst 2, 1) := by decide +kernel
theorem dL_law_712 : decode cL_law 712 = .ok (.iadd, 1) := by decide +kernel
theorem dL_law_713 : decode cL_law 713 = .ok (.iaload, 1) := by decide +kernel
theorem dL_law_714 : decode cL_law 714 = .ok (.invokevirtual 105, 3) := by decide +kernel
theorem dL_law_717 : decode cL_law 717 = .ok (.if_icmp .eq 392, 3) := by decide +kernel
theorem dL_law_720 : decode cL_law 720 = .ok (.iconst 0, 1) := by decide +kernel
theorem dL_law_721 : decode cL_law 721 = .ok (.ireturn, 1) := by decide +kernel
theorem dL_law_722 : decode cL_law 722 = .ok (.aload_n 1, 1) := by decide +kernel
theorem dL_law_723 : decode cL_law 723 = .ok (.aload_n 0, 1) := by decide +kernel
theorem dL_law_724 : decode cL_law 724 = .ok (.iload_n 3, 1) := by decide +kernel
theorem dL_law_725 : decode cL_law 725 = .ok (.iconst 1, 1) := by decide +kernel
theorem dL_law_726 : decode cL_law 726 = .ok (.iadd, 1) := by decide +kernel
theorem dL_law_727 : decode cL_law 727 = .ok (.iaload, 1) := by decide +kernel
theorem dL_law_728 : decode cL_law 728 = .ok (.invokevirtual 106, 3) := by decide +kernel
theorem dL_law_731 : decode cL_law 731 = .ok (.aload_n 2, 1) := by decide +kernel
theorem dL_law_732 : decode cL_law 732 = .ok (.aload_n 0, 1) := by decide +kernel
theorem dL_law_733 : decode cL_law 733 = .ok (.iload_n 3, 1) := by decide +kernel
theorem dL_law_734 : decode cL_law 734 = .ok (.iconst 1, 1) := by decide +kernel
theorem dL_law_735 : decode cL_law 735 = .ok (.iadd, 1) := by decide +kernel
theorem dL_law_736 : decode cL_law 736 = .ok (.iaload, 1) := by decide +kernel
theorem dL_law_737 : decode cL_law 737 = .ok (.invokevirtual 109, 3) := by decide +kernel
theorem dL_law_740 : decode cL_law 740 = .ok (.if_icmp .eq 369, 3) := by decide +kernel
theorem dL_law_743 : decode cL_law 743 = .ok (.iconst 0, 1) := by decide +kernel
theorem dL_law_744 : decode cL_law 744 = .ok (.ireturn, 1) := by decide +kernel
theorem dL_law_745 : decode cL_law 745 = .ok (.aload_n 1, 1) := by decide +kernel
theorem dL_law_746 : decode cL_law 746 = .ok (.invokevirtual 110, 3) := by decide +kernel
theorem dL_law_749 : decode cL_law 749 = .ok (.aload_n 2, 1) := by decide +kernel
theorem dL_law_750 : decode cL_law 750 = .ok (.invokevirtual 113, 3) := by decide +kernel
theorem dL_law_753 : decode cL_law 753 = .ok (.if_icmp .eq 356, 3) := by decide +kernel
theorem dL_law_756 : decode cL_law 756 = .ok (.iconst 0, 1) := by decide +kernel
theorem dL_law_757 : decode cL_law 757 = .ok (.ireturn, 1) := by decide +kernel
theorem dL_law_758 : decode cL_law 758 = .ok (.aload_n 1, 1) := by decide +kernel
theorem dL_law_759 : decode cL_law 759 = .ok (.aload_n 0, 1) := by decide +kernel
theorem dL_law_760 : decode cL_law 760 = .ok (.iload_n 3, 1) := by decide +kernel
theorem dL_law_761 : decode cL_law 761 = .ok (.iconst 1, 1) := by decide +kernel
theorem dL_law_762 : decode cL_law 762 = .ok (.iadd, 1) := by decide +kernel
theorem dL_law_763 : decode cL_law 763 = .ok (.iaload, 1) := by decide +kernel
theorem dL_law_764 : decode cL_law 764 = .ok (.aload_n 0, 1) := by decide +kernel
theorem dL_law_765 : decode cL_law 765 = .ok (.iload_n 3, 1) := by decide +kernel
theorem dL_law_766 : decode cL_law 766 = .ok (.iconst 2, 1) := by decide +kernel
theorem dL_law_767 : decode cL_law 767 = .ok (.iadd, 1) := by decide +kernel
theorem dL_law_768 : decode cL_law 768 = .ok (.iaload, 1) := by decide +kernel
theorem dL_law_769 : decode cL_law 769 = .ok (.invokevirtual 114, 3) := by decide +kernel
theorem dL_law_772 : decode cL_law 772 = .ok (.aload_n 2, 1) := by decide +kernel
theorem dL_law_773 : decode cL_law 773 = .ok (.aload_n 0, 1) := by decide +kernel
theorem dL_law_774 : decode cL_law 774 = .ok (.iload_n 3, 1) := by decide +kernel
theorem dL_law_775 : decode cL_law 775 = .ok (.iconst 1, 1) := by decide +kernel
theorem dL_law_776 : decode cL_law 776 = .ok (.iadd, 1) := by decide +kernel
theorem dL_law_777 : decode cL_law 777 = .ok (.iaload, 1) := by decide +kernel
theorem dL_law_778 : decode cL_law 778 = .ok (.aload_n 0, 1) := by decide +kernel
theorem dL_law_779 : decode cL_law 779 = .ok (.iload_n 3, 1) := by decide +kernel
theorem dL_law_780 : decode cL_law 780 = .ok (.iconst 2, 1) := by decide +kernel
theorem dL_law_781 : decode cL_law 781 = .ok (.iadd, 1) := by decide +kernel
theorem dL_law_782 : decode cL_law 782 = .ok (.iaload, 1) := by decide +kernel
theorem dL_law_783 : decode cL_law 783 = .ok (.invokevirtual 117, 3) := by decide +kernel
theorem dL_law_786 : decode cL_law 786 = .ok (.if_icmp .eq 323, 3) := by decide +kernel
theorem dL_law_789 : decode cL_law 789 = .ok (.iconst 0, 1) := by decide +kernel
theorem dL_law_790 : decode cL_law 790 = .ok (.ireturn, 1) := by decide +kernel
theorem dL_law_791 : decode cL_law 791 = .ok (.aload_n 1, 1) := by decide +kernel
theorem dL_law_792 : decode cL_law 792 = .ok (.aload_n 0, 1) := by decide +kernel
theorem dL_law_793 : decode cL_law 793 = .ok (.iload_n 3, 1) := by decide +kernel
theorem dL_law_794 : decode cL_law 794 = .ok (.iconst 1, 1) := by decide +kernel
theorem dL_law_795 : decode cL_law 795 = .ok (.iadd, 1) := by decide +kernel
theorem dL_law_796 : decode cL_law 796 = .ok (.iaload, 1) := by decide +kernel
theorem dL_law_797 : decode cL_law 797 = .ok (.aload_n 0, 1) := by decide +kernel
theorem dL_law_798 : decode cL_law 798 = .ok (.iload_n 3, 1) := by decide +kernel
theorem dL_law_799 : decode cL_law 799 = .ok (.iconst 2, 1) := by decide +kernel
theorem dL_law_800 : decode cL_law 800 = .ok (.iadd, 1) := by decide +kernel
theorem dL_law_801 : decode cL_law 801 = .ok (.iaload, 1) := by decide +kernel
theorem dL_law_802 : decode cL_law 802 = .ok (.aload_n 0, 1) := by decide +kernel
theorem dL_law_803 : decode cL_law 803 = .ok (.iload_n 3, 1) := by decide +kernel
theorem dL_law_804 : decode cL_law 804 = .ok (.iconst 3, 1) := by decide +kernel
theorem dL_law_805 : decode cL_law 805 = .ok (.iadd, 1) := by decide +kernel
theorem dL_law_806 : decode cL_law 806 = .ok (.iaload, 1) := by decide +kernel
theorem dL_law_807 : decode cL_law 807 = .ok (.invokevirtual 118, 3) := by decide +kernel
theorem dL_law_810 : decode cL_law 810 = .ok (.aload_n 2, 1) := by decide +kernel
theorem dL_law_811 : decode cL_law 811 = .ok (.aload_n 0, 1) := by decide +kernel
theorem dL_law_812 : decode cL_law 812 = .ok (.iload_n 3, 1) := by decide +kernel
theorem dL_law_813 : decode cL_law 813 = .ok (.iconst 1, 1) := by decide +kernel
theorem dL_law_814 : decode cL_law 814 = .ok (.iadd, 1) := by decide +kernel
theorem dL_law_815 : decode cL_law 815 = .ok (.iaload, 1) := by decide +kernel
theorem dL_law_816 : decode cL_law 816 = .ok (.aload_n 0, 1) := by decide +kernel
theorem dL_law_817 : decode cL_law 817 = .ok (.iload_n 3, 1) := by decide +kernel
theorem dL_law_818 : decode cL_law 818 = .ok (.iconst 2, 1) := by decide +kernel
theorem dL_law_819 : decode cL_law 819 = .ok (.iadd, 1) := by decide +kernel
theorem dL_law_820 : decode cL_law 820 = .ok (.iaload, 1) := by decide +kernel
theorem dL_law_821 : decode cL_law 821 = .ok (.aload_n 0, 1) := by decide +kernel
theorem dL_law_822 : decode cL_law 822 = .ok (.iload_n 3, 1) := by decide +kernel
theorem dL_law_823 : decode cL_law 823 = .ok (.iconst 3, 1) := by decide +kernel
theorem dL_law_824 : decode cL_law 824 = .ok (.iadd, 1) := by decide +kernel
theorem dL_law_825 : decode cL_law 825 = .ok (.iaload, 1) := by decide +kernel
theorem dL_law_826 : decode cL_law 826 = .ok (.invokevirtual 121, 3) := by decide +kernel
theorem dL_law_829 : decode cL_law 829 = .ok (.if_icmp .eq 280, 3) := by decide +kernel
theorem dL_law_832 : decode cL_law 832 = .ok (.iconst 0, 1) := by decide +kernel
theorem dL_law_833 : decode cL_law 833 = .ok (.ireturn, 1) := by decide +kernel
theorem dL_law_834 : decode cL_law 834 = .ok (.aload_n 1, 1) := by decide +kernel
theorem dL_law_835 : decode cL_law 835 = .ok (.aload_n 0, 1) := by decide +kernel
theorem dL_law_836 : decode cL_law 836 = .ok (.iload_n 3, 1) := by decide +kernel
theorem dL_law_837 : decode cL_law 837 = .ok (.iconst 1, 1) := by decide +kernel
theorem dL_law_838 : decode cL_law 838 = .ok (.iadd, 1) := by decide +kernel
theorem dL_law_839 : decode cL_law 839 = .ok (.iaload, 1) := by decide +kernel
theorem dL_law_840 : decode cL_law 840 = .ok (.aload_n 0, 1) := by decide +kernel
theorem dL_law_841 : decode cL_law 841 = .ok (.iload_n 3, 1) := by decide +kernel
theorem dL_law_842 : decode cL_law 842 = .ok (.iconst 2, 1) := by decide +kernel
theorem dL_law_843 : decode cL_law 843 = .ok (.iadd, 1) := by decide +kernel
theorem dL_law_844 : decode cL_law 844 = .ok (.iaload, 1) := by decide +kernel
theorem dL_law_845 : decode cL_law 845 = .ok (.aload_n 0, 1) := by decide +kernel
theorem dL_law_846 : decode cL_law 846 = .ok (.iload_n 3, 1) := by decide +kernel
theorem dL_law_847 : decode cL_law 847 = .ok (.iconst 3, 1) := by decide +kernel
theorem dL_law_848 : decode cL_law 848 = .ok (.iadd, 1) := by decide +kernel
theorem dL_law_849 : decode cL_law 849 = .ok (.iaload, 1) := by decide +kernel
theorem dL_law_850 : decode cL_law 850 = .ok (.i2l, 1) := by decide +kernel
theorem dL_law_851 : decode cL_law 851 = .ok (.bipush 32, 2) := by decide +kernel
theorem dL_law_853 : decode cL_law 853 = .ok (.lshl, 1) := by decide +kernel
theorem dL_law_854 : decode cL_law 854 = .ok (.aload_n 0, 1) := by decide +kernel
theorem dL_law_855 : decode cL_law 855 = .ok (.iload_n 3, 1) := by decide +kernel
theorem dL_law_856 : decode cL_law 856 = .ok (.iconst 4, 1) := by decide +kernel
theorem dL_law_857 : decode cL_law 857 = .ok (.iadd, 1) := by decide +kernel
theorem dL_law_858 : decode cL_law 858 = .ok (.iaload, 1) := by decide +kernel
theorem dL_law_859 : decode cL_law 859 = .ok (.i2l, 1) := by decide +kernel
theorem dL_law_860 : decode cL_law 860 = .ok (.ldc2_w 122, 3) := by decide +kernel
theorem dL_law_863 : decode cL_law 863 = .ok (.land, 1) := by decide +kernel
theorem dL_law_864 : decode cL_law 864 = .ok (.lor, 1) := by decide +kernel
theorem dL_law_865 : decode cL_law 865 = .ok (.invokevirtual 124, 3) := by decide +kernel
theorem dL_law_868 : decode cL_law 868 = .ok (.aload_n 2, 1) := by decide +kernel
theorem dL_law_869 : decode cL_law 869 = .ok (.aload_n 0, 1) := by decide +kernel
theorem dL_law_870 : decode cL_law 870 = .ok (.iload_n 3, 1) := by decide +kernel
theorem dL_law_871 : decode cL_law 871 = .ok (.iconst 1, 1) := by decide +kernel
theorem dL_law_872 : decode cL_law 872 = .ok (.iadd, 1) := by decide +kernel
theorem dL_law_873 : decode cL_law 873 = .ok (.iaload, 1) := by decide +kernel
theorem dL_law_874 : decode cL_law 874 = .ok (.aload_n 0, 1) := by decide +kernel
theorem dL_law_875 : decode cL_law 875 = .ok (.iload_n 3, 1) := by decide +kernel
theorem dL_law_876 : decode cL_law 876 = .ok (.iconst 2, 1) := by decide +kernel
theorem dL_law_877 : decode cL_law 877 = .ok (.iadd, 1) := by decide +kernel
theorem dL_law_878 : decode cL_law 878 = .ok (.iaload, 1) := by decide +kernel
theorem dL_law_879 : decode cL_law 879 = .ok (.aload_n 0, 1) := by decide +kernel
theorem dL_law_880 : decode cL_law 880 = .ok (.iload_n 3, 1) := by decide +kernel
theorem dL_law_881 : decode cL_law 881 = .ok (.iconst 3, 1) := by decide +kernel
theorem dL_law_882 : decode cL_law 882 = .ok (.iadd, 1) := by decide +kernel
theorem dL_law_883 : decode cL_law 883 = .ok (.iaload, 1) := by decide +kernel
theorem dL_law_884 : decode cL_law 884 = .ok (.i2l, 1) := by decide +kernel
theorem dL_law_885 : decode cL_law 885 = .ok (.bipush 32, 2) := by decide +kernel
theorem dL_law_887 : decode cL_law 887 = .ok (.lshl, 1) := by decide +kernel
theorem dL_law_888 : decode cL_law 888 = .ok (.aload_n 0, 1) := by decide +kernel
theorem dL_law_889 : decode cL_law 889 = .ok (.iload_n 3, 1) := by decide +kernel
theorem dL_law_890 : decode cL_law 890 = .ok (.iconst 4, 1) := by decide +kernel
theorem dL_law_891 : decode cL_law 891 = .ok (.iadd, 1) := by decide +kernel
theorem dL_law_892 : decode cL_law 892 = .ok (.iaload, 1) := by decide +kernel
theorem dL_law_893 : decode cL_law 893 = .ok (.i2l, 1) := by decide +kernel
theorem dL_law_894 : decode cL_law 894 = .ok (.ldc2_w 122, 3) := by decide +kernel
theorem dL_law_897 : decode cL_law 897 = .ok (.land, 1) := by decide +kernel
theorem dL_law_898 : decode cL_law 898 = .ok (.lor, 1) := by decide +kernel
theorem dL_law_899 : decode cL_law 899 = .ok (.invokevirtual 128, 3) := by decide +kernel
theorem dL_law_902 : decode cL_law 902 = .ok (.lcmp, 1) := by decide +kernel
theorem dL_law_903 : decode cL_law 903 = .ok (.ifCond .eq 206, 3) := by decide +kernel
theorem dL_law_906 : decode cL_law 906 = .ok (.iconst 0, 1) := by decide +kernel
theorem dL_law_907 : decode cL_law 907 = .ok (.ireturn, 1) := by decide +kernel
theorem dL_law_908 : decode cL_law 908 = .ok (.aload_n 1, 1) := by decide +kernel
theorem dL_law_909 : decode cL_law 909 = .ok (.aload_n 0, 1) := by decide +kernel
theorem dL_law_910 : decode cL_law 910 = .ok (.iload_n 3, 1) := by decide +kernel
theorem dL_law_911 : decode cL_law 911 = .ok (.iconst 1, 1) := by decide +kernel
theorem dL_law_912 : decode cL_law 912 = .ok (.iadd, 1) := by decide +kernel
theorem dL_law_913 : decode cL_law 913 = .ok (.iaload, 1) := by decide +kernel
theorem dL_law_914 : decode cL_law 914 = .ok (.aload_n 0, 1) := by decide +kernel
theorem dL_law_915 : decode cL_law 915 = .ok (.iload_n 3, 1) := by decide +kernel
theorem dL_law_916 : decode cL_law 916 = .ok (.iconst 2, 1) := by decide +kernel
theorem dL_law_917 : decode cL_law 917 = .ok (.iadd, 1) := by decide +kernel
theorem dL_law_918 : decode cL_law 918 = .ok (.iaload, 1) := by decide +kernel
theorem dL_law_919 : decode cL_law 919 = .ok (.aload_n 0, 1) := by decide +kernel
theorem dL_law_920 : decode cL_law 920 = .ok (.iload_n 3, 1) := by decide +kernel
theorem dL_law_921 : decode cL_law 921 = .ok (.iconst 3, 1) := by decide +kernel
theorem dL_law_922 : decode cL_law 922 = .ok (.iadd, 1) := by decide +kernel
theorem dL_law_923 : decode cL_law 923 = .ok (.iaload, 1) := by decide +kernel
theorem dL_law_924 : decode cL_law 924 = .ok (.aload_n 0, 1) := by decide +kernel
theorem dL_law_925 : decode cL_law 925 = .ok (.iload_n 3, 1) := by decide +kernel
theorem dL_law_926 : decode cL_law 926 = .ok (.iconst 4, 1) := by decide +kernel
theorem dL_law_927 : decode cL_law 927 = .ok (.iadd, 1) := by decide +kernel
theorem dL_law_928 : decode cL_law 928 = .ok (.iaload, 1) := by decide +kernel
theorem dL_law_929 : decode cL_law 929 = .ok (.aload_n 0, 1) := by decide +kernel
theorem dL_law_930 : decode cL_law 930 = .ok (.iload_n 3, 1) := by decide +kernel
theorem dL_law_931 : decode cL_law 931 = .ok (.iconst 5, 1) := by decide +kernel
theorem dL_law_932 : decode cL_law 932 = .ok (.iadd, 1) := by decide +kernel
theorem dL_law_933 : decode cL_law 933 = .ok (.iaload, 1) := by decide +kernel
theorem dL_law_934 : decode cL_law 934 = .ok (.invokevirtual 129, 3) := by decide +kernel
theorem dL_law_937 : decode cL_law 937 = .ok (.aload_n 2, 1) := by decide +kernel
theorem dL_law_938 : decode cL_law 938 = .ok (.aload_n 0, 1) := by decide +kernel
theorem dL_law_939 : decode cL_law 939 = .ok (.iload_n 3, 1) := by decide +kernel
theorem dL_law_940 : decode cL_law 940 = .ok (.iconst 1, 1) := by decide +kernel
theorem dL_law_941 : decode cL_law 941 = .ok (.iadd, 1) := by decide +kernel
theorem dL_law_942 : decode cL_law 942 = .ok (.iaload, 1) := by decide +kernel
theorem dL_law_943 : decode cL_law 943 = .ok (.aload_n 0, 1) := by decide +kernel
theorem dL_law_944 : decode cL_law 944 = .ok (.iload_n 3, 1) := by decide +kernel
theorem dL_law_945 : decode cL_law 945 = .ok (.iconst 2, 1) := by decide +kernel
theorem dL_law_946 : decode cL_law 946 = .ok (.iadd, 1) := by decide +kernel
theorem dL_law_947 : decode cL_law 947 = .ok (.iaload, 1) := by decide +kernel
theorem dL_law_948 : decode cL_law 948 = .ok (.aload_n 0, 1) := by decide +kernel
theorem dL_law_949 : decode cL_law 949 = .ok (.iload_n 3, 1) := by decide +kernel
theorem dL_law_950 : decode cL_law 950 = .ok (.iconst 3, 1) := by decide +kernel
theorem dL_law_951 : decode cL_law 951 = .ok (.iadd, 1) := by decide +kernel
theorem dL_law_952 : decode cL_law 952 = .ok (.iaload, 1) := by decide +kernel
theorem dL_law_953 : decode cL_law 953 = .ok (.aload_n 0, 1) := by decide +kernel
theorem dL_law_954 : decode cL_law 954 = .ok (.iload_n 3, 1) := by decide +kernel
theorem dL_law_955 : decode cL_law 955 = .ok (.iconst 4, 1) := by decide +kernel
theorem dL_law_956 : decode cL_law 956 = .ok (.iadd, 1) := by decide +kernel
theorem dL_law_957 : decode cL_law 957 = .ok (.iaload, 1) := by decide +kernel
theorem dL_law_958 : decode cL_law 958 = .ok (.aload_n 0, 1) := by decide +kernel
theorem dL_law_959 : decode cL_law 959 = .ok (.iload_n 3, 1) := by decide +kernel
theorem dL_law_960 : decode cL_law 960 = .ok (.iconst 5, 1) := by decide +kernel
theorem dL_law_961 : decode cL_law 961 = .ok (.iadd, 1) := by decide +kernel
theorem dL_law_962 : decode cL_law 962 = .ok (.iaload, 1) := by decide +kernel
theorem dL_law_963 : decode cL_law 963 = .ok (.invokevirtual 133, 3) := by decide +kernel
theorem dL_law_966 : decode cL_law 966 = .ok (.if_icmp .eq 143, 3) := by decide +kernel
theorem dL_law_969 : decode cL_law 969 = .ok (.iconst 0, 1) := by decide +kernel
theorem dL_law_970 : decode cL_law 970 = .ok (.ireturn, 1) := by decide +kernel
theorem dL_law_971 : decode cL_law 971 = .ok (.aload_n 1, 1) := by decide +kernel
theorem dL_law_972 : decode cL_law 972 = .ok (.aload_n 0, 1) := by decide +kernel
theorem dL_law_973 : decode cL_law 973 = .ok (.iload_n 3, 1) := by decide +kernel
theorem dL_law_974 : decode cL_law 974 = .ok (.iconst 1, 1) := by decide +kernel
theorem dL_law_975 : decode cL_law 975 = .ok (.iadd, 1) := by decide +kernel
theorem dL_law_976 : decode cL_law 976 = .ok (.iaload, 1) := by decide +kernel
theorem dL_law_977 : decode cL_law 977 = .ok (.aload_n 0, 1) := by decide +kernel
theorem dL_law_978 : decode cL_law 978 = .ok (.iload_n 3, 1) := by decide +kernel
theorem dL_law_979 : decode cL_law 979 = .ok (.iconst 2, 1) := by decide +kernel
theorem dL_law_980 : decode cL_law 980 = .ok (.iadd, 1) := by decide +kernel
theorem dL_law_981 : decode cL_law 981 = .ok (.iaload, 1) := by decide +kernel
theorem dL_law_982 : decode cL_law 982 = .ok (.aload_n 0, 1) := by decide +kernel
theorem dL_law_983 : decode cL_law 983 = .ok (.iload_n 3, 1) := by decide +kernel
theorem dL_law_984 : decode cL_law 984 = .ok (.iconst 3, 1) := by decide +kernel
theorem dL_law_985 : decode cL_law 985 = .ok (.iadd, 1) := by decide +kernel
theorem dL_law_986 : decode cL_law 986 = .ok (.iaload, 1) := by decide +kernel
theorem dL_law_987 : decode cL_law 987 = .ok (.aload_n 0, 1) := by decide +kernel
theorem dL_law_988 : decode cL_law 988 = .ok (.iload_n 3, 1) := by decide +kernel
theorem dL_law_989 : decode cL_law 989 = .ok (.iconst 4, 1) := by decide +kernel
theorem dL_law_990 : decode cL_law 990 = .ok (.iadd, 1) := by decide +kernel
theorem dL_law_991 : decode cL_law 991 = .ok (.iaload, 1) := by decide +kernel
theorem dL_law_992 : decode cL_law 992 = .ok (.invokevirtual 134, 3) := by decide +kernel
theorem dL_law_995 : decode cL_law 995 = .ok (.aload_n 2, 1) := by decide +kernel
theorem dL_law_996 : decode cL_law 996 = .ok (.aload_n 0, 1) := by decide +kernel
theorem dL_law_997 : decode cL_law 997 = .ok (.iload_n 3, 1) := by decide +kernel
theorem dL_law_998 : decode cL_law 998 = .ok (.iconst 1, 1) := by decide +kernel
theorem dL_law_999 : decode cL_law 999 = .ok (.iadd, 1) := by decide +kernel
theorem dL_law_1000 : decode cL_law 1000 = .ok (.iaload, 1) := by decide +kernel
theorem dL_law_1001 : decode cL_law 1001 = .ok (.aload_n 0, 1) := by decide +kernel
theorem dL_law_1002 : decode cL_law 1002 = .ok (.iload_n 3, 1) := by decide +kernel
theorem dL_law_1003 : decode cL_law 1003 = .ok (.iconst 2, 1) := by decide +kernel
theorem dL_law_1004 : decode cL_law 1004 = .ok (.iadd, 1) := by decide +kernel
theorem dL_law_1005 : decode cL_law 1005 = .ok (.iaload, 1) := by decide +kernel
theorem dL_law_1006 : decode cL_law 1006 = .ok (.aload_n 0, 1) := by decide +kernel
theorem dL_law_1007 : decode cL_law 1007 = .ok (.iload_n 3, 1) := by decide +kernel
theorem dL_law_1008 : decode cL_law 1008 = .ok (.iconst 3, 1) := by decide +kernel
theorem dL_law_1009 : decode cL_law 1009 = .ok (.iadd, 1) := by decide +kernel
theorem dL_law_1010 : decode cL_law 1010 = .ok (.iaload, 1) := by decide +kernel
theorem dL_law_1011 : decode cL_law 1011 = .ok (.aload_n 0, 1) := by decide +kernel
theorem dL_law_1012 : decode cL_law 1012 = .ok (.iload_n 3, 1) := by decide +kernel
theorem dL_law_1013 : decode cL_law 1013 = .ok (.iconst 4, 1) := by decide +kernel
theorem dL_law_1014 : decode cL_law 1014 = .ok (.iadd, 1) := by decide +kernel
theorem dL_law_1015 : decode cL_law 1015 = .ok (.iaload, 1) := by decide +kernel
theorem dL_law_1016 : decode cL_law 1016 = .ok (.invokevirtual 138, 3) := by decide +kernel
theorem dL_law_1019 : decode cL_law 1019 = .ok (.if_icmp .eq 90, 3) := by decide +kernel
theorem dL_law_1022 : decode cL_law 1022 = .ok (.iconst 0, 1) := by decide +kernel
theorem dL_law_1023 : decode cL_law 1023 = .ok (.ireturn, 1) := by decide +kernel
theorem dL_law_1024 : decode cL_law 1024 = .ok (.aload_n 1, 1) := by decide +kernel
theorem dL_law_1025 : decode cL_law 1025 = .ok (.aload_n 0, 1) := by decide +kernel
theorem dL_law_1026 : decode cL_law 1026 = .ok (.iload_n 3, 1) := by decide +kernel
theorem dL_law_1027 : decode cL_law 1027 = .ok (.iconst 1, 1) := by decide +kernel
theorem dL_law_1028 : decode cL_law 1028 = .ok (.iadd, 1) := by decide +kernel
theorem dL_law_1029 : decode cL_law 1029 = .ok (.iaload, 1) := by decide +kernel
theorem dL_law_1030 : decode cL_law 1030 = .ok (.invokevirtual 139, 3) := by decide +kernel
theorem dL_law_1033 : decode cL_law 1033 = .ok (.aload_n 2, 1) := by decide +kernel
theorem dL_law_1034 : decode cL_law 1034 = .ok (.aload_n 0, 1) := by decide +kernel
theorem dL_law_1035 : decode cL_law 1035 = .ok (.iload_n 3, 1) := by decide +kernel
theorem dL_law_1036 : decode cL_law 1036 = .ok (.iconst 1, 1) := by decide +kernel
theorem dL_law_1037 : decode cL_law 1037 = .ok (.iadd, 1) := by decide +kernel
theorem dL_law_1038 : decode cL_law 1038 = .ok (.iaload, 1) := by decide +kernel
theorem dL_law_1039 : decode cL_law 1039 = .ok (.invokevirtual 142, 3) := by decide +kernel
theorem dL_law_1042 : decode cL_law 1042 = .ok (.if_icmp .eq 67, 3) := by decide +kernel
theorem dL_law_1045 : decode cL_law 1045 = .ok (.iconst 0, 1) := by decide +kernel
theorem dL_law_1046 : decode cL_law 1046 = .ok (.ireturn, 1) := by decide +kernel
theorem dL_law_1047 : decode cL_law 1047 = .ok (.aload_n 1, 1) := by decide +kernel
theorem dL_law_1048 : decode cL_law 1048 = .ok (.invokevirtual 143, 3) := by decide +kernel
theorem dL_law_1051 : decode cL_law 1051 = .ok (.aload_n 2, 1) := by decide +kernel
theorem dL_law_1052 : decode cL_law 1052 = .ok (.invokevirtual 146, 3) := by decide +kernel
theorem dL_law_1055 : decode cL_law 1055 = .ok (.if_icmp .eq 54, 3) := by decide +kernel
theorem dL_law_1058 : decode cL_law 1058 = .ok (.iconst 0, 1) := by decide +kernel
theorem dL_law_1059 : decode cL_law 1059 = .ok (.ireturn, 1) := by decide +kernel
theorem dL_law_1060 : decode cL_law 1060 = .ok (.aload_n 1, 1) := by decide +kernel
theorem dL_law_1061 : decode cL_law 1061 = .ok (.invokevirtual 147, 3) := by decide +kernel
theorem dL_law_1064 : decode cL_law 1064 = .ok (.aload_n 2, 1) := by decide +kernel
theorem dL_law_1065 : decode cL_law 1065 = .ok (.invokevirtual 150, 3) := by decide +kernel
theorem dL_law_1068 : decode cL_law 1068 = .ok (.if_icmp .eq 41, 3) := by decide +kernel
theorem dL_law_1071 : decode cL_law 1071 = .ok (.iconst 0, 1) := by decide +kernel
theorem dL_law_1072 : decode cL_law 1072 = .ok (.ireturn, 1) := by decide +kernel
theorem dL_law_1073 : decode cL_law 1073 = .ok (.aload_n 1, 1) := by decide +kernel
theorem dL_law_1074 : decode cL_law 1074 = .ok (.invokevirtual 151, 3) := by decide +kernel
theorem dL_law_1077 : decode cL_law 1077 = .ok (.aload_n 2, 1) := by decide +kernel
theorem dL_law_1078 : decode cL_law 1078 = .ok (.invokevirtual 154, 3) := by decide +kernel
theorem dL_law_1081 : decode cL_law 1081 = .ok (.if_icmp .eq 28, 3) := by decide +kernel
theorem dL_law_1084 : decode cL_law 1084 = .ok (.iconst 0, 1) := by decide +kernel
theorem dL_law_1085 : decode cL_law 1085 = .ok (.ireturn, 1) := by decide +kernel
theorem dL_law_1086 : decode cL_law 1086 = .ok (.aload_n 1, 1) := by decide +kernel
theorem dL_law_1087 : decode cL_law 1087 = .ok (.aload_n 0, 1) := by decide +kernel
theorem dL_law_1088 : decode cL_law 1088 = .ok (.iload_n 3, 1) := by decide +kernel
theorem dL_law_1089 : decode cL_law 1089 = .ok (.iconst 1, 1) := by decide +kernel
theorem dL_law_1090 : decode cL_law 1090 = .ok (.iadd, 1) := by decide +kernel
theorem dL_law_1091 : decode cL_law 1091 = .ok (.iaload, 1) := by decide +kernel
theorem dL_law_1092 : decode cL_law 1092 = .ok (.invokevirtual 155, 3) := by decide +kernel
theorem dL_law_1095 : decode cL_law 1095 = .ok (.aload_n 2, 1) := by decide +kernel
theorem dL_law_1096 : decode cL_law 1096 = .ok (.aload_n 0, 1) := by decide +kernel
theorem dL_law_1097 : decode cL_law 1097 = .ok (.iload_n 3, 1) := by decide +kernel
theorem dL_law_1098 : decode cL_law 1098 = .ok (.iconst 1, 1) := by decide +kernel
theorem dL_law_1099 : decode cL_law 1099 = .ok (.iadd, 1) := by decide +kernel
theorem dL_law_1100 : decode cL_law 1100 = .ok (.iaload, 1) := by decide +kernel
theorem dL_law_1101 : decode cL_law 1101 = .ok (.invokevirtual 158, 3) := by decide +kernel
theorem dL_law_1104 : decode cL_law 1104 = .ok (.if_icmp .eq 5, 3) := by decide +kernel
theorem dL_law_1107 : decode cL_law 1107 = .ok (.iconst 0, 1) := by decide +kernel
theorem dL_law_1108 : decode cL_law 1108 = .ok (.ireturn, 1) := by decide +kernel
theorem dL_law_1109 : decode cL_law 1109 = .ok (.iinc 3 6, 3) := by decide +kernel
theorem dL_law_1112 : decode cL_law 1112 = .ok (.goto (-1094), 3) := by decide +kernel
theorem dL_law_1115 : decode cL_law 1115 = .ok (.iconst 1, 1) := by decide +kernel
theorem dL_law_1116 : decode cL_law 1116 = .ok (.ireturn, 1) := by decide +kernel
end
section
/-! the law's own cells: a static layout of 199 cells from an address 'base' on; their numbers are two functions -/
abbrev St : Type := (Nat → Nat → Int32) × (Nat → Nat → Int64)
def setI (S : St) (k j : Nat) (v : Int32) : St := (fun a b => if a = k ∧ b = j then v else S.1 a b, S.2)
def setJ (S : St) (k j : Nat) (v : Int64) : St := (S.1, fun a b => if a = k ∧ b = j then v else S.2 a b)
def setR (S : St) (k : Nat) (f : Nat → Int32) : St := (fun a b => if a = k then f b else S.1 a b, S.2)
def setL (S : St) (k : Nat) (f : Nat → Int64) : St := (S.1, fun a b => if a = k then f b else S.2 a b)
abbrev ix (i : Int32) : Nat := i.toNatClampNeg
def lt {α β : Type} (x : α) (f : α → β) : β := f x
def bd {ρ σ : Type} (o : Option (St × ρ)) (b : St → ρ → Option (St × σ)) : Option (St × σ) := match o with
  | none => none
  | some q => b q.1 q.2
def ck {σ : Type} (i : Int32) (n : Nat) (o : Option σ) : Option σ := if i < 0 ∨ n ≤ i.toNatClampNeg then none else o
def gu {σ : Type} (c : Prop) [Decidable c] (o : Option σ) : Option σ := if c then o else none
def irem (x y : Int32) : Int32 := x - x / y * y
def lrem (x y : Int64) : Int64 := x - x / y * y
def clsL : List Nat := [10, 7, 12, 17, 12, 12, 12, 12, 12, 12, 12, 12, 12, 12, 12, 12, 12, 2, 12, 13, 13, 2, 12, 13, 13, 0, 12, 12, 3, 15, 4, 12, 13, 13, 12, 4, 12, 13, 13, 12, 4, 12, 13, 13, 12, 4, 12, 13, 13, 12, 4, 12, 13, 13, 12, 4, 12, 13, 13, 12, 4, 12, 13, 13, 12, 4, 12, 13, 13, 12, 4, 12, 13, 13, 12, 4, 12, 13, 13, 12, 4, 12, 13, 13, 12, 4, 12, 13, 13, 12, 4, 12, 13, 13, 12, 4, 12, 13, 13, 12, 4, 12, 13, 13, 12, 4, 12, 13, 13, 12, 4, 12, 13, 13, 12, 4, 12, 13, 13, 12, 4, 12, 13, 13, 12, 4, 12, 13, 13, 12, 1, 12, 6, 1, 12, 12, 12, 8, 18, 13, 13, 13, 13, 13, 13, 13, 13, 13, 13, 13, 13, 17, 12, 12, 12, 12, 12, 12, 12, 12, 14, 16, 9, 13, 9, 13, 9, 13, 9, 13, 5, 12, 12, 11, 12, 12, 13, 13, 12, 12, 12, 13, 14, 12, 12, 12, 13, 12, 13, 13, 13, 12, 12, 12, 13, 13, 13, 12, 13]
def lenL : List Nat := [0, 0, 12, 12, 15, 15, 15, 15, 15, 15, 15, 15, 15, 15, 15, 15, 12, 0, 12, 3, 12, 0, 12, 3, 12, 0, 12, 12, 0, 20, 0, 12, 3, 12, 12, 0, 12, 3, 12, 12, 0, 12, 3, 12, 12, 0, 12, 3, 12, 12, 0, 12, 3, 12, 12, 0, 12, 3, 12, 12, 0, 12, 3, 12, 12, 0, 12, 3, 12, 12, 0, 12, 3, 12, 12, 0, 12, 3, 12, 12, 0, 12, 3, 12, 12, 0, 12, 3, 12, 12, 0, 12, 3, 12, 12, 0, 12, 3, 12, 12, 0, 12, 3, 12, 12, 0, 12, 3, 12, 12, 0, 12, 3, 12, 12, 0, 12, 3, 12, 12, 0, 12, 3, 12, 12, 0, 12, 3, 12, 12, 0, 12, 0, 0, 12, 12, 2400, 0, 12, 12, 12, 12, 12, 12, 12, 12, 12, 12, 12, 12, 12, 8, 12, 12, 12, 12, 12, 12, 12, 12, 8, 4, 0, 16, 0, 16, 0, 16, 0, 16, 0, 200, 12, 0, 12, 180, 15, 12, 12, 12, 12, 96, 8, 2400, 4, 4, 64, 200, 300, 240, 20, 240, 20, 12, 15, 15, 144, 2412, 16]
def rfL : List (List Nat) := [[1, 17, 21, 25, 28, 130, 132, 137, 151, 160, 161, 170, 172], [2, 3, 16], [], [], [], [], [], [], [], [], [], [], [], [], [], [], [], [1, 18, 19, 20], [], [], [], [1, 22, 23, 24], [], [], [], [1, 17, 26, 27], [], [], [29], [], [31, 32, 33, 34], [], [], [], [], [36, 37, 38, 39], [], [], [], [], [41, 42, 43, 44], [], [], [], [], [46, 47, 48, 49], [], [], [], [], [51, 52, 53, 54], [], [], [], [], [56, 57, 58, 59], [], [], [], [], [61, 62, 63, 64], [], [], [], [], [66, 67, 68, 69], [], [], [], [], [71, 72, 73, 74], [], [], [], [], [76, 77, 78, 79], [], [], [], [], [81, 82, 83, 84], [], [], [], [], [86, 87, 88, 89], [], [], [], [], [91, 92, 93, 94], [], [], [], [], [96, 97, 98, 99], [], [], [], [], [101, 102, 103, 104], [], [], [], [], [106, 107, 108, 109], [], [], [], [], [111, 112, 113, 114], [], [], [], [], [116, 117, 118, 119], [], [], [], [], [121, 122, 123, 124], [], [], [], [], [126, 127, 128, 129], [], [], [], [], [131], [], [133, 135, 136], [134], [], [], [], [138], [], [], [], [], [], [], [], [], [], [], [], [], [], [], [], [], [], [], [], [], [], [], [], [], [163], [], [165], [], [167], [], [169], [], [171], [], [], [0, 174, 175, 0, 176, 177, 0, 0, 0, 178, 179, 0, 180, 0, 0, 181, 182, 183, 0, 184, 185, 186, 187, 0, 0, 188, 189, 190, 191, 192, 0, 193, 194, 195, 196, 197, 198], [], [], [], [], [], [], [], [], [], [], [], [], [], [], [], [], [], [], [], [], [], [], [], [], []]
def cls (k : Nat) : Nat := clsL.getD k 99
def len (k : Nat) : Nat := lenL.getD k 0
def rf (k j : Nat) : Nat := if k = 3 then 4 + 1 * j else if k = 29 then 30 + 5 * j else if k = 138 then 139 + 1 * j else if k = 151 then 152 + 1 * j else if k = 161 then 162 + 2 * j else (rfL.getD k []).getD j 0
def fl_0 (base : Nat) (S : St) (k : Nat) : List Value := [.ref (base + rf k 0), .ref (base + rf k 1), .ref (base + rf k 2), .ref (base + rf k 3), .int (S.1 k 4), .int (S.1 k 5), .long (S.2 k 6)]
def fl_1 (base : Nat) (S : St) (k : Nat) : List Value := [.ref (base + rf k 0), .int (S.1 k 1), .int (S.1 k 2)]
def fl_2 (base : Nat) (S : St) (k : Nat) : List Value := [.ref (base + rf k 0), .ref (base + rf k 1), .ref (base + rf k 2), .ref (base + rf k 3)]
def fl_3 (base : Nat) (S : St) (k : Nat) : List Value := [.ref (base + rf k 0), .int (S.1 k 1), .int (S.1 k 2)]
def fl_4 (base : Nat) (S : St) (k : Nat) : List Value := [.ref (base + rf k 0), .ref (base + rf k 1), .ref (base + rf k 2), .ref (base + rf k 3), .int (S.1 k 4), .long (S.2 k 5)]
def fl_5 (base : Nat) (S : St) (k : Nat) : List Value := [.ref (base + rf k 0), .int (S.1 k 1)]
def fl_6 (base : Nat) (S : St) (k : Nat) : List Value := [.ref (base + rf k 0), .ref (base + rf k 1), .ref (base + rf k 2), .int (S.1 k 3)]
def fl_7 (base : Nat) (S : St) (k : Nat) : List Value := [.ref (base + rf k 0), .ref (base + rf k 1), .ref (base + rf k 2), .int (S.1 k 3)]
def fl_8 (base : Nat) (S : St) (k : Nat) : List Value := [.ref (base + rf k 0)]
def fl_9 (base : Nat) (S : St) (k : Nat) : List Value := [.ref (base + rf k 0), .int (S.1 k 1), .int (S.1 k 2)]
def fl_10 (base : Nat) (S : St) (k : Nat) : List Value := [.ref (base + rf k 0), .ref (base + rf k 1), .ref (base + rf k 2), .ref (base + rf k 3), .ref (base + rf k 4), .ref (base + rf k 5), .ref (base + rf k 6), .ref (base + rf k 7), .ref (base + rf k 8), .ref (base + rf k 9), .ref (base + rf k 10), .ref (base + rf k 11), .ref (base + rf k 12), .int (S.1 k 13), .int (S.1 k 14), .int (S.1 k 15)]
def fl_11 (base : Nat) (S : St) (k : Nat) : List Value := [.int (S.1 k 0), .ref (base + rf k 1), .ref (base + rf k 2), .int (S.1 k 3), .ref (base + rf k 4), .ref (base + rf k 5), .int (S.1 k 6), .int (S.1 k 7), .long (S.2 k 8), .ref (base + rf k 9), .ref (base + rf k 10), .int (S.1 k 11), .ref (base + rf k 12), .int (S.1 k 13), .int (S.1 k 14), .ref (base + rf k 15), .ref (base + rf k 16), .ref (base + rf k 17), .int (S.1 k 18), .ref (base + rf k 19), .ref (base + rf k 20), .ref (base + rf k 21), .ref (base + rf k 22), .int (S.1 k 23), .int (S.1 k 24), .ref (base + rf k 25), .ref (base + rf k 26), .ref (base + rf k 27), .ref (base + rf k 28), .ref (base + rf k 29), .int (S.1 k 30), .ref (base + rf k 31), .ref (base + rf k 32), .ref (base + rf k 33), .ref (base + rf k 34), .ref (base + rf k 35), .ref (base + rf k 36)]
def rend (cy : Nat → ClassId) (base : Nat) (S : St) (k : Nat) : va_E :=
  if cls k = 0 then .inr (0, fl_0 base S k) else
  if cls k = 1 then .inr (1, fl_1 base S k) else
  if cls k = 2 then .inr (2, fl_2 base S k) else
  if cls k = 3 then .inr (3, fl_3 base S k) else
  if cls k = 4 then .inr (4, fl_4 base S k) else
  if cls k = 5 then .inr (5, fl_5 base S k) else
  if cls k = 6 then .inr (6, fl_6 base S k) else
  if cls k = 7 then .inr (7, fl_7 base S k) else
  if cls k = 8 then .inr (8, fl_8 base S k) else
  if cls k = 9 then .inr (9, fl_9 base S k) else
  if cls k = 10 then .inr (10, fl_10 base S k) else
  if cls k = 11 then .inr (11, fl_11 base S k) else
  if cls k = 12 then .inl (cy 0, len k, .inl (S.1 k)) else
  if cls k = 13 then .inl (cy 1, len k, .inr (.inl (S.2 k))) else
  if cls k = 14 then .inl (cy 2, len k, .inl (S.1 k)) else
  if cls k = 15 then .inl (cy 3, len k, .inr (.inr (.inr (.inr (fun i => some (base + rf k i)))))) else
  if cls k = 16 then .inl (cy 4, len k, .inr (.inr (.inr (.inr (fun i => some (base + rf k i)))))) else
  if cls k = 17 then .inl (cy 5, len k, .inr (.inr (.inr (.inr (fun i => some (base + rf k i)))))) else
  .inl (cy 6, len k, .inr (.inr (.inr (.inr (fun i => some (base + rf k i))))))
theorem rd_0 {cy : Nat → ClassId} {base k : Nat} {S : St} (h : cls k = 0) : rend cy base S k = .inr (0, fl_0 base S k) := by simp [rend, h]
theorem rd_1 {cy : Nat → ClassId} {base k : Nat} {S : St} (h : cls k = 1) : rend cy base S k = .inr (1, fl_1 base S k) := by simp [rend, h]
theorem rd_2 {cy : Nat → ClassId} {base k : Nat} {S : St} (h : cls k = 2) : rend cy base S k = .inr (2, fl_2 base S k) := by simp [rend, h]
theorem rd_3 {cy : Nat → ClassId} {base k : Nat} {S : St} (h : cls k = 3) : rend cy base S k = .inr (3, fl_3 base S k) := by simp [rend, h]
theorem rd_4 {cy : Nat → ClassId} {base k : Nat} {S : St} (h : cls k = 4) : rend cy base S k = .inr (4, fl_4 base S k) := by simp [rend, h]
theorem rd_5 {cy : Nat → ClassId} {base k : Nat} {S : St} (h : cls k = 5) : rend cy base S k = .inr (5, fl_5 base S k) := by simp [rend, h]
theorem rd_6 {cy : Nat → ClassId} {base k : Nat} {S : St} (h : cls k = 6) : rend cy base S k = .inr (6, fl_6 base S k) := by simp [rend, h]
theorem rd_7 {cy : Nat → ClassId} {base k : Nat} {S : St} (h : cls k = 7) : rend cy base S k = .inr (7, fl_7 base S k) := by simp [rend, h]
theorem rd_8 {cy : Nat → ClassId} {base k : Nat} {S : St} (h : cls k = 8) : rend cy base S k = .inr (8, fl_8 base S k) := by simp [rend, h]
theorem rd_9 {cy : Nat → ClassId} {base k : Nat} {S : St} (h : cls k = 9) : rend cy base S k = .inr (9, fl_9 base S k) := by simp [rend, h]
theorem rd_10 {cy : Nat → ClassId} {base k : Nat} {S : St} (h : cls k = 10) : rend cy base S k = .inr (10, fl_10 base S k) := by simp [rend, h]
theorem rd_11 {cy : Nat → ClassId} {base k : Nat} {S : St} (h : cls k = 11) : rend cy base S k = .inr (11, fl_11 base S k) := by simp [rend, h]
theorem rd_12 {cy : Nat → ClassId} {base k n : Nat} {S : St} (h : cls k = 12 ∧ len k = n) : rend cy base S k = .inl (cy 0, n, .inl (S.1 k)) := by simp [rend, h.1, h.2]
theorem rd_13 {cy : Nat → ClassId} {base k n : Nat} {S : St} (h : cls k = 13 ∧ len k = n) : rend cy base S k = .inl (cy 1, n, .inr (.inl (S.2 k))) := by simp [rend, h.1, h.2]
theorem rd_14 {cy : Nat → ClassId} {base k n : Nat} {S : St} (h : cls k = 14 ∧ len k = n) : rend cy base S k = .inl (cy 2, n, .inl (S.1 k)) := by simp [rend, h.1, h.2]
theorem rd_15 {cy : Nat → ClassId} {base k n : Nat} {S : St} (h : cls k = 15 ∧ len k = n) : rend cy base S k = .inl (cy 3, n, .inr (.inr (.inr (.inr (fun i => some (base + rf k i)))))) := by simp [rend, h.1, h.2]
theorem rd_16 {cy : Nat → ClassId} {base k n : Nat} {S : St} (h : cls k = 16 ∧ len k = n) : rend cy base S k = .inl (cy 4, n, .inr (.inr (.inr (.inr (fun i => some (base + rf k i)))))) := by simp [rend, h.1, h.2]
theorem rd_17 {cy : Nat → ClassId} {base k n : Nat} {S : St} (h : cls k = 17 ∧ len k = n) : rend cy base S k = .inl (cy 5, n, .inr (.inr (.inr (.inr (fun i => some (base + rf k i)))))) := by simp [rend, h.1, h.2]
theorem rd_18 {cy : Nat → ClassId} {base k n : Nat} {S : St} (h : cls k = 18 ∧ len k = n) : rend cy base S k = .inl (cy 6, n, .inr (.inr (.inr (.inr (fun i => some (base + rf k i)))))) := by simp [rend, h.1, h.2]
theorem cls_lt {k c : Nat} (h : cls k = c) (hc : c < 99) : k < 199 := by
  by_cases hk : k < 199
  · exact hk
  · have h2 : clsL.length ≤ k := Nat.le_trans (by decide +kernel) (Nat.le_of_not_lt hk)
    have h3 : cls k = 99 := by unfold cls; rw [List.getD_eq_getElem?_getD, List.getElem?_eq_none h2]; rfl
    omega
theorem rend_congr {cy : Nat → ClassId} {base k : Nat} {S S' : St} (h1 : S.1 k = S'.1 k) (h2 : S.2 k = S'.2 k) : rend cy base S k = rend cy base S' k := by
  simp only [rend, fl_0, fl_1, fl_2, fl_3, fl_4, fl_5, fl_6, fl_7, fl_8, fl_9, fl_10, fl_11, h1, h2]
def LL (base : Nat) : List Nat := (List.range 199).map (fun k => base + k)
def wld (cy : Nat → ClassId) (base : Nat) (S : St) : va_W := (LL base).map (fun a => (a, rend cy base S (a - base)))
def AA (base : Nat) : Nat → Prop := fun q => base ≤ q
theorem wget (cy : Nat → ClassId) (base : Nat) (S : St) {k : Nat} (hk : k < 199) : (wld cy base S)[k]? = some (base + k, rend cy base S k) := by
  unfold wld LL
  rw [List.getElem?_map, List.getElem?_map, List.getElem?_range hk]
  simp
theorem wlen (cy : Nat → ClassId) (base : Nat) (S : St) : (wld cy base S).length = 199 := by simp [wld, LL]
theorem wset {cy : Nat → ClassId} {base : Nat} {S S' : St} {k : Nat} {e : va_E} (hk : k < 199) (h1 : rend cy base S' k = e) (h2 : ∀ j, j ≠ k → rend cy base S' j = rend cy base S j) : (wld cy base S).set k (base + k, e) = wld cy base S' := by
  apply List.ext_getElem?
  intro i
  by_cases hi : i < 199
  · rw [wget cy base S' hi]
    by_cases e1 : i = k
    · subst e1
      rw [List.getElem?_set_self (by rw [wlen]; exact hi), h1]
    · rw [List.getElem?_set_ne (Ne.symm e1), wget cy base S hi, h2 i e1]
  · rw [List.getElem?_eq_none (by rw [List.length_set, wlen]; omega), List.getElem?_eq_none (by rw [wlen]; omega)]
theorem wD (cy : Nat → ClassId) (base : Nat) (S : St) : va_D (AA base) (wld cy base S) := by
  have key : ∀ (i : Nat) (p : Nat × va_E), (wld cy base S)[i]? = some p → p.1 = base + i := by
    intro i p h
    have hi : i < 199 := by
      have := (List.getElem?_eq_some_iff.mp h).1
      rwa [wlen] at this
    rw [wget cy base S hi] at h
    cases h
    rfl
  refine ⟨fun i j p q hi hj h => ?_, fun i p h => ?_⟩
  · have h1 := key i p hi
    have h2 := key j q hj
    omega
  · have h1 := key i p h
    show base ≤ p.1
    omega
def gw : List Cond := lw_tbl.filter goodWord
def isNest : Cond → Bool
  | .fieldLinkNest _ _ _ _ _ _ => true
  | .methodLinkNest _ _ _ _ => true
  | _ => false
def nw : List Cond := lw_tbl.filter isNest
theorem mem_gw {w : Cond} (i : Nat) (h : lw_tbl[i]? = some w) (hg : goodWord w = true) : w ∈ gw := List.mem_filter.mpr ⟨List.mem_of_getElem? h, hg⟩
theorem mem_nw {w : Cond} (i : Nat) (h : lw_tbl[i]? = some w) (hg : isNest w = true) : w ∈ nw := List.mem_filter.mpr ⟨List.mem_of_getElem? h, hg⟩
abbrev wsY (y : MethodName) (cc : ByteArray) (maxL : Nat) (ret : Option FieldType) : List Cond := .code y cc maxL ret :: gw
theorem gdIn {ws : List Cond} (h : ∀ w ∈ ws, w ∈ gw) : GoodIn gw ws := fun w hw => ⟨h w hw, good_of_word (List.mem_filter.mp (h w hw)).2⟩
def tys (cy : Nat → ClassId) : List (ClassId × FieldType) := [(cy 0, .int), (cy 1, .long), (cy 2, .boolean), (cy 3, .object RX4), (cy 4, .object RX9), (cy 5, .array .int), (cy 6, .array .long)]
def aboveF : Nat → Value := fun j => .int (([-1, 0, 1, 2, 0] : List Int32).getD j 0)
def above (j : Nat) : Int32 := ([-1, 0, 1, 2, 0] : List Int32).getD j 0
/-- what the tables and the statics say, at a state -/
def EnvW (D : va_G) (cy : Nat → ClassId) (base tS : Nat) (U : State) : Prop := va_K D vwCl (tys cy) U ∧ (∀ w ∈ nw, va_Nw w U) ∧ va_Z "ScreeCourt" "ABOVE" "[I" (.ref tS) (AA base) U U.heap ∧ va_T .int tS 5 aboveF (AA base) U U.heap
def World (D : va_G) (cy : Nat → ClassId) (base tS : Nat) (S : St) (U : State) : Prop := va_P D vwCl (wld cy base S) U.heap ∧ EnvW D cy base tS U
theorem nw_warm {s U : State} (hW : s.WarmedH U.vm) (h : ∀ w ∈ nw, va_Nw w s) : ∀ w ∈ nw, va_Nw w U := by
  intro w hw
  have h1 := h w hw
  have h2 : isNest w = true := (List.mem_filter.mp hw).2
  cases w <;> first | exact va_Nw.warmF hW h1 | exact va_Nw.warmM hW h1 | (exact absurd h2 (by simp [isNest]))
theorem EnvW.go {D : va_G} {cy : Nat → ClassId} {base tS : Nat} {s U : State} {H : Heap} {locs : List Loc} (h : EnvW D cy base tS s) (hW : s.WarmedH U.vm) (hU : U.heap = H) (hS : va_S (AA base) s.heap H locs) : EnvW D cy base tS U := by
  obtain ⟨h1, h2, h3, h4⟩ := h
  have hq : ∀ a : Nat, a < s.heap.size → ¬ AA base a → U.heap[a]? = s.heap[a]? := fun a ha hn => by rw [hU]; exact hS.2.1 a ha hn
  exact ⟨va_K.moved hW.alike h1, nw_warm hW h2, va_Z.moved hW.alike (h3.kept hq), va_T.moved hW.alike (h4.kept hq)⟩
theorem EnvW.blind {D : va_G} {cy : Nat → ClassId} {base tS : Nat} {U : State} (g : JFrame) (mk : MethodId) (a : Array Value) (h : EnvW D cy base tS U) : EnvW D cy base tS (U.calling g mk a) := by
  obtain ⟨h1, h2, h3, h4⟩ := h
  refine ⟨va_K.moved (u := U) (Vm.Alike.refl U.vm) h1, fun w hw => ?_, va_Z.moved (u := U) (Vm.Alike.refl U.vm) h3, va_T.moved (u := U) (Vm.Alike.refl U.vm) h4⟩
  have h5 := h2 w hw
  have h6 : isNest w = true := (List.mem_filter.mp hw).2
  cases w <;> first | exact va_Nw.same rfl rfl h5 | (exact absurd h6 (by simp [isNest]))
theorem World.blind {D : va_G} {cy : Nat → ClassId} {base tS : Nat} {S : St} {As : List Value} : FrameBlind (va_Pc As (World D cy base tS S)) := fun a U g mk q => ⟨q.1, q.2.1, q.2.2.blind g mk a⟩
section SIM
variable {p : Program} {l : Launch} {e : Env} {R : Room} {s : State} {m : MethodId} {args : Array Value} {below : List Frame} {meth : Method} {c : Code} {D : va_G} {cy : Nat → ClassId} {base tS : Nat} {cc : ByteArray} {own : String} {nL pc : Nat} {ls : Array Slot} {rest : List Value} {S : St} {ρ σ : Type} {Q : St → ρ → State → Prop} {o : Option (St × ρ)}
def Cx (p : Program) (R : Room) (s : State) (m : MethodId) (args : Array Value) (c : Code) (own : String) (cc : ByteArray) (nL : Nat) (D : va_G) (cy : Nat → ClassId) (base tS : Nat) : Prop := p.tables.exec = Jvm.exec ∧ c.code = cc ∧ c.maxLocals = nL ∧ s.vm.findClass own = some m.cls ∧ (∀ w ∈ gw, w.before args s = true) ∧ EnvW D cy base tS s ∧ R.cells = 0 ∧ R.slots = 0
/-- whenever the pure answer is there, the machine comes to it from every heap that holds the cells S -/
def Sim (p : Program) (l : Launch) (e : Env) (R : Room) (s : State) (m : MethodId) (args : Array Value) (below : List Frame) (meth : Method) (c : Code) (D : va_G) (cy : Nat → ClassId) (base : Nat) {ρ : Type} (Q : St → ρ → State → Prop) (o : Option (St × ρ)) (S : St) (g : JFrame) : Prop :=
  ∀ (S' : St) (r : ρ), o = some (S', r) → ∀ (H : Heap) (locs : List Loc), va_P D vwCl (wld cy base S) H → va_S (AA base) s.heap H locs → W p l e R s m args below meth c H locs 0 0 (Q S' r) g
theorem Cx.ex (C : Cx p R s m args c own cc nL D cy base tS) : p.tables.exec = Jvm.exec := C.1
theorem Cx.by (C : Cx p R s m args c own cc nL D cy base tS) : c.code = cc := C.2.1
theorem Cx.ow (C : Cx p R s m args c own cc nL D cy base tS) : s.vm.findClass own = some m.cls := C.2.2.2.1
theorem Cx.ts (C : Cx p R s m args c own cc nL D cy base tS) : ∀ w ∈ gw, w.before args s = true := C.2.2.2.2.1
theorem Cx.K (C : Cx p R s m args c own cc nL D cy base tS) : va_K D vwCl (tys cy) s := C.2.2.2.2.2.1.1
theorem Cx.nest (C : Cx p R s m args c own cc nL D cy base tS) {w : Cond} (hw : w ∈ nw) : va_Nw w s := C.2.2.2.2.2.1.2.1 w hw
theorem Cx.fix (C : Cx p R s m args c own cc nL D cy base tS) : CallFix p m c cc nL s args gw own := ⟨C.1, C.2.1, C.2.2.1, C.2.2.2.1, C.2.2.2.2.1⟩
theorem Sim.none {S : St} {g : JFrame} : Sim p l e R s m args below meth c D cy base Q none S g := fun _ _ h => by cases h
theorem Sim.eq {o2 : Option (St × ρ)} {S : St} {g : JFrame} (h : o = o2) (k : Sim p l e R s m args below meth c D cy base Q o2 S g) : Sim p l e R s m args below meth c D cy base Q o S g := h ▸ k
theorem r_iconst (C : Cx p R s m args c own cc nL D cy base tS) {n : Int} (v : Int32) (hd : decode cc pc = .ok (.iconst n, 1)) (hv : Int32.ofInt n = v) (k : Sim p l e R s m args below meth c D cy base Q o S (F0 m (pc + 1) ls (.int v :: rest))) : Sim p l e R s m args below meth c D cy base Q o S (F0 m pc ls rest) := fun S2 r2 h2 H locs hP hS => lv_iconst C.ex C.by hd hv (k S2 r2 h2 H locs hP hS)
theorem r_bipush (C : Cx p R s m args c own cc nL D cy base tS) {n : Int} (v : Int32) (hd : decode cc pc = .ok (.bipush n, 2)) (hv : (Int8.ofInt n).toInt32 = v) (k : Sim p l e R s m args below meth c D cy base Q o S (F0 m (pc + 2) ls (.int v :: rest))) : Sim p l e R s m args below meth c D cy base Q o S (F0 m pc ls rest) := fun S2 r2 h2 H locs hP hS => lv_bipush C.ex C.by hd hv (k S2 r2 h2 H locs hP hS)
theorem r_sipush (C : Cx p R s m args c own cc nL D cy base tS) {n : Int} (v : Int32) (hd : decode cc pc = .ok (.sipush n, 3)) (hv : (Int16.ofInt n).toInt32 = v) (k : Sim p l e R s m args below meth c D cy base Q o S (F0 m (pc + 3) ls (.int v :: rest))) : Sim p l e R s m args below meth c D cy base Q o S (F0 m pc ls rest) := fun S2 r2 h2 H locs hP hS => lv_sipush C.ex C.by hd hv (k S2 r2 h2 H locs hP hS)
theorem r_lconst (C : Cx p R s m args c own cc nL D cy base tS) {n : Fin 2} (v : Int64) (hd : decode cc pc = .ok (.lconst n, 1)) (hv : Int64.ofNat (n : Nat) = v) (k : Sim p l e R s m args below meth c D cy base Q o S (F0 m (pc + 1) ls (.long v :: rest))) : Sim p l e R s m args below meth c D cy base Q o S (F0 m pc ls rest) := fun S2 r2 h2 H locs hP hS => lv_lconst C.ex C.by hd hv (k S2 r2 h2 H locs hP hS)
theorem r_ldc (C : Cx p R s m args c own cc nL D cy base tS) {index : Nat} (v : Int32) (hw : Cond.constant own index v ∈ gw) (hd : decode cc pc = .ok (.ldc index, 2)) (k : Sim p l e R s m args below meth c D cy base Q o S (F0 m (pc + 2) ls (.int v :: rest))) : Sim p l e R s m args below meth c D cy base Q o S (F0 m pc ls rest) := fun S2 r2 h2 H locs hP hS => lv_ldc C.ex C.by C.ow (C.ts _ hw) hd (k S2 r2 h2 H locs hP hS)
theorem r_ldcw (C : Cx p R s m args c own cc nL D cy base tS) {index : Nat} (v : Int32) (hw : Cond.constant own index v ∈ gw) (hd : decode cc pc = .ok (.ldc_w index, 3)) (k : Sim p l e R s m args below meth c D cy base Q o S (F0 m (pc + 3) ls (.int v :: rest))) : Sim p l e R s m args below meth c D cy base Q o S (F0 m pc ls rest) := fun S2 r2 h2 H locs hP hS => lv_ldcw C.ex C.by C.ow (C.ts _ hw) hd (k S2 r2 h2 H locs hP hS)
theorem r_ldc2 (C : Cx p R s m args c own cc nL D cy base tS) {index : Nat} (v : Int64) (hw : Cond.constantLong own index v ∈ gw) (hd : decode cc pc = .ok (.ldc2_w index, 3)) (k : Sim p l e R s m args below meth c D cy base Q o S (F0 m (pc + 3) ls (.long v :: rest))) : Sim p l e R s m args below meth c D cy base Q o S (F0 m pc ls rest) := fun S2 r2 h2 H locs hP hS => lv_ldc2 C.ex C.by C.ow (C.ts _ hw) hd (k S2 r2 h2 H locs hP hS)
theorem r_iload_n (C : Cx p R s m args c own cc nL D cy base tS) {k : Fin 4} {i : Nat} {x : Int32} (hd : decode cc pc = .ok (.iload_n k, 1)) (hi : (k : Nat) = i) (hl : ls[i]? = some (.val (.int x))) (kk : Sim p l e R s m args below meth c D cy base Q o S (F0 m (pc + 1) ls (.int x :: rest))) : Sim p l e R s m args below meth c D cy base Q o S (F0 m pc ls rest) := fun S2 r2 h2 H locs hP hS => lv_iload_n C.ex C.by hd hi hl (kk S2 r2 h2 H locs hP hS)
theorem r_iload (C : Cx p R s m args c own cc nL D cy base tS) {i : Nat} {x : Int32} (hd : decode cc pc = .ok (.iload i, 2)) (hl : ls[i]? = some (.val (.int x))) (kk : Sim p l e R s m args below meth c D cy base Q o S (F0 m (pc + 2) ls (.int x :: rest))) : Sim p l e R s m args below meth c D cy base Q o S (F0 m pc ls rest) := fun S2 r2 h2 H locs hP hS => lv_iload C.ex C.by hd hl (kk S2 r2 h2 H locs hP hS)
theorem r_istore_n (C : Cx p R s m args c own cc nL D cy base tS) {k : Fin 4} {i : Nat} {x : Int32} {lv lv2 : List (Nat × Value)} (hd : decode cc pc = .ok (.istore_n k, 1)) (hi : (k : Nat) = i) (h : lv_has ls nL lv) (hn : i < nL) (hl : (i, Value.int x) :: lv.filter (fun q => !(q.1 == i) && !(q.1 + 1 == i && q.2.category == 2)) = lv2) (kk : ∀ ls2 : Array Slot, lv_has ls2 nL lv2 → Sim p l e R s m args below meth c D cy base Q o S (F0 m (pc + 1) ls2 rest)) : Sim p l e R s m args below meth c D cy base Q o S (F0 m pc ls (.int x :: rest)) := fun S2 r2 h2 H locs hP hS => lv_istore_n C.ex C.by hd hi h hn hl (fun ls2 hl2 => kk ls2 hl2 S2 r2 h2 H locs hP hS)
theorem r_istore (C : Cx p R s m args c own cc nL D cy base tS) {i : Nat} {x : Int32} {lv lv2 : List (Nat × Value)} (hd : decode cc pc = .ok (.istore i, 2)) (h : lv_has ls nL lv) (hn : i < nL) (hl : (i, Value.int x) :: lv.filter (fun q => !(q.1 == i) && !(q.1 + 1 == i && q.2.category == 2)) = lv2) (kk : ∀ ls2 : Array Slot, lv_has ls2 nL lv2 → Sim p l e R s m args below meth c D cy base Q o S (F0 m (pc + 2) ls2 rest)) : Sim p l e R s m args below meth c D cy base Q o S (F0 m pc ls (.int x :: rest)) := fun S2 r2 h2 H locs hP hS => lv_istore C.ex C.by hd h hn hl (fun ls2 hl2 => kk ls2 hl2 S2 r2 h2 H locs hP hS)
theorem r_lload_n (C : Cx p R s m args c own cc nL D cy base tS) {k : Fin 4} {i : Nat} {x : Int64} (hd : decode cc pc = .ok (.lload_n k, 1)) (hi : (k : Nat) = i) (hl : ls[i]? = some (.val (.long x))) (kk : Sim p l e R s m args below meth c D cy base Q o S (F0 m (pc + 1) ls (.long x :: rest))) : Sim p l e R s m args below meth c D cy base Q o S (F0 m pc ls rest) := fun S2 r2 h2 H locs hP hS => lv_lload_n C.ex C.by hd hi hl (kk S2 r2 h2 H locs hP hS)
theorem r_lload (C : Cx p R s m args c own cc nL D cy base tS) {i : Nat} {x : Int64} (hd : decode cc pc = .ok (.lload i, 2)) (hl : ls[i]? = some (.val (.long x))) (kk : Sim p l e R s m args below meth c D cy base Q o S (F0 m (pc + 2) ls (.long x :: rest))) : Sim p l e R s m args below meth c D cy base Q o S (F0 m pc ls rest) := fun S2 r2 h2 H locs hP hS => lv_lload C.ex C.by hd hl (kk S2 r2 h2 H locs hP hS)
theorem r_lstore_n (C : Cx p R s m args c own cc nL D cy base tS) {k : Fin 4} {i : Nat} {x : Int64} {lv lv2 : List (Nat × Value)} (hd : decode cc pc = .ok (.lstore_n k, 1)) (hi : (k : Nat) = i) (h : lv_has ls nL lv) (hn : i + 1 < nL) (hl : (i, Value.long x) :: lv.filter (fun q => !(q.1 == i) && (!(q.1 == i + 1) && !(q.1 + 1 == i && q.2.category == 2))) = lv2) (kk : ∀ ls2 : Array Slot, lv_has ls2 nL lv2 → Sim p l e R s m args below meth c D cy base Q o S (F0 m (pc + 1) ls2 rest)) : Sim p l e R s m args below meth c D cy base Q o S (F0 m pc ls (.long x :: rest)) := fun S2 r2 h2 H locs hP hS => lv_lstore_n C.ex C.by hd hi h hn hl (fun ls2 hl2 => kk ls2 hl2 S2 r2 h2 H locs hP hS)
theorem r_lstore (C : Cx p R s m args c own cc nL D cy base tS) {i : Nat} {x : Int64} {lv lv2 : List (Nat × Value)} (hd : decode cc pc = .ok (.lstore i, 2)) (h : lv_has ls nL lv) (hn : i + 1 < nL) (hl : (i, Value.long x) :: lv.filter (fun q => !(q.1 == i) && (!(q.1 == i + 1) && !(q.1 + 1 == i && q.2.category == 2))) = lv2) (kk : ∀ ls2 : Array Slot, lv_has ls2 nL lv2 → Sim p l e R s m args below meth c D cy base Q o S (F0 m (pc + 2) ls2 rest)) : Sim p l e R s m args below meth c D cy base Q o S (F0 m pc ls (.long x :: rest)) := fun S2 r2 h2 H locs hP hS => lv_lstore C.ex C.by hd h hn hl (fun ls2 hl2 => kk ls2 hl2 S2 r2 h2 H locs hP hS)
theorem r_aload_n (C : Cx p R s m args c own cc nL D cy base tS) {k : Fin 4} {i : Nat} {x : Nat} (hd : decode cc pc = .ok (.aload_n k, 1)) (hi : (k : Nat) = i) (hl : ls[i]? = some (.val (.ref x))) (kk : Sim p l e R s m args below meth c D cy base Q o S (F0 m (pc + 1) ls (.ref x :: rest))) : Sim p l e R s m args below meth c D cy base Q o S (F0 m pc ls rest) := fun S2 r2 h2 H locs hP hS => lv_aload_n C.ex C.by hd hi hl (kk S2 r2 h2 H locs hP hS)
theorem r_aload (C : Cx p R s m args c own cc nL D cy base tS) {i : Nat} {x : Nat} (hd : decode cc pc = .ok (.aload i, 2)) (hl : ls[i]? = some (.val (.ref x))) (kk : Sim p l e R s m args below meth c D cy base Q o S (F0 m (pc + 2) ls (.ref x :: rest))) : Sim p l e R s m args below meth c D cy base Q o S (F0 m pc ls rest) := fun S2 r2 h2 H locs hP hS => lv_aload C.ex C.by hd hl (kk S2 r2 h2 H locs hP hS)
theorem r_astore_n (C : Cx p R s m args c own cc nL D cy base tS) {k : Fin 4} {i : Nat} {x : Nat} {lv lv2 : List (Nat × Value)} (hd : decode cc pc = .ok (.astore_n k, 1)) (hi : (k : Nat) = i) (h : lv_has ls nL lv) (hn : i < nL) (hl : (i, Value.ref x) :: lv.filter (fun q => !(q.1 == i) && !(q.1 + 1 == i && q.2.category == 2)) = lv2) (kk : ∀ ls2 : Array Slot, lv_has ls2 nL lv2 → Sim p l e R s m args below meth c D cy base Q o S (F0 m (pc + 1) ls2 rest)) : Sim p l e R s m args below meth c D cy base Q o S (F0 m pc ls (.ref x :: rest)) := fun S2 r2 h2 H locs hP hS => lv_astore_n C.ex C.by hd hi h hn hl (fun ls2 hl2 => kk ls2 hl2 S2 r2 h2 H locs hP hS)
theorem r_astore (C : Cx p R s m args c own cc nL D cy base tS) {i : Nat} {x : Nat} {lv lv2 : List (Nat × Value)} (hd : decode cc pc = .ok (.astore i, 2)) (h : lv_has ls nL lv) (hn : i < nL) (hl : (i, Value.ref x) :: lv.filter (fun q => !(q.1 == i) && !(q.1 + 1 == i && q.2.category == 2)) = lv2) (kk : ∀ ls2 : Array Slot, lv_has ls2 nL lv2 → Sim p l e R s m args below meth c D cy base Q o S (F0 m (pc + 2) ls2 rest)) : Sim p l e R s m args below meth c D cy base Q o S (F0 m pc ls (.ref x :: rest)) := fun S2 r2 h2 H locs hP hS => lv_astore C.ex C.by hd h hn hl (fun ls2 hl2 => kk ls2 hl2 S2 r2 h2 H locs hP hS)
theorem r_topi {x : Int32} {b : Int32 → Option (St × ρ)} (k : ∀ y : Int32, Sim p l e R s m args below meth c D cy base Q (b y) S (F0 m pc ls (.int y :: rest))) : Sim p l e R s m args below meth c D cy base Q (lt x b) S (F0 m pc ls (.int x :: rest)) := k x
theorem r_topl {x : Int64} {b : Int64 → Option (St × ρ)} (k : ∀ y : Int64, Sim p l e R s m args below meth c D cy base Q (b y) S (F0 m pc ls (.long y :: rest))) : Sim p l e R s m args below meth c D cy base Q (lt x b) S (F0 m pc ls (.long x :: rest)) := k x
theorem r_iinc (C : Cx p R s m args c own cc nL D cy base tS) {i k : Nat} {n : Int} {x : Int32} {b : Int32 → Option (St × ρ)} (v : Int32) {lv : List (Nat × Value)} (lv2 : Int32 → List (Nat × Value)) (hd : decode cc pc = .ok (.iinc i n, 3)) (h : lv_has ls nL lv) (hk : lv[k]? = some (i, .int x)) (hv : Int32.ofInt n = v) (hn : i < nL) (hl : ∀ y : Int32, (i, Value.int y) :: lv.filter (fun q => !(q.1 == i) && !(q.1 + 1 == i && q.2.category == 2)) = lv2 y) (kk : ∀ (y : Int32) (ls2 : Array Slot), lv_has ls2 nL (lv2 y) → Sim p l e R s m args below meth c D cy base Q (b y) S (F0 m (pc + 3) ls2 rest)) : Sim p l e R s m args below meth c D cy base Q (lt (x + v) b) S (F0 m pc ls rest) := fun S2 r2 h2 H locs hP hS => lv_iinc (v := x + v) C.ex C.by hd h hk (by rw [hv]) hn (hl (x + v)) (fun ls2 hl2 => kk (x + v) ls2 hl2 S2 r2 h2 H locs hP hS)
theorem r_iadd (C : Cx p R s m args c own cc nL D cy base tS) {x y : Int32} (hd : decode cc pc = .ok (.iadd, 1)) (k : Sim p l e R s m args below meth c D cy base Q o S (F0 m (pc + 1) ls (.int (x + y) :: rest))) : Sim p l e R s m args below meth c D cy base Q o S (F0 m pc ls (.int y :: .int x :: rest)) := fun S2 r2 h2 H locs hP hS => lv_iadd C.ex C.by hd (k S2 r2 h2 H locs hP hS)
theorem r_isub (C : Cx p R s m args c own cc nL D cy base tS) {x y : Int32} (hd : decode cc pc = .ok (.isub, 1)) (k : Sim p l e R s m args below meth c D cy base Q o S (F0 m (pc + 1) ls (.int (x - y) :: rest))) : Sim p l e R s m args below meth c D cy base Q o S (F0 m pc ls (.int y :: .int x :: rest)) := fun S2 r2 h2 H locs hP hS => lv_isub C.ex C.by hd (k S2 r2 h2 H locs hP hS)
theorem r_imul (C : Cx p R s m args c own cc nL D cy base tS) {x y : Int32} (hd : decode cc pc = .ok (.imul, 1)) (k : Sim p l e R s m args below meth c D cy base Q o S (F0 m (pc + 1) ls (.int (x * y) :: rest))) : Sim p l e R s m args below meth c D cy base Q o S (F0 m pc ls (.int y :: .int x :: rest)) := fun S2 r2 h2 H locs hP hS => lv_imul C.ex C.by hd (k S2 r2 h2 H locs hP hS)
theorem r_iand (C : Cx p R s m args c own cc nL D cy base tS) {x y : Int32} (hd : decode cc pc = .ok (.iand, 1)) (k : Sim p l e R s m args below meth c D cy base Q o S (F0 m (pc + 1) ls (.int (x &&& y) :: rest))) : Sim p l e R s m args below meth c D cy base Q o S (F0 m pc ls (.int y :: .int x :: rest)) := fun S2 r2 h2 H locs hP hS => lv_iand C.ex C.by hd (k S2 r2 h2 H locs hP hS)
theorem r_ior (C : Cx p R s m args c own cc nL D cy base tS) {x y : Int32} (hd : decode cc pc = .ok (.ior, 1)) (k : Sim p l e R s m args below meth c D cy base Q o S (F0 m (pc + 1) ls (.int (x ||| y) :: rest))) : Sim p l e R s m args below meth c D cy base Q o S (F0 m pc ls (.int y :: .int x :: rest)) := fun S2 r2 h2 H locs hP hS => lv_ior C.ex C.by hd (k S2 r2 h2 H locs hP hS)
theorem r_ixor (C : Cx p R s m args c own cc nL D cy base tS) {x y : Int32} (hd : decode cc pc = .ok (.ixor, 1)) (k : Sim p l e R s m args below meth c D cy base Q o S (F0 m (pc + 1) ls (.int (x ^^^ y) :: rest))) : Sim p l e R s m args below meth c D cy base Q o S (F0 m pc ls (.int y :: .int x :: rest)) := fun S2 r2 h2 H locs hP hS => lv_ixor C.ex C.by hd (k S2 r2 h2 H locs hP hS)
theorem r_ishl (C : Cx p R s m args c own cc nL D cy base tS) {x y : Int32} (hd : decode cc pc = .ok (.ishl, 1)) (k : Sim p l e R s m args below meth c D cy base Q o S (F0 m (pc + 1) ls (.int (x <<< (y &&& 31)) :: rest))) : Sim p l e R s m args below meth c D cy base Q o S (F0 m pc ls (.int y :: .int x :: rest)) := fun S2 r2 h2 H locs hP hS => lv_ishl C.ex C.by hd (k S2 r2 h2 H locs hP hS)
theorem r_ishr (C : Cx p R s m args c own cc nL D cy base tS) {x y : Int32} (hd : decode cc pc = .ok (.ishr, 1)) (k : Sim p l e R s m args below meth c D cy base Q o S (F0 m (pc + 1) ls (.int (x >>> (y &&& 31)) :: rest))) : Sim p l e R s m args below meth c D cy base Q o S (F0 m pc ls (.int y :: .int x :: rest)) := fun S2 r2 h2 H locs hP hS => lv_ishr C.ex C.by hd (k S2 r2 h2 H locs hP hS)
theorem r_ladd (C : Cx p R s m args c own cc nL D cy base tS) {x y : Int64} (hd : decode cc pc = .ok (.ladd, 1)) (k : Sim p l e R s m args below meth c D cy base Q o S (F0 m (pc + 1) ls (.long (x + y) :: rest))) : Sim p l e R s m args below meth c D cy base Q o S (F0 m pc ls (.long y :: .long x :: rest)) := fun S2 r2 h2 H locs hP hS => lv_ladd C.ex C.by hd (k S2 r2 h2 H locs hP hS)
theorem r_lsub (C : Cx p R s m args c own cc nL D cy base tS) {x y : Int64} (hd : decode cc pc = .ok (.lsub, 1)) (k : Sim p l e R s m args below meth c D cy base Q o S (F0 m (pc + 1) ls (.long (x - y) :: rest))) : Sim p l e R s m args below meth c D cy base Q o S (F0 m pc ls (.long y :: .long x :: rest)) := fun S2 r2 h2 H locs hP hS => lv_lsub C.ex C.by hd (k S2 r2 h2 H locs hP hS)
theorem r_lmul (C : Cx p R s m args c own cc nL D cy base tS) {x y : Int64} (hd : decode cc pc = .ok (.lmul, 1)) (k : Sim p l e R s m args below meth c D cy base Q o S (F0 m (pc + 1) ls (.long (x * y) :: rest))) : Sim p l e R s m args below meth c D cy base Q o S (F0 m pc ls (.long y :: .long x :: rest)) := fun S2 r2 h2 H locs hP hS => lv_lmul C.ex C.by hd (k S2 r2 h2 H locs hP hS)
theorem r_land (C : Cx p R s m args c own cc nL D cy base tS) {x y : Int64} (hd : decode cc pc = .ok (.land, 1)) (k : Sim p l e R s m args below meth c D cy base Q o S (F0 m (pc + 1) ls (.long (x &&& y) :: rest))) : Sim p l e R s m args below meth c D cy base Q o S (F0 m pc ls (.long y :: .long x :: rest)) := fun S2 r2 h2 H locs hP hS => lv_land C.ex C.by hd (k S2 r2 h2 H locs hP hS)
theorem r_lor (C : Cx p R s m args c own cc nL D cy base tS) {x y : Int64} (hd : decode cc pc = .ok (.lor, 1)) (k : Sim p l e R s m args below meth c D cy base Q o S (F0 m (pc + 1) ls (.long (x ||| y) :: rest))) : Sim p l e R s m args below meth c D cy base Q o S (F0 m pc ls (.long y :: .long x :: rest)) := fun S2 r2 h2 H locs hP hS => lv_lor C.ex C.by hd (k S2 r2 h2 H locs hP hS)
theorem r_idiv (C : Cx p R s m args c own cc nL D cy base tS) {x y : Int32} (hd : decode cc pc = .ok (.idiv, 1)) (k : ¬ y = 0 → Sim p l e R s m args below meth c D cy base Q o S (F0 m (pc + 1) ls (.int (x / y) :: rest))) : Sim p l e R s m args below meth c D cy base Q (gu (¬ y = 0) o) S (F0 m pc ls (.int y :: .int x :: rest)) := by
  intro S2 r2 h2 H locs hP hS
  unfold gu at h2
  split at h2
  · next hy => exact lv_idiv C.ex C.by hd hy (k hy S2 r2 h2 H locs hP hS)
  · cases h2
theorem r_irem (C : Cx p R s m args c own cc nL D cy base tS) {x y : Int32} (hd : decode cc pc = .ok (.irem, 1)) (k : ¬ y = 0 → Sim p l e R s m args below meth c D cy base Q o S (F0 m (pc + 1) ls (.int (irem x y) :: rest))) : Sim p l e R s m args below meth c D cy base Q (gu (¬ y = 0) o) S (F0 m pc ls (.int y :: .int x :: rest)) := by
  intro S2 r2 h2 H locs hP hS
  unfold gu at h2
  split at h2
  · next hy => exact lv_irem C.ex C.by hd hy (k hy S2 r2 h2 H locs hP hS)
  · cases h2
theorem r_ldiv (C : Cx p R s m args c own cc nL D cy base tS) {x y : Int64} (hd : decode cc pc = .ok (.ldiv, 1)) (k : ¬ y = 0 → Sim p l e R s m args below meth c D cy base Q o S (F0 m (pc + 1) ls (.long (x / y) :: rest))) : Sim p l e R s m args below meth c D cy base Q (gu (¬ y = 0) o) S (F0 m pc ls (.long y :: .long x :: rest)) := by
  intro S2 r2 h2 H locs hP hS
  unfold gu at h2
  split at h2
  · next hy => exact lv_ldiv C.ex C.by hd hy (k hy S2 r2 h2 H locs hP hS)
  · cases h2
theorem r_lrem (C : Cx p R s m args c own cc nL D cy base tS) {x y : Int64} (hd : decode cc pc = .ok (.lrem, 1)) (k : ¬ y = 0 → Sim p l e R s m args below meth c D cy base Q o S (F0 m (pc + 1) ls (.long (lrem x y) :: rest))) : Sim p l e R s m args below meth c D cy base Q (gu (¬ y = 0) o) S (F0 m pc ls (.long y :: .long x :: rest)) := by
  intro S2 r2 h2 H locs hP hS
  unfold gu at h2
  split at h2
  · next hy => exact lv_lrem C.ex C.by hd hy (k hy S2 r2 h2 H locs hP hS)
  · cases h2
theorem r_ineg (C : Cx p R s m args c own cc nL D cy base tS) {x : Int32} (hd : decode cc pc = .ok (.ineg, 1)) (k : Sim p l e R s m args below meth c D cy base Q o S (F0 m (pc + 1) ls (.int (-x) :: rest))) : Sim p l e R s m args below meth c D cy base Q o S (F0 m pc ls (.int x :: rest)) := fun S2 r2 h2 H locs hP hS => lv_ineg C.ex C.by hd (k S2 r2 h2 H locs hP hS)
theorem r_i2l (C : Cx p R s m args c own cc nL D cy base tS) {x : Int32} (hd : decode cc pc = .ok (.i2l, 1)) (k : Sim p l e R s m args below meth c D cy base Q o S (F0 m (pc + 1) ls (.long (x.toInt64) :: rest))) : Sim p l e R s m args below meth c D cy base Q o S (F0 m pc ls (.int x :: rest)) := fun S2 r2 h2 H locs hP hS => lv_i2l C.ex C.by hd rfl (k S2 r2 h2 H locs hP hS)
theorem r_l2i (C : Cx p R s m args c own cc nL D cy base tS) {x : Int64} (hd : decode cc pc = .ok (.l2i, 1)) (k : Sim p l e R s m args below meth c D cy base Q o S (F0 m (pc + 1) ls (.int (x.toInt32) :: rest))) : Sim p l e R s m args below meth c D cy base Q o S (F0 m pc ls (.long x :: rest)) := fun S2 r2 h2 H locs hP hS => lv_l2i C.ex C.by hd rfl (k S2 r2 h2 H locs hP hS)
theorem r_i2b (C : Cx p R s m args c own cc nL D cy base tS) {x : Int32} (hd : decode cc pc = .ok (.i2b, 1)) (k : Sim p l e R s m args below meth c D cy base Q o S (F0 m (pc + 1) ls (.int (x.toInt8.toInt32) :: rest))) : Sim p l e R s m args below meth c D cy base Q o S (F0 m pc ls (.int x :: rest)) := fun S2 r2 h2 H locs hP hS => lv_i2b C.ex C.by hd rfl (k S2 r2 h2 H locs hP hS)
theorem r_i2s (C : Cx p R s m args c own cc nL D cy base tS) {x : Int32} (hd : decode cc pc = .ok (.i2s, 1)) (k : Sim p l e R s m args below meth c D cy base Q o S (F0 m (pc + 1) ls (.int (x.toInt16.toInt32) :: rest))) : Sim p l e R s m args below meth c D cy base Q o S (F0 m pc ls (.int x :: rest)) := fun S2 r2 h2 H locs hP hS => lv_i2s C.ex C.by hd rfl (k S2 r2 h2 H locs hP hS)
theorem r_lshl (C : Cx p R s m args c own cc nL D cy base tS) {x : Int64} {y : Int32} (hd : decode cc pc = .ok (.lshl, 1)) (k : Sim p l e R s m args below meth c D cy base Q o S (F0 m (pc + 1) ls (.long (x <<< (y.toInt64 &&& 63)) :: rest))) : Sim p l e R s m args below meth c D cy base Q o S (F0 m pc ls (.int y :: .long x :: rest)) := fun S2 r2 h2 H locs hP hS => lv_lshl C.ex C.by hd rfl (k S2 r2 h2 H locs hP hS)
theorem r_lshr (C : Cx p R s m args c own cc nL D cy base tS) {x : Int64} {y : Int32} (hd : decode cc pc = .ok (.lshr, 1)) (k : Sim p l e R s m args below meth c D cy base Q o S (F0 m (pc + 1) ls (.long (x >>> (y.toInt64 &&& 63)) :: rest))) : Sim p l e R s m args below meth c D cy base Q o S (F0 m pc ls (.int y :: .long x :: rest)) := fun S2 r2 h2 H locs hP hS => lv_lshr C.ex C.by hd rfl (k S2 r2 h2 H locs hP hS)
theorem r_dup (C : Cx p R s m args c own cc nL D cy base tS) {va : Value} (hd : decode cc pc = .ok (.dup, 1)) (hva : va.category = 1) (k : Sim p l e R s m args below meth c D cy base Q o S (F0 m (pc + 1) ls (va :: va :: rest))) : Sim p l e R s m args below meth c D cy base Q o S (F0 m pc ls (va :: rest)) := fun S2 r2 h2 H locs hP hS => lv_dup C.ex C.by hd hva (k S2 r2 h2 H locs hP hS)
theorem r_dup_x1 (C : Cx p R s m args c own cc nL D cy base tS) {va vb : Value} (hd : decode cc pc = .ok (.dup_x1, 1)) (hva : va.category = 1) (hvb : vb.category = 1) (k : Sim p l e R s m args below meth c D cy base Q o S (F0 m (pc + 1) ls (va :: vb :: va :: rest))) : Sim p l e R s m args below meth c D cy base Q o S (F0 m pc ls (va :: vb :: rest)) := fun S2 r2 h2 H locs hP hS => lv_dup_x1 C.ex C.by hd hva hvb (k S2 r2 h2 H locs hP hS)
theorem r_dup2_11 (C : Cx p R s m args c own cc nL D cy base tS) {va vb : Value} (hd : decode cc pc = .ok (.dup2, 1)) (hva : va.category = 1) (hvb : vb.category = 1) (k : Sim p l e R s m args below meth c D cy base Q o S (F0 m (pc + 1) ls (va :: vb :: va :: vb :: rest))) : Sim p l e R s m args below meth c D cy base Q o S (F0 m pc ls (va :: vb :: rest)) := fun S2 r2 h2 H locs hP hS => lv_dup2_11 C.ex C.by hd hva hvb (k S2 r2 h2 H locs hP hS)
theorem r_pop (C : Cx p R s m args c own cc nL D cy base tS) {va : Value} (hd : decode cc pc = .ok (.pop, 1)) (hva : va.category = 1) (k : Sim p l e R s m args below meth c D cy base Q o S (F0 m (pc + 1) ls rest)) : Sim p l e R s m args below meth c D cy base Q o S (F0 m pc ls (va :: rest)) := fun S2 r2 h2 H locs hP hS => lv_pop C.ex C.by hd hva (k S2 r2 h2 H locs hP hS)
theorem r_goto (C : Cx p R s m args c own cc nL D cy base tS) {off : Int} {tgt : Nat} (hd : decode cc pc = .ok (.goto off, 3)) (ht : (pc : Int) + off = (tgt : Int)) (k : Sim p l e R s m args below meth c D cy base Q o S (F0 m tgt ls rest)) : Sim p l e R s m args below meth c D cy base Q o S (F0 m pc ls rest) := fun S2 r2 h2 H locs hP hS => lv_goto C.ex C.by hd ht (k S2 r2 h2 H locs hP hS)
theorem r_if_eq (C : Cx p R s m args c own cc nL D cy base tS) {x : Int32} {o1 o2 : Option (St × ρ)} {off : Int} {tgt : Nat} (hd : decode cc pc = .ok (.ifCond .eq off, 3)) (ht : (pc : Int) + off = (tgt : Int)) (kt : x = 0 → Sim p l e R s m args below meth c D cy base Q o1 S (F0 m tgt ls rest)) (kf : ¬ (x = 0) → Sim p l e R s m args below meth c D cy base Q o2 S (F0 m (pc + 3) ls rest)) : Sim p l e R s m args below meth c D cy base Q (if x = 0 then o1 else o2) S (F0 m pc ls (.int x :: rest)) := by
  intro S2 r2 h2 H locs hP hS
  by_cases h : x = 0
  · rw [if_pos h] at h2
    exact lv_if_eq C.ex C.by hd ht (fun _ => kt h S2 r2 h2 H locs hP hS) (fun q => by first | exact absurd h q | exact absurd q h)
  · rw [if_neg h] at h2
    exact lv_if_eq C.ex C.by hd ht (fun q => absurd q h) (fun _ => kf h S2 r2 h2 H locs hP hS)
theorem r_icmp_eq (C : Cx p R s m args c own cc nL D cy base tS) {x y : Int32} {o1 o2 : Option (St × ρ)} {off : Int} {tgt : Nat} (hd : decode cc pc = .ok (.if_icmp .eq off, 3)) (ht : (pc : Int) + off = (tgt : Int)) (kt : x = y → Sim p l e R s m args below meth c D cy base Q o1 S (F0 m tgt ls rest)) (kf : ¬ (x = y) → Sim p l e R s m args below meth c D cy base Q o2 S (F0 m (pc + 3) ls rest)) : Sim p l e R s m args below meth c D cy base Q (if x = y then o1 else o2) S (F0 m pc ls (.int y :: .int x :: rest)) := by
  intro S2 r2 h2 H locs hP hS
  by_cases h : x = y
  · rw [if_pos h] at h2
    exact lv_icmp_eq C.ex C.by hd ht (fun _ => kt h S2 r2 h2 H locs hP hS) (fun q => by first | exact absurd h q | exact absurd q h)
  · rw [if_neg h] at h2
    exact lv_icmp_eq C.ex C.by hd ht (fun q => absurd q h) (fun _ => kf h S2 r2 h2 H locs hP hS)
theorem lc_eq (x y : Int64) : ((lg_cmp x y) = 0) ↔ (x = y) := lg_cmp_eq x y
theorem r_lcmp_eq (C : Cx p R s m args c own cc nL D cy base tS) {x y : Int64} {o1 o2 : Option (St × ρ)} {off : Int} {tgt : Nat} (hd0 : decode cc pc = .ok (.lcmp, 1)) (hd : decode cc (pc + 1) = .ok (.ifCond .eq off, 3)) (ht : ((pc + 1 : Nat) : Int) + off = (tgt : Int)) (kt : x = y → Sim p l e R s m args below meth c D cy base Q o1 S (F0 m tgt ls rest)) (kf : ¬ (x = y) → Sim p l e R s m args below meth c D cy base Q o2 S (F0 m (pc + 4) ls rest)) : Sim p l e R s m args below meth c D cy base Q (if x = y then o1 else o2) S (F0 m pc ls (.long y :: .long x :: rest)) := by
  intro S2 r2 h2 H locs hP hS
  refine W.lcmp C.ex C.by hd0 ?_
  by_cases h : x = y
  · rw [if_pos h] at h2
    exact lv_if_eq C.ex C.by hd ht (fun _ => kt h S2 r2 h2 H locs hP hS) (fun q => by first | exact absurd ((lc_eq x y).mpr h) q | exact absurd q ((lc_eq x y).mpr h))
  · rw [if_neg h] at h2
    exact lv_if_eq C.ex C.by hd ht (fun q => absurd ((lc_eq x y).mp q) h) (fun _ => kf h S2 r2 h2 H locs hP hS)
theorem r_if_ne (C : Cx p R s m args c own cc nL D cy base tS) {x : Int32} {o1 o2 : Option (St × ρ)} {off : Int} {tgt : Nat} (hd : decode cc pc = .ok (.ifCond .ne off, 3)) (ht : (pc : Int) + off = (tgt : Int)) (kt : ¬ x = 0 → Sim p l e R s m args below meth c D cy base Q o1 S (F0 m tgt ls rest)) (kf : ¬ (¬ x = 0) → Sim p l e R s m args below meth c D cy base Q o2 S (F0 m (pc + 3) ls rest)) : Sim p l e R s m args below meth c D cy base Q (if ¬ x = 0 then o1 else o2) S (F0 m pc ls (.int x :: rest)) := by
  intro S2 r2 h2 H locs hP hS
  by_cases h : ¬ x = 0
  · rw [if_pos h] at h2
    exact lv_if_ne C.ex C.by hd ht (fun _ => kt h S2 r2 h2 H locs hP hS) (fun q => by first | exact absurd h q | exact absurd q h)
  · rw [if_neg h] at h2
    exact lv_if_ne C.ex C.by hd ht (fun q => absurd q h) (fun _ => kf h S2 r2 h2 H locs hP hS)
theorem r_icmp_ne (C : Cx p R s m args c own cc nL D cy base tS) {x y : Int32} {o1 o2 : Option (St × ρ)} {off : Int} {tgt : Nat} (hd : decode cc pc = .ok (.if_icmp .ne off, 3)) (ht : (pc : Int) + off = (tgt : Int)) (kt : ¬ x = y → Sim p l e R s m args below meth c D cy base Q o1 S (F0 m tgt ls rest)) (kf : ¬ (¬ x = y) → Sim p l e R s m args below meth c D cy base Q o2 S (F0 m (pc + 3) ls rest)) : Sim p l e R s m args below meth c D cy base Q (if ¬ x = y then o1 else o2) S (F0 m pc ls (.int y :: .int x :: rest)) := by
  intro S2 r2 h2 H locs hP hS
  by_cases h : ¬ x = y
  · rw [if_pos h] at h2
    exact lv_icmp_ne C.ex C.by hd ht (fun _ => kt h S2 r2 h2 H locs hP hS) (fun q => by first | exact absurd h q | exact absurd q h)
  · rw [if_neg h] at h2
    exact lv_icmp_ne C.ex C.by hd ht (fun q => absurd q h) (fun _ => kf h S2 r2 h2 H locs hP hS)
theorem lc_ne (x y : Int64) : (¬ (lg_cmp x y) = 0) ↔ (¬ x = y) := not_congr (lg_cmp_eq x y)
theorem r_lcmp_ne (C : Cx p R s m args c own cc nL D cy base tS) {x y : Int64} {o1 o2 : Option (St × ρ)} {off : Int} {tgt : Nat} (hd0 : decode cc pc = .ok (.lcmp, 1)) (hd : decode cc (pc + 1) = .ok (.ifCond .ne off, 3)) (ht : ((pc + 1 : Nat) : Int) + off = (tgt : Int)) (kt : ¬ x = y → Sim p l e R s m args below meth c D cy base Q o1 S (F0 m tgt ls rest)) (kf : ¬ (¬ x = y) → Sim p l e R s m args below meth c D cy base Q o2 S (F0 m (pc + 4) ls rest)) : Sim p l e R s m args below meth c D cy base Q (if ¬ x = y then o1 else o2) S (F0 m pc ls (.long y :: .long x :: rest)) := by
  intro S2 r2 h2 H locs hP hS
  refine W.lcmp C.ex C.by hd0 ?_
  by_cases h : ¬ x = y
  · rw [if_pos h] at h2
    exact lv_if_ne C.ex C.by hd ht (fun _ => kt h S2 r2 h2 H locs hP hS) (fun q => by first | exact absurd ((lc_ne x y).mpr h) q | exact absurd q ((lc_ne x y).mpr h))
  · rw [if_neg h] at h2
    exact lv_if_ne C.ex C.by hd ht (fun q => absurd ((lc_ne x y).mp q) h) (fun _ => kf h S2 r2 h2 H locs hP hS)
theorem r_if_lt (C : Cx p R s m args c own cc nL D cy base tS) {x : Int32} {o1 o2 : Option (St × ρ)} {off : Int} {tgt : Nat} (hd : decode cc pc = .ok (.ifCond .lt off, 3)) (ht : (pc : Int) + off = (tgt : Int)) (kt : x < 0 → Sim p l e R s m args below meth c D cy base Q o1 S (F0 m tgt ls rest)) (kf : ¬ (x < 0) → Sim p l e R s m args below meth c D cy base Q o2 S (F0 m (pc + 3) ls rest)) : Sim p l e R s m args below meth c D cy base Q (if x < 0 then o1 else o2) S (F0 m pc ls (.int x :: rest)) := by
  intro S2 r2 h2 H locs hP hS
  by_cases h : x < 0
  · rw [if_pos h] at h2
    exact lv_if_lt C.ex C.by hd ht (fun _ => kt h S2 r2 h2 H locs hP hS) (fun q => by first | exact absurd h q | exact absurd q h)
  · rw [if_neg h] at h2
    exact lv_if_lt C.ex C.by hd ht (fun q => absurd q h) (fun _ => kf h S2 r2 h2 H locs hP hS)
theorem r_icmp_lt (C : Cx p R s m args c own cc nL D cy base tS) {x y : Int32} {o1 o2 : Option (St × ρ)} {off : Int} {tgt : Nat} (hd : decode cc pc = .ok (.if_icmp .lt off, 3)) (ht : (pc : Int) + off = (tgt : Int)) (kt : x < y → Sim p l e R s m args below meth c D cy base Q o1 S (F0 m tgt ls rest)) (kf : ¬ (x < y) → Sim p l e R s m args below meth c D cy base Q o2 S (F0 m (pc + 3) ls rest)) : Sim p l e R s m args below meth c D cy base Q (if x < y then o1 else o2) S (F0 m pc ls (.int y :: .int x :: rest)) := by
  intro S2 r2 h2 H locs hP hS
  by_cases h : x < y
  · rw [if_pos h] at h2
    exact lv_icmp_lt C.ex C.by hd ht (fun _ => kt h S2 r2 h2 H locs hP hS) (fun q => by first | exact absurd h q | exact absurd q h)
  · rw [if_neg h] at h2
    exact lv_icmp_lt C.ex C.by hd ht (fun q => absurd q h) (fun _ => kf h S2 r2 h2 H locs hP hS)
theorem lc_lt (x y : Int64) : ((lg_cmp x y) < 0) ↔ (x < y) := lg_cmp_lt x y
theorem r_lcmp_lt (C : Cx p R s m args c own cc nL D cy base tS) {x y : Int64} {o1 o2 : Option (St × ρ)} {off : Int} {tgt : Nat} (hd0 : decode cc pc = .ok (.lcmp, 1)) (hd : decode cc (pc + 1) = .ok (.ifCond .lt off, 3)) (ht : ((pc + 1 : Nat) : Int) + off = (tgt : Int)) (kt : x < y → Sim p l e R s m args below meth c D cy base Q o1 S (F0 m tgt ls rest)) (kf : ¬ (x < y) → Sim p l e R s m args below meth c D cy base Q o2 S (F0 m (pc + 4) ls rest)) : Sim p l e R s m args below meth c D cy base Q (if x < y then o1 else o2) S (F0 m pc ls (.long y :: .long x :: rest)) := by
  intro S2 r2 h2 H locs hP hS
  refine W.lcmp C.ex C.by hd0 ?_
  by_cases h : x < y
  · rw [if_pos h] at h2
    exact lv_if_lt C.ex C.by hd ht (fun _ => kt h S2 r2 h2 H locs hP hS) (fun q => by first | exact absurd ((lc_lt x y).mpr h) q | exact absurd q ((lc_lt x y).mpr h))
  · rw [if_neg h] at h2
    exact lv_if_lt C.ex C.by hd ht (fun q => absurd ((lc_lt x y).mp q) h) (fun _ => kf h S2 r2 h2 H locs hP hS)
theorem r_if_ge (C : Cx p R s m args c own cc nL D cy base tS) {x : Int32} {o1 o2 : Option (St × ρ)} {off : Int} {tgt : Nat} (hd : decode cc pc = .ok (.ifCond .ge off, 3)) (ht : (pc : Int) + off = (tgt : Int)) (kt : 0 ≤ x → Sim p l e R s m args below meth c D cy base Q o1 S (F0 m tgt ls rest)) (kf : ¬ (0 ≤ x) → Sim p l e R s m args below meth c D cy base Q o2 S (F0 m (pc + 3) ls rest)) : Sim p l e R s m args below meth c D cy base Q (if 0 ≤ x then o1 else o2) S (F0 m pc ls (.int x :: rest)) := by
  intro S2 r2 h2 H locs hP hS
  by_cases h : 0 ≤ x
  · rw [if_pos h] at h2
    exact lv_if_ge C.ex C.by hd ht (fun _ => kt h S2 r2 h2 H locs hP hS) (fun q => by first | exact absurd h q | exact absurd q h)
  · rw [if_neg h] at h2
    exact lv_if_ge C.ex C.by hd ht (fun q => absurd q h) (fun _ => kf h S2 r2 h2 H locs hP hS)
theorem r_icmp_ge (C : Cx p R s m args c own cc nL D cy base tS) {x y : Int32} {o1 o2 : Option (St × ρ)} {off : Int} {tgt : Nat} (hd : decode cc pc = .ok (.if_icmp .ge off, 3)) (ht : (pc : Int) + off = (tgt : Int)) (kt : y ≤ x → Sim p l e R s m args below meth c D cy base Q o1 S (F0 m tgt ls rest)) (kf : ¬ (y ≤ x) → Sim p l e R s m args below meth c D cy base Q o2 S (F0 m (pc + 3) ls rest)) : Sim p l e R s m args below meth c D cy base Q (if y ≤ x then o1 else o2) S (F0 m pc ls (.int y :: .int x :: rest)) := by
  intro S2 r2 h2 H locs hP hS
  by_cases h : y ≤ x
  · rw [if_pos h] at h2
    exact lv_icmp_ge C.ex C.by hd ht (fun _ => kt h S2 r2 h2 H locs hP hS) (fun q => by first | exact absurd h q | exact absurd q h)
  · rw [if_neg h] at h2
    exact lv_icmp_ge C.ex C.by hd ht (fun q => absurd q h) (fun _ => kf h S2 r2 h2 H locs hP hS)
theorem lc_ge (x y : Int64) : (0 ≤ (lg_cmp x y)) ↔ (y ≤ x) := lg_cmp_ge x y
theorem r_lcmp_ge (C : Cx p R s m args c own cc nL D cy base tS) {x y : Int64} {o1 o2 : Option (St × ρ)} {off : Int} {tgt : Nat} (hd0 : decode cc pc = .ok (.lcmp, 1)) (hd : decode cc (pc + 1) = .ok (.ifCond .ge off, 3)) (ht : ((pc + 1 : Nat) : Int) + off = (tgt : Int)) (kt : y ≤ x → Sim p l e R s m args below meth c D cy base Q o1 S (F0 m tgt ls rest)) (kf : ¬ (y ≤ x) → Sim p l e R s m args below meth c D cy base Q o2 S (F0 m (pc + 4) ls rest)) : Sim p l e R s m args below meth c D cy base Q (if y ≤ x then o1 else o2) S (F0 m pc ls (.long y :: .long x :: rest)) := by
  intro S2 r2 h2 H locs hP hS
  refine W.lcmp C.ex C.by hd0 ?_
  by_cases h : y ≤ x
  · rw [if_pos h] at h2
    exact lv_if_ge C.ex C.by hd ht (fun _ => kt h S2 r2 h2 H locs hP hS) (fun q => by first | exact absurd ((lc_ge x y).mpr h) q | exact absurd q ((lc_ge x y).mpr h))
  · rw [if_neg h] at h2
    exact lv_if_ge C.ex C.by hd ht (fun q => absurd ((lc_ge x y).mp q) h) (fun _ => kf h S2 r2 h2 H locs hP hS)
theorem r_if_gt (C : Cx p R s m args c own cc nL D cy base tS) {x : Int32} {o1 o2 : Option (St × ρ)} {off : Int} {tgt : Nat} (hd : decode cc pc = .ok (.ifCond .gt off, 3)) (ht : (pc : Int) + off = (tgt : Int)) (kt : 0 < x → Sim p l e R s m args below meth c D cy base Q o1 S (F0 m tgt ls rest)) (kf : ¬ (0 < x) → Sim p l e R s m args below meth c D cy base Q o2 S (F0 m (pc + 3) ls rest)) : Sim p l e R s m args below meth c D cy base Q (if 0 < x then o1 else o2) S (F0 m pc ls (.int x :: rest)) := by
  intro S2 r2 h2 H locs hP hS
  by_cases h : 0 < x
  · rw [if_pos h] at h2
    exact lv_if_gt C.ex C.by hd ht (fun _ => kt h S2 r2 h2 H locs hP hS) (fun q => by first | exact absurd h q | exact absurd q h)
  · rw [if_neg h] at h2
    exact lv_if_gt C.ex C.by hd ht (fun q => absurd q h) (fun _ => kf h S2 r2 h2 H locs hP hS)
theorem r_icmp_gt (C : Cx p R s m args c own cc nL D cy base tS) {x y : Int32} {o1 o2 : Option (St × ρ)} {off : Int} {tgt : Nat} (hd : decode cc pc = .ok (.if_icmp .gt off, 3)) (ht : (pc : Int) + off = (tgt : Int)) (kt : y < x → Sim p l e R s m args below meth c D cy base Q o1 S (F0 m tgt ls rest)) (kf : ¬ (y < x) → Sim p l e R s m args below meth c D cy base Q o2 S (F0 m (pc + 3) ls rest)) : Sim p l e R s m args below meth c D cy base Q (if y < x then o1 else o2) S (F0 m pc ls (.int y :: .int x :: rest)) := by
  intro S2 r2 h2 H locs hP hS
  by_cases h : y < x
  · rw [if_pos h] at h2
    exact lv_icmp_gt C.ex C.by hd ht (fun _ => kt h S2 r2 h2 H locs hP hS) (fun q => by first | exact absurd h q | exact absurd q h)
  · rw [if_neg h] at h2
    exact lv_icmp_gt C.ex C.by hd ht (fun q => absurd q h) (fun _ => kf h S2 r2 h2 H locs hP hS)
theorem lc_gt (x y : Int64) : (0 < (lg_cmp x y)) ↔ (y < x) := lg_cmp_gt x y
theorem r_lcmp_gt (C : Cx p R s m args c own cc nL D cy base tS) {x y : Int64} {o1 o2 : Option (St × ρ)} {off : Int} {tgt : Nat} (hd0 : decode cc pc = .ok (.lcmp, 1)) (hd : decode cc (pc + 1) = .ok (.ifCond .gt off, 3)) (ht : ((pc + 1 : Nat) : Int) + off = (tgt : Int)) (kt : y < x → Sim p l e R s m args below meth c D cy base Q o1 S (F0 m tgt ls rest)) (kf : ¬ (y < x) → Sim p l e R s m args below meth c D cy base Q o2 S (F0 m (pc + 4) ls rest)) : Sim p l e R s m args below meth c D cy base Q (if y < x then o1 else o2) S (F0 m pc ls (.long y :: .long x :: rest)) := by
  intro S2 r2 h2 H locs hP hS
  refine W.lcmp C.ex C.by hd0 ?_
  by_cases h : y < x
  · rw [if_pos h] at h2
    exact lv_if_gt C.ex C.by hd ht (fun _ => kt h S2 r2 h2 H locs hP hS) (fun q => by first | exact absurd ((lc_gt x y).mpr h) q | exact absurd q ((lc_gt x y).mpr h))
  · rw [if_neg h] at h2
    exact lv_if_gt C.ex C.by hd ht (fun q => absurd ((lc_gt x y).mp q) h) (fun _ => kf h S2 r2 h2 H locs hP hS)
theorem r_if_le (C : Cx p R s m args c own cc nL D cy base tS) {x : Int32} {o1 o2 : Option (St × ρ)} {off : Int} {tgt : Nat} (hd : decode cc pc = .ok (.ifCond .le off, 3)) (ht : (pc : Int) + off = (tgt : Int)) (kt : x ≤ 0 → Sim p l e R s m args below meth c D cy base Q o1 S (F0 m tgt ls rest)) (kf : ¬ (x ≤ 0) → Sim p l e R s m args below meth c D cy base Q o2 S (F0 m (pc + 3) ls rest)) : Sim p l e R s m args below meth c D cy base Q (if x ≤ 0 then o1 else o2) S (F0 m pc ls (.int x :: rest)) := by
  intro S2 r2 h2 H locs hP hS
  by_cases h : x ≤ 0
  · rw [if_pos h] at h2
    exact lv_if_le C.ex C.by hd ht (fun _ => kt h S2 r2 h2 H locs hP hS) (fun q => by first | exact absurd h q | exact absurd q h)
  · rw [if_neg h] at h2
    exact lv_if_le C.ex C.by hd ht (fun q => absurd q h) (fun _ => kf h S2 r2 h2 H locs hP hS)
theorem r_icmp_le (C : Cx p R s m args c own cc nL D cy base tS) {x y : Int32} {o1 o2 : Option (St × ρ)} {off : Int} {tgt : Nat} (hd : decode cc pc = .ok (.if_icmp .le off, 3)) (ht : (pc : Int) + off = (tgt : Int)) (kt : x ≤ y → Sim p l e R s m args below meth c D cy base Q o1 S (F0 m tgt ls rest)) (kf : ¬ (x ≤ y) → Sim p l e R s m args below meth c D cy base Q o2 S (F0 m (pc + 3) ls rest)) : Sim p l e R s m args below meth c D cy base Q (if x ≤ y then o1 else o2) S (F0 m pc ls (.int y :: .int x :: rest)) := by
  intro S2 r2 h2 H locs hP hS
  by_cases h : x ≤ y
  · rw [if_pos h] at h2
    exact lv_icmp_le C.ex C.by hd ht (fun _ => kt h S2 r2 h2 H locs hP hS) (fun q => by first | exact absurd h q | exact absurd q h)
  · rw [if_neg h] at h2
    exact lv_icmp_le C.ex C.by hd ht (fun q => absurd q h) (fun _ => kf h S2 r2 h2 H locs hP hS)
theorem lc_le (x y : Int64) : ((lg_cmp x y) ≤ 0) ↔ (x ≤ y) := lg_cmp_le x y
theorem r_lcmp_le (C : Cx p R s m args c own cc nL D cy base tS) {x y : Int64} {o1 o2 : Option (St × ρ)} {off : Int} {tgt : Nat} (hd0 : decode cc pc = .ok (.lcmp, 1)) (hd : decode cc (pc + 1) = .ok (.ifCond .le off, 3)) (ht : ((pc + 1 : Nat) : Int) + off = (tgt : Int)) (kt : x ≤ y → Sim p l e R s m args below meth c D cy base Q o1 S (F0 m tgt ls rest)) (kf : ¬ (x ≤ y) → Sim p l e R s m args below meth c D cy base Q o2 S (F0 m (pc + 4) ls rest)) : Sim p l e R s m args below meth c D cy base Q (if x ≤ y then o1 else o2) S (F0 m pc ls (.long y :: .long x :: rest)) := by
  intro S2 r2 h2 H locs hP hS
  refine W.lcmp C.ex C.by hd0 ?_
  by_cases h : x ≤ y
  · rw [if_pos h] at h2
    exact lv_if_le C.ex C.by hd ht (fun _ => kt h S2 r2 h2 H locs hP hS) (fun q => by first | exact absurd ((lc_le x y).mpr h) q | exact absurd q ((lc_le x y).mpr h))
  · rw [if_neg h] at h2
    exact lv_if_le C.ex C.by hd ht (fun q => absurd ((lc_le x y).mp q) h) (fun _ => kf h S2 r2 h2 H locs hP hS)
end SIM
end
section
section SIM2
variable {p : Program} {l : Launch} {e : Env} {R : Room} {s : State} {m : MethodId} {args : Array Value} {below : List Frame} {meth : Method} {c : Code} {D : va_G} {cy : Nat → ClassId} {base tS : Nat} {cc : ByteArray} {own : String} {nL pc : Nat} {ls : Array Slot} {rest : List Value} {S : St} {ρ σ : Type} {Q : St → ρ → State → Prop} {o : Option (St × ρ)}
theorem setI_ne {S : St} {k j a : Nat} {v : Int32} (h : a ≠ k) : (setI S k j v).1 a = S.1 a := by funext b; simp [setI, h]
theorem setJ_ne {S : St} {k j a : Nat} {v : Int64} (h : a ≠ k) : (setJ S k j v).2 a = S.2 a := by funext b; simp [setJ, h]
theorem setR_ne {S : St} {k a : Nat} {f : Nat → Int32} (h : a ≠ k) : (setR S k f).1 a = S.1 a := by funext b; simp [setR, h]
theorem setL_ne {S : St} {k a : Nat} {f : Nat → Int64} (h : a ≠ k) : (setL S k f).2 a = S.2 a := by funext b; simp [setL, h]
theorem setI_row {S : St} {k j : Nat} {v : Int32} : (setI S k j v).1 k = upd (S.1 k) j v := by funext b; simp only [setI, upd, true_and]
theorem setJ_row {S : St} {k j : Nat} {v : Int64} : (setJ S k j v).2 k = vp_updL (S.2 k) j v := by funext b; simp only [setJ, vp_updL, true_and]
theorem setR_row {S : St} {k : Nat} {f : Nat → Int32} : (setR S k f).1 k = f := by funext b; simp [setR]
theorem setL_row {S : St} {k : Nat} {f : Nat → Int64} : (setL S k f).2 k = f := by funext b; simp [setL]
theorem r_get (C : Cx p R s m args c own cc nL D cy base tS) {k ci N : Nat} {Cn ref : String} {T : u_T} {fs : List Value} {index : Nat} (hr : rend cy base S k = .inr (ci, fs)) (hk : k < 199) (hin : ∀ w ∈ u_ws Cn T N, w ∈ gw) (hc : vwCl[ci]? = some (Cn, T, N)) (j : Nat) (hj : j < N) (hw : Cond.fieldLink own index ref (T j).2.1 (T j).2.2.1 ∈ gw) (hsame : (T j).1 = ref) {v : Value} (hv : fs[j]? = some v) (hd : decode cc pc = .ok (.getfield index, 3)) (kk : Sim p l e R s m args below meth c D cy base Q o S (F0 m (pc + 3) ls (v :: rest))) : Sim p l e R s m args below meth c D cy base Q o S (F0 m pc ls (.ref (base + k) :: rest)) :=
  fun S2 r2 h2 H locs hP hS => va_get C.ex C.by C.ts hin C.ow C.K hP k ((wget cy base S hk).trans (by rw [hr])) hc j hj (C.ts _ hw) (fun x hx => by rw [← hsame]; exact hx) hv hd (kk S2 r2 h2 H locs hP hS)
theorem r_getN (C : Cx p R s m args c own cc nL D cy base tS) {k ci N : Nat} {Cn ref host : String} {T : u_T} {fs : List Value} {index : Nat} (hr : rend cy base S k = .inr (ci, fs)) (hk : k < 199) (hin : ∀ w ∈ u_ws Cn T N, w ∈ gw) (hc : vwCl[ci]? = some (Cn, T, N)) (j : Nat) (hj : j < N) (hw : Cond.fieldLinkNest own index ref (T j).2.1 (T j).2.2.1 host ∈ nw) (hsame : (T j).1 = ref) {v : Value} (hv : fs[j]? = some v) (hd : decode cc pc = .ok (.getfield index, 3)) (kk : Sim p l e R s m args below meth c D cy base Q o S (F0 m (pc + 3) ls (v :: rest))) : Sim p l e R s m args below meth c D cy base Q o S (F0 m pc ls (.ref (base + k) :: rest)) :=
  fun S2 r2 h2 H locs hP hS => va_getN C.ex C.by C.ts hin C.ow C.K hP k ((wget cy base S hk).trans (by rw [hr])) hc j hj (va_Nw.use rfl (C.nest hw)) (fun x hx => by rw [← hsame]; exact hx) hv hd (kk S2 r2 h2 H locs hP hS)
theorem r_put (C : Cx p R s m args c own cc nL D cy base tS) {k ci N : Nat} {Cn ref : String} {T : u_T} {ty0 : Nat → FieldType} {fs : List Value} {index : Nat} {S1 : St} {b : St → Option (St × ρ)} {v : Value} (hr : rend cy base S k = .inr (ci, fs)) (hk : k < 199) (j : Nat) (hr2 : rend cy base S1 k = .inr (ci, fs.set j v)) (hne : ∀ a, a ≠ k → rend cy base S1 a = rend cy base S a) (hin : ∀ w ∈ u_ws Cn T N, w ∈ gw) (hc : vwCl[ci]? = some (Cn, T, N)) (hty : ∀ k, k < N → parseFieldDescriptor (T k).2.2.1 = some (ty0 k)) (hnm : ∀ a, a < N → ∀ b, b < N → a ≠ b → (T a).2.1 ≠ (T b).2.1) (hj : j < N) (hw : Cond.fieldLink own index ref (T j).2.1 (T j).2.2.1 ∈ gw) (hsame : (T j).1 = ref) (hfin : (T j).2.2.2 = false) {ty : FieldType} (hd1 : parseFieldDescriptor (T j).2.2.1 = some ty) (hn : narrow ty v = v) (hfit : fits ty v = true) (hl : j < fs.length) (hd : decode cc pc = .ok (.putfield index, 3)) (kk : ∀ S1 : St, Sim p l e R s m args below meth c D cy base Q (b S1) S1 (F0 m (pc + 3) ls rest)) : Sim p l e R s m args below meth c D cy base Q (lt S1 b) S (F0 m pc ls (v :: .ref (base + k) :: rest)) :=
  fun S2 r2 h2 H locs hP hS => va_put C.ex C.by C.ts hin ty0 hty hnm C.ow C.K hP (wD cy base S) hS k ((wget cy base S hk).trans (by rw [hr])) hc j hj (C.ts _ hw) (fun x hx => by rw [← hsame]; exact hx) hfin hd1 hn hfit hl hd (fun H1 locs1 hP1 hD1 hS1 => kk S1 S2 r2 h2 H1 locs1 (by rw [wset hk hr2 hne] at hP1; exact hP1) hS1)
theorem r_putN (C : Cx p R s m args c own cc nL D cy base tS) {k ci N : Nat} {Cn ref host : String} {T : u_T} {ty0 : Nat → FieldType} {fs : List Value} {index : Nat} {S1 : St} {b : St → Option (St × ρ)} {v : Value} (hr : rend cy base S k = .inr (ci, fs)) (hk : k < 199) (j : Nat) (hr2 : rend cy base S1 k = .inr (ci, fs.set j v)) (hne : ∀ a, a ≠ k → rend cy base S1 a = rend cy base S a) (hin : ∀ w ∈ u_ws Cn T N, w ∈ gw) (hc : vwCl[ci]? = some (Cn, T, N)) (hty : ∀ k, k < N → parseFieldDescriptor (T k).2.2.1 = some (ty0 k)) (hnm : ∀ a, a < N → ∀ b, b < N → a ≠ b → (T a).2.1 ≠ (T b).2.1) (hj : j < N) (hw : Cond.fieldLinkNest own index ref (T j).2.1 (T j).2.2.1 host ∈ nw) (hsame : (T j).1 = ref) (hfin : (T j).2.2.2 = false) {ty : FieldType} (hd1 : parseFieldDescriptor (T j).2.2.1 = some ty) (hn : narrow ty v = v) (hfit : fits ty v = true) (hl : j < fs.length) (hd : decode cc pc = .ok (.putfield index, 3)) (kk : ∀ S1 : St, Sim p l e R s m args below meth c D cy base Q (b S1) S1 (F0 m (pc + 3) ls rest)) : Sim p l e R s m args below meth c D cy base Q (lt S1 b) S (F0 m pc ls (v :: .ref (base + k) :: rest)) :=
  fun S2 r2 h2 H locs hP hS => va_putN C.ex C.by C.ts hin ty0 hty hnm C.ow C.K hP (wD cy base S) hS k ((wget cy base S hk).trans (by rw [hr])) hc j hj (va_Nw.use rfl (C.nest hw)) (fun x hx => by rw [← hsame]; exact hx) hfin hd1 hn hfit hl hd (fun H1 locs1 hP1 hD1 hS1 => kk S1 S2 r2 h2 H1 locs1 (by rw [wset hk hr2 hne] at hP1; exact hP1) hS1)
theorem ck_in {σ : Type} {i : Int32} {n : Nat} {o : Option σ} {q : σ} (h : ck i n o = some q) : vp_in i n ∧ o = some q := by
  unfold ck at h
  split at h
  · cases h
  · next hn => exact ⟨hn, h⟩
theorem r_iald (C : Cx p R s m args c own cc nL D cy base tS) {k n : Nat} {i : Int32} (t : cls k = 12 ∧ len k = n) (hd : decode cc pc = .ok (.iaload, 1)) (kk : Sim p l e R s m args below meth c D cy base Q o S (F0 m (pc + 1) ls (.int (S.1 k (ix i)) :: rest))) : Sim p l e R s m args below meth c D cy base Q (ck i n o) S (F0 m pc ls (.int i :: .ref (base + k) :: rest)) :=
  fun S2 r2 h2 H locs hP hS => va_iald C.ex C.by C.K hP k 0 ((wget cy base S (cls_lt t.1 (by decide))).trans (by rw [rd_12 t])) rfl (ck_in h2).1 hd (kk S2 r2 (ck_in h2).2 H locs hP hS)
theorem r_lald (C : Cx p R s m args c own cc nL D cy base tS) {k n : Nat} {i : Int32} (t : cls k = 13 ∧ len k = n) (hd : decode cc pc = .ok (.laload, 1)) (kk : Sim p l e R s m args below meth c D cy base Q o S (F0 m (pc + 1) ls (.long (S.2 k (ix i)) :: rest))) : Sim p l e R s m args below meth c D cy base Q (ck i n o) S (F0 m pc ls (.int i :: .ref (base + k) :: rest)) :=
  fun S2 r2 h2 H locs hP hS => va_lald C.ex C.by C.K hP k 1 ((wget cy base S (cls_lt t.1 (by decide))).trans (by rw [rd_13 t])) rfl (ck_in h2).1 hd (kk S2 r2 (ck_in h2).2 H locs hP hS)
theorem r_zald (C : Cx p R s m args c own cc nL D cy base tS) {k n : Nat} {i : Int32} (t : cls k = 14 ∧ len k = n) (hd : decode cc pc = .ok (.baload, 1)) (kk : Sim p l e R s m args below meth c D cy base Q o S (F0 m (pc + 1) ls (.int (S.1 k (ix i)) :: rest))) : Sim p l e R s m args below meth c D cy base Q (ck i n o) S (F0 m pc ls (.int i :: .ref (base + k) :: rest)) :=
  fun S2 r2 h2 H locs hP hS => va_zald C.ex C.by C.K hP k 2 ((wget cy base S (cls_lt t.1 (by decide))).trans (by rw [rd_14 t])) rfl (ck_in h2).1 hd (kk S2 r2 (ck_in h2).2 H locs hP hS)
theorem r_aaldC (C : Cx p R s m args c own cc nL D cy base tS) {k n : Nat} {i : Int32} {cA : ClassId} {ty : FieldType} {tq : Nat} (hk : k < 199) (hr : rend cy base S k = .inl (cA, n, .inr (.inr (.inr (.inr (fun i => some (base + rf k i))))))) (ht : (tys cy)[tq]? = some (cA, ty)) (hty : ty.isReference = true) (hd : decode cc pc = .ok (.aaload, 1)) (kk : Sim p l e R s m args below meth c D cy base Q o S (F0 m (pc + 1) ls (.ref (base + rf k (ix i)) :: rest))) : Sim p l e R s m args below meth c D cy base Q (ck i n o) S (F0 m pc ls (.int i :: .ref (base + k) :: rest)) := by
  intro S2 r2 h2 H locs hP hS
  obtain ⟨hin, ho⟩ := ck_in h2
  have h1 := hP k _ (wget cy base S hk)
  rw [hr] at h1
  have hcell : H[base + k]? = some (arrV cA n (fun j => va_rf (some (base + rf k j)))) := h1
  have hsz : (arrV cA n (fun j => va_rf (some (base + rf k j)))).slots.size = n := by simp [arrV]
  have hin2 : ¬ (i < 0 ∨ (arrV cA n (fun j => va_rf (some (base + rf k j)))).slots.size ≤ i.toNatClampNeg) := by rw [hsz]; exact hin
  refine W.aald C.ex C.by hcell ((C.K.2 _ _ ht).1 _ _) hty (by intro h; cases h) hin2 (v := .ref (base + rf k (ix i))) ?_ rfl rfl hd (kk S2 r2 ho H locs hP hS)
  have hlt : i.toNatClampNeg < n := by
    have := not_or.mp hin
    omega
  simp [arrV, hlt, va_rf]
theorem r_aald15 (C : Cx p R s m args c own cc nL D cy base tS) {k n : Nat} {i : Int32} (t : cls k = 15 ∧ len k = n) (hd : decode cc pc = .ok (.aaload, 1)) (kk : Sim p l e R s m args below meth c D cy base Q o S (F0 m (pc + 1) ls (.ref (base + rf k (ix i)) :: rest))) : Sim p l e R s m args below meth c D cy base Q (ck i n o) S (F0 m pc ls (.int i :: .ref (base + k) :: rest)) := r_aaldC C (cls_lt t.1 (by decide)) (rd_15 t) (tq := 3) rfl rfl hd kk
theorem r_aald16 (C : Cx p R s m args c own cc nL D cy base tS) {k n : Nat} {i : Int32} (t : cls k = 16 ∧ len k = n) (hd : decode cc pc = .ok (.aaload, 1)) (kk : Sim p l e R s m args below meth c D cy base Q o S (F0 m (pc + 1) ls (.ref (base + rf k (ix i)) :: rest))) : Sim p l e R s m args below meth c D cy base Q (ck i n o) S (F0 m pc ls (.int i :: .ref (base + k) :: rest)) := r_aaldC C (cls_lt t.1 (by decide)) (rd_16 t) (tq := 4) rfl rfl hd kk
theorem r_aald17 (C : Cx p R s m args c own cc nL D cy base tS) {k n : Nat} {i : Int32} (t : cls k = 17 ∧ len k = n) (hd : decode cc pc = .ok (.aaload, 1)) (kk : Sim p l e R s m args below meth c D cy base Q o S (F0 m (pc + 1) ls (.ref (base + rf k (ix i)) :: rest))) : Sim p l e R s m args below meth c D cy base Q (ck i n o) S (F0 m pc ls (.int i :: .ref (base + k) :: rest)) := r_aaldC C (cls_lt t.1 (by decide)) (rd_17 t) (tq := 5) rfl rfl hd kk
theorem r_aald18 (C : Cx p R s m args c own cc nL D cy base tS) {k n : Nat} {i : Int32} (t : cls k = 18 ∧ len k = n) (hd : decode cc pc = .ok (.aaload, 1)) (kk : Sim p l e R s m args below meth c D cy base Q o S (F0 m (pc + 1) ls (.ref (base + rf k (ix i)) :: rest))) : Sim p l e R s m args below meth c D cy base Q (ck i n o) S (F0 m pc ls (.int i :: .ref (base + k) :: rest)) := r_aaldC C (cls_lt t.1 (by decide)) (rd_18 t) (tq := 6) rfl rfl hd kk
theorem rI_ne {k j : Nat} {v : Int32} : ∀ a, a ≠ k → rend cy base (setI S k j v) a = rend cy base S a := fun a h => rend_congr (setI_ne h) rfl
theorem rJ_ne {k j : Nat} {v : Int64} : ∀ a, a ≠ k → rend cy base (setJ S k j v) a = rend cy base S a := fun a h => rend_congr rfl (setJ_ne h)
theorem rR_ne {k : Nat} {f : Nat → Int32} : ∀ a, a ≠ k → rend cy base (setR S k f) a = rend cy base S a := fun a h => rend_congr (setR_ne h) rfl
theorem rL_ne {k : Nat} {f : Nat → Int64} : ∀ a, a ≠ k → rend cy base (setL S k f) a = rend cy base S a := fun a h => rend_congr rfl (setL_ne h)
theorem r_iast (C : Cx p R s m args c own cc nL D cy base tS) {k n : Nat} {i x : Int32} {b : St → Option (St × ρ)} (t : cls k = 12 ∧ len k = n) (hd : decode cc pc = .ok (.iastore, 1)) (kk : ∀ S1 : St, Sim p l e R s m args below meth c D cy base Q (b S1) S1 (F0 m (pc + 1) ls rest)) : Sim p l e R s m args below meth c D cy base Q (ck i n (lt (setI S k (ix i) x) b)) S (F0 m pc ls (.int x :: .int i :: .ref (base + k) :: rest)) :=
  fun S2 r2 h2 H locs hP hS => va_iast C.ex C.by C.K hP (wD cy base S) hS k 0 ((wget cy base S (cls_lt t.1 (by decide))).trans (by rw [rd_12 t])) rfl (ck_in h2).1 hd (fun H1 locs1 hP1 _ hS1 => kk _ S2 r2 (ck_in h2).2 H1 locs1 (by rw [wset (S' := setI S k (ix i) x) (cls_lt t.1 (by decide)) (by rw [rd_12 t, setI_row]) rI_ne] at hP1; exact hP1) hS1)
theorem r_last (C : Cx p R s m args c own cc nL D cy base tS) {k n : Nat} {i : Int32} {x : Int64} {b : St → Option (St × ρ)} (t : cls k = 13 ∧ len k = n) (hd : decode cc pc = .ok (.lastore, 1)) (kk : ∀ S1 : St, Sim p l e R s m args below meth c D cy base Q (b S1) S1 (F0 m (pc + 1) ls rest)) : Sim p l e R s m args below meth c D cy base Q (ck i n (lt (setJ S k (ix i) x) b)) S (F0 m pc ls (.long x :: .int i :: .ref (base + k) :: rest)) :=
  fun S2 r2 h2 H locs hP hS => va_last C.ex C.by C.K hP (wD cy base S) hS k 1 ((wget cy base S (cls_lt t.1 (by decide))).trans (by rw [rd_13 t])) rfl (ck_in h2).1 hd (fun H1 locs1 hP1 _ hS1 => kk _ S2 r2 (ck_in h2).2 H1 locs1 (by rw [wset (S' := setJ S k (ix i) x) (cls_lt t.1 (by decide)) (by rw [rd_13 t, setJ_row]) rJ_ne] at hP1; exact hP1) hS1)
theorem r_zast (C : Cx p R s m args c own cc nL D cy base tS) {k n : Nat} {i x : Int32} {b : St → Option (St × ρ)} (t : cls k = 14 ∧ len k = n) (hx : vp_nar .boolean x = x) (hd : decode cc pc = .ok (.bastore, 1)) (kk : ∀ S1 : St, Sim p l e R s m args below meth c D cy base Q (b S1) S1 (F0 m (pc + 1) ls rest)) : Sim p l e R s m args below meth c D cy base Q (ck i n (lt (setI S k (ix i) x) b)) S (F0 m pc ls (.int x :: .int i :: .ref (base + k) :: rest)) :=
  fun S2 r2 h2 H locs hP hS => va_zast C.ex C.by C.K hP (wD cy base S) hS k 2 ((wget cy base S (cls_lt t.1 (by decide))).trans (by rw [rd_14 t])) rfl (ck_in h2).1 hd (fun H1 locs1 hP1 _ hS1 => kk _ S2 r2 (ck_in h2).2 H1 locs1 (by rw [hx, wset (S' := setI S k (ix i) x) (cls_lt t.1 (by decide)) (by rw [rd_14 t, setI_row]) rI_ne] at hP1; exact hP1) hS1)
theorem gu_in {σ : Type} {c : Prop} [Decidable c] {o : Option σ} {q : σ} (h : gu c o = some q) : c ∧ o = some q := by
  unfold gu at h
  split at h
  · next hc => exact ⟨hc, h⟩
  · cases h
abbrev cpOk (sp dp n : Int32) (ns nd : Nat) : Prop := ¬ sp < 0 ∧ ¬ dp < 0 ∧ ¬ n < 0 ∧ ix sp + ix n ≤ ns ∧ ix dp + ix n ≤ nd
theorem r_cpyI (C : Cx p R s m args c own cc nL D cy base tS) {ks kd ns nd index : Nat} {sp dp n : Int32} {b : St → Option (St × ρ)} (t0 : cls ks = 12 ∧ len ks = ns) (t1 : cls kd = 12 ∧ len kd = nd) (hl : ls.size = nL) (w1 : Cond.methodLink own index arraycopyName ∈ gw) (w2 : Cond.native arraycopyName ∈ gw) (w3 : Cond.static arraycopyName ∈ gw) (w4 : Cond.initialized "java/lang/System" ∈ gw) (hR : 1 ≤ R.frames) (hR2 : (rest.map fun v => v.category).sum + (nativeFrameWords "java/lang/System" "arraycopy" 5 + 11) ≤ R.locals) (hd : decode cc pc = .ok (.invokestatic index, 3)) (kk : ∀ S1 : St, Sim p l e R s m args below meth c D cy base Q (b S1) S1 (F0 m (pc + 3) ls rest)) : Sim p l e R s m args below meth c D cy base Q (gu (cpOk sp dp n ns nd) (lt (setR S kd (va_cpy (S.1 ks) (S.1 kd) (ix sp) (ix dp) (ix n))) b)) S (F0 m pc ls (.int n :: .int dp :: .ref (base + kd) :: .int sp :: .ref (base + ks) :: rest)) :=
  fun S2 r2 h2 H locs hP hS => va_copyi C.ex C.by (C.2.2.1.trans hl.symm) C.ow (C.ts _ w1) (C.ts _ w2) (C.ts _ w3) (C.ts _ w4) C.K hP (wD cy base S) hS ks kd 0 0 ((wget cy base S (cls_lt t0.1 (by decide))).trans (by rw [rd_12 t0])) ((wget cy base S (cls_lt t1.1 (by decide))).trans (by rw [rd_12 t1])) (ty := .int) rfl rfl rfl (gu_in h2).1.1 (gu_in h2).1.2.1 (gu_in h2).1.2.2.1 (gu_in h2).1.2.2.2.1 (gu_in h2).1.2.2.2.2 (fun _ _ => rfl) hR hR2 hd (fun H1 locs1 hP1 _ hS1 => kk _ S2 r2 (gu_in h2).2 H1 locs1 (by rw [wset (S' := setR S kd (va_cpy (S.1 ks) (S.1 kd) (ix sp) (ix dp) (ix n))) (cls_lt t1.1 (by decide)) (by rw [rd_12 t1, setR_row]) rR_ne] at hP1; exact hP1) hS1)
theorem r_cpyJ (C : Cx p R s m args c own cc nL D cy base tS) {ks kd ns nd index : Nat} {sp dp n : Int32} {b : St → Option (St × ρ)} (t0 : cls ks = 13 ∧ len ks = ns) (t1 : cls kd = 13 ∧ len kd = nd) (hl : ls.size = nL) (w1 : Cond.methodLink own index arraycopyName ∈ gw) (w2 : Cond.native arraycopyName ∈ gw) (w3 : Cond.static arraycopyName ∈ gw) (w4 : Cond.initialized "java/lang/System" ∈ gw) (hR : 1 ≤ R.frames) (hR2 : (rest.map fun v => v.category).sum + (nativeFrameWords "java/lang/System" "arraycopy" 5 + 11) ≤ R.locals) (hd : decode cc pc = .ok (.invokestatic index, 3)) (kk : ∀ S1 : St, Sim p l e R s m args below meth c D cy base Q (b S1) S1 (F0 m (pc + 3) ls rest)) : Sim p l e R s m args below meth c D cy base Q (gu (cpOk sp dp n ns nd) (lt (setL S kd (va_cpy (S.2 ks) (S.2 kd) (ix sp) (ix dp) (ix n))) b)) S (F0 m pc ls (.int n :: .int dp :: .ref (base + kd) :: .int sp :: .ref (base + ks) :: rest)) :=
  fun S2 r2 h2 H locs hP hS => va_copyl C.ex C.by (C.2.2.1.trans hl.symm) C.ow (C.ts _ w1) (C.ts _ w2) (C.ts _ w3) (C.ts _ w4) C.K hP (wD cy base S) hS ks kd 1 1 ((wget cy base S (cls_lt t0.1 (by decide))).trans (by rw [rd_13 t0])) ((wget cy base S (cls_lt t1.1 (by decide))).trans (by rw [rd_13 t1])) (ty := .long) rfl rfl rfl (gu_in h2).1.1 (gu_in h2).1.2.1 (gu_in h2).1.2.2.1 (gu_in h2).1.2.2.2.1 (gu_in h2).1.2.2.2.2 (fun _ _ => rfl) hR hR2 hd (fun H1 locs1 hP1 _ hS1 => kk _ S2 r2 (gu_in h2).2 H1 locs1 (by rw [wset (S' := setL S kd (va_cpy (S.2 ks) (S.2 kd) (ix sp) (ix dp) (ix n))) (cls_lt t1.1 (by decide)) (by rw [rd_13 t1, setL_row]) rL_ne] at hP1; exact hP1) hS1)
theorem r_max (C : Cx p R s m args c own cc nL D cy base tS) {index : Nat} {x y : Int32} (hl : ls.size = nL) (w1 : Cond.methodLink own index Lib.Math.max.name ∈ gw) (w2 : Cond.static Lib.Math.max.name ∈ gw) (w3 : Cond.initialized "java/lang/Math" ∈ gw) (w4 : Cond.code Lib.Math.max.name Lib.Math.max.code 2 (some .int) ∈ gw) (hR : 1 ≤ R.frames) (hR2 : (rest.map fun v => v.category).sum + 13 ≤ R.locals) (hd : decode cc pc = .ok (.invokestatic index, 3)) (kk : Sim p l e R s m args below meth c D cy base Q o S (F0 m (pc + 3) ls (.int (if x < y then y else x) :: rest))) : Sim p l e R s m args below meth c D cy base Q o S (F0 m pc ls (.int y :: .int x :: rest)) :=
  fun S2 r2 h2 H locs hP hS => va_mmax C.ex C.by (C.2.2.1.trans hl.symm) C.ow (C.ts _ w1) (C.ts _ w2) (C.ts _ w3) (C.ts _ w4) hR hR2 (Nat.zero_le _) (Nat.zero_le _) hd (kk S2 r2 h2 H locs hP hS)
theorem r_min (C : Cx p R s m args c own cc nL D cy base tS) {index : Nat} {x y : Int32} (hl : ls.size = nL) (w1 : Cond.methodLink own index Lib.Math.min.name ∈ gw) (w2 : Cond.static Lib.Math.min.name ∈ gw) (w3 : Cond.initialized "java/lang/Math" ∈ gw) (w4 : Cond.code Lib.Math.min.name Lib.Math.min.code 2 (some .int) ∈ gw) (hR : 1 ≤ R.frames) (hR2 : (rest.map fun v => v.category).sum + 13 ≤ R.locals) (hd : decode cc pc = .ok (.invokestatic index, 3)) (kk : Sim p l e R s m args below meth c D cy base Q o S (F0 m (pc + 3) ls (.int (if y < x then y else x) :: rest))) : Sim p l e R s m args below meth c D cy base Q o S (F0 m pc ls (.int y :: .int x :: rest)) :=
  fun S2 r2 h2 H locs hP hS => va_mmin C.ex C.by (C.2.2.1.trans hl.symm) C.ow (C.ts _ w1) (C.ts _ w2) (C.ts _ w3) (C.ts _ w4) hR hR2 (Nat.zero_le _) (Nat.zero_le _) hd (kk S2 r2 h2 H locs hP hS)
theorem r_above (C : Cx p R s m args c own cc nL D cy base tS) {index : Nat} {host : String} (hw : Cond.fieldLinkNest own index "ScreeCourt" "ABOVE" "[I" host ∈ nw) (hd : decode cc pc = .ok (.getstatic index, 3)) (kk : Sim p l e R s m args below meth c D cy base Q o S (F0 m (pc + 3) ls (.ref tS :: rest))) : Sim p l e R s m args below meth c D cy base Q o S (F0 m pc ls rest) :=
  fun S2 r2 h2 H locs hP hS => va_getsN C.ex C.by C.2.2.2.2.2.1.2.2.1 hS C.ow (va_Nw.use rfl (C.nest hw)) (fun _ h => h) hd (kk S2 r2 h2 H locs hP hS)
theorem r_tald (C : Cx p R s m args c own cc nL D cy base tS) {i : Int32} (hd : decode cc pc = .ok (.iaload, 1)) (kk : Sim p l e R s m args below meth c D cy base Q o S (F0 m (pc + 1) ls (.int (above (ix i)) :: rest))) : Sim p l e R s m args below meth c D cy base Q (ck i 5 o) S (F0 m pc ls (.int i :: .ref tS :: rest)) :=
  fun S2 r2 h2 H locs hP hS => va_ti C.ex C.by C.2.2.2.2.2.1.2.2.2 hS (ck_in h2).1 (show aboveF (ix i) = .int (above (ix i)) from rfl) hd (kk S2 r2 (ck_in h2).2 H locs hP hS)
theorem r_tblIn (C : Cx p R s m args c own cc nL D cy base tS) {dflt lo hi : Int} {offs : Array Int} {n : Nat} {x : Int32} {off : Int} {tgt : Nat} (v : Int32) (hx : x = v) (hd : decode cc pc = .ok (.tableswitch dflt lo hi offs, n)) (h1 : ¬ v.toInt < lo) (h2 : ¬ hi < v.toInt) (ho : offs[(v.toInt - lo).toNat]? = some off) (ht : (pc : Int) + off = (tgt : Int)) (kk : Sim p l e R s m args below meth c D cy base Q o S (F0 m tgt ls rest)) : Sim p l e R s m args below meth c D cy base Q o S (F0 m pc ls (.int x :: rest)) := by
  subst hx
  exact fun S2 r2 h3 H locs hP hS => lv_tableIn C.ex C.by hd h1 h2 ho ht (kk S2 r2 h3 H locs hP hS)
theorem r_tblOut (C : Cx p R s m args c own cc nL D cy base tS) {dflt lo hi : Int} {offs : Array Int} {n : Nat} {x : Int32} {tgt : Nat} (hd : decode cc pc = .ok (.tableswitch dflt lo hi offs, n)) (h : x.toInt < lo ∨ hi < x.toInt) (ht : (pc : Int) + dflt = (tgt : Int)) (kk : Sim p l e R s m args below meth c D cy base Q o S (F0 m tgt ls rest)) : Sim p l e R s m args below meth c D cy base Q o S (F0 m pc ls (.int x :: rest)) :=
  fun S2 r2 h3 H locs hP hS => lv_tableOut C.ex C.by hd h ht (kk S2 r2 h3 H locs hP hS)
abbrev QcI (D : va_G) (cy : Nat → ClassId) (base tS : Nat) (S1 : St) (r : Int32) : Array Value → State → Outcome → State → Prop := va_Qi (fun (r2 : Int32) (S2 : St) => r2 = r ∧ S2 = S1) (World D cy base tS) (AA base)
abbrev QcJ (D : va_G) (cy : Nat → ClassId) (base tS : Nat) (S1 : St) (r : Int64) : Array Value → State → Outcome → State → Prop := va_Ql (fun (r2 : Int64) (S2 : St) => r2 = r ∧ S2 = S1) (World D cy base tS) (AA base)
abbrev QcV (D : va_G) (cy : Nat → ClassId) (base tS : Nat) (S1 : St) (_ : Unit) : Array Value → State → Outcome → State → Prop := va_Qv (fun (S2 : St) => S2 = S1) (World D cy base tS) (AA base)
theorem r_iret (C : Cx p R s m args c own cc nL D cy base tS) {x : Int32} (hr : meth.sig.returnType = some .int) (hk : meth.locks = false) (hd : decode cc pc = .ok (.ireturn, 1)) : Sim p l e R s m args below meth c D cy base (fun S1 r => MQ below (QcI D cy base tS S1 r) args s 0 0 (AA base)) (some (S, x)) S (F0 m pc ls [.int x]) := by
  intro S2 r2 h2 H locs hP hS
  obtain ⟨rfl, rfl⟩ := Prod.mk.inj (Option.some.inj h2)
  exact W.iret C.ex C.by hr (fun t ht hW => ⟨⟨_, _, rfl, ⟨rfl, rfl⟩, by rw [ht]; exact hP, C.2.2.2.2.2.1.go hW ht hS⟩, hS.F ht⟩) hS.2.2 hd hk
theorem r_zret (C : Cx p R s m args c own cc nL D cy base tS) {x : Int32} (hx : narrow .boolean (.int x) = .int x) (hr : meth.sig.returnType = some .boolean) (hk : meth.locks = false) (hd : decode cc pc = .ok (.ireturn, 1)) : Sim p l e R s m args below meth c D cy base (fun S1 r => MQ below (QcI D cy base tS S1 r) args s 0 0 (AA base)) (some (S, x)) S (F0 m pc ls [.int x]) := by
  intro S2 r2 h2 H locs hP hS
  obtain ⟨rfl, rfl⟩ := Prod.mk.inj (Option.some.inj h2)
  exact W.zret C.ex C.by hr hx (fun t ht hW => ⟨⟨_, _, rfl, ⟨rfl, rfl⟩, by rw [ht]; exact hP, C.2.2.2.2.2.1.go hW ht hS⟩, hS.F ht⟩) hS.2.2 hd hk
theorem r_zretG (C : Cx p R s m args c own cc nL D cy base tS) {x : Int32} (hr : meth.sig.returnType = some .boolean) (hk : meth.locks = false) (hd : decode cc pc = .ok (.ireturn, 1)) : Sim p l e R s m args below meth c D cy base (fun S1 r => MQ below (QcI D cy base tS S1 r) args s 0 0 (AA base)) (gu (x = 0 ∨ x = 1) (some (S, x))) S (F0 m pc ls [.int x]) := by
  intro S2 r2 h2 H locs hP hS
  obtain ⟨h1, h3⟩ := gu_in h2
  exact r_zret C (by rcases h1 with rfl | rfl <;> rfl) hr hk hd S2 r2 h3 H locs hP hS
theorem r_lret (C : Cx p R s m args c own cc nL D cy base tS) {x : Int64} (hr : meth.sig.returnType = some .long) (hk : meth.locks = false) (hd : decode cc pc = .ok (.lreturn, 1)) : Sim p l e R s m args below meth c D cy base (fun S1 r => MQ below (QcJ D cy base tS S1 r) args s 0 0 (AA base)) (some (S, x)) S (F0 m pc ls [.long x]) := by
  intro S2 r2 h2 H locs hP hS
  obtain ⟨rfl, rfl⟩ := Prod.mk.inj (Option.some.inj h2)
  exact W.lret C.ex C.by hr (fun t ht hW => ⟨⟨_, _, rfl, ⟨rfl, rfl⟩, by rw [ht]; exact hP, C.2.2.2.2.2.1.go hW ht hS⟩, hS.F ht⟩) hS.2.2 hd hk
theorem r_vret (C : Cx p R s m args c own cc nL D cy base tS) (hr : meth.sig.returnType = none) (hk : meth.locks = false) (hd : decode cc pc = .ok (.return_, 1)) : Sim p l e R s m args below meth c D cy base (fun S1 r => MQ below (QcV D cy base tS S1 r) args s 0 0 (AA base)) (some (S, ())) S (F0 m pc ls []) := by
  intro S2 r2 h2 H locs hP hS
  obtain ⟨rfl, -⟩ := Prod.mk.inj (Option.some.inj h2)
  exact W.vret C.ex C.by hr (fun t ht hW => ⟨⟨_, rfl, rfl, by rw [ht]; exact hP, C.2.2.2.2.2.1.go hW ht hS⟩, hS.F ht⟩) hS.2.2 hd hk
theorem bd_in {ρ σ : Type} {o : Option (St × ρ)} {b : St → ρ → Option (St × σ)} {q : St × σ} (h : bd o b = some q) : ∃ S1 r1, o = some (S1, r1) ∧ b S1 r1 = some q := by
  cases o with
  | none => cases h
  | some x => exact ⟨x.1, x.2, rfl, h⟩
theorem in_wsV {own C : String} {idx : Nat} {y : MethodName} {b2 : ByteArray} {maxL : Nat} {ret : Option FieldType} (w1 : Cond.methodLink own idx y ∈ gw) (w2 : Cond.instanceMethod y ∈ gw) (w3 : Cond.selects C y y ∈ gw) (w4 : Cond.initialized C ∈ gw) (w5 : Cond.code y b2 maxL ret ∈ gw) : GoodIn gw (wsV own idx C y (wsY y b2 maxL ret)) := by
  refine gdIn (fun w hw => ?_)
  rcases List.mem_append.mp hw with h | h
  · simp only [List.mem_cons, List.not_mem_nil, or_false] at h
    rcases h with rfl | rfl | rfl | rfl <;> assumption
  · rcases List.mem_cons.mp h with rfl | h
    · exact w5
    · exact h
theorem in_wsS {own : String} {idx : Nat} {y : MethodName} {b2 : ByteArray} {maxL : Nat} {ret : Option FieldType} (w1 : Cond.methodLink own idx y ∈ gw) (w2 : Cond.static y ∈ gw) (w4 : Cond.initialized y.cls ∈ gw) (w5 : Cond.code y b2 maxL ret ∈ gw) : GoodIn gw (va_wsS own idx y (wsY y b2 maxL ret)) := by
  refine gdIn (fun w hw => ?_)
  rcases List.mem_append.mp hw with h | h
  · simp only [List.mem_cons, List.not_mem_nil, or_false] at h
    rcases h with rfl | rfl | rfl <;> assumption
  · rcases List.mem_cons.mp h with rfl | h
    · exact w5
    · exact h
theorem r_callVI (C : Cx p R s m args c own cc nL D cy base tS) {k ci N n index maxL : Nat} {Cn : String} {T : u_T} {fs : List Value} {y : MethodName} {b2 : ByteArray} {ret : Option FieldType} {rm : Room} {As st0 : List Value} {o1 : Option (St × Int32)} {b : St → Int32 → Option (St × ρ)} (hl : ls.size = nL) (hr : rend cy base S k = .inr (ci, fs)) (hk : k < 199) (hc : vwCl[ci]? = some (Cn, T, N))
    (hM : ∀ S1 r1, o1 = some (S1, r1) → Met l y (wsY y b2 maxL ret) rm (va_Pc (.ref (base + k) :: As) (World D cy base tS S)) (QcI D cy base tS S1 r1) 0 0 (AA base)) (w1 : Cond.methodLink own index y ∈ gw) (w2 : Cond.instanceMethod y ∈ gw) (w3 : Cond.selects Cn y y ∈ gw) (w4 : Cond.initialized Cn ∈ gw) (w5 : Cond.code y b2 maxL ret ∈ gw) (hrc : rm.cells = 0) (hrs : rm.slots = 0)
    (hd : y.cls = Cn ∧ y.cls ≠ "java/lang/invoke/MethodHandle" ∧ y.cls ≠ "java/lang/invoke/VarHandle" ∧ (parseMethodDescriptor y.desc).map (fun d => d.parameters.length) = some n) (hR : rm.frames + 1 ≤ R.frames ∧ 8 + (maxL + 11) + rm.locals ≤ R.locals) (hn : As.length = n) (hst : st0 = As.reverse ++ .ref (base + k) :: rest) (hroom : (rest.map fun v => v.category).sum ≤ 8) (hdg : decode cc pc = .ok (.invokevirtual index, 3)) (kk : ∀ (S1 : St) (r : Int32), Sim p l e R s m args below meth c D cy base Q (b S1 r) S1 (F0 m (pc + 3) ls (.int r :: rest))) : Sim p l e R s m args below meth c D cy base Q (bd o1 b) S (F0 m pc ls st0) := by
  intro S2 r2 h2 H locs hP hS
  obtain ⟨S1, r1, h1, hb⟩ := bd_in h2
  refine va_calli (va_runV (As := As) (rest := rest) C.fix (hM S1 r1 h1) (cwV n C.ts (in_wsV w1 w2 w3 w4 w5) rfl hrc hrs hd hR) ⟨World.blind, va_recv C.K hP hc ((wget cy base S hk).trans (by rw [hr])), fun U hU hW => ⟨rfl, by rw [hU]; exact hP, C.2.2.2.2.2.1.go hW hU hS⟩⟩ rfl hn hl hst (lv_room hroom) hdg ⟨Nat.zero_le _, Nat.zero_le _⟩) hS (fun _ _ h => h) (fun _ h => h) (fun r u t H1 locs1 ht hvm hw hB _ _ hS1 => by
    obtain ⟨rfl, rfl⟩ := hw
    exact kk u r S2 r2 hb H1 locs1 (by rw [← ht]; exact hB.1) hS1)
theorem r_callSI (C : Cx p R s m args c own cc nL D cy base tS) {n index maxL : Nat} {y : MethodName} {b2 : ByteArray} {ret : Option FieldType} {rm : Room} {As st0 : List Value} {o1 : Option (St × Int32)} {b : St → Int32 → Option (St × ρ)} (hl : ls.size = nL)
    (hM : ∀ S1 r1, o1 = some (S1, r1) → Met l y (wsY y b2 maxL ret) rm (va_Pc As (World D cy base tS S)) (QcI D cy base tS S1 r1) 0 0 (AA base)) (w1 : Cond.methodLink own index y ∈ gw) (w2 : Cond.static y ∈ gw) (w4 : Cond.initialized y.cls ∈ gw) (w5 : Cond.code y b2 maxL ret ∈ gw) (hrc : rm.cells = 0) (hrs : rm.slots = 0)
    (hd : y.cls ≠ "java/lang/invoke/MethodHandle" ∧ y.cls ≠ "java/lang/invoke/VarHandle" ∧ (parseMethodDescriptor y.desc).map (fun d => d.parameters.length) = some n) (hR : rm.frames + 1 ≤ R.frames ∧ 8 + (maxL + 11) + rm.locals ≤ R.locals) (hn : As.length = n) (hst : st0 = As.reverse ++ rest) (hroom : (rest.map fun v => v.category).sum ≤ 8) (hdg : decode cc pc = .ok (.invokestatic index, 3)) (kk : ∀ (S1 : St) (r : Int32), Sim p l e R s m args below meth c D cy base Q (b S1 r) S1 (F0 m (pc + 3) ls (.int r :: rest))) : Sim p l e R s m args below meth c D cy base Q (bd o1 b) S (F0 m pc ls st0) := by
  intro S2 r2 h2 H locs hP hS
  obtain ⟨S1, r1, h1, hb⟩ := bd_in h2
  refine va_calli (va_runS (As := As) (rest := rest) C.fix (hM S1 r1 h1) (va_cwS n C.ts (in_wsS w1 w2 w4 w5) rfl hrc hrs hd hR) ⟨World.blind, fun U hU hW => ⟨rfl, by rw [hU]; exact hP, C.2.2.2.2.2.1.go hW hU hS⟩⟩ rfl hn hl hst (lv_room hroom) hdg ⟨Nat.zero_le _, Nat.zero_le _⟩) hS (fun _ _ h => h) (fun _ h => h) (fun r u t H1 locs1 ht hvm hw hB _ _ hS1 => by
    obtain ⟨rfl, rfl⟩ := hw
    exact kk u r S2 r2 hb H1 locs1 (by rw [← ht]; exact hB.1) hS1)
theorem conI {y : MethodName} {maxL : Nat} {ret : Option FieldType} {rm : Room} {As : List Value} {o : Option (St × Int32)} (hrc : rm.cells = 0) (hrs : rm.slots = 0) (hy : plainName y.cls = true) (hlen : (lg_sl As).length ≤ maxL)
    (body : ∀ (p : Program) (e : Env) (s : State) (m : MethodId) (args : Array Value) (below : List Frame) (meth : Method) (c : Code) (ls : Array Slot), Cx p rm s m args c y.cls cc maxL D cy base tS → meth.sig.returnType = ret → meth.locks = false → lv_has ls maxL (lv_args 0 As) → Sim p l e rm s m args below meth c D cy base (fun S1 r => MQ below (QcI D cy base tS S1 r) args s 0 0 (AA base)) o S (F0 m 0 ls [])) {S1 : St} {r1 : Int32} (h : o = some (S1, r1)) : Met l y (wsY y cc maxL ret) rm (va_Pc As (World D cy base tS S)) (QcI D cy base tS S1 r1) 0 0 (AA base) := by
  refine Met.ofW (cc := cc) (maxL := maxL) (ret := ret) hy rfl ?_
  intro p e s m args below meth c s₁ B hml hv
  obtain ⟨rfl, hw⟩ := hv
  have hts := atoms_spec (ws := wsY y cc maxL ret) B.pre
  have C : Cx p rm s m As.toArray c y.cls cc maxL D cy base tS := ⟨B.exec, B.bytes, hml, findClass_of_methodNamed B.named, fun w h => hts w (List.mem_cons_of_mem _ h), hw.2, hrc, hrs⟩
  have hl := lv_entry As (n := maxL) hlen
  rw [lg_entry_eq]
  exact body p e s m As.toArray below meth c _ C B.returns B.notSynchronized hl S1 r1 h s.heap [] hw.1 va_S.rf
theorem r_callVJ (C : Cx p R s m args c own cc nL D cy base tS) {k ci N n index maxL : Nat} {Cn : String} {T : u_T} {fs : List Value} {y : MethodName} {b2 : ByteArray} {ret : Option FieldType} {rm : Room} {As st0 : List Value} {o1 : Option (St × Int64)} {b : St → Int64 → Option (St × ρ)} (hl : ls.size = nL) (hr : rend cy base S k = .inr (ci, fs)) (hk : k < 199) (hc : vwCl[ci]? = some (Cn, T, N))
    (hM : ∀ S1 r1, o1 = some (S1, r1) → Met l y (wsY y b2 maxL ret) rm (va_Pc (.ref (base + k) :: As) (World D cy base tS S)) (QcJ D cy base tS S1 r1) 0 0 (AA base)) (w1 : Cond.methodLink own index y ∈ gw) (w2 : Cond.instanceMethod y ∈ gw) (w3 : Cond.selects Cn y y ∈ gw) (w4 : Cond.initialized Cn ∈ gw) (w5 : Cond.code y b2 maxL ret ∈ gw) (hrc : rm.cells = 0) (hrs : rm.slots = 0)
    (hd : y.cls = Cn ∧ y.cls ≠ "java/lang/invoke/MethodHandle" ∧ y.cls ≠ "java/lang/invoke/VarHandle" ∧ (parseMethodDescriptor y.desc).map (fun d => d.parameters.length) = some n) (hR : rm.frames + 1 ≤ R.frames ∧ 8 + (maxL + 11) + rm.locals ≤ R.locals) (hn : As.length = n) (hst : st0 = As.reverse ++ .ref (base + k) :: rest) (hroom : (rest.map fun v => v.category).sum ≤ 8) (hdg : decode cc pc = .ok (.invokevirtual index, 3)) (kk : ∀ (S1 : St) (r : Int64), Sim p l e R s m args below meth c D cy base Q (b S1 r) S1 (F0 m (pc + 3) ls (.long r :: rest))) : Sim p l e R s m args below meth c D cy base Q (bd o1 b) S (F0 m pc ls st0) := by
  intro S2 r2 h2 H locs hP hS
  obtain ⟨S1, r1, h1, hb⟩ := bd_in h2
  refine va_calll (va_runV (As := As) (rest := rest) C.fix (hM S1 r1 h1) (cwV n C.ts (in_wsV w1 w2 w3 w4 w5) rfl hrc hrs hd hR) ⟨World.blind, va_recv C.K hP hc ((wget cy base S hk).trans (by rw [hr])), fun U hU hW => ⟨rfl, by rw [hU]; exact hP, C.2.2.2.2.2.1.go hW hU hS⟩⟩ rfl hn hl hst (lv_room hroom) hdg ⟨Nat.zero_le _, Nat.zero_le _⟩) hS (fun _ _ h => h) (fun _ h => h) (fun r u t H1 locs1 ht hvm hw hB _ _ hS1 => by
    obtain ⟨rfl, rfl⟩ := hw
    exact kk u r S2 r2 hb H1 locs1 (by rw [← ht]; exact hB.1) hS1)
theorem r_callSJ (C : Cx p R s m args c own cc nL D cy base tS) {n index maxL : Nat} {y : MethodName} {b2 : ByteArray} {ret : Option FieldType} {rm : Room} {As st0 : List Value} {o1 : Option (St × Int64)} {b : St → Int64 → Option (St × ρ)} (hl : ls.size = nL)
    (hM : ∀ S1 r1, o1 = some (S1, r1) → Met l y (wsY y b2 maxL ret) rm (va_Pc As (World D cy base tS S)) (QcJ D cy base tS S1 r1) 0 0 (AA base)) (w1 : Cond.methodLink own index y ∈ gw) (w2 : Cond.static y ∈ gw) (w4 : Cond.initialized y.cls ∈ gw) (w5 : Cond.code y b2 maxL ret ∈ gw) (hrc : rm.cells = 0) (hrs : rm.slots = 0)
    (hd : y.cls ≠ "java/lang/invoke/MethodHandle" ∧ y.cls ≠ "java/lang/invoke/VarHandle" ∧ (parseMethodDescriptor y.desc).map (fun d => d.parameters.length) = some n) (hR : rm.frames + 1 ≤ R.frames ∧ 8 + (maxL + 11) + rm.locals ≤ R.locals) (hn : As.length = n) (hst : st0 = As.reverse ++ rest) (hroom : (rest.map fun v => v.category).sum ≤ 8) (hdg : decode cc pc = .ok (.invokestatic index, 3)) (kk : ∀ (S1 : St) (r : Int64), Sim p l e R s m args below meth c D cy base Q (b S1 r) S1 (F0 m (pc + 3) ls (.long r :: rest))) : Sim p l e R s m args below meth c D cy base Q (bd o1 b) S (F0 m pc ls st0) := by
  intro S2 r2 h2 H locs hP hS
  obtain ⟨S1, r1, h1, hb⟩ := bd_in h2
  refine va_calll (va_runS (As := As) (rest := rest) C.fix (hM S1 r1 h1) (va_cwS n C.ts (in_wsS w1 w2 w4 w5) rfl hrc hrs hd hR) ⟨World.blind, fun U hU hW => ⟨rfl, by rw [hU]; exact hP, C.2.2.2.2.2.1.go hW hU hS⟩⟩ rfl hn hl hst (lv_room hroom) hdg ⟨Nat.zero_le _, Nat.zero_le _⟩) hS (fun _ _ h => h) (fun _ h => h) (fun r u t H1 locs1 ht hvm hw hB _ _ hS1 => by
    obtain ⟨rfl, rfl⟩ := hw
    exact kk u r S2 r2 hb H1 locs1 (by rw [← ht]; exact hB.1) hS1)
theorem conJ {y : MethodName} {maxL : Nat} {ret : Option FieldType} {rm : Room} {As : List Value} {o : Option (St × Int64)} (hrc : rm.cells = 0) (hrs : rm.slots = 0) (hy : plainName y.cls = true) (hlen : (lg_sl As).length ≤ maxL)
    (body : ∀ (p : Program) (e : Env) (s : State) (m : MethodId) (args : Array Value) (below : List Frame) (meth : Method) (c : Code) (ls : Array Slot), Cx p rm s m args c y.cls cc maxL D cy base tS → meth.sig.returnType = ret → meth.locks = false → lv_has ls maxL (lv_args 0 As) → Sim p l e rm s m args below meth c D cy base (fun S1 r => MQ below (QcJ D cy base tS S1 r) args s 0 0 (AA base)) o S (F0 m 0 ls [])) {S1 : St} {r1 : Int64} (h : o = some (S1, r1)) : Met l y (wsY y cc maxL ret) rm (va_Pc As (World D cy base tS S)) (QcJ D cy base tS S1 r1) 0 0 (AA base) := by
  refine Met.ofW (cc := cc) (maxL := maxL) (ret := ret) hy rfl ?_
  intro p e s m args below meth c s₁ B hml hv
  obtain ⟨rfl, hw⟩ := hv
  have hts := atoms_spec (ws := wsY y cc maxL ret) B.pre
  have C : Cx p rm s m As.toArray c y.cls cc maxL D cy base tS := ⟨B.exec, B.bytes, hml, findClass_of_methodNamed B.named, fun w h => hts w (List.mem_cons_of_mem _ h), hw.2, hrc, hrs⟩
  have hl := lv_entry As (n := maxL) hlen
  rw [lg_entry_eq]
  exact body p e s m As.toArray below meth c _ C B.returns B.notSynchronized hl S1 r1 h s.heap [] hw.1 va_S.rf
theorem r_callVV (C : Cx p R s m args c own cc nL D cy base tS) {k ci N n index maxL : Nat} {Cn : String} {T : u_T} {fs : List Value} {y : MethodName} {b2 : ByteArray} {ret : Option FieldType} {rm : Room} {As st0 : List Value} {o1 : Option (St × Unit)} {b : St → Unit → Option (St × ρ)} (hl : ls.size = nL) (hr : rend cy base S k = .inr (ci, fs)) (hk : k < 199) (hc : vwCl[ci]? = some (Cn, T, N))
    (hM : ∀ S1 r1, o1 = some (S1, r1) → Met l y (wsY y b2 maxL ret) rm (va_Pc (.ref (base + k) :: As) (World D cy base tS S)) (QcV D cy base tS S1 r1) 0 0 (AA base)) (w1 : Cond.methodLink own index y ∈ gw) (w2 : Cond.instanceMethod y ∈ gw) (w3 : Cond.selects Cn y y ∈ gw) (w4 : Cond.initialized Cn ∈ gw) (w5 : Cond.code y b2 maxL ret ∈ gw) (hrc : rm.cells = 0) (hrs : rm.slots = 0)
    (hd : y.cls = Cn ∧ y.cls ≠ "java/lang/invoke/MethodHandle" ∧ y.cls ≠ "java/lang/invoke/VarHandle" ∧ (parseMethodDescriptor y.desc).map (fun d => d.parameters.length) = some n) (hR : rm.frames + 1 ≤ R.frames ∧ 8 + (maxL + 11) + rm.locals ≤ R.locals) (hn : As.length = n) (hst : st0 = As.reverse ++ .ref (base + k) :: rest) (hroom : (rest.map fun v => v.category).sum ≤ 8) (hdg : decode cc pc = .ok (.invokevirtual index, 3)) (kk : ∀ (S1 : St) (r : Unit), Sim p l e R s m args below meth c D cy base Q (b S1 r) S1 (F0 m (pc + 3) ls (rest))) : Sim p l e R s m args below meth c D cy base Q (bd o1 b) S (F0 m pc ls st0) := by
  intro S2 r2 h2 H locs hP hS
  obtain ⟨S1, r1, h1, hb⟩ := bd_in h2
  refine va_callv (va_runV (As := As) (rest := rest) C.fix (hM S1 r1 h1) (cwV n C.ts (in_wsV w1 w2 w3 w4 w5) rfl hrc hrs hd hR) ⟨World.blind, va_recv C.K hP hc ((wget cy base S hk).trans (by rw [hr])), fun U hU hW => ⟨rfl, by rw [hU]; exact hP, C.2.2.2.2.2.1.go hW hU hS⟩⟩ rfl hn hl hst (lv_room hroom) hdg ⟨Nat.zero_le _, Nat.zero_le _⟩) hS (fun _ _ h => h) (fun _ h => h) (fun u t H1 locs1 ht hvm hw hB _ _ hS1 => by
    subst hw
    exact kk u r1 S2 r2 hb H1 locs1 (by rw [← ht]; exact hB.1) hS1)
theorem r_callSV (C : Cx p R s m args c own cc nL D cy base tS) {n index maxL : Nat} {y : MethodName} {b2 : ByteArray} {ret : Option FieldType} {rm : Room} {As st0 : List Value} {o1 : Option (St × Unit)} {b : St → Unit → Option (St × ρ)} (hl : ls.size = nL)
    (hM : ∀ S1 r1, o1 = some (S1, r1) → Met l y (wsY y b2 maxL ret) rm (va_Pc As (World D cy base tS S)) (QcV D cy base tS S1 r1) 0 0 (AA base)) (w1 : Cond.methodLink own index y ∈ gw) (w2 : Cond.static y ∈ gw) (w4 : Cond.initialized y.cls ∈ gw) (w5 : Cond.code y b2 maxL ret ∈ gw) (hrc : rm.cells = 0) (hrs : rm.slots = 0)
    (hd : y.cls ≠ "java/lang/invoke/MethodHandle" ∧ y.cls ≠ "java/lang/invoke/VarHandle" ∧ (parseMethodDescriptor y.desc).map (fun d => d.parameters.length) = some n) (hR : rm.frames + 1 ≤ R.frames ∧ 8 + (maxL + 11) + rm.locals ≤ R.locals) (hn : As.length = n) (hst : st0 = As.reverse ++ rest) (hroom : (rest.map fun v => v.category).sum ≤ 8) (hdg : decode cc pc = .ok (.invokestatic index, 3)) (kk : ∀ (S1 : St) (r : Unit), Sim p l e R s m args below meth c D cy base Q (b S1 r) S1 (F0 m (pc + 3) ls (rest))) : Sim p l e R s m args below meth c D cy base Q (bd o1 b) S (F0 m pc ls st0) := by
  intro S2 r2 h2 H locs hP hS
  obtain ⟨S1, r1, h1, hb⟩ := bd_in h2
  refine va_callv (va_runS (As := As) (rest := rest) C.fix (hM S1 r1 h1) (va_cwS n C.ts (in_wsS w1 w2 w4 w5) rfl hrc hrs hd hR) ⟨World.blind, fun U hU hW => ⟨rfl, by rw [hU]; exact hP, C.2.2.2.2.2.1.go hW hU hS⟩⟩ rfl hn hl hst (lv_room hroom) hdg ⟨Nat.zero_le _, Nat.zero_le _⟩) hS (fun _ _ h => h) (fun _ h => h) (fun u t H1 locs1 ht hvm hw hB _ _ hS1 => by
    subst hw
    exact kk u r1 S2 r2 hb H1 locs1 (by rw [← ht]; exact hB.1) hS1)
theorem conV {y : MethodName} {maxL : Nat} {ret : Option FieldType} {rm : Room} {As : List Value} {o : Option (St × Unit)} (hrc : rm.cells = 0) (hrs : rm.slots = 0) (hy : plainName y.cls = true) (hlen : (lg_sl As).length ≤ maxL)
    (body : ∀ (p : Program) (e : Env) (s : State) (m : MethodId) (args : Array Value) (below : List Frame) (meth : Method) (c : Code) (ls : Array Slot), Cx p rm s m args c y.cls cc maxL D cy base tS → meth.sig.returnType = ret → meth.locks = false → lv_has ls maxL (lv_args 0 As) → Sim p l e rm s m args below meth c D cy base (fun S1 r => MQ below (QcV D cy base tS S1 r) args s 0 0 (AA base)) o S (F0 m 0 ls [])) {S1 : St} {r1 : Unit} (h : o = some (S1, r1)) : Met l y (wsY y cc maxL ret) rm (va_Pc As (World D cy base tS S)) (QcV D cy base tS S1 r1) 0 0 (AA base) := by
  refine Met.ofW (cc := cc) (maxL := maxL) (ret := ret) hy rfl ?_
  intro p e s m args below meth c s₁ B hml hv
  obtain ⟨rfl, hw⟩ := hv
  have hts := atoms_spec (ws := wsY y cc maxL ret) B.pre
  have C : Cx p rm s m As.toArray c y.cls cc maxL D cy base tS := ⟨B.exec, B.bytes, hml, findClass_of_methodNamed B.named, fun w h => hts w (List.mem_cons_of_mem _ h), hw.2, hrc, hrs⟩
  have hl := lv_entry As (n := maxL) hlen
  rw [lg_entry_eq]
  exact body p e s m As.toArray below meth c _ C B.returns B.notSynchronized hl S1 r1 h s.heap [] hw.1 va_S.rf
end SIM2
end
