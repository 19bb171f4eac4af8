section
-- ===== PART A: goes FIRST, ahead of the names: the tables' words, and 'selects' of the private methods out of them =====
/-- a private method of a class that the tables say can be made, by its rows of tables_1 -/
def lw_okq (q : MethodName × Nat) : Prop := (q.1.cls ≠ "java/lang/invoke/MethodHandle" ∧ q.1.cls ≠ "java/lang/invoke/VarHandle") ∧ Cond.instantiable q.1.cls q.2 ∈ tables_1 ∧ Cond.privateMethod q.1 ∈ tables_1 ∧ Cond.instanceMethod q.1 ∈ tables_1
theorem lw_p0 : lw_okq (⟨"TableSetter", "isPlace", "(II)Z"⟩, 8) := ⟨⟨by decide +kernel, by decide +kernel⟩, List.mem_of_getElem? (i := 13) (by decide +kernel), List.mem_of_getElem? (i := 305) (by decide +kernel), List.mem_of_getElem? (i := 306) (by decide +kernel)⟩
theorem lw_p1 : lw_okq (⟨"TableSetter", "tell", "(I)I"⟩, 8) := ⟨⟨by decide +kernel, by decide +kernel⟩, List.mem_of_getElem? (i := 13) (by decide +kernel), List.mem_of_getElem? (i := 309) (by decide +kernel), List.mem_of_getElem? (i := 310) (by decide +kernel)⟩
theorem lw_p2 : lw_okq (⟨"TableSetter$Cell", "forgetLines", "()V"⟩, 11) := ⟨⟨by decide +kernel, by decide +kernel⟩, List.mem_of_getElem? (i := 28) (by decide +kernel), List.mem_of_getElem? (i := 342) (by decide +kernel), List.mem_of_getElem? (i := 343) (by decide +kernel)⟩
theorem lw_p3 : lw_okq (⟨"TableSetter$Cell", "countLines", "(I)I"⟩, 11) := ⟨⟨by decide +kernel, by decide +kernel⟩, List.mem_of_getElem? (i := 28) (by decide +kernel), List.mem_of_getElem? (i := 427) (by decide +kernel), List.mem_of_getElem? (i := 428) (by decide +kernel)⟩
theorem lw_p4 : lw_okq (⟨"TableSetter$Cell", "longestPiece", "()I"⟩, 11) := ⟨⟨by decide +kernel, by decide +kernel⟩, List.mem_of_getElem? (i := 28) (by decide +kernel), List.mem_of_getElem? (i := 439) (by decide +kernel), List.mem_of_getElem? (i := 440) (by decide +kernel)⟩
theorem lw_p5 : lw_okq (⟨"TableSetter$Widths", "measureFor", "(I[I)V"⟩, 9) := ⟨⟨by decide +kernel, by decide +kernel⟩, List.mem_of_getElem? (i := 153) (by decide +kernel), List.mem_of_getElem? (i := 452) (by decide +kernel), List.mem_of_getElem? (i := 453) (by decide +kernel)⟩
theorem lw_p6 : lw_okq (⟨"TableSetter$Widths", "noteLack", "(LTableSetter$Cell;I)V"⟩, 9) := ⟨⟨by decide +kernel, by decide +kernel⟩, List.mem_of_getElem? (i := 153) (by decide +kernel), List.mem_of_getElem? (i := 465) (by decide +kernel), List.mem_of_getElem? (i := 466) (by decide +kernel)⟩
theorem lw_p7 : lw_okq (⟨"TableSetter$Share", "giveOne", "(II)V"⟩, 2) := ⟨⟨by decide +kernel, by decide +kernel⟩, List.mem_of_getElem? (i := 159) (by decide +kernel), List.mem_of_getElem? (i := 475) (by decide +kernel), List.mem_of_getElem? (i := 476) (by decide +kernel)⟩
theorem lw_p8 : lw_okq (⟨"TableSetter$Widths", "addTo", "([I[I)V"⟩, 9) := ⟨⟨by decide +kernel, by decide +kernel⟩, List.mem_of_getElem? (i := 153) (by decide +kernel), List.mem_of_getElem? (i := 480) (by decide +kernel), List.mem_of_getElem? (i := 481) (by decide +kernel)⟩
theorem lw_p9 : lw_okq (⟨"TableSetter$Widths", "sumOf", "([I)I"⟩, 9) := ⟨⟨by decide +kernel, by decide +kernel⟩, List.mem_of_getElem? (i := 153) (by decide +kernel), List.mem_of_getElem? (i := 496) (by decide +kernel), List.mem_of_getElem? (i := 497) (by decide +kernel)⟩
theorem lw_p10 : lw_okq (⟨"TableSetter", "heightOfTable", "()I"⟩, 8) := ⟨⟨by decide +kernel, by decide +kernel⟩, List.mem_of_getElem? (i := 13) (by decide +kernel), List.mem_of_getElem? (i := 505) (by decide +kernel), List.mem_of_getElem? (i := 506) (by decide +kernel)⟩
theorem lw_p11 : lw_okq (⟨"TableSetter$Heights", "grow", "()V"⟩, 5) := ⟨⟨by decide +kernel, by decide +kernel⟩, List.mem_of_getElem? (i := 128) (by decide +kernel), List.mem_of_getElem? (i := 519) (by decide +kernel), List.mem_of_getElem? (i := 520) (by decide +kernel)⟩
theorem lw_p12 : lw_okq (⟨"TableSetter$Heights", "noteLack", "(LTableSetter$Cell;I)V"⟩, 5) := ⟨⟨by decide +kernel, by decide +kernel⟩, List.mem_of_getElem? (i := 128) (by decide +kernel), List.mem_of_getElem? (i := 525) (by decide +kernel), List.mem_of_getElem? (i := 526) (by decide +kernel)⟩
theorem lw_p13 : lw_okq (⟨"TableSetter$Heights", "sum", "()I"⟩, 5) := ⟨⟨by decide +kernel, by decide +kernel⟩, List.mem_of_getElem? (i := 128) (by decide +kernel), List.mem_of_getElem? (i := 531) (by decide +kernel), List.mem_of_getElem? (i := 532) (by decide +kernel)⟩
theorem lw_p14 : lw_okq (⟨"TableSetter$Widths", "addToLast", "(I)V"⟩, 9) := ⟨⟨by decide +kernel, by decide +kernel⟩, List.mem_of_getElem? (i := 153) (by decide +kernel), List.mem_of_getElem? (i := 547) (by decide +kernel), List.mem_of_getElem? (i := 548) (by decide +kernel)⟩
theorem lw_p15 : lw_okq (⟨"TableSetter$Widths", "tryNext", "()V"⟩, 9) := ⟨⟨by decide +kernel, by decide +kernel⟩, List.mem_of_getElem? (i := 153) (by decide +kernel), List.mem_of_getElem? (i := 553) (by decide +kernel), List.mem_of_getElem? (i := 554) (by decide +kernel)⟩
def lw_privs_1 : List (MethodName × Nat) := [(⟨"TableSetter", "isPlace", "(II)Z"⟩, 8), (⟨"TableSetter", "tell", "(I)I"⟩, 8), (⟨"TableSetter$Cell", "forgetLines", "()V"⟩, 11), (⟨"TableSetter$Cell", "countLines", "(I)I"⟩, 11), (⟨"TableSetter$Cell", "longestPiece", "()I"⟩, 11), (⟨"TableSetter$Widths", "measureFor", "(I[I)V"⟩, 9), (⟨"TableSetter$Widths", "noteLack", "(LTableSetter$Cell;I)V"⟩, 9), (⟨"TableSetter$Share", "giveOne", "(II)V"⟩, 2), (⟨"TableSetter$Widths", "addTo", "([I[I)V"⟩, 9), (⟨"TableSetter$Widths", "sumOf", "([I)I"⟩, 9), (⟨"TableSetter", "heightOfTable", "()I"⟩, 8), (⟨"TableSetter$Heights", "grow", "()V"⟩, 5), (⟨"TableSetter$Heights", "noteLack", "(LTableSetter$Cell;I)V"⟩, 5), (⟨"TableSetter$Heights", "sum", "()I"⟩, 5), (⟨"TableSetter$Widths", "addToLast", "(I)V"⟩, 9), (⟨"TableSetter$Widths", "tryNext", "()V"⟩, 9)]
theorem lw_r1 : ∀ q ∈ lw_privs_1, lw_okq q := List.forall_mem_cons.mpr ⟨lw_p0, List.forall_mem_cons.mpr ⟨lw_p1, List.forall_mem_cons.mpr ⟨lw_p2, List.forall_mem_cons.mpr ⟨lw_p3, List.forall_mem_cons.mpr ⟨lw_p4, List.forall_mem_cons.mpr ⟨lw_p5, List.forall_mem_cons.mpr ⟨lw_p6, List.forall_mem_cons.mpr ⟨lw_p7, List.forall_mem_cons.mpr ⟨lw_p8, List.forall_mem_cons.mpr ⟨lw_p9, List.forall_mem_cons.mpr ⟨lw_p10, List.forall_mem_cons.mpr ⟨lw_p11, List.forall_mem_cons.mpr ⟨lw_p12, List.forall_mem_cons.mpr ⟨lw_p13, List.forall_mem_cons.mpr ⟨lw_p14, List.forall_mem_cons.mpr ⟨lw_p15, fun _ h => absurd h List.not_mem_nil⟩⟩⟩⟩⟩⟩⟩⟩⟩⟩⟩⟩⟩⟩⟩⟩
theorem lw_p16 : lw_okq (⟨"TableSetter$Grid", "hasHead", "(I)Z"⟩, 7) := ⟨⟨by decide +kernel, by decide +kernel⟩, List.mem_of_getElem? (i := 21) (by decide +kernel), List.mem_of_getElem? (i := 582) (by decide +kernel), List.mem_of_getElem? (i := 583) (by decide +kernel)⟩
theorem lw_p17 : lw_okq (⟨"TableSetter$Pager", "findHomes", "()V"⟩, 12) := ⟨⟨by decide +kernel, by decide +kernel⟩, List.mem_of_getElem? (i := 204) (by decide +kernel), List.mem_of_getElem? (i := 591) (by decide +kernel), List.mem_of_getElem? (i := 592) (by decide +kernel)⟩
theorem lw_p18 : lw_okq (⟨"TableSetter$Pager", "planFrom", "(I)V"⟩, 12) := ⟨⟨by decide +kernel, by decide +kernel⟩, List.mem_of_getElem? (i := 204) (by decide +kernel), List.mem_of_getElem? (i := 605) (by decide +kernel), List.mem_of_getElem? (i := 606) (by decide +kernel)⟩
theorem lw_p19 : lw_okq (⟨"TableSetter$Pager", "isAlone", "(II)Z"⟩, 12) := ⟨⟨by decide +kernel, by decide +kernel⟩, List.mem_of_getElem? (i := 204) (by decide +kernel), List.mem_of_getElem? (i := 609) (by decide +kernel), List.mem_of_getElem? (i := 610) (by decide +kernel)⟩
theorem lw_p20 : lw_okq (⟨"TableSetter$Pager", "weigh", "(III)V"⟩, 12) := ⟨⟨by decide +kernel, by decide +kernel⟩, List.mem_of_getElem? (i := 204) (by decide +kernel), List.mem_of_getElem? (i := 613) (by decide +kernel), List.mem_of_getElem? (i := 614) (by decide +kernel)⟩
theorem lw_p21 : lw_okq (⟨"TableSetter$Pager", "layOut", "()V"⟩, 12) := ⟨⟨by decide +kernel, by decide +kernel⟩, List.mem_of_getElem? (i := 204) (by decide +kernel), List.mem_of_getElem? (i := 617) (by decide +kernel), List.mem_of_getElem? (i := 618) (by decide +kernel)⟩
theorem lw_p22 : lw_okq (⟨"TableSetterModel", "begin", "(III)V"⟩, 41) := ⟨⟨by decide +kernel, by decide +kernel⟩, List.mem_of_getElem? (i := 668) (by decide +kernel), List.mem_of_getElem? (i := 674) (by decide +kernel), List.mem_of_getElem? (i := 675) (by decide +kernel)⟩
theorem lw_p23 : lw_okq (⟨"TableSetterModel", "isColumn", "(I)Z"⟩, 41) := ⟨⟨by decide +kernel, by decide +kernel⟩, List.mem_of_getElem? (i := 668) (by decide +kernel), List.mem_of_getElem? (i := 823) (by decide +kernel), List.mem_of_getElem? (i := 824) (by decide +kernel)⟩
theorem lw_p24 : lw_okq (⟨"TableSetterModel", "isRow", "(I)Z"⟩, 41) := ⟨⟨by decide +kernel, by decide +kernel⟩, List.mem_of_getElem? (i := 668) (by decide +kernel), List.mem_of_getElem? (i := 835) (by decide +kernel), List.mem_of_getElem? (i := 836) (by decide +kernel)⟩
theorem lw_p25 : lw_okq (⟨"TableSetterModel", "meets", "(I)I"⟩, 41) := ⟨⟨by decide +kernel, by decide +kernel⟩, List.mem_of_getElem? (i := 668) (by decide +kernel), List.mem_of_getElem? (i := 839) (by decide +kernel), List.mem_of_getElem? (i := 840) (by decide +kernel)⟩
theorem lw_p26 : lw_okq (⟨"TableSetterModel", "cellOn", "(II)I"⟩, 41) := ⟨⟨by decide +kernel, by decide +kernel⟩, List.mem_of_getElem? (i := 668) (by decide +kernel), List.mem_of_getElem? (i := 843) (by decide +kernel), List.mem_of_getElem? (i := 844) (by decide +kernel)⟩
theorem lw_p27 : lw_okq (⟨"TableSetterModel", "liesOn", "(III)Z"⟩, 41) := ⟨⟨by decide +kernel, by decide +kernel⟩, List.mem_of_getElem? (i := 668) (by decide +kernel), List.mem_of_getElem? (i := 847) (by decide +kernel), List.mem_of_getElem? (i := 848) (by decide +kernel)⟩
theorem lw_p28 : lw_okq (⟨"TableSetterModel", "isCell", "(I)Z"⟩, 41) := ⟨⟨by decide +kernel, by decide +kernel⟩, List.mem_of_getElem? (i := 668) (by decide +kernel), List.mem_of_getElem? (i := 859) (by decide +kernel), List.mem_of_getElem? (i := 860) (by decide +kernel)⟩
theorem lw_p29 : lw_okq (⟨"TableSetterModel", "need", "(ZI)I"⟩, 41) := ⟨⟨by decide +kernel, by decide +kernel⟩, List.mem_of_getElem? (i := 668) (by decide +kernel), List.mem_of_getElem? (i := 867) (by decide +kernel), List.mem_of_getElem? (i := 868) (by decide +kernel)⟩
theorem lw_p30 : lw_okq (⟨"TableSetterModel", "toldOf", "(II)I"⟩, 41) := ⟨⟨by decide +kernel, by decide +kernel⟩, List.mem_of_getElem? (i := 668) (by decide +kernel), List.mem_of_getElem? (i := 871) (by decide +kernel), List.mem_of_getElem? (i := 872) (by decide +kernel)⟩
theorem lw_p31 : lw_okq (⟨"TableSetterModel", "lettersOf", "(I)I"⟩, 41) := ⟨⟨by decide +kernel, by decide +kernel⟩, List.mem_of_getElem? (i := 668) (by decide +kernel), List.mem_of_getElem? (i := 899) (by decide +kernel), List.mem_of_getElem? (i := 900) (by decide +kernel)⟩
def lw_privs_2 : List (MethodName × Nat) := [(⟨"TableSetter$Grid", "hasHead", "(I)Z"⟩, 7), (⟨"TableSetter$Pager", "findHomes", "()V"⟩, 12), (⟨"TableSetter$Pager", "planFrom", "(I)V"⟩, 12), (⟨"TableSetter$Pager", "isAlone", "(II)Z"⟩, 12), (⟨"TableSetter$Pager", "weigh", "(III)V"⟩, 12), (⟨"TableSetter$Pager", "layOut", "()V"⟩, 12), (⟨"TableSetterModel", "begin", "(III)V"⟩, 41), (⟨"TableSetterModel", "isColumn", "(I)Z"⟩, 41), (⟨"TableSetterModel", "isRow", "(I)Z"⟩, 41), (⟨"TableSetterModel", "meets", "(I)I"⟩, 41), (⟨"TableSetterModel", "cellOn", "(II)I"⟩, 41), (⟨"TableSetterModel", "liesOn", "(III)Z"⟩, 41), (⟨"TableSetterModel", "isCell", "(I)Z"⟩, 41), (⟨"TableSetterModel", "need", "(ZI)I"⟩, 41), (⟨"TableSetterModel", "toldOf", "(II)I"⟩, 41), (⟨"TableSetterModel", "lettersOf", "(I)I"⟩, 41)]
theorem lw_r2 : ∀ q ∈ lw_privs_2, lw_okq q := List.forall_mem_cons.mpr ⟨lw_p16, List.forall_mem_cons.mpr ⟨lw_p17, List.forall_mem_cons.mpr ⟨lw_p18, List.forall_mem_cons.mpr ⟨lw_p19, List.forall_mem_cons.mpr ⟨lw_p20, List.forall_mem_cons.mpr ⟨lw_p21, List.forall_mem_cons.mpr ⟨lw_p22, List.forall_mem_cons.mpr ⟨lw_p23, List.forall_mem_cons.mpr ⟨lw_p24, List.forall_mem_cons.mpr ⟨lw_p25, List.forall_mem_cons.mpr ⟨lw_p26, List.forall_mem_cons.mpr ⟨lw_p27, List.forall_mem_cons.mpr ⟨lw_p28, List.forall_mem_cons.mpr ⟨lw_p29, List.forall_mem_cons.mpr ⟨lw_p30, List.forall_mem_cons.mpr ⟨lw_p31, fun _ h => absurd h List.not_mem_nil⟩⟩⟩⟩⟩⟩⟩⟩⟩⟩⟩⟩⟩⟩⟩⟩
theorem lw_p32 : lw_okq (⟨"TableSetterModel", "linesOf", "(II)I"⟩, 41) := ⟨⟨by decide +kernel, by decide +kernel⟩, List.mem_of_getElem? (i := 668) (by decide +kernel), List.mem_of_getElem? (i := 915) (by decide +kernel), List.mem_of_getElem? (i := 916) (by decide +kernel)⟩
theorem lw_p33 : lw_okq (⟨"TableSetterModel", "wantOf", "(II)I"⟩, 41) := ⟨⟨by decide +kernel, by decide +kernel⟩, List.mem_of_getElem? (i := 668) (by decide +kernel), List.mem_of_getElem? (i := 923) (by decide +kernel), List.mem_of_getElem? (i := 924) (by decide +kernel)⟩
theorem lw_p34 : lw_okq (⟨"TableSetterModel", "layBoth", "()V"⟩, 41) := ⟨⟨by decide +kernel, by decide +kernel⟩, List.mem_of_getElem? (i := 668) (by decide +kernel), List.mem_of_getElem? (i := 931) (by decide +kernel), List.mem_of_getElem? (i := 932) (by decide +kernel)⟩
theorem lw_p35 : lw_okq (⟨"TableSetterModel", "layWidths", "(I[I)V"⟩, 41) := ⟨⟨by decide +kernel, by decide +kernel⟩, List.mem_of_getElem? (i := 668) (by decide +kernel), List.mem_of_getElem? (i := 935) (by decide +kernel), List.mem_of_getElem? (i := 936) (by decide +kernel)⟩
theorem lw_p36 : lw_okq (⟨"TableSetterModel", "widthOver", "([III)I"⟩, 41) := ⟨⟨by decide +kernel, by decide +kernel⟩, List.mem_of_getElem? (i := 668) (by decide +kernel), List.mem_of_getElem? (i := 939) (by decide +kernel), List.mem_of_getElem? (i := 940) (by decide +kernel)⟩
theorem lw_p37 : lw_okq (⟨"TableSetterModel", "lacks", "(III)V"⟩, 41) := ⟨⟨by decide +kernel, by decide +kernel⟩, List.mem_of_getElem? (i := 668) (by decide +kernel), List.mem_of_getElem? (i := 943) (by decide +kernel), List.mem_of_getElem? (i := 944) (by decide +kernel)⟩
theorem lw_p38 : lw_okq (⟨"TableSetterModel", "share", "(III)V"⟩, 41) := ⟨⟨by decide +kernel, by decide +kernel⟩, List.mem_of_getElem? (i := 668) (by decide +kernel), List.mem_of_getElem? (i := 947) (by decide +kernel), List.mem_of_getElem? (i := 948) (by decide +kernel)⟩
theorem lw_p39 : lw_okq (⟨"TableSetterModel", "sumOf", "([I)I"⟩, 41) := ⟨⟨by decide +kernel, by decide +kernel⟩, List.mem_of_getElem? (i := 668) (by decide +kernel), List.mem_of_getElem? (i := 955) (by decide +kernel), List.mem_of_getElem? (i := 956) (by decide +kernel)⟩
theorem lw_p40 : lw_okq (⟨"TableSetterModel", "heightBy", "([I)I"⟩, 41) := ⟨⟨by decide +kernel, by decide +kernel⟩, List.mem_of_getElem? (i := 668) (by decide +kernel), List.mem_of_getElem? (i := 959) (by decide +kernel), List.mem_of_getElem? (i := 960) (by decide +kernel)⟩
theorem lw_p41 : lw_okq (⟨"TableSetterModel", "layHeights", "([I)V"⟩, 41) := ⟨⟨by decide +kernel, by decide +kernel⟩, List.mem_of_getElem? (i := 668) (by decide +kernel), List.mem_of_getElem? (i := 963) (by decide +kernel), List.mem_of_getElem? (i := 964) (by decide +kernel)⟩
theorem lw_p42 : lw_okq (⟨"TableSetterModel", "next", "()Z"⟩, 41) := ⟨⟨by decide +kernel, by decide +kernel⟩, List.mem_of_getElem? (i := 668) (by decide +kernel), List.mem_of_getElem? (i := 971) (by decide +kernel), List.mem_of_getElem? (i := 972) (by decide +kernel)⟩
theorem lw_p43 : lw_okq (⟨"TableSetterModel", "mayBreakAt", "(I)Z"⟩, 41) := ⟨⟨by decide +kernel, by decide +kernel⟩, List.mem_of_getElem? (i := 668) (by decide +kernel), List.mem_of_getElem? (i := 991) (by decide +kernel), List.mem_of_getElem? (i := 992) (by decide +kernel)⟩
theorem lw_p44 : lw_okq (⟨"TableSetterModel", "headRows", "()I"⟩, 41) := ⟨⟨by decide +kernel, by decide +kernel⟩, List.mem_of_getElem? (i := 668) (by decide +kernel), List.mem_of_getElem? (i := 995) (by decide +kernel), List.mem_of_getElem? (i := 996) (by decide +kernel)⟩
theorem lw_p45 : lw_okq (⟨"TableSetterModel", "emptyOf", "(IIII)I"⟩, 41) := ⟨⟨by decide +kernel, by decide +kernel⟩, List.mem_of_getElem? (i := 668) (by decide +kernel), List.mem_of_getElem? (i := 1003) (by decide +kernel), List.mem_of_getElem? (i := 1004) (by decide +kernel)⟩
theorem lw_p46 : lw_okq (⟨"TableSetterModel", "notesOn", "(III)I"⟩, 41) := ⟨⟨by decide +kernel, by decide +kernel⟩, List.mem_of_getElem? (i := 668) (by decide +kernel), List.mem_of_getElem? (i := 1007) (by decide +kernel), List.mem_of_getElem? (i := 1008) (by decide +kernel)⟩
theorem lw_p47 : lw_okq (⟨"TableSetterModel", "homeOf", "(II)I"⟩, 41) := ⟨⟨by decide +kernel, by decide +kernel⟩, List.mem_of_getElem? (i := 668) (by decide +kernel), List.mem_of_getElem? (i := 1011) (by decide +kernel), List.mem_of_getElem? (i := 1012) (by decide +kernel)⟩
def lw_privs_3 : List (MethodName × Nat) := [(⟨"TableSetterModel", "linesOf", "(II)I"⟩, 41), (⟨"TableSetterModel", "wantOf", "(II)I"⟩, 41), (⟨"TableSetterModel", "layBoth", "()V"⟩, 41), (⟨"TableSetterModel", "layWidths", "(I[I)V"⟩, 41), (⟨"TableSetterModel", "widthOver", "([III)I"⟩, 41), (⟨"TableSetterModel", "lacks", "(III)V"⟩, 41), (⟨"TableSetterModel", "share", "(III)V"⟩, 41), (⟨"TableSetterModel", "sumOf", "([I)I"⟩, 41), (⟨"TableSetterModel", "heightBy", "([I)I"⟩, 41), (⟨"TableSetterModel", "layHeights", "([I)V"⟩, 41), (⟨"TableSetterModel", "next", "()Z"⟩, 41), (⟨"TableSetterModel", "mayBreakAt", "(I)Z"⟩, 41), (⟨"TableSetterModel", "headRows", "()I"⟩, 41), (⟨"TableSetterModel", "emptyOf", "(IIII)I"⟩, 41), (⟨"TableSetterModel", "notesOn", "(III)I"⟩, 41), (⟨"TableSetterModel", "homeOf", "(II)I"⟩, 41)]
theorem lw_r3 : ∀ q ∈ lw_privs_3, lw_okq q := List.forall_mem_cons.mpr ⟨lw_p32, List.forall_mem_cons.mpr ⟨lw_p33, List.forall_mem_cons.mpr ⟨lw_p34, List.forall_mem_cons.mpr ⟨lw_p35, List.forall_mem_cons.mpr ⟨lw_p36, List.forall_mem_cons.mpr ⟨lw_p37, List.forall_mem_cons.mpr ⟨lw_p38, List.forall_mem_cons.mpr ⟨lw_p39, List.forall_mem_cons.mpr ⟨lw_p40, List.forall_mem_cons.mpr ⟨lw_p41, List.forall_mem_cons.mpr ⟨lw_p42, List.forall_mem_cons.mpr ⟨lw_p43, List.forall_mem_cons.mpr ⟨lw_p44, List.forall_mem_cons.mpr ⟨lw_p45, List.forall_mem_cons.mpr ⟨lw_p46, List.forall_mem_cons.mpr ⟨lw_p47, fun _ h => absurd h List.not_mem_nil⟩⟩⟩⟩⟩⟩⟩⟩⟩⟩⟩⟩⟩⟩⟩⟩
theorem lw_p48 : lw_okq (⟨"TableSetterModel", "pageTold", "(II)I"⟩, 41) := ⟨⟨by decide +kernel, by decide +kernel⟩, List.mem_of_getElem? (i := 668) (by decide +kernel), List.mem_of_getElem? (i := 1019) (by decide +kernel), List.mem_of_getElem? (i := 1020) (by decide +kernel)⟩
theorem lw_p49 : lw_okq (⟨"TableSetterModel", "digestCell", "(JI)J"⟩, 41) := ⟨⟨by decide +kernel, by decide +kernel⟩, List.mem_of_getElem? (i := 668) (by decide +kernel), List.mem_of_getElem? (i := 1037) (by decide +kernel), List.mem_of_getElem? (i := 1038) (by decide +kernel)⟩
def lw_privs_4 : List (MethodName × Nat) := [(⟨"TableSetterModel", "pageTold", "(II)I"⟩, 41), (⟨"TableSetterModel", "digestCell", "(JI)J"⟩, 41)]
theorem lw_r4 : ∀ q ∈ lw_privs_4, lw_okq q := List.forall_mem_cons.mpr ⟨lw_p48, List.forall_mem_cons.mpr ⟨lw_p49, fun _ h => absurd h List.not_mem_nil⟩⟩
def lw_privs : List (MethodName × Nat) := lw_privs_1 ++ (lw_privs_2 ++ (lw_privs_3 ++ (lw_privs_4)))
def lw_tbl : List Cond := k2_sels lw_privs ++ tables_1
theorem lw_privs_ok : ∀ q ∈ lw_privs, lw_okq q := by
  show ∀ q ∈ lw_privs_1 ++ (lw_privs_2 ++ (lw_privs_3 ++ (lw_privs_4))), lw_okq q
  exact List.forall_mem_append.mpr ⟨lw_r1, List.forall_mem_append.mpr ⟨lw_r2, List.forall_mem_append.mpr ⟨lw_r3, lw_r4⟩⟩⟩
end
section
def RX0 : String := "TableSetter$Cell"
def TX0 : u_T := fun k => match k with
  | 0 => ("TableSetter$Cell", "kind", "I", false)
  | 1 => ("TableSetter$Cell", "row", "I", false)
  | 2 => ("TableSetter$Cell", "column", "I", false)
  | 3 => ("TableSetter$Cell", "rows", "I", false)
  | 4 => ("TableSetter$Cell", "cols", "I", false)
  | 5 => ("TableSetter$Cell", "called", "I", false)
  | 6 => ("TableSetter$Cell", "fixedWidth", "I", false)
  | 7 => ("TableSetter$Cell", "pieces", "I", false)
  | 8 => ("TableSetter$Cell", "gone", "Z", false)
  | 9 => ("TableSetter$Cell", "letters", "[I", true)
  | _ => ("TableSetter$Cell", "knownLines", "[I", true)
def tyX0 : Nat → FieldType := fun k => match k with
  | 0 => .int
  | 1 => .int
  | 2 => .int
  | 3 => .int
  | 4 => .int
  | 5 => .int
  | 6 => .int
  | 7 => .int
  | 8 => .boolean
  | 9 => .array .int
  | _ => .array .int
abbrev wsX00 : List Cond := u_ws RX0 TX0 11
theorem nmX0 : ∀ a, a < 11 → ∀ b, b < 11 → a ≠ b → (TX0 a).2.1 ≠ (TX0 b).2.1 := by decide +kernel
theorem tyX0_ok : ∀ k, k < 11 → parseFieldDescriptor (TX0 k).2.2.1 = some (tyX0 k) := by decide +kernel
abbrev cX0_init : ByteArray := prog_2_method_1_code
def yX0_init : MethodName := ⟨RX0, "<init>", "()V"⟩
abbrev cX0_begin : ByteArray := prog_2_method_2_code
def yX0_begin : MethodName := ⟨RX0, "begin", "(IIIII)V"⟩
abbrev cX0_fact : ByteArray := prog_2_method_3_code
def yX0_fact : MethodName := ⟨RX0, "fact", "(I)I"⟩
abbrev cX0_meets : ByteArray := prog_2_method_4_code
def yX0_meets : MethodName := ⟨RX0, "meets", "(IIII)Z"⟩
abbrev cX0_liesOnRow : ByteArray := prog_2_method_5_code
def yX0_liesOnRow : MethodName := ⟨RX0, "liesOnRow", "(I)Z"⟩
abbrev cX0_fill : ByteArray := prog_2_method_6_code
def yX0_fill : MethodName := ⟨RX0, "fill", "(I)V"⟩
abbrev cX0_holds : ByteArray := prog_2_method_7_code
def yX0_holds : MethodName := ⟨RX0, "holds", "(II)Z"⟩
abbrev cX0_exchange : ByteArray := prog_2_method_8_code
def yX0_exchange : MethodName := ⟨RX0, "exchange", "(II)I"⟩
abbrev cX0_take : ByteArray := prog_2_method_9_code
def yX0_take : MethodName := ⟨RX0, "take", "(LTableSetter$Cell;III)V"⟩
abbrev cX0_allLetters : ByteArray := prog_2_method_10_code
def yX0_allLetters : MethodName := ⟨RX0, "allLetters", "()I"⟩
abbrev cX0_wanted : ByteArray := prog_2_method_11_code
def yX0_wanted : MethodName := ⟨RX0, "wanted", "(I)I"⟩
abbrev cX0_longestPiece : ByteArray := prog_2_method_12_code
def yX0_longestPiece : MethodName := ⟨RX0, "longestPiece", "()I"⟩
abbrev cX0_linesIn : ByteArray := prog_2_method_13_code
def yX0_linesIn : MethodName := ⟨RX0, "linesIn", "(I)I"⟩
abbrev cX0_countLines : ByteArray := prog_2_method_14_code
def yX0_countLines : MethodName := ⟨RX0, "countLines", "(I)I"⟩
abbrev cX0_forgetLines : ByteArray := prog_2_method_15_code
def yX0_forgetLines : MethodName := ⟨RX0, "forgetLines", "()V"⟩
def RX1 : String := "TableSetter$Grid"
def TX1 : u_T := fun k => match k with
  | 0 => ("TableSetter$Grid", "rows", "I", false)
  | 1 => ("TableSetter$Grid", "columns", "I", false)
  | 2 => ("TableSetter$Grid", "gap", "I", false)
  | 3 => ("TableSetter$Grid", "ever", "I", false)
  | 4 => ("TableSetter$Grid", "weights", "[I", true)
  | 5 => ("TableSetter$Grid", "noteLines", "[I", true)
  | _ => ("TableSetter$Grid", "cells", "[LTableSetter$Cell;", true)
def tyX1 : Nat → FieldType := fun k => match k with
  | 0 => .int
  | 1 => .int
  | 2 => .int
  | 3 => .int
  | 4 => .array .int
  | 5 => .array .int
  | _ => .array (.object "TableSetter$Cell")
abbrev wsX10 : List Cond := u_ws RX1 TX1 7
theorem nmX1 : ∀ a, a < 7 → ∀ b, b < 7 → a ≠ b → (TX1 a).2.1 ≠ (TX1 b).2.1 := by decide +kernel
theorem tyX1_ok : ∀ k, k < 7 → parseFieldDescriptor (TX1 k).2.2.1 = some (tyX1 k) := by decide +kernel
abbrev cX1_init : ByteArray := prog_3_method_1_code
def yX1_init : MethodName := ⟨RX1, "<init>", "()V"⟩
abbrev cX1_begin : ByteArray := prog_3_method_2_code
def yX1_begin : MethodName := ⟨RX1, "begin", "(III)V"⟩
abbrev cX1_numbered : ByteArray := prog_3_method_3_code
def yX1_numbered : MethodName := ⟨RX1, "numbered", "(I)LTableSetter$Cell;"⟩
abbrev cX1_present : ByteArray := prog_3_method_4_code
def yX1_present : MethodName := ⟨RX1, "present", "(I)LTableSetter$Cell;"⟩
abbrev cX1_add : ByteArray := prog_3_method_5_code
def yX1_add : MethodName := ⟨RX1, "add", "(IIIII)I"⟩
abbrev cX1_firstOn : ByteArray := prog_3_method_6_code
def yX1_firstOn : MethodName := ⟨RX1, "firstOn", "(IIII)I"⟩
abbrev cX1_presentCells : ByteArray := prog_3_method_7_code
def yX1_presentCells : MethodName := ⟨RX1, "presentCells", "()I"⟩
abbrev cX1_headRows : ByteArray := prog_3_method_8_code
def yX1_headRows : MethodName := ⟨RX1, "headRows", "()I"⟩
abbrev cX1_hasHead : ByteArray := prog_3_method_9_code
def yX1_hasHead : MethodName := ⟨RX1, "hasHead", "(I)Z"⟩
abbrev cX1_breaksAhead : ByteArray := prog_3_method_10_code
def yX1_breaksAhead : MethodName := ⟨RX1, "breaksAhead", "(II)Z"⟩
abbrev cX1_firstCall : ByteArray := prog_3_method_11_code
def yX1_firstCall : MethodName := ⟨RX1, "firstCall", "(I)I"⟩
abbrev cX1_gaps : ByteArray := prog_3_method_12_code
def yX1_gaps : MethodName := ⟨RX1, "gaps", "()I"⟩
abbrev cX1_spanOf : ByteArray := prog_3_method_13_code
def yX1_spanOf : MethodName := ⟨RX1, "spanOf", "(LTableSetter$Cell;[I)I"⟩
def RX2 : String := "TableSetter$Heights"
def TX2 : u_T := fun k => match k with
  | 0 => ("TableSetter$Heights", "now", "[I", true)
  | 1 => ("TableSetter$Heights", "grid", "LTableSetter$Grid;", true)
  | 2 => ("TableSetter$Heights", "growth", "[I", true)
  | 3 => ("TableSetter$Heights", "order", "[LTableSetter$Cell;", true)
  | _ => ("TableSetter$Heights", "ordered", "I", false)
def tyX2 : Nat → FieldType := fun k => match k with
  | 0 => .array .int
  | 1 => .object "TableSetter$Grid"
  | 2 => .array .int
  | 3 => .array (.object "TableSetter$Cell")
  | _ => .int
abbrev wsX20 : List Cond := u_ws RX2 TX2 5
theorem nmX2 : ∀ a, a < 5 → ∀ b, b < 5 → a ≠ b → (TX2 a).2.1 ≠ (TX2 b).2.1 := by decide +kernel
theorem tyX2_ok : ∀ k, k < 5 → parseFieldDescriptor (TX2 k).2.2.1 = some (tyX2 k) := by decide +kernel
abbrev cX2_init : ByteArray := prog_4_method_1_code
def yX2_init : MethodName := ⟨RX2, "<init>", "(LTableSetter$Grid;)V"⟩
abbrev cX2_sortCells : ByteArray := prog_4_method_2_code
def yX2_sortCells : MethodName := ⟨RX2, "sortCells", "()V"⟩
abbrev cX2_measure : ByteArray := prog_4_method_3_code
def yX2_measure : MethodName := ⟨RX2, "measure", "([I)I"⟩
abbrev cX2_noteLack : ByteArray := prog_4_method_4_code
def yX2_noteLack : MethodName := ⟨RX2, "noteLack", "(LTableSetter$Cell;I)V"⟩
abbrev cX2_grow : ByteArray := prog_4_method_5_code
def yX2_grow : MethodName := ⟨RX2, "grow", "()V"⟩
abbrev cX2_sum : ByteArray := prog_4_method_6_code
def yX2_sum : MethodName := ⟨RX2, "sum", "()I"⟩
def RX3 : String := "TableSetter$Pager"
def TX3 : u_T := fun k => match k with
  | 0 => ("TableSetter$Pager", "made", "I", false)
  | 1 => ("TableSetter$Pager", "facts", "[[I", true)
  | 2 => ("TableSetter$Pager", "grid", "LTableSetter$Grid;", true)
  | 3 => ("TableSetter$Pager", "heights", "LTableSetter$Heights;", true)
  | 4 => ("TableSetter$Pager", "homeNotes", "[I", true)
  | 5 => ("TableSetter$Pager", "homeLines", "[I", true)
  | 6 => ("TableSetter$Pager", "fewest", "[I", true)
  | 7 => ("TableSetter$Pager", "waste", "[I", true)
  | 8 => ("TableSetter$Pager", "ends", "[I", true)
  | 9 => ("TableSetter$Pager", "room", "I", false)
  | 10 => ("TableSetter$Pager", "body", "I", false)
  | _ => ("TableSetter$Pager", "last", "I", false)
def tyX3 : Nat → FieldType := fun k => match k with
  | 0 => .int
  | 1 => .array (.array .int)
  | 2 => .object "TableSetter$Grid"
  | 3 => .object "TableSetter$Heights"
  | 4 => .array .int
  | 5 => .array .int
  | 6 => .array .int
  | 7 => .array .int
  | 8 => .array .int
  | 9 => .int
  | 10 => .int
  | _ => .int
abbrev wsX30 : List Cond := u_ws RX3 TX3 12
theorem nmX3 : ∀ a, a < 12 → ∀ b, b < 12 → a ≠ b → (TX3 a).2.1 ≠ (TX3 b).2.1 := by decide +kernel
theorem tyX3_ok : ∀ k, k < 12 → parseFieldDescriptor (TX3 k).2.2.1 = some (tyX3 k) := by decide +kernel
abbrev cX3_init : ByteArray := prog_5_method_1_code
def yX3_init : MethodName := ⟨RX3, "<init>", "(LTableSetter$Grid;LTableSetter$Heights;)V"⟩
abbrev cX3_forget : ByteArray := prog_5_method_2_code
def yX3_forget : MethodName := ⟨RX3, "forget", "()V"⟩
abbrev cX3_make : ByteArray := prog_5_method_3_code
def yX3_make : MethodName := ⟨RX3, "make", "(I)I"⟩
abbrev cX3_findHomes : ByteArray := prog_5_method_4_code
def yX3_findHomes : MethodName := ⟨RX3, "findHomes", "()V"⟩
abbrev cX3_planFrom : ByteArray := prog_5_method_5_code
def yX3_planFrom : MethodName := ⟨RX3, "planFrom", "(I)V"⟩
abbrev cX3_isAlone : ByteArray := prog_5_method_6_code
def yX3_isAlone : MethodName := ⟨RX3, "isAlone", "(II)Z"⟩
abbrev cX3_weigh : ByteArray := prog_5_method_7_code
def yX3_weigh : MethodName := ⟨RX3, "weigh", "(III)V"⟩
abbrev cX3_layOut : ByteArray := prog_5_method_8_code
def yX3_layOut : MethodName := ⟨RX3, "layOut", "()V"⟩
abbrev cX3_holding : ByteArray := prog_5_method_9_code
def yX3_holding : MethodName := ⟨RX3, "holding", "(I)I"⟩
def RX4 : String := "TableSetter$Share"
def TX4 : u_T := fun k => match k with
  | 0 => ("TableSetter$Share", "parts", "[I", true)
  | _ => ("TableSetter$Share", "cutOff", "[I", true)
def tyX4 : Nat → FieldType := fun k => match k with
  | 0 => .array .int
  | _ => .array .int
abbrev wsX40 : List Cond := u_ws RX4 TX4 2
theorem nmX4 : ∀ a, a < 2 → ∀ b, b < 2 → a ≠ b → (TX4 a).2.1 ≠ (TX4 b).2.1 := by decide +kernel
theorem tyX4_ok : ∀ k, k < 2 → parseFieldDescriptor (TX4 k).2.2.1 = some (tyX4 k) := by decide +kernel
abbrev cX4_init : ByteArray := prog_6_method_1_code
def yX4_init : MethodName := ⟨RX4, "<init>", "()V"⟩
abbrev cX4_divide : ByteArray := prog_6_method_2_code
def yX4_divide : MethodName := ⟨RX4, "divide", "(I[III)V"⟩
abbrev cX4_giveOne : ByteArray := prog_6_method_3_code
def yX4_giveOne : MethodName := ⟨RX4, "giveOne", "(II)V"⟩
def RX5 : String := "TableSetter$Widths"
def TX5 : u_T := fun k => match k with
  | 0 => ("TableSetter$Widths", "now", "[I", true)
  | 1 => ("TableSetter$Widths", "least", "[I", true)
  | 2 => ("TableSetter$Widths", "best", "[I", true)
  | 3 => ("TableSetter$Widths", "grid", "LTableSetter$Grid;", true)
  | 4 => ("TableSetter$Widths", "heights", "LTableSetter$Heights;", true)
  | 5 => ("TableSetter$Widths", "share", "LTableSetter$Share;", true)
  | 6 => ("TableSetter$Widths", "growth", "[I", true)
  | 7 => ("TableSetter$Widths", "more", "[I", true)
  | _ => ("TableSetter$Widths", "trial", "[I", true)
def tyX5 : Nat → FieldType := fun k => match k with
  | 0 => .array .int
  | 1 => .array .int
  | 2 => .array .int
  | 3 => .object "TableSetter$Grid"
  | 4 => .object "TableSetter$Heights"
  | 5 => .object "TableSetter$Share"
  | 6 => .array .int
  | 7 => .array .int
  | _ => .array .int
abbrev wsX50 : List Cond := u_ws RX5 TX5 9
theorem nmX5 : ∀ a, a < 9 → ∀ b, b < 9 → a ≠ b → (TX5 a).2.1 ≠ (TX5 b).2.1 := by decide +kernel
theorem tyX5_ok : ∀ k, k < 9 → parseFieldDescriptor (TX5 k).2.2.1 = some (tyX5 k) := by decide +kernel
abbrev cX5_init : ByteArray := prog_7_method_1_code
def yX5_init : MethodName := ⟨RX5, "<init>", "(LTableSetter$Grid;LTableSetter$Heights;)V"⟩
abbrev cX5_forget : ByteArray := prog_7_method_2_code
def yX5_forget : MethodName := ⟨RX5, "forget", "()V"⟩
abbrev cX5_measure : ByteArray := prog_7_method_3_code
def yX5_measure : MethodName := ⟨RX5, "measure", "()V"⟩
abbrev cX5_measureFor : ByteArray := prog_7_method_4_code
def yX5_measureFor : MethodName := ⟨RX5, "measureFor", "(I[I)V"⟩
abbrev cX5_noteLack : ByteArray := prog_7_method_5_code
def yX5_noteLack : MethodName := ⟨RX5, "noteLack", "(LTableSetter$Cell;I)V"⟩
abbrev cX5_addTo : ByteArray := prog_7_method_6_code
def yX5_addTo : MethodName := ⟨RX5, "addTo", "([I[I)V"⟩
abbrev cX5_spareOf : ByteArray := prog_7_method_7_code
def yX5_spareOf : MethodName := ⟨RX5, "spareOf", "(I)I"⟩
abbrev cX5_sumOf : ByteArray := prog_7_method_8_code
def yX5_sumOf : MethodName := ⟨RX5, "sumOf", "([I)I"⟩
abbrev cX5_spread : ByteArray := prog_7_method_9_code
def yX5_spread : MethodName := ⟨RX5, "spread", "(I)V"⟩
abbrev cX5_waysToSpread : ByteArray := prog_7_method_10_code
def yX5_waysToSpread : MethodName := ⟨RX5, "waysToSpread", "(I)J"⟩
abbrev cX5_tighten : ByteArray := prog_7_method_11_code
def yX5_tighten : MethodName := ⟨RX5, "tighten", "(II)I"⟩
abbrev cX5_tryNext : ByteArray := prog_7_method_12_code
def yX5_tryNext : MethodName := ⟨RX5, "tryNext", "()V"⟩
abbrev cX5_addToLast : ByteArray := prog_7_method_13_code
def yX5_addToLast : MethodName := ⟨RX5, "addToLast", "(I)V"⟩
def RX6 : String := "TableSetter"
def TX6 : u_T := fun k => match k with
  | 0 => ("TableSetter", "grid", "LTableSetter$Grid;", true)
  | 1 => ("TableSetter", "heights", "LTableSetter$Heights;", true)
  | 2 => ("TableSetter", "widths", "LTableSetter$Widths;", true)
  | 3 => ("TableSetter", "pager", "LTableSetter$Pager;", true)
  | 4 => ("TableSetter", "findingCounts", "[I", true)
  | 5 => ("TableSetter", "latestFinding", "I", false)
  | 6 => ("TableSetter", "latestClash", "I", false)
  | _ => ("TableSetter", "latestTries", "I", false)
def tyX6 : Nat → FieldType := fun k => match k with
  | 0 => .object "TableSetter$Grid"
  | 1 => .object "TableSetter$Heights"
  | 2 => .object "TableSetter$Widths"
  | 3 => .object "TableSetter$Pager"
  | 4 => .array .int
  | 5 => .int
  | 6 => .int
  | _ => .int
abbrev wsX60 : List Cond := u_ws RX6 TX6 8
theorem nmX6 : ∀ a, a < 8 → ∀ b, b < 8 → a ≠ b → (TX6 a).2.1 ≠ (TX6 b).2.1 := by decide +kernel
theorem tyX6_ok : ∀ k, k < 8 → parseFieldDescriptor (TX6 k).2.2.1 = some (tyX6 k) := by decide +kernel
abbrev cX6_init : ByteArray := prog_1_method_1_code
def yX6_init : MethodName := ⟨RX6, "<init>", "()V"⟩
abbrev cX6_table : ByteArray := prog_1_method_2_code
def yX6_table : MethodName := ⟨RX6, "table", "(III)I"⟩
abbrev cX6_weight : ByteArray := prog_1_method_3_code
def yX6_weight : MethodName := ⟨RX6, "weight", "(II)I"⟩
abbrev cX6_note : ByteArray := prog_1_method_4_code
def yX6_note : MethodName := ⟨RX6, "note", "(II)I"⟩
abbrev cX6_cell : ByteArray := prog_1_method_5_code
def yX6_cell : MethodName := ⟨RX6, "cell", "(IIIII)I"⟩
abbrev cX6_clash : ByteArray := prog_1_method_6_code
def yX6_clash : MethodName := ⟨RX6, "clash", "()I"⟩
abbrev cX6_drop : ByteArray := prog_1_method_7_code
def yX6_drop : MethodName := ⟨RX6, "drop", "(I)I"⟩
abbrev cX6_told : ByteArray := prog_1_method_8_code
def yX6_told : MethodName := ⟨RX6, "told", "(II)I"⟩
abbrev cX6_is : ByteArray := prog_1_method_9_code
def yX6_is : MethodName := ⟨RX6, "is", "(II)I"⟩
abbrev cX6_on : ByteArray := prog_1_method_10_code
def yX6_on : MethodName := ⟨RX6, "on", "(II)I"⟩
abbrev cX6_words : ByteArray := prog_1_method_11_code
def yX6_words : MethodName := ⟨RX6, "words", "(II)I"⟩
abbrev cX6_word : ByteArray := prog_1_method_12_code
def yX6_word : MethodName := ⟨RX6, "word", "(III)I"⟩
abbrev cX6_copy : ByteArray := prog_1_method_13_code
def yX6_copy : MethodName := ⟨RX6, "copy", "(IIIII)I"⟩
abbrev cX6_mean : ByteArray := prog_1_method_14_code
def yX6_mean : MethodName := ⟨RX6, "mean", "(I)I"⟩
abbrev cX6_calls : ByteArray := prog_1_method_15_code
def yX6_calls : MethodName := ⟨RX6, "calls", "(II)I"⟩
abbrev cX6_fix : ByteArray := prog_1_method_16_code
def yX6_fix : MethodName := ⟨RX6, "fix", "(II)I"⟩
abbrev cX6_lines : ByteArray := prog_1_method_17_code
def yX6_lines : MethodName := ⟨RX6, "lines", "(II)I"⟩
abbrev cX6_want : ByteArray := prog_1_method_18_code
def yX6_want : MethodName := ⟨RX6, "want", "(II)I"⟩
abbrev cX6_natural : ByteArray := prog_1_method_19_code
def yX6_natural : MethodName := ⟨RX6, "natural", "(II)I"⟩
abbrev cX6_set : ByteArray := prog_1_method_20_code
def yX6_set : MethodName := ⟨RX6, "set", "(I)I"⟩
abbrev cX6_tight : ByteArray := prog_1_method_21_code
def yX6_tight : MethodName := ⟨RX6, "tight", "(II)I"⟩
abbrev cX6_tries : ByteArray := prog_1_method_22_code
def yX6_tries : MethodName := ⟨RX6, "tries", "()I"⟩
abbrev cX6_width : ByteArray := prog_1_method_23_code
def yX6_width : MethodName := ⟨RX6, "width", "(I)I"⟩
abbrev cX6_height : ByteArray := prog_1_method_24_code
def yX6_height : MethodName := ⟨RX6, "height", "(I)I"⟩
abbrev cX6_pages : ByteArray := prog_1_method_25_code
def yX6_pages : MethodName := ⟨RX6, "pages", "(I)I"⟩
abbrev cX6_page : ByteArray := prog_1_method_26_code
def yX6_page : MethodName := ⟨RX6, "page", "(II)I"⟩
abbrev cX6_pageOf : ByteArray := prog_1_method_27_code
def yX6_pageOf : MethodName := ⟨RX6, "pageOf", "(I)I"⟩
abbrev cX6_mayBreak : ByteArray := prog_1_method_28_code
def yX6_mayBreak : MethodName := ⟨RX6, "mayBreak", "(I)I"⟩
abbrev cX6_count : ByteArray := prog_1_method_29_code
def yX6_count : MethodName := ⟨RX6, "count", "(I)I"⟩
abbrev cX6_finding : ByteArray := prog_1_method_30_code
def yX6_finding : MethodName := ⟨RX6, "finding", "()I"⟩
abbrev cX6_findings : ByteArray := prog_1_method_31_code
def yX6_findings : MethodName := ⟨RX6, "findings", "(I)I"⟩
abbrev cX6_digest : ByteArray := prog_1_method_32_code
def yX6_digest : MethodName := ⟨RX6, "digest", "()J"⟩
abbrev cX6_mixed : ByteArray := prog_1_method_33_code
def yX6_mixed : MethodName := ⟨RX6, "mixed", "(J[II)J"⟩
abbrev cX6_mixedCell : ByteArray := prog_1_method_34_code
def yX6_mixedCell : MethodName := ⟨RX6, "mixedCell", "(JLTableSetter$Cell;)J"⟩
abbrev cX6_isWithin : ByteArray := prog_1_method_35_code
def yX6_isWithin : MethodName := ⟨RX6, "isWithin", "(III)Z"⟩
abbrev cX6_isPlace : ByteArray := prog_1_method_36_code
def yX6_isPlace : MethodName := ⟨RX6, "isPlace", "(II)Z"⟩
abbrev cX6_tell : ByteArray := prog_1_method_37_code
def yX6_tell : MethodName := ⟨RX6, "tell", "(I)I"⟩
abbrev cX6_heightOfTable : ByteArray := prog_1_method_38_code
def yX6_heightOfTable : MethodName := ⟨RX6, "heightOfTable", "()I"⟩
def RX7 : String := "TableSetterModel"
def TX7 : u_T := fun k => match k with
  | 0 => ("TableSetterModel", "latest", "I", false)
  | 1 => ("TableSetterModel", "came", "[I", true)
  | 2 => ("TableSetterModel", "rows", "I", false)
  | 3 => ("TableSetterModel", "columns", "I", false)
  | 4 => ("TableSetterModel", "gap", "I", false)
  | 5 => ("TableSetterModel", "weights", "[I", true)
  | 6 => ("TableSetterModel", "noteLines", "[I", true)
  | 7 => ("TableSetterModel", "cells", "I", false)
  | 8 => ("TableSetterModel", "kindOf", "[I", true)
  | 9 => ("TableSetterModel", "rowOf", "[I", true)
  | 10 => ("TableSetterModel", "columnOf", "[I", true)
  | 11 => ("TableSetterModel", "rowMany", "[I", true)
  | 12 => ("TableSetterModel", "columnMany", "[I", true)
  | 13 => ("TableSetterModel", "isGone", "[Z", true)
  | 14 => ("TableSetterModel", "wordMany", "[I", true)
  | 15 => ("TableSetterModel", "letters", "[I", true)
  | 16 => ("TableSetterModel", "called", "[I", true)
  | 17 => ("TableSetterModel", "fixed", "[I", true)
  | 18 => ("TableSetterModel", "clash", "I", false)
  | 19 => ("TableSetterModel", "copied", "[I", true)
  | 20 => ("TableSetterModel", "numbers", "[I", true)
  | 21 => ("TableSetterModel", "shares", "[I", true)
  | 22 => ("TableSetterModel", "rests", "[I", true)
  | 23 => ("TableSetterModel", "widths", "[I", true)
  | 24 => ("TableSetterModel", "least", "[I", true)
  | 25 => ("TableSetterModel", "best", "[I", true)
  | 26 => ("TableSetterModel", "grows", "[I", true)
  | 27 => ("TableSetterModel", "heights", "[I", true)
  | 28 => ("TableSetterModel", "rises", "[I", true)
  | 29 => ("TableSetterModel", "tries", "I", false)
  | 30 => ("TableSetterModel", "trial", "[I", true)
  | 31 => ("TableSetterModel", "first", "[I", true)
  | 32 => ("TableSetterModel", "pageMany", "I", false)
  | 33 => ("TableSetterModel", "pageFirst", "[I", true)
  | 34 => ("TableSetterModel", "pageRows", "[I", true)
  | 35 => ("TableSetterModel", "pageEmpty", "[I", true)
  | 36 => ("TableSetterModel", "pageNotes", "[I", true)
  | 37 => ("TableSetterModel", "pageOf", "[I", true)
  | 38 => ("TableSetterModel", "bestPages", "[I", true)
  | 39 => ("TableSetterModel", "bestSquares", "[J", true)
  | _ => ("TableSetterModel", "bestRows", "[I", true)
def tyX7 : Nat → FieldType := fun k => match k with
  | 0 => .int
  | 1 => .array .int
  | 2 => .int
  | 3 => .int
  | 4 => .int
  | 5 => .array .int
  | 6 => .array .int
  | 7 => .int
  | 8 => .array .int
  | 9 => .array .int
  | 10 => .array .int
  | 11 => .array .int
  | 12 => .array .int
  | 13 => .array .boolean
  | 14 => .array .int
  | 15 => .array .int
  | 16 => .array .int
  | 17 => .array .int
  | 18 => .int
  | 19 => .array .int
  | 20 => .array .int
  | 21 => .array .int
  | 22 => .array .int
  | 23 => .array .int
  | 24 => .array .int
  | 25 => .array .int
  | 26 => .array .int
  | 27 => .array .int
  | 28 => .array .int
  | 29 => .int
  | 30 => .array .int
  | 31 => .array .int
  | 32 => .int
  | 33 => .array .int
  | 34 => .array .int
  | 35 => .array .int
  | 36 => .array .int
  | 37 => .array .int
  | 38 => .array .int
  | 39 => .array .long
  | _ => .array .int
abbrev wsX70 : List Cond := u_ws RX7 TX7 41
theorem nmX7 : ∀ a, a < 41 → ∀ b, b < 41 → a ≠ b → (TX7 a).2.1 ≠ (TX7 b).2.1 := by decide +kernel
theorem tyX7_ok : ∀ k, k < 41 → parseFieldDescriptor (TX7 k).2.2.1 = some (tyX7 k) := by decide +kernel
abbrev cX7_init : ByteArray := prog_9_method_1_code
def yX7_init : MethodName := ⟨RX7, "<init>", "()V"⟩
abbrev cX7_in : ByteArray := prog_9_method_2_code
def yX7_in : MethodName := ⟨RX7, "in", "(III)Z"⟩
abbrev cX7_meets : ByteArray := prog_9_method_3_code
def yX7_meets : MethodName := ⟨RX7, "meets", "(I)I"⟩
abbrev cX7_finding : ByteArray := prog_9_method_4_code
def yX7_finding : MethodName := ⟨RX7, "finding", "()I"⟩
abbrev cX7_findings : ByteArray := prog_9_method_5_code
def yX7_findings : MethodName := ⟨RX7, "findings", "(I)I"⟩
abbrev cX7_begin : ByteArray := prog_9_method_6_code
def yX7_begin : MethodName := ⟨RX7, "begin", "(III)V"⟩
abbrev cX7_table : ByteArray := prog_9_method_7_code
def yX7_table : MethodName := ⟨RX7, "table", "(III)I"⟩
abbrev cX7_isRow : ByteArray := prog_9_method_8_code
def yX7_isRow : MethodName := ⟨RX7, "isRow", "(I)Z"⟩
abbrev cX7_isColumn : ByteArray := prog_9_method_9_code
def yX7_isColumn : MethodName := ⟨RX7, "isColumn", "(I)Z"⟩
abbrev cX7_weight : ByteArray := prog_9_method_10_code
def yX7_weight : MethodName := ⟨RX7, "weight", "(II)I"⟩
abbrev cX7_note : ByteArray := prog_9_method_11_code
def yX7_note : MethodName := ⟨RX7, "note", "(II)I"⟩
abbrev cX7_liesOn : ByteArray := prog_9_method_12_code
def yX7_liesOn : MethodName := ⟨RX7, "liesOn", "(III)Z"⟩
abbrev cX7_cellOn : ByteArray := prog_9_method_13_code
def yX7_cellOn : MethodName := ⟨RX7, "cellOn", "(II)I"⟩
abbrev cX7_cell : ByteArray := prog_9_method_14_code
def yX7_cell : MethodName := ⟨RX7, "cell", "(IIIII)I"⟩
abbrev cX7_clash : ByteArray := prog_9_method_15_code
def yX7_clash : MethodName := ⟨RX7, "clash", "()I"⟩
abbrev cX7_isCell : ByteArray := prog_9_method_16_code
def yX7_isCell : MethodName := ⟨RX7, "isCell", "(I)Z"⟩
abbrev cX7_drop : ByteArray := prog_9_method_17_code
def yX7_drop : MethodName := ⟨RX7, "drop", "(I)I"⟩
abbrev cX7_need : ByteArray := prog_9_method_18_code
def yX7_need : MethodName := ⟨RX7, "need", "(ZI)I"⟩
abbrev cX7_toldOf : ByteArray := prog_9_method_19_code
def yX7_toldOf : MethodName := ⟨RX7, "toldOf", "(II)I"⟩
abbrev cX7_told : ByteArray := prog_9_method_20_code
def yX7_told : MethodName := ⟨RX7, "told", "(II)I"⟩
abbrev cX7_is : ByteArray := prog_9_method_21_code
def yX7_is : MethodName := ⟨RX7, "is", "(II)I"⟩
abbrev cX7_on : ByteArray := prog_9_method_22_code
def yX7_on : MethodName := ⟨RX7, "on", "(II)I"⟩
abbrev cX7_words : ByteArray := prog_9_method_23_code
def yX7_words : MethodName := ⟨RX7, "words", "(II)I"⟩
abbrev cX7_word : ByteArray := prog_9_method_24_code
def yX7_word : MethodName := ⟨RX7, "word", "(III)I"⟩
abbrev cX7_copy : ByteArray := prog_9_method_25_code
def yX7_copy : MethodName := ⟨RX7, "copy", "(IIIII)I"⟩
abbrev cX7_lettersOf : ByteArray := prog_9_method_26_code
def yX7_lettersOf : MethodName := ⟨RX7, "lettersOf", "(I)I"⟩
abbrev cX7_mean : ByteArray := prog_9_method_27_code
def yX7_mean : MethodName := ⟨RX7, "mean", "(I)I"⟩
abbrev cX7_calls : ByteArray := prog_9_method_28_code
def yX7_calls : MethodName := ⟨RX7, "calls", "(II)I"⟩
abbrev cX7_fix : ByteArray := prog_9_method_29_code
def yX7_fix : MethodName := ⟨RX7, "fix", "(II)I"⟩
abbrev cX7_linesOf : ByteArray := prog_9_method_30_code
def yX7_linesOf : MethodName := ⟨RX7, "linesOf", "(II)I"⟩
abbrev cX7_lines : ByteArray := prog_9_method_31_code
def yX7_lines : MethodName := ⟨RX7, "lines", "(II)I"⟩
abbrev cX7_wantOf : ByteArray := prog_9_method_32_code
def yX7_wantOf : MethodName := ⟨RX7, "wantOf", "(II)I"⟩
abbrev cX7_want : ByteArray := prog_9_method_33_code
def yX7_want : MethodName := ⟨RX7, "want", "(II)I"⟩
abbrev cX7_share : ByteArray := prog_9_method_34_code
def yX7_share : MethodName := ⟨RX7, "share", "(III)V"⟩
abbrev cX7_widthOver : ByteArray := prog_9_method_35_code
def yX7_widthOver : MethodName := ⟨RX7, "widthOver", "([III)I"⟩
abbrev cX7_layWidths : ByteArray := prog_9_method_36_code
def yX7_layWidths : MethodName := ⟨RX7, "layWidths", "(I[I)V"⟩
abbrev cX7_lacks : ByteArray := prog_9_method_37_code
def yX7_lacks : MethodName := ⟨RX7, "lacks", "(III)V"⟩
abbrev cX7_layBoth : ByteArray := prog_9_method_38_code
def yX7_layBoth : MethodName := ⟨RX7, "layBoth", "()V"⟩
abbrev cX7_natural : ByteArray := prog_9_method_39_code
def yX7_natural : MethodName := ⟨RX7, "natural", "(II)I"⟩
abbrev cX7_sumOf : ByteArray := prog_9_method_40_code
def yX7_sumOf : MethodName := ⟨RX7, "sumOf", "([I)I"⟩
abbrev cX7_set : ByteArray := prog_9_method_41_code
def yX7_set : MethodName := ⟨RX7, "set", "(I)I"⟩
abbrev cX7_layHeights : ByteArray := prog_9_method_42_code
def yX7_layHeights : MethodName := ⟨RX7, "layHeights", "([I)V"⟩
abbrev cX7_heightBy : ByteArray := prog_9_method_43_code
def yX7_heightBy : MethodName := ⟨RX7, "heightBy", "([I)I"⟩
abbrev cX7_next : ByteArray := prog_9_method_44_code
def yX7_next : MethodName := ⟨RX7, "next", "()Z"⟩
abbrev cX7_tight : ByteArray := prog_9_method_45_code
def yX7_tight : MethodName := ⟨RX7, "tight", "(II)I"⟩
abbrev cX7_tries : ByteArray := prog_9_method_46_code
def yX7_tries : MethodName := ⟨RX7, "tries", "()I"⟩
abbrev cX7_width : ByteArray := prog_9_method_47_code
def yX7_width : MethodName := ⟨RX7, "width", "(I)I"⟩
abbrev cX7_height : ByteArray := prog_9_method_48_code
def yX7_height : MethodName := ⟨RX7, "height", "(I)I"⟩
abbrev cX7_headRows : ByteArray := prog_9_method_49_code
def yX7_headRows : MethodName := ⟨RX7, "headRows", "()I"⟩
abbrev cX7_mayBreakAt : ByteArray := prog_9_method_50_code
def yX7_mayBreakAt : MethodName := ⟨RX7, "mayBreakAt", "(I)Z"⟩
abbrev cX7_mayBreak : ByteArray := prog_9_method_51_code
def yX7_mayBreak : MethodName := ⟨RX7, "mayBreak", "(I)I"⟩
abbrev cX7_homeOf : ByteArray := prog_9_method_52_code
def yX7_homeOf : MethodName := ⟨RX7, "homeOf", "(II)I"⟩
abbrev cX7_notesOn : ByteArray := prog_9_method_53_code
def yX7_notesOn : MethodName := ⟨RX7, "notesOn", "(III)I"⟩
abbrev cX7_emptyOf : ByteArray := prog_9_method_54_code
def yX7_emptyOf : MethodName := ⟨RX7, "emptyOf", "(IIII)I"⟩
abbrev cX7_pages : ByteArray := prog_9_method_55_code
def yX7_pages : MethodName := ⟨RX7, "pages", "(I)I"⟩
abbrev cX7_pageTold : ByteArray := prog_9_method_56_code
def yX7_pageTold : MethodName := ⟨RX7, "pageTold", "(II)I"⟩
abbrev cX7_page : ByteArray := prog_9_method_57_code
def yX7_page : MethodName := ⟨RX7, "page", "(II)I"⟩
abbrev cX7_pageOf : ByteArray := prog_9_method_58_code
def yX7_pageOf : MethodName := ⟨RX7, "pageOf", "(I)I"⟩
abbrev cX7_count : ByteArray := prog_9_method_59_code
def yX7_count : MethodName := ⟨RX7, "count", "(I)I"⟩
abbrev cX7_digest : ByteArray := prog_9_method_60_code
def yX7_digest : MethodName := ⟨RX7, "digest", "()J"⟩
abbrev cX7_digestCell : ByteArray := prog_9_method_61_code
def yX7_digestCell : MethodName := ⟨RX7, "digestCell", "(JI)J"⟩
def RJ7 : String := "java/util/Arrays"
def TJ7 : u_T := fun k => match k with
  | _ => ("", "", "", false)
def tyJ7 : Nat → FieldType := fun k => match k with
  | _ => .int
theorem tyJ7_ok : ∀ k, k < 0 → parseFieldDescriptor (TJ7 k).2.2.1 = some (tyJ7 k) := by decide +kernel
abbrev cJ7_fill_53178 : ByteArray := prog_12_method_103_code
def yJ7_fill_53178 : MethodName := ⟨RJ7, "fill", "([II)V"⟩
def RL : String := "TableSetterLaw"
abbrev cL_law : ByteArray := code
def yL_law : MethodName := ⟨RL, "law", "([I)Z"⟩
abbrev vwCl : List vw_C := [(RX0, TX0, 11), (RX1, TX1, 7), (RX2, TX2, 5), (RX3, TX3, 12), (RX4, TX4, 2), (RX5, TX5, 9), (RX6, TX6, 8), (RX7, TX7, 41)]
end
section
def va_AOA (ty : FieldType) (U : State) : Prop := (Cond.arrayOver (.array ty)).before #[] U = true
theorem va_AOA.use {ty : FieldType} {A : Array Value} {U : State} (h : va_AOA ty U) : (Cond.arrayOver (.array ty)).before A U = true := h
/-! ===== BEGIN new T[n][m]: the outer array a place, the inner ones among the pooled ===== -/
/-- f, but v at every address of l -/
def vr_up {α : Type} (f : Nat → α) (l : List Nat) (v : α) : Nat → α := fun a => if a ∈ l then v else f a
theorem vr_up_in {α : Type} {f : Nat → α} {l : List Nat} {v : α} {a : Nat} (h : a ∈ l) : vr_up f l v a = v := if_pos h
theorem vr_up_ne {α : Type} {f : Nat → α} {l : List Nat} {v : α} {a : Nat} (h : a ∉ l) : vr_up f l v a = f a := if_neg h
theorem vr_rows {L l : List Nat} {f : Nat → va_E} {e : va_E} (h : ∀ a, a ∈ l → a ∉ L) : va_pl L f ++ l.map (fun a => (a, e)) = va_pl (L ++ l) (vr_up f l e) := by
  unfold va_pl
  rw [List.map_append]
  congr 1
  · apply List.map_congr_left
    intro a ha
    rw [vr_up_ne (fun q => h a q ha)]
  · apply List.map_congr_left
    intro a ha
    rw [vr_up_in ha]
theorem vr_lay {X rows : va_W} {x : Nat × va_E} {pl : va_W} {D : va_G} {cl : List vw_C} {H : Heap} (hP : va_P D cl (((X ++ pl) ++ [x]) ++ rows) H) : va_P D cl ((X ++ [x]) ++ (pl ++ rows)) H := by
  rw [List.append_assoc (X ++ pl)] at hP
  have h := va_P.swap hP
  rw [← List.append_assoc X] at h
  have h2 := va_P.swap h
  rw [List.append_assoc (X ++ [x])] at h2
  exact h2
theorem vr_layD {X rows : va_W} {x : Nat × va_E} {pl : va_W} {A : Nat → Prop} (hD : va_D A (((X ++ pl) ++ [x]) ++ rows)) : va_D A ((X ++ [x]) ++ (pl ++ rows)) := by
  rw [List.append_assoc (X ++ pl)] at hD
  have h := va_D.swap hD
  rw [← List.append_assoc X] at h
  have h2 := va_D.swap h
  rw [List.append_assoc (X ++ [x])] at h2
  exact h2
theorem vr_outer (c : ClassId) (N h0 : Nat) : ∀ i : Nat, Jvm.Free.Multi.outerC c N h0 i = arrV c N (fun j => va_rf (if j < i then some (h0 + 1 + j) else none))
  | 0 => by
    show ({ cls := c, slots := Array.replicate N .null, vm := .none } : Cell) = _
    rw [arrV_new]
    refine congrArg (arrV c N) (funext fun j => ?_)
    simp [va_rf]
  | i + 1 => by
    show (Jvm.Free.Multi.outerC c N h0 i).setSlot i (.ref (h0 + 1 + i)) = _
    rw [vr_outer c N h0 i, arrV_store]
    refine congrArg (arrV c N) (funext fun j => ?_)
    by_cases e : j = i
    · subst e
      simp [updV, va_rf]
    · by_cases h : j < i
      · simp [updV, e, h, Nat.lt_succ_of_lt h]
      · simp [updV, e, h, show ¬ j < i + 1 by omega]
section VGM
variable {p : Program} {l : Launch} {e : Env} {R : Room} {s : State} {m : MethodId} {args : Array Value} {below : List Frame} {meth : Method} {c : Code} {H : Heap} {locs : List Loc} {cells slots : Nat} {Q : State → Prop}
variable {cc : ByteArray} {pc : Nat} {ls : Array Slot} {rest : List Value} {D : va_G} {cl : List vw_C} {A : Nat → Prop} {a : Nat} {tys : List (ClassId × FieldType)} {ws : va_W} {H0 : Heap}
theorem va_mna {X : va_W} {L : List Nat} {f : Nat → va_E} {cc : ByteArray} (hexec : p.tables.exec = Jvm.exec) (hb : c.code = cc) {own : String} {index : Nat} {ty : FieldType} {cy : ClassId} (hown : s.vm.findClass own = some m.cls) (hclink : (Cond.classLink own index ("[" ++ (FieldType.array ty).toString)).before args s = true) (hover : va_AOA ty s) (harr : (Cond.arrayClass ty).before args s = true) (hcy : s.vm.findClass (FieldType.array ty).toString = some cy)
    (hK : va_K D cl tys s) (hP : va_P D cl (X ++ va_pl L f) H) (hD : va_D A (X ++ va_pl L f)) (hS : va_S A H0 H locs) (hA : ∀ q, H0.size ≤ q → A q) {n k : Int32} {N' K' : Nat} {z : vp_A} (hn : ¬ n < 0) (hk : ¬ k < 0) (hN : n.toNatClampNeg = N') (hM : k.toNatClampNeg = K')
    (hb1 : N' * 4 ≤ 536870912) (hb2 : K' * componentBytes ty ≤ 536870912) (hb3 : K' ≤ 536870912) (hdf : fits ty (defaultValue ty) = true) (hdd : (defaultValue ty).isDefault = true) (hcells : cells + (1 + N') ≤ R.cells) (hslots : slots + (N' + N' * K') ≤ R.slots) (hz : ∀ c : ClassId, Jvm.Free.Multi.innerC c K' (defaultValue ty) = vp_cell c z) (hdg : decode cc pc = .ok (.multianewarray index 2, 4))
    (kk : ∀ (q : Nat) (r : Nat → Nat) (cA : ClassId) (H1 : Heap), (∀ i j : Nat, i < N' → j < N' → r i = r j → i = j) → (∀ i : Nat, i < N' → r i ∉ L) → va_K D cl (tys ++ [(cA, .array ty)]) s →
      va_P D cl ((X ++ [(q, .inl (cA, N', .inr (.inr (.inr (.inr (fun i => if i < N' then some (r i) else none))))))]) ++ va_pl (L ++ (List.range N').map r) (vr_up f ((List.range N').map r) (.inl (cy, z)))) H1 → va_D A ((X ++ [(q, .inl (cA, N', .inr (.inr (.inr (.inr (fun i => if i < N' then some (r i) else none))))))]) ++ va_pl (L ++ (List.range N').map r) (vr_up f ((List.range N').map r) (.inl (cy, z)))) → va_S A H0 H1 locs →
      W p l e R s m args below meth c H1 locs (cells + 1 + N') (slots + N' + N' * K') Q (F0 m (pc + 4) ls (.ref q :: rest))) : W p l e R s m args below meth c H locs cells slots Q (F0 m pc ls (.int k :: .int n :: rest)) := by
  subst hN
  subst hM
  intro T hT Xs
  obtain ⟨vm₁, cA, comp, -, fA, fC, hO, -, X', step⟩ := Xs.multianewarray2F hexec hown hclink (va_AOA.use hover) harr (g := F0 m pc ls (.int k :: .int n :: rest)) rfl (by rw [hb]; exact hdg) rfl hn hk hb1 hb2 hb3 hdf hdd hcells hslots
  have ec : some cy = some comp := hcy.symm.trans fC
  cases ec
  generalize hF : Jvm.Free.Multi.fill (T.setVm vm₁) cA cy n.toNatClampNeg k.toNatClampNeg (defaultValue ty) n.toNatClampNeg = F at X' step
  have hTh : (T.setVm vm₁).heap = H := hT
  obtain ⟨f1, f2, -, -⟩ := Jvm.Free.Multi.fill_facts (T.setVm vm₁) cA cy n.toNatClampNeg k.toNatClampNeg (defaultValue ty) n.toNatClampNeg
  rw [hF, hTh] at f1 f2
  have hold : ∀ x : Nat, x < H.size → F.heap[x]? = H[x]? := fun x hx => by
    have := Jvm.Free.Multi.fill_old (T.setVm vm₁) cA cy n.toNatClampNeg k.toNatClampNeg (defaultValue ty) (a := x) (by rw [hTh]; exact hx) n.toNatClampNeg
    rw [hF, hTh] at this
    exact this
  have hrow : ∀ j : Nat, j < n.toNatClampNeg → F.heap[H.size + 1 + j]? = some (vp_cell cy z) := fun j hj => by
    have := Jvm.Free.Multi.fill_inner (T.setVm vm₁) cA cy n.toNatClampNeg k.toNatClampNeg (defaultValue ty) n.toNatClampNeg j hj
    rw [hF, hTh, hz] at this
    exact this
  have hout : Jvm.Free.Multi.outerC cA n.toNatClampNeg H.size n.toNatClampNeg = vp_cell cA (n.toNatClampNeg, .inr (.inr (.inr (.inr (fun i => if i < n.toNatClampNeg then some (H.size + 1 + i) else none))))) := by
    rw [vp_cell_q]
    exact vr_outer cA n.toNatClampNeg H.size n.toNatClampNeg
  rw [hout] at f2
  have hlt : ∀ a, a ∈ L → a < H.size := fun a ha => by
    obtain ⟨k9, hk9⟩ := va_pl_get (X := X) (f := f) ha
    exact (hP k9 _ hk9).lt
  have hnl : ∀ i : Nat, i < n.toNatClampNeg → H.size + 1 + i ∉ L := fun i _ h => by
    have := hlt _ h
    omega
  have hnm : ∀ a, a ∈ (List.range n.toNatClampNeg).map (fun i => H.size + 1 + i) → a ∉ L := fun a ha h => by
    obtain ⟨i, -, rfl⟩ := List.mem_map.mp ha
    have := hlt _ h
    omega
  have hP0 : va_P D cl (X ++ va_pl L f) F.heap := hP.kept (fun k9 x hx => hold x.1 ((hP k9 x hx).lt))
  have hP1 : va_P D cl ((X ++ va_pl L f) ++ [(H.size, .inl (cA, n.toNatClampNeg, .inr (.inr (.inr (.inr (fun i => if i < n.toNatClampNeg then some (H.size + 1 + i) else none))))))]) F.heap := hP0.app (fun k9 x hx => by
    have h0 : k9 < 1 := (List.getElem?_eq_some_iff.mp hx).1
    rw [show k9 = 0 by omega] at hx
    cases hx
    exact f2)
  have hP2 : va_P D cl (((X ++ va_pl L f) ++ [(H.size, .inl (cA, n.toNatClampNeg, .inr (.inr (.inr (.inr (fun i => if i < n.toNatClampNeg then some (H.size + 1 + i) else none))))))]) ++ ((List.range n.toNatClampNeg).map (fun i => H.size + 1 + i)).map (fun a => (a, .inl (cy, z)))) F.heap := hP1.app (fun k9 x hx => by
    obtain ⟨a, ha, rfl⟩ := List.mem_map.mp (List.mem_of_getElem? hx)
    obtain ⟨i, hi, rfl⟩ := List.mem_map.mp ha
    exact hrow i (List.mem_range.mp hi))
  have hD2 : va_D A (((X ++ va_pl L f) ++ [(H.size, .inl (cA, n.toNatClampNeg, .inr (.inr (.inr (.inr (fun i => if i < n.toNatClampNeg then some (H.size + 1 + i) else none))))))]) ++ ((List.range n.toNatClampNeg).map (fun i => H.size + 1 + i)).map (fun a => (a, .inl (cy, z)))) := by
    have hD1 := hD.push (e := .inl (cA, n.toNatClampNeg, .inr (.inr (.inr (.inr (fun i => if i < n.toNatClampNeg then some (H.size + 1 + i) else none)))))) hP rfl (hA _ hS.1)
    generalize hW1 : (X ++ va_pl L f) ++ [(H.size, .inl (cA, n.toNatClampNeg, .inr (.inr (.inr (.inr (fun i => if i < n.toNatClampNeg then some (H.size + 1 + i) else none))))))] = W1 at hD1 hP1 ⊢
    have hle : ∀ (k9 : Nat) (x : Nat × va_E), W1[k9]? = some x → x.1 ≤ H.size := fun k9 x hx => by
      rw [← hW1] at hx
      by_cases hl : k9 < (X ++ va_pl L f).length
      · rw [List.getElem?_append_left hl] at hx
        exact Nat.le_of_lt ((hP k9 x hx).lt)
      · rw [List.getElem?_append_right (by omega)] at hx
        have h0 : k9 - (X ++ va_pl L f).length < 1 := (List.getElem?_eq_some_iff.mp hx).1
        rw [show k9 - (X ++ va_pl L f).length = 0 by omega] at hx
        cases hx
        exact Nat.le_refl _
    have hr : ∀ (k9 : Nat) (x : Nat × va_E), (((List.range n.toNatClampNeg).map (fun i => H.size + 1 + i)).map (fun a => ((a, .inl (cy, z)) : Nat × va_E)))[k9]? = some x → x.1 = H.size + 1 + k9 := fun k9 x hx => by
      rw [List.getElem?_map, List.getElem?_map] at hx
      by_cases h9 : k9 < n.toNatClampNeg
      · rw [List.getElem?_range h9] at hx
        cases hx
        rfl
      · have hn0 : (List.range n.toNatClampNeg)[k9]? = none := List.getElem?_eq_none (by rw [List.length_range]; omega)
        rw [hn0] at hx
        cases hx
    refine ⟨fun i j x y hi hj hxy => ?_, fun k9 x hx => ?_⟩
    · by_cases h1 : i < W1.length <;> by_cases h2 : j < W1.length
      · rw [List.getElem?_append_left h1] at hi
        rw [List.getElem?_append_left h2] at hj
        exact hD1.1 i j x y hi hj hxy
      · rw [List.getElem?_append_left h1] at hi
        rw [List.getElem?_append_right (by omega)] at hj
        have := hle _ _ hi
        have := hr _ _ hj
        omega
      · rw [List.getElem?_append_right (by omega)] at hi
        rw [List.getElem?_append_left h2] at hj
        have := hle _ _ hj
        have := hr _ _ hi
        omega
      · rw [List.getElem?_append_right (by omega)] at hi hj
        have := hr _ _ hi
        have := hr _ _ hj
        omega
    · by_cases h1 : k9 < W1.length
      · rw [List.getElem?_append_left h1] at hx
        exact hD1.2 k9 x hx
      · rw [List.getElem?_append_right (by omega)] at hx
        have := hr _ _ hx
        exact hA _ (by have := hS.1; omega)
  have hAr : ArrOfT s cA (.array ty) := fun N9 z9 => by
    obtain ⟨-, k9, hk9, cm9, hkk9⟩ := (hO 0 0 0).1
    exact ⟨(fun q hq => by cases hq), k9, hk9, cm9, hkk9⟩
  have hK2 : va_K D cl (tys ++ [(cA, .array ty)]) s := ⟨hK.1, fun k9 x hx => by
    by_cases hl : k9 < tys.length
    · rw [List.getElem?_append_left hl] at hx
      exact hK.2 k9 x hx
    · rw [List.getElem?_append_right (by omega)] at hx
      have h0 : k9 - tys.length < 1 := (List.getElem?_eq_some_iff.mp hx).1
      rw [show k9 - tys.length = 0 by omega] at hx
      cases hx
      exact ⟨hAr, fA⟩⟩
  obtain ⟨t, a1, b1⟩ := kk H.size (fun i => H.size + 1 + i) cA F.heap (fun i j _ _ h => by have h9 : H.size + 1 + i = H.size + 1 + j := h; omega) hnl hK2 (by rw [← vr_rows hnm]; exact vr_lay hP2) (by rw [← vr_rows hnm]; exact vr_layD hD2) ⟨by rw [f1]; have := hS.1; omega, fun x h1 h2 => (hold x (Nat.lt_of_lt_of_le h1 hS.1)).trans (hS.2.1 x h1 h2), hS.2.2⟩ F rfl X'
  refine ⟨t, step t ?_, b1⟩
  have e : T.heap.size = H.size := by rw [hT]
  rw [e]
  exact a1
end VGM
/-! ===== END ===== -/
end
section
/-! the shape of all cells that the law makes, in the order of their making: (kind, length, constants). Kinds: 0 int[], 1 boolean[], 2 long[], 3 Cell[] that stays, 4 Cell[] that changes, 5 int[][], 6 + c an object of class c of vwCl. A constant: 0 a number, 1 null, k + 2 the cell k. -/
def vz : Nat → Nat := fun _ => 0
def cA (i : Nat) : Nat := 5 + 3 * i
def csC (i : Nat) : Nat → Nat := fun j => if j = 9 then cA i + 3 else if j = 10 then cA i + 4 else 0
def cs4 : Nat → Nat := fun j => if j < 40 then cA j + 2 else 1
def cs140 : Nat → Nat := fun j => if j < 16 then 143 + j else 1
def cs0 : Nat → Nat := fun j => ([3, 127, 131, 141, 164, 0, 0, 0] : List Nat).getD j 0
def cs1 : Nat → Nat := fun j => ([0, 0, 0, 0, 4, 5, 6] : List Nat).getD j 0
def cs125 : Nat → Nat := fun j => ([128, 3, 129, 130, 0] : List Nat).getD j 0
def cs129 : Nat → Nat := fun j => ([132, 133, 134, 3, 127, 135, 138, 139, 140] : List Nat).getD j 0
def cs133 : Nat → Nat := fun j => ([136, 137] : List Nat).getD j 0
def cs139 : Nat → Nat := fun j => ([0, 142, 3, 127, 159, 160, 161, 162, 163, 0, 0, 0] : List Nat).getD j 0
def cs163 : Nat → Nat := fun j => ([0, 166, 0, 0, 0, 167, 168, 0, 169, 170, 171, 172, 173, 174, 175, 176, 177, 178, 0, 179, 180, 181, 182, 183, 184, 185, 186, 187, 188, 0, 189, 190, 0, 191, 192, 193, 194, 195, 196, 197, 198] : List Nat).getD j 0
def SHa : List (Nat × Nat × (Nat → Nat)) := [(12, 8, cs0), (7, 7, cs1), (0, 6, vz), (0, 10, vz), (3, 40, cs4)]
def SHb : List (Nat × Nat × (Nat → Nat)) := [(8, 5, cs125), (0, 16, vz), (0, 16, vz), (4, 40, vz), (11, 9, cs129), (0, 6, vz), (0, 6, vz), (0, 6, vz), (10, 2, cs133), (0, 6, vz), (0, 6, vz), (0, 6, vz), (0, 6, vz), (0, 6, vz), (9, 12, cs139), (5, 16, cs140), (0, 4, vz), (0, 4, vz), (0, 4, vz), (0, 4, vz), (0, 4, vz), (0, 4, vz), (0, 4, vz), (0, 4, vz), (0, 4, vz), (0, 4, vz), (0, 4, vz), (0, 4, vz), (0, 4, vz), (0, 4, vz), (0, 4, vz), (0, 4, vz), (0, 16, vz), (0, 16, vz), (0, 17, vz), (0, 17, vz), (0, 17, vz), (0, 7, vz)]
def SHm : List (Nat × Nat × (Nat → Nat)) := [(13, 41, cs163), (0, 7, vz), (0, 6, vz), (0, 10, vz), (0, 40, vz), (0, 40, vz), (0, 40, vz), (0, 40, vz), (0, 40, vz), (1, 40, vz), (0, 40, vz), (0, 480, vz), (0, 40, vz), (0, 40, vz), (0, 12, vz), (0, 6, vz), (0, 6, vz), (0, 6, vz), (0, 6, vz), (0, 6, vz), (0, 6, vz), (0, 6, vz), (0, 16, vz), (0, 16, vz), (0, 6, vz), (0, 6, vz), (0, 16, vz), (0, 16, vz), (0, 16, vz), (0, 16, vz), (0, 16, vz), (0, 17, vz), (2, 17, vz), (0, 17, vz)]
def SH (a : Nat) : Nat × Nat × (Nat → Nat) := if a < 5 then SHa.getD a (0, 0, vz) else if a < 125 then (if (a - 5) % 3 = 0 then (6, 11, csC ((a - 5) / 3)) else if (a - 5) % 3 = 1 then (0, 12, vz) else (0, 252, vz)) else if a < 163 then SHb.getD (a - 125) (0, 0, vz) else SHm.getD (a - 163) (0, 0, vz)
theorem sh_0 : SH 0 = (12, 8, cs0) := rfl
theorem sh_1 : SH 1 = (7, 7, cs1) := rfl
theorem sh_2 : SH 2 = (0, 6, vz) := rfl
theorem sh_3 : SH 3 = (0, 10, vz) := rfl
theorem sh_4 : SH 4 = (3, 40, cs4) := rfl
theorem sh_125 : SH 125 = (8, 5, cs125) := rfl
theorem sh_126 : SH 126 = (0, 16, vz) := rfl
theorem sh_127 : SH 127 = (0, 16, vz) := rfl
theorem sh_128 : SH 128 = (4, 40, vz) := rfl
theorem sh_129 : SH 129 = (11, 9, cs129) := rfl
theorem sh_130 : SH 130 = (0, 6, vz) := rfl
theorem sh_131 : SH 131 = (0, 6, vz) := rfl
theorem sh_132 : SH 132 = (0, 6, vz) := rfl
theorem sh_133 : SH 133 = (10, 2, cs133) := rfl
theorem sh_134 : SH 134 = (0, 6, vz) := rfl
theorem sh_135 : SH 135 = (0, 6, vz) := rfl
theorem sh_136 : SH 136 = (0, 6, vz) := rfl
theorem sh_137 : SH 137 = (0, 6, vz) := rfl
theorem sh_138 : SH 138 = (0, 6, vz) := rfl
theorem sh_139 : SH 139 = (9, 12, cs139) := rfl
theorem sh_140 : SH 140 = (5, 16, cs140) := rfl
theorem sh_141 : SH 141 = (0, 4, vz) := rfl
theorem sh_142 : SH 142 = (0, 4, vz) := rfl
theorem sh_143 : SH 143 = (0, 4, vz) := rfl
theorem sh_144 : SH 144 = (0, 4, vz) := rfl
theorem sh_145 : SH 145 = (0, 4, vz) := rfl
theorem sh_146 : SH 146 = (0, 4, vz) := rfl
theorem sh_147 : SH 147 = (0, 4, vz) := rfl
theorem sh_148 : SH 148 = (0, 4, vz) := rfl
theorem sh_149 : SH 149 = (0, 4, vz) := rfl
theorem sh_150 : SH 150 = (0, 4, vz) := rfl
theorem sh_151 : SH 151 = (0, 4, vz) := rfl
theorem sh_152 : SH 152 = (0, 4, vz) := rfl
theorem sh_153 : SH 153 = (0, 4, vz) := rfl
theorem sh_154 : SH 154 = (0, 4, vz) := rfl
theorem sh_155 : SH 155 = (0, 4, vz) := rfl
theorem sh_156 : SH 156 = (0, 4, vz) := rfl
theorem sh_157 : SH 157 = (0, 16, vz) := rfl
theorem sh_158 : SH 158 = (0, 16, vz) := rfl
theorem sh_159 : SH 159 = (0, 17, vz) := rfl
theorem sh_160 : SH 160 = (0, 17, vz) := rfl
theorem sh_161 : SH 161 = (0, 17, vz) := rfl
theorem sh_162 : SH 162 = (0, 7, vz) := rfl
theorem sh_163 : SH 163 = (13, 41, cs163) := rfl
theorem sh_164 : SH 164 = (0, 7, vz) := rfl
theorem sh_165 : SH 165 = (0, 6, vz) := rfl
theorem sh_166 : SH 166 = (0, 10, vz) := rfl
theorem sh_167 : SH 167 = (0, 40, vz) := rfl
theorem sh_168 : SH 168 = (0, 40, vz) := rfl
theorem sh_169 : SH 169 = (0, 40, vz) := rfl
theorem sh_170 : SH 170 = (0, 40, vz) := rfl
theorem sh_171 : SH 171 = (0, 40, vz) := rfl
theorem sh_172 : SH 172 = (1, 40, vz) := rfl
theorem sh_173 : SH 173 = (0, 40, vz) := rfl
theorem sh_174 : SH 174 = (0, 480, vz) := rfl
theorem sh_175 : SH 175 = (0, 40, vz) := rfl
theorem sh_176 : SH 176 = (0, 40, vz) := rfl
theorem sh_177 : SH 177 = (0, 12, vz) := rfl
theorem sh_178 : SH 178 = (0, 6, vz) := rfl
theorem sh_179 : SH 179 = (0, 6, vz) := rfl
theorem sh_180 : SH 180 = (0, 6, vz) := rfl
theorem sh_181 : SH 181 = (0, 6, vz) := rfl
theorem sh_182 : SH 182 = (0, 6, vz) := rfl
theorem sh_183 : SH 183 = (0, 6, vz) := rfl
theorem sh_184 : SH 184 = (0, 6, vz) := rfl
theorem sh_185 : SH 185 = (0, 16, vz) := rfl
theorem sh_186 : SH 186 = (0, 16, vz) := rfl
theorem sh_187 : SH 187 = (0, 6, vz) := rfl
theorem sh_188 : SH 188 = (0, 6, vz) := rfl
theorem sh_189 : SH 189 = (0, 16, vz) := rfl
theorem sh_190 : SH 190 = (0, 16, vz) := rfl
theorem sh_191 : SH 191 = (0, 16, vz) := rfl
theorem sh_192 : SH 192 = (0, 16, vz) := rfl
theorem sh_193 : SH 193 = (0, 16, vz) := rfl
theorem sh_194 : SH 194 = (0, 17, vz) := rfl
theorem sh_195 : SH 195 = (2, 17, vz) := rfl
theorem sh_196 : SH 196 = (0, 17, vz) := rfl
theorem sh_C {i : Nat} (hi : i < 40) : SH (cA i) = (6, 11, csC i) := by
  have h1 : ¬ cA i < 5 := by unfold cA; omega
  have h2 : cA i < 125 := by unfold cA; omega
  have h3 : (cA i - 5) % 3 = 0 := by unfold cA; omega
  have h4 : (cA i - 5) / 3 = i := by unfold cA; omega
  unfold SH
  rw [if_neg h1, if_pos h2, if_pos h3, h4]
theorem sh_L {i : Nat} (hi : i < 40) : SH (cA i + 1) = (0, 12, vz) := by
  have h1 : ¬ cA i + 1 < 5 := by unfold cA; omega
  have h2 : cA i + 1 < 125 := by unfold cA; omega
  have h3 : ¬ (cA i + 1 - 5) % 3 = 0 := by unfold cA; omega
  have h4 : (cA i + 1 - 5) % 3 = 1 := by unfold cA; omega
  unfold SH
  rw [if_neg h1, if_pos h2, if_neg h3, if_pos h4]
theorem sh_K {i : Nat} (hi : i < 40) : SH (cA i + 2) = (0, 252, vz) := by
  have h1 : ¬ cA i + 2 < 5 := by unfold cA; omega
  have h2 : cA i + 2 < 125 := by unfold cA; omega
  have h3 : ¬ (cA i + 2 - 5) % 3 = 0 := by unfold cA; omega
  have h4 : ¬ (cA i + 2 - 5) % 3 = 1 := by unfold cA; omega
  unfold SH
  rw [if_neg h1, if_pos h2, if_neg h3, if_neg h4]
theorem sh_F {i : Nat} (hi : i < 16) : SH (141 + i) = (0, 4, vz) := by
  have h : ∀ i, i < 16 → SH (141 + i) = (0, 4, vz) := by
    intro i hi
    match i, hi with
    | 0, _ => rfl
    | 1, _ => rfl
    | 2, _ => rfl
    | 3, _ => rfl
    | 4, _ => rfl
    | 5, _ => rfl
    | 6, _ => rfl
    | 7, _ => rfl
    | 8, _ => rfl
    | 9, _ => rfl
    | 10, _ => rfl
    | 11, _ => rfl
    | 12, _ => rfl
    | 13, _ => rfl
    | 14, _ => rfl
    | 15, _ => rfl
    | n + 16, h => exact absurd h (by omega)
  exact h i hi
def vSZ : Nat → Nat
  | 0 => 0
  | n + 1 => vSZ n + (SH n).2.1
theorem vSZ_mono {a b : Nat} (h : a ≤ b) : vSZ a ≤ vSZ b := by
  induction h with
  | refl => exact Nat.le_refl _
  | step _ ih => exact Nat.le_trans ih (Nat.le_add_right _ _)
theorem vSZ_lt {a b : Nat} (h : a < b) : vSZ a + (SH a).2.1 ≤ vSZ b := vSZ_mono (a := a + 1) h
theorem vSZ_all : vSZ 197 = 12522 := by decide +kernel
theorem cA_lt {i : Nat} (hi : i < 40) : cA i < 125 := by unfold cA; omega
end
section
/-! A plain memory: numbers by cell and place; the shape of the cells beside it (03.shape). vJ: from this state of a method the machine comes to a return with P. -/
def vtb : List Cond := lw_tbl.filter goodWord
abbrev vM : Type := (Nat → Nat → Int32) × (Nat → Nat → Int64)
abbrev vSh : Type := Nat → Nat × Nat × (Nat → Nat)
abbrev vMeth : Type := MethodName × ByteArray × Nat × Option FieldType
def vsN : Nat := 1000000
def vtr (ad : Nat → Nat) : Value → Value
  | .ref k => .ref (ad k)
  | .int x => .int x
  | .long x => .long x
  | .float x => .float x
  | .double x => .double x
  | .null => .null
  | .retAddr q => .retAddr q
theorem vtr_cat (ad : Nat → Nat) (v : Value) : (vtr ad v).category = v.category := by cases v <;> rfl
def vls (ad : Nat → Nat) (ls : List (Nat × Value)) : List (Nat × Value) := ls.map (fun q => (q.1, vtr ad q.2))
def vcat (st : List Value) : Nat := (st.map fun v => v.category).sum
theorem vcat_tr (ad : Nat → Nat) (st : List Value) : ((st.map (vtr ad)).map fun v => v.category).sum = vcat st := by
  unfold vcat
  congr 1
  rw [List.map_map]
  exact List.map_congr_left (fun v _ => vtr_cat ad v)
def vtys (K : Nat → ClassId) : List (ClassId × FieldType) := [(K 0, .int), (K 1, .boolean), (K 2, .long), (K 3, .object "TableSetter$Cell"), (K 4, .array .int)]
def vsl (ad : Nat → Nat) (k : Nat) (x : Int32) : Value := match k with
  | 0 => .int x
  | 1 => .null
  | j + 2 => .ref (ad j)
def vrq (ad : Nat → Nat) (k : Nat) : Option Nat := match k with
  | 0 => none
  | 1 => none
  | j + 2 => some (ad j)
def vdq (ad : Nat → Nat) (x : Int32) : Option Nat := if x = 0 then none else some (ad (x.toNatClampNeg - 1))
def venc (K : Nat → ClassId) (ad : Nat → Nat) (q : Nat × Nat × (Nat → Nat)) (f : Nat → Int32) (g : Nat → Int64) : va_E := match q.1 with
  | 0 => .inl (K 0, q.2.1, .inl f)
  | 1 => .inl (K 1, q.2.1, .inl f)
  | 2 => .inl (K 2, q.2.1, .inr (.inl g))
  | 3 => .inl (K 3, q.2.1, .inr (.inr (.inr (.inr (fun j => vrq ad (q.2.2 j))))))
  | 4 => .inl (K 3, q.2.1, .inr (.inr (.inr (.inr (fun j => vdq ad (f j))))))
  | 5 => .inl (K 4, q.2.1, .inr (.inr (.inr (.inr (fun j => vrq ad (q.2.2 j))))))
  | c + 6 => .inr (c, (List.range q.2.1).map (fun j => vsl ad (q.2.2 j) (f j)))
def wld (K : Nat → ClassId) (ad : Nat → Nat) (sh : vSh) (m : vM) (n : Nat) : va_W := (List.range n).map (fun k => (ad k, venc K ad (sh k) (m.1 k) (m.2 k)))
theorem wld_get {K : Nat → ClassId} {ad : Nat → Nat} {sh : vSh} {m : vM} {n k : Nat} (h : k < n) : (wld K ad sh m n)[k]? = some (ad k, venc K ad (sh k) (m.1 k) (m.2 k)) := by
  simp [wld, List.getElem?_map, List.getElem?_range h]
theorem wld_at {K : Nat → ClassId} {ad : Nat → Nat} {sh : vSh} {m : vM} {n k : Nat} {q : Nat × va_E} (h : (wld K ad sh m n)[k]? = some q) : k < n ∧ q = (ad k, venc K ad (sh k) (m.1 k) (m.2 k)) := by
  have hl := (List.getElem?_eq_some_iff.mp h).1
  have hk : k < n := by simpa [wld] using hl
  rw [wld_get hk] at h
  exact ⟨hk, (Option.some.inj h).symm⟩
theorem wld_set {K : Nat → ClassId} {ad : Nat → Nat} {sh sh' : vSh} {m m' : vM} {n k : Nat} {e : va_E} (h : k < n) (he : e = venc K ad (sh' k) (m'.1 k) (m'.2 k)) (ho : ∀ j, j ≠ k → sh' j = sh j ∧ m'.1 j = m.1 j ∧ m'.2 j = m.2 j) : (wld K ad sh m n).set k (ad k, e) = wld K ad sh' m' n := by
  subst he
  apply List.ext_getElem?
  intro i
  rw [List.getElem?_set]
  by_cases hi : k = i
  · subst hi
    rw [if_pos rfl, wld_get h, if_pos (by simpa [wld] using h)]
  · rw [if_neg hi]
    by_cases hn : i < n
    · obtain ⟨h1, h2, h3⟩ := ho i (fun q => hi q.symm)
      rw [wld_get hn, wld_get hn, h1, h2, h3]
    · simp [wld, hn]
def vRB (n : Nat) (sh : vSh) (m : vM) : Prop := ∀ k, k < n → (∀ j x, (sh k).2.2 j = x + 2 → x < n) ∧ ((sh k).1 = 4 → ∀ j, m.1 k j = 0 ∨ (m.1 k j).toNatClampNeg - 1 < n)
def vAg (n : Nat) (ad ad' : Nat → Nat) : Prop := ∀ k, k < n ∨ k = vsN → ad' k = ad k
theorem venc_ag {K : Nat → ClassId} {ad ad' : Nat → Nat} {q : Nat × Nat × (Nat → Nat)} {f : Nat → Int32} {g : Nat → Int64} {n : Nat} (ha : ∀ k, k < n → ad' k = ad k) (h1 : ∀ j x, q.2.2 j = x + 2 → x < n) (h2 : q.1 = 4 → ∀ j, f j = 0 ∨ (f j).toNatClampNeg - 1 < n) : venc K ad' q f g = venc K ad q f g := by
  have hr : ∀ j, vrq ad' (q.2.2 j) = vrq ad (q.2.2 j) := by
    intro j
    have := h1 j
    generalize q.2.2 j = t at this ⊢
    match t, this with
    | 0, _ => rfl
    | 1, _ => rfl
    | x + 2, h => simp only [vrq]; rw [ha x (h x rfl)]
  have hs : ∀ j x, vsl ad' (q.2.2 j) x = vsl ad (q.2.2 j) x := by
    intro j y
    have := h1 j
    generalize q.2.2 j = t at this ⊢
    match t, this with
    | 0, _ => rfl
    | 1, _ => rfl
    | x + 2, h => simp only [vsl]; rw [ha x (h x rfl)]
  unfold venc
  split
  · rfl
  · rfl
  · rfl
  · rw [show (fun j => vrq ad' (q.2.2 j)) = fun j => vrq ad (q.2.2 j) from funext hr]
  · rename_i hq
    have hd : (fun j => vdq ad' (f j)) = fun j => vdq ad (f j) := by
      funext j
      unfold vdq
      rcases h2 hq j with h | h
      · simp [h]
      · split
        · rfl
        · rw [ha _ h]
    rw [hd]
  · rw [show (fun j => vrq ad' (q.2.2 j)) = fun j => vrq ad (q.2.2 j) from funext hr]
  · congr 2; exact List.map_congr_left (fun j _ => hs j (f j))
theorem wld_push {K : Nat → ClassId} {ad ad' : Nat → Nat} {sh sh' : vSh} {m m' : vM} {n q : Nat} {e : va_E} (ha : ∀ k, k < n → ad' k = ad k) (hq : ad' n = q) (he : e = venc K ad' (sh' n) (m'.1 n) (m'.2 n)) (ho : ∀ j, j < n → sh' j = sh j ∧ m'.1 j = m.1 j ∧ m'.2 j = m.2 j) (hB : vRB n sh m) : wld K ad sh m n ++ [(q, e)] = wld K ad' sh' m' (n + 1) := by
  subst hq; subst he
  unfold wld
  rw [List.range_succ, List.map_append]
  congr 1
  apply List.map_congr_left
  intro k hk
  have hk := List.mem_range.mp hk
  obtain ⟨h1, h2, h3⟩ := ho k hk
  rw [h1, h2, h3, ha k hk, venc_ag ha (hB k hk).1 (hB k hk).2]
/-! updates of memory and shape -/
def upI (m : vM) (a j : Nat) (v : Int32) : vM := (fun b => if b = a then upd (m.1 a) j v else m.1 b, m.2)
def upL (m : vM) (a j : Nat) (v : Int64) : vM := (m.1, fun b => if b = a then vp_updL (m.2 a) j v else m.2 b)
def upA (m : vM) (a : Nat) (f : Nat → Int32) : vM := (fun b => if b = a then f else m.1 b, m.2)
def upZ (m : vM) (a : Nat) : vM := (fun b => if b = a then fun _ => 0 else m.1 b, fun b => if b = a then fun _ => 0 else m.2 b)
def upS (sh : vSh) (a : Nat) (q : Nat × Nat × (Nat → Nat)) : vSh := fun b => if b = a then q else sh b
def setC (q : Nat × Nat × (Nat → Nat)) (j c : Nat) : Nat × Nat × (Nat → Nat) := (q.1, q.2.1, fun i => if i = j then c else q.2.2 i)
theorem upI_r (m : vM) (a j b k : Nat) (v : Int32) : (upI m a j v).1 b k = if b = a ∧ k = j then v else m.1 b k := by
  by_cases h : b = a
  · subst h; by_cases h2 : k = j
    · subst h2; simp [upI, upd]
    · simp [upI, upd, h2]
  · simp [upI, h]
theorem upI_s (m : vM) (a j : Nat) (v : Int32) : (upI m a j v).1 a j = v := by rw [upI_r]; simp
theorem upI_n (m : vM) (a j b k : Nat) (v : Int32) (h : b ≠ a ∨ k ≠ j) : (upI m a j v).1 b k = m.1 b k := by
  rw [upI_r, if_neg]; rintro ⟨h1, h2⟩; rcases h with h | h <;> contradiction
theorem upI_l (m : vM) (a j : Nat) (v : Int32) : (upI m a j v).2 = m.2 := rfl
theorem upI_o (m : vM) (a j b : Nat) (v : Int32) (h : b ≠ a) : (upI m a j v).1 b = m.1 b := by simp [upI, h]
theorem upL_i (m : vM) (a j : Nat) (v : Int64) : (upL m a j v).1 = m.1 := rfl
theorem upL_r (m : vM) (a j b k : Nat) (v : Int64) : (upL m a j v).2 b k = if b = a ∧ k = j then v else m.2 b k := by
  by_cases h : b = a
  · subst h; by_cases h2 : k = j
    · subst h2; simp [upL, vp_updL]
    · simp [upL, vp_updL, h2]
  · simp [upL, h]
/-! the judgement -/
theorem va_AOA.moved {ty : FieldType} {u U : State} (hvm : u.vm.Alike U.vm) (h : va_AOA ty u) : va_AOA ty U := (Cond.arrayOver_setVmC (args := #[]) hvm (.array ty)).trans h
/-- what else the tables say: words that go with the machine's tables as they grow -/
def vXt (U : State) : Prop := va_AO "TableSetter$Cell" U ∧ va_AOA .int U ∧ va_Nw (.methodLinkNest RX1 24 yX0_init "TableSetter") U ∧ va_Nw (.methodLinkNest RX5 23 yX4_init "TableSetter") U
theorem vXt.warm {s U : State} (hW : s.WarmedH U.vm) (h : vXt s) : vXt U := ⟨va_AO.moved hW.alike h.1, va_AOA.moved hW.alike h.2.1, va_Nw.warmM hW h.2.2.1, va_Nw.warmM hW h.2.2.2⟩
theorem vXt.same {u U : State} (e : u.vm = U.vm) (h : vXt u) : vXt U := ⟨va_AO.moved (e ▸ Vm.Alike.refl _) h.1, va_AOA.moved (e ▸ Vm.Alike.refl _) h.2.1, va_Nw.same rfl e h.2.2.1, va_Nw.same rfl e h.2.2.2⟩
def vCx (Y : vMeth) (fr lo : Nat) (p : Program) (R : Room) (s : State) (mi : MethodId) (args : Array Value) (meth : Method) (c : Code) (D : va_G) (K : Nat → ClassId) : Prop :=
  p.tables.exec = Jvm.exec ∧ c.code = Y.2.1 ∧ c.maxLocals = Y.2.2.1 ∧ s.vm.findClass Y.1.cls = some mi.cls ∧ (∀ w ∈ vtb, w.before args s = true) ∧ meth.sig.returnType = Y.2.2.2 ∧ meth.locks = false ∧ (Y.1.name = "<init>" → meth.name = "<init>") ∧ fr ≤ R.frames ∧ lo ≤ R.locals ∧ va_K D vwCl (vtys K) s ∧ vXt s
def vDy (sx : Option (Nat × (Nat → Int32))) (D : va_G) (K : Nat → ClassId) (ad : Nat → Nat) (sh : vSh) (m : vM) (n nE : Nat) (A : Nat → Prop) (H0 H : Heap) (locs : List Loc) (R : Room) (cells slots Cm Sm : Nat) (s : State) : Prop :=
  va_P D vwCl (wld K ad sh m n) H ∧ va_D A (wld K ad sh m n) ∧ va_S A H0 H locs ∧ (∀ q, H0.size ≤ q → A q) ∧ vRB n sh m ∧ n ≤ nE ∧ cells + (nE - n) ≤ Cm ∧ slots + (vSZ nE - vSZ n) ≤ Sm ∧ Cm ≤ R.cells ∧ Sm ≤ R.slots ∧ (∀ L xs, sx = some (L, xs) → va_X (ad vsN) L xs s H0 ∧ ad vsN < H0.size ∧ ¬ A (ad vsN))
def vRet (Y : vMeth) (pc : Nat) (r : Option Value) : Prop :=
  (r = none ∧ decode Y.2.1 pc = .ok (.return_, 1) ∧ Y.2.2.2 = none) ∨ (∃ x, r = some (.int x) ∧ decode Y.2.1 pc = .ok (.ireturn, 1) ∧ ∃ ty, Y.2.2.2 = some ty ∧ narrow ty (.int x) = .int x) ∨ (∃ x, r = some (.long x) ∧ decode Y.2.1 pc = .ok (.lreturn, 1) ∧ Y.2.2.2 = some .long) ∨ (∃ v C, r = some v ∧ decode Y.2.1 pc = .ok (.areturn, 1) ∧ Y.2.2.2 = some (.object C) ∧ (v = .null ∨ ∃ a, v = .ref a))
def vJ (Y : vMeth) (fr lo nE : Nat) (sx : Option (Nat × (Nat → Int32))) (pc : Nat) (ls : List (Nat × Value)) (st : List Value) (n : Nat) (sh : vSh) (m : vM) (P : Option Value → vSh → vM → Prop) : Prop :=
  ∀ (p : Program) (l : Launch) (e : Env) (R : Room) (s : State) (mi : MethodId) (args : Array Value) (below : List Frame) (meth : Method) (c : Code) (D : va_G) (K : Nat → ClassId) (ad : Nat → Nat) (A : Nat → Prop) (H0 H : Heap) (locs : List Loc) (cells slots Cm Sm : Nat) (Q : State → Prop) (la : Array Slot),
    vCx Y fr lo p R s mi args meth c D K → vDy sx D K ad sh m n nE A H0 H locs R cells slots Cm Sm s → lv_has la Y.2.2.1 (vls ad ls) →
    (∀ (r : Option Value) (sh' : vSh) (m' : vM) (ad' : Nat → Nat) (H' : Heap) (locs' : List Loc) (cells' slots' : Nat) (la' : Array Slot) (pc' : Nat), vRet Y pc' r → P r sh' m' → vAg n ad ad' → (nE = n → ad' = ad) → vDy sx D K ad' sh' m' nE nE A H0 H' locs' R cells' slots' Cm Sm s → W p l e R s mi args below meth c H' locs' cells' slots' Q (F0 mi pc' la' (r.toList.map (vtr ad')))) →
    W p l e R s mi args below meth c H locs cells slots Q (F0 mi pc la (st.map (vtr ad)))
theorem vlook_at {ad : Nat → Nat} {la : Array Slot} {nL i : Nat} {v : Value} {ls : List (Nat × Value)} (h : lv_has la nL (vls ad ls)) (hl : ls.lookup i = some v) : la[i]? = some (.val (vtr ad v)) := by
  refine h.2.2 (i, vtr ad v) ?_
  clear h
  induction ls with
  | nil => cases hl
  | cons q t ih =>
    obtain ⟨j, w⟩ := q
    rw [List.lookup_cons] at hl
    by_cases hj : i = j
    · subst hj
      simp at hl
      subst hl
      exact List.mem_cons_self
    · simp [show (i == j) = false by simpa using hj] at hl
      exact List.mem_cons_of_mem _ (ih hl)
theorem lv_mono {la : Array Slot} {nL : Nat} {l l' : List (Nat × Value)} (h : lv_has la nL l) (hs : ∀ q ∈ l', q ∈ l) : lv_has la nL l' := ⟨h.1, h.2.1, fun q hq => h.2.2 q (hs q hq)⟩
def vins (i : Nat) (v : Value) : List (Nat × Value) → List (Nat × Value)
  | [] => [(i, v)]
  | q :: t => if i < q.1 then (i, v) :: q :: t else q :: vins i v t
theorem vins_mem {i : Nat} {v : Value} {l : List (Nat × Value)} {q : Nat × Value} (h : q ∈ vins i v l) : q = (i, v) ∨ q ∈ l := by
  induction l with
  | nil => exact Or.inl (List.mem_singleton.mp h)
  | cons a t ih =>
    unfold vins at h
    split at h
    · rcases List.mem_cons.mp h with h | h
      · exact Or.inl h
      · exact Or.inr h
    · rcases List.mem_cons.mp h with h | h
      · exact Or.inr (h ▸ List.mem_cons_self)
      · rcases ih h with h | h
        · exact Or.inl h
        · exact Or.inr (List.mem_cons_of_mem _ h)
def vst (ls : List (Nat × Value)) (i : Nat) (v : Value) : List (Nat × Value) := vins i v (ls.filter (fun q => !(q.1 == i) && !(q.1 + 1 == i && q.2.category == 2)))
def vst2 (ls : List (Nat × Value)) (i : Nat) (v : Value) : List (Nat × Value) := vins i v (ls.filter (fun q => !(q.1 == i) && (!(q.1 == i + 1) && !(q.1 + 1 == i && q.2.category == 2))))
theorem vst_mem {ad : Nat → Nat} {ls : List (Nat × Value)} {i : Nat} {v : Value} : ∀ q ∈ vls ad (vst ls i v), q ∈ (i, vtr ad v) :: (vls ad ls).filter (fun q => !(q.1 == i) && !(q.1 + 1 == i && q.2.category == 2)) := by
  intro q hq
  obtain ⟨q0, h0, rfl⟩ := List.mem_map.mp hq
  rcases vins_mem h0 with rfl | h
  · exact List.mem_cons_self
  · obtain ⟨h1, h2⟩ := List.mem_filter.mp h
    refine List.mem_cons_of_mem _ (List.mem_filter.mpr ⟨List.mem_map.mpr ⟨q0, h1, rfl⟩, ?_⟩)
    simpa only [vtr_cat] using h2
theorem vst2_mem {ad : Nat → Nat} {ls : List (Nat × Value)} {i : Nat} {v : Value} : ∀ q ∈ vls ad (vst2 ls i v), q ∈ (i, vtr ad v) :: (vls ad ls).filter (fun q => !(q.1 == i) && (!(q.1 == i + 1) && !(q.1 + 1 == i && q.2.category == 2))) := by
  intro q hq
  obtain ⟨q0, h0, rfl⟩ := List.mem_map.mp hq
  rcases vins_mem h0 with rfl | h
  · exact List.mem_cons_self
  · obtain ⟨h1, h2⟩ := List.mem_filter.mp h
    refine List.mem_cons_of_mem _ (List.mem_filter.mpr ⟨List.mem_map.mpr ⟨q0, h1, rfl⟩, ?_⟩)
    simpa only [vtr_cat] using h2
section VJ
variable {Y : vMeth} {fr lo nE : Nat} {sx : Option (Nat × (Nat → Int32))} {pc : Nat} {ls : List (Nat × Value)} {st : List Value} {n : Nat} {sh : vSh} {m : vM} {P : Option Value → vSh → vM → Prop}
theorem vJ.mono {P' : Option Value → vSh → vM → Prop} (h : vJ Y fr lo nE sx pc ls st n sh m P) (hp : ∀ r sh' m', P r sh' m' → P' r sh' m') : vJ Y fr lo nE sx pc ls st n sh m P' := by
  intro p l e R s mi args below meth c D K ad A H0 H locs cells slots Cm Sm Q la hC hD hl hR
  exact h p l e R s mi args below meth c D K ad A H0 H locs cells slots Cm Sm Q la hC hD hl (fun r sh' m' ad' H' locs' cells' slots' la' pc' h1 h2 => hR r sh' m' ad' H' locs' cells' slots' la' pc' h1 (hp r sh' m' h2))
theorem vJ.sub (ks : List Nat) {ls' : List (Nat × Value)} (hk : lv_pick ls ks = ls') (k : vJ Y fr lo nE sx pc ls' st n sh m P) : vJ Y fr lo nE sx pc ls st n sh m P := by
  intro p l e R s mi args below meth c D K ad A H0 H locs cells slots Cm Sm Q la hC hD hl hR
  refine k p l e R s mi args below meth c D K ad A H0 H locs cells slots Cm Sm Q la hC hD (lv_mono hl fun q hq => ?_) hR
  subst hk
  obtain ⟨q0, h0, rfl⟩ := List.mem_map.mp hq
  obtain ⟨i, -, hi⟩ := List.mem_filterMap.mp h0
  exact List.mem_map.mpr ⟨q0, List.mem_of_getElem? hi, rfl⟩
theorem vJ.iconst {q : Int} {v : Int32} (hd : decode Y.2.1 pc = .ok (.iconst q, 1)) (hv : Int32.ofInt q = v) (k : vJ Y fr lo nE sx (pc + 1) ls (.int v :: st) n sh m P) : vJ Y fr lo nE sx pc ls st n sh m P := by
  intro p l e R s mi args below meth c D K ad A H0 H locs cells slots Cm Sm Q la hC hD hl hR
  exact lv_iconst hC.1 hC.2.1 hd hv (k p l e R s mi args below meth c D K ad A H0 H locs cells slots Cm Sm Q la hC hD hl hR)
theorem vJ.bipush {q : Int} {v : Int32} (hd : decode Y.2.1 pc = .ok (.bipush q, 2)) (hv : (Int8.ofInt q).toInt32 = v) (k : vJ Y fr lo nE sx (pc + 2) ls (.int v :: st) n sh m P) : vJ Y fr lo nE sx pc ls st n sh m P := by
  intro p l e R s mi args below meth c D K ad A H0 H locs cells slots Cm Sm Q la hC hD hl hR
  exact lv_bipush hC.1 hC.2.1 hd hv (k p l e R s mi args below meth c D K ad A H0 H locs cells slots Cm Sm Q la hC hD hl hR)
theorem vJ.sipush {q : Int} {v : Int32} (hd : decode Y.2.1 pc = .ok (.sipush q, 3)) (hv : (Int16.ofInt q).toInt32 = v) (k : vJ Y fr lo nE sx (pc + 3) ls (.int v :: st) n sh m P) : vJ Y fr lo nE sx pc ls st n sh m P := by
  intro p l e R s mi args below meth c D K ad A H0 H locs cells slots Cm Sm Q la hC hD hl hR
  exact lv_sipush hC.1 hC.2.1 hd hv (k p l e R s mi args below meth c D K ad A H0 H locs cells slots Cm Sm Q la hC hD hl hR)
theorem vJ.lconst {q : Fin 2} {v : Int64} (hd : decode Y.2.1 pc = .ok (.lconst q, 1)) (hv : Int64.ofNat (q : Nat) = v) (k : vJ Y fr lo nE sx (pc + 1) ls (.long v :: st) n sh m P) : vJ Y fr lo nE sx pc ls st n sh m P := by
  intro p l e R s mi args below meth c D K ad A H0 H locs cells slots Cm Sm Q la hC hD hl hR
  exact lv_lconst hC.1 hC.2.1 hd hv (k p l e R s mi args below meth c D K ad A H0 H locs cells slots Cm Sm Q la hC hD hl hR)
theorem vJ.ldc2 {index : Nat} {v : Int64} (hd : decode Y.2.1 pc = .ok (.ldc2_w index, 3)) (hw : Cond.constantLong Y.1.cls index v ∈ vtb) (k : vJ Y fr lo nE sx (pc + 3) ls (.long v :: st) n sh m P) : vJ Y fr lo nE sx pc ls st n sh m P := by
  intro p l e R s mi args below meth c D K ad A H0 H locs cells slots Cm Sm Q la hC hD hl hR
  exact lv_ldc2 hC.1 hC.2.1 hC.2.2.2.1 (hC.2.2.2.2.1 _ hw) hd (k p l e R s mi args below meth c D K ad A H0 H locs cells slots Cm Sm Q la hC hD hl hR)
theorem vJ.null (hd : decode Y.2.1 pc = .ok (.aconst_null, 1)) (k : vJ Y fr lo nE sx (pc + 1) ls (.null :: st) n sh m P) : vJ Y fr lo nE sx pc ls st n sh m P := by
  intro p l e R s mi args below meth c D K ad A H0 H locs cells slots Cm Sm Q la hC hD hl hR
  exact lv_null hC.1 hC.2.1 hd (k p l e R s mi args below meth c D K ad A H0 H locs cells slots Cm Sm Q la hC hD hl hR)
theorem vJ.iload_n {q : Fin 4} {i : Nat} {x : Int32} (hd : decode Y.2.1 pc = .ok (.iload_n q, 1)) (hi : (q : Nat) = i) (hx : ls.lookup i = some (.int x)) (k : vJ Y fr lo nE sx (pc + 1) ls (.int x :: st) n sh m P) : vJ Y fr lo nE sx pc ls st n sh m P := by
  intro p l e R s mi args below meth c D K ad A H0 H locs cells slots Cm Sm Q la hC hD hl hR
  exact lv_iload_n hC.1 hC.2.1 hd hi (vlook_at hl hx) (k p l e R s mi args below meth c D K ad A H0 H locs cells slots Cm Sm Q la hC hD hl hR)
theorem vJ.iload {i : Nat} {x : Int32} (hd : decode Y.2.1 pc = .ok (.iload i, 2)) (hx : ls.lookup i = some (.int x)) (k : vJ Y fr lo nE sx (pc + 2) ls (.int x :: st) n sh m P) : vJ Y fr lo nE sx pc ls st n sh m P := by
  intro p l e R s mi args below meth c D K ad A H0 H locs cells slots Cm Sm Q la hC hD hl hR
  exact lv_iload hC.1 hC.2.1 hd (vlook_at hl hx) (k p l e R s mi args below meth c D K ad A H0 H locs cells slots Cm Sm Q la hC hD hl hR)
theorem vJ.lload_n {q : Fin 4} {i : Nat} {x : Int64} (hd : decode Y.2.1 pc = .ok (.lload_n q, 1)) (hi : (q : Nat) = i) (hx : ls.lookup i = some (.long x)) (k : vJ Y fr lo nE sx (pc + 1) ls (.long x :: st) n sh m P) : vJ Y fr lo nE sx pc ls st n sh m P := by
  intro p l e R s mi args below meth c D K ad A H0 H locs cells slots Cm Sm Q la hC hD hl hR
  exact lv_lload_n hC.1 hC.2.1 hd hi (vlook_at hl hx) (k p l e R s mi args below meth c D K ad A H0 H locs cells slots Cm Sm Q la hC hD hl hR)
theorem vJ.lload {i : Nat} {x : Int64} (hd : decode Y.2.1 pc = .ok (.lload i, 2)) (hx : ls.lookup i = some (.long x)) (k : vJ Y fr lo nE sx (pc + 2) ls (.long x :: st) n sh m P) : vJ Y fr lo nE sx pc ls st n sh m P := by
  intro p l e R s mi args below meth c D K ad A H0 H locs cells slots Cm Sm Q la hC hD hl hR
  exact lv_lload hC.1 hC.2.1 hd (vlook_at hl hx) (k p l e R s mi args below meth c D K ad A H0 H locs cells slots Cm Sm Q la hC hD hl hR)
theorem vJ.aload_n {q : Fin 4} {i a : Nat} (hd : decode Y.2.1 pc = .ok (.aload_n q, 1)) (hi : (q : Nat) = i) (hx : ls.lookup i = some (.ref a)) (k : vJ Y fr lo nE sx (pc + 1) ls (.ref a :: st) n sh m P) : vJ Y fr lo nE sx pc ls st n sh m P := by
  intro p l e R s mi args below meth c D K ad A H0 H locs cells slots Cm Sm Q la hC hD hl hR
  exact lv_aload_n hC.1 hC.2.1 hd hi (vlook_at hl hx) (k p l e R s mi args below meth c D K ad A H0 H locs cells slots Cm Sm Q la hC hD hl hR)
theorem vJ.aload {i a : Nat} (hd : decode Y.2.1 pc = .ok (.aload i, 2)) (hx : ls.lookup i = some (.ref a)) (k : vJ Y fr lo nE sx (pc + 2) ls (.ref a :: st) n sh m P) : vJ Y fr lo nE sx pc ls st n sh m P := by
  intro p l e R s mi args below meth c D K ad A H0 H locs cells slots Cm Sm Q la hC hD hl hR
  exact lv_aload hC.1 hC.2.1 hd (vlook_at hl hx) (k p l e R s mi args below meth c D K ad A H0 H locs cells slots Cm Sm Q la hC hD hl hR)
theorem vJ.aload_nN {q : Fin 4} {i : Nat} (hd : decode Y.2.1 pc = .ok (.aload_n q, 1)) (hi : (q : Nat) = i) (hx : ls.lookup i = some .null) (k : vJ Y fr lo nE sx (pc + 1) ls (.null :: st) n sh m P) : vJ Y fr lo nE sx pc ls st n sh m P := by
  intro p l e R s mi args below meth c D K ad A H0 H locs cells slots Cm Sm Q la hC hD hl hR
  exact lv_aload_nN hC.1 hC.2.1 hd hi (vlook_at hl hx) (k p l e R s mi args below meth c D K ad A H0 H locs cells slots Cm Sm Q la hC hD hl hR)
theorem vJ.aloadN {i : Nat} (hd : decode Y.2.1 pc = .ok (.aload i, 2)) (hx : ls.lookup i = some .null) (k : vJ Y fr lo nE sx (pc + 2) ls (.null :: st) n sh m P) : vJ Y fr lo nE sx pc ls st n sh m P := by
  intro p l e R s mi args below meth c D K ad A H0 H locs cells slots Cm Sm Q la hC hD hl hR
  exact lv_aloadN hC.1 hC.2.1 hd (vlook_at hl hx) (k p l e R s mi args below meth c D K ad A H0 H locs cells slots Cm Sm Q la hC hD hl hR)
theorem vJ.istore_n {q : Fin 4} {i : Nat} {x : Int32} {ls2 : List (Nat × Value)} (hd : decode Y.2.1 pc = .ok (.istore_n q, 1)) (hi : (q : Nat) = i) (hn : i < Y.2.2.1) (hls : vst ls i (.int x) = ls2) (k : vJ Y fr lo nE sx (pc + 1) ls2 st n sh m P) : vJ Y fr lo nE sx pc ls (.int x :: st) n sh m P := by
  intro p l e R s mi args below meth c D K ad A H0 H locs cells slots Cm Sm Q la hC hD hl hR
  subst hls
  exact lv_istore_n hC.1 hC.2.1 hd hi hl hn rfl (fun la2 hl2 => k p l e R s mi args below meth c D K ad A H0 H locs cells slots Cm Sm Q la2 hC hD (lv_mono hl2 vst_mem) hR)
theorem vJ.istore {i : Nat} {x : Int32} {ls2 : List (Nat × Value)} (hd : decode Y.2.1 pc = .ok (.istore i, 2)) (hn : i < Y.2.2.1) (hls : vst ls i (.int x) = ls2) (k : vJ Y fr lo nE sx (pc + 2) ls2 st n sh m P) : vJ Y fr lo nE sx pc ls (.int x :: st) n sh m P := by
  intro p l e R s mi args below meth c D K ad A H0 H locs cells slots Cm Sm Q la hC hD hl hR
  subst hls
  exact lv_istore hC.1 hC.2.1 hd hl hn rfl (fun la2 hl2 => k p l e R s mi args below meth c D K ad A H0 H locs cells slots Cm Sm Q la2 hC hD (lv_mono hl2 vst_mem) hR)
theorem vJ.lstore_n {q : Fin 4} {i : Nat} {x : Int64} {ls2 : List (Nat × Value)} (hd : decode Y.2.1 pc = .ok (.lstore_n q, 1)) (hi : (q : Nat) = i) (hn : i + 1 < Y.2.2.1) (hls : vst2 ls i (.long x) = ls2) (k : vJ Y fr lo nE sx (pc + 1) ls2 st n sh m P) : vJ Y fr lo nE sx pc ls (.long x :: st) n sh m P := by
  intro p l e R s mi args below meth c D K ad A H0 H locs cells slots Cm Sm Q la hC hD hl hR
  subst hls
  exact lv_lstore_n hC.1 hC.2.1 hd hi hl hn rfl (fun la2 hl2 => k p l e R s mi args below meth c D K ad A H0 H locs cells slots Cm Sm Q la2 hC hD (lv_mono hl2 vst2_mem) hR)
theorem vJ.lstore {i : Nat} {x : Int64} {ls2 : List (Nat × Value)} (hd : decode Y.2.1 pc = .ok (.lstore i, 2)) (hn : i + 1 < Y.2.2.1) (hls : vst2 ls i (.long x) = ls2) (k : vJ Y fr lo nE sx (pc + 2) ls2 st n sh m P) : vJ Y fr lo nE sx pc ls (.long x :: st) n sh m P := by
  intro p l e R s mi args below meth c D K ad A H0 H locs cells slots Cm Sm Q la hC hD hl hR
  subst hls
  exact lv_lstore hC.1 hC.2.1 hd hl hn rfl (fun la2 hl2 => k p l e R s mi args below meth c D K ad A H0 H locs cells slots Cm Sm Q la2 hC hD (lv_mono hl2 vst2_mem) hR)
theorem vJ.astore_n {q : Fin 4} {i : Nat} {x : Nat} {ls2 : List (Nat × Value)} (hd : decode Y.2.1 pc = .ok (.astore_n q, 1)) (hi : (q : Nat) = i) (hn : i < Y.2.2.1) (hls : vst ls i (.ref x) = ls2) (k : vJ Y fr lo nE sx (pc + 1) ls2 st n sh m P) : vJ Y fr lo nE sx pc ls (.ref x :: st) n sh m P := by
  intro p l e R s mi args below meth c D K ad A H0 H locs cells slots Cm Sm Q la hC hD hl hR
  subst hls
  exact lv_astore_n hC.1 hC.2.1 hd hi hl hn rfl (fun la2 hl2 => k p l e R s mi args below meth c D K ad A H0 H locs cells slots Cm Sm Q la2 hC hD (lv_mono hl2 vst_mem) hR)
theorem vJ.astore {i : Nat} {x : Nat} {ls2 : List (Nat × Value)} (hd : decode Y.2.1 pc = .ok (.astore i, 2)) (hn : i < Y.2.2.1) (hls : vst ls i (.ref x) = ls2) (k : vJ Y fr lo nE sx (pc + 2) ls2 st n sh m P) : vJ Y fr lo nE sx pc ls (.ref x :: st) n sh m P := by
  intro p l e R s mi args below meth c D K ad A H0 H locs cells slots Cm Sm Q la hC hD hl hR
  subst hls
  exact lv_astore hC.1 hC.2.1 hd hl hn rfl (fun la2 hl2 => k p l e R s mi args below meth c D K ad A H0 H locs cells slots Cm Sm Q la2 hC hD (lv_mono hl2 vst_mem) hR)
theorem vJ.astore_nN {q : Fin 4} {i : Nat} {ls2 : List (Nat × Value)} (hd : decode Y.2.1 pc = .ok (.astore_n q, 1)) (hi : (q : Nat) = i) (hn : i < Y.2.2.1) (hls : vst ls i (.null) = ls2) (k : vJ Y fr lo nE sx (pc + 1) ls2 st n sh m P) : vJ Y fr lo nE sx pc ls (.null :: st) n sh m P := by
  intro p l e R s mi args below meth c D K ad A H0 H locs cells slots Cm Sm Q la hC hD hl hR
  subst hls
  exact lv_astore_nN hC.1 hC.2.1 hd hi hl hn rfl (fun la2 hl2 => k p l e R s mi args below meth c D K ad A H0 H locs cells slots Cm Sm Q la2 hC hD (lv_mono hl2 vst_mem) hR)
theorem vJ.astoreN {i : Nat} {ls2 : List (Nat × Value)} (hd : decode Y.2.1 pc = .ok (.astore i, 2)) (hn : i < Y.2.2.1) (hls : vst ls i (.null) = ls2) (k : vJ Y fr lo nE sx (pc + 2) ls2 st n sh m P) : vJ Y fr lo nE sx pc ls (.null :: st) n sh m P := by
  intro p l e R s mi args below meth c D K ad A H0 H locs cells slots Cm Sm Q la hC hD hl hR
  subst hls
  exact lv_astoreN hC.1 hC.2.1 hd hl hn rfl (fun la2 hl2 => k p l e R s mi args below meth c D K ad A H0 H locs cells slots Cm Sm Q la2 hC hD (lv_mono hl2 vst_mem) hR)
theorem vJ.iinc {i : Nat} {q : Int} {x v : Int32} {ls2 : List (Nat × Value)} (hd : decode Y.2.1 pc = .ok (.iinc i q, 3)) (hx : ls.lookup i = some (.int x)) (hv : x + Int32.ofInt q = v) (hn : i < Y.2.2.1) (hls : vst ls i (.int v) = ls2) (k : vJ Y fr lo nE sx (pc + 3) ls2 st n sh m P) : vJ Y fr lo nE sx pc ls st n sh m P := by
  intro p l e R s mi args below meth c D K ad A H0 H locs cells slots Cm Sm Q la hC hD hl hR
  subst hls
  have hm : (i, Value.int x) ∈ vls ad ls := by
    clear k hl
    induction ls with
    | nil => cases hx
    | cons q0 t ih =>
      obtain ⟨j, w⟩ := q0
      rw [List.lookup_cons] at hx
      by_cases hj : i = j
      · subst hj
        simp at hx
        subst hx
        exact List.mem_cons_self
      · simp [show (i == j) = false by simpa using hj] at hx
        exact List.mem_cons_of_mem _ (ih hx)
  obtain ⟨k9, hk9⟩ := List.getElem?_of_mem hm
  exact lv_iinc hC.1 hC.2.1 hd hl hk9 hv hn rfl (fun la2 hl2 => k p l e R s mi args below meth c D K ad A H0 H locs cells slots Cm Sm Q la2 hC hD (lv_mono hl2 vst_mem) hR)
theorem vJ.iadd {x y : Int32} (hd : decode Y.2.1 pc = .ok (.iadd, 1)) (k : vJ Y fr lo nE sx (pc + 1) ls (.int (x + y) :: st) n sh m P) : vJ Y fr lo nE sx pc ls (.int y :: .int x :: st) n sh m P := by
  intro p l e R s mi args below meth c D K ad A H0 H locs cells slots Cm Sm Q la hC hD hl hR
  exact lv_iadd hC.1 hC.2.1 hd (k p l e R s mi args below meth c D K ad A H0 H locs cells slots Cm Sm Q la hC hD hl hR)
theorem vJ.isub {x y : Int32} (hd : decode Y.2.1 pc = .ok (.isub, 1)) (k : vJ Y fr lo nE sx (pc + 1) ls (.int (x - y) :: st) n sh m P) : vJ Y fr lo nE sx pc ls (.int y :: .int x :: st) n sh m P := by
  intro p l e R s mi args below meth c D K ad A H0 H locs cells slots Cm Sm Q la hC hD hl hR
  exact lv_isub hC.1 hC.2.1 hd (k p l e R s mi args below meth c D K ad A H0 H locs cells slots Cm Sm Q la hC hD hl hR)
theorem vJ.imul {x y : Int32} (hd : decode Y.2.1 pc = .ok (.imul, 1)) (k : vJ Y fr lo nE sx (pc + 1) ls (.int (x * y) :: st) n sh m P) : vJ Y fr lo nE sx pc ls (.int y :: .int x :: st) n sh m P := by
  intro p l e R s mi args below meth c D K ad A H0 H locs cells slots Cm Sm Q la hC hD hl hR
  exact lv_imul hC.1 hC.2.1 hd (k p l e R s mi args below meth c D K ad A H0 H locs cells slots Cm Sm Q la hC hD hl hR)
theorem vJ.iand {x y : Int32} (hd : decode Y.2.1 pc = .ok (.iand, 1)) (k : vJ Y fr lo nE sx (pc + 1) ls (.int (x &&& y) :: st) n sh m P) : vJ Y fr lo nE sx pc ls (.int y :: .int x :: st) n sh m P := by
  intro p l e R s mi args below meth c D K ad A H0 H locs cells slots Cm Sm Q la hC hD hl hR
  exact lv_iand hC.1 hC.2.1 hd (k p l e R s mi args below meth c D K ad A H0 H locs cells slots Cm Sm Q la hC hD hl hR)
theorem vJ.ior {x y : Int32} (hd : decode Y.2.1 pc = .ok (.ior, 1)) (k : vJ Y fr lo nE sx (pc + 1) ls (.int (x ||| y) :: st) n sh m P) : vJ Y fr lo nE sx pc ls (.int y :: .int x :: st) n sh m P := by
  intro p l e R s mi args below meth c D K ad A H0 H locs cells slots Cm Sm Q la hC hD hl hR
  exact lv_ior hC.1 hC.2.1 hd (k p l e R s mi args below meth c D K ad A H0 H locs cells slots Cm Sm Q la hC hD hl hR)
theorem vJ.ishl {x y : Int32} (hd : decode Y.2.1 pc = .ok (.ishl, 1)) (k : vJ Y fr lo nE sx (pc + 1) ls (.int (x <<< (y &&& 31)) :: st) n sh m P) : vJ Y fr lo nE sx pc ls (.int y :: .int x :: st) n sh m P := by
  intro p l e R s mi args below meth c D K ad A H0 H locs cells slots Cm Sm Q la hC hD hl hR
  exact lv_ishl hC.1 hC.2.1 hd (k p l e R s mi args below meth c D K ad A H0 H locs cells slots Cm Sm Q la hC hD hl hR)
theorem vJ.ishr {x y : Int32} (hd : decode Y.2.1 pc = .ok (.ishr, 1)) (k : vJ Y fr lo nE sx (pc + 1) ls (.int (x >>> (y &&& 31)) :: st) n sh m P) : vJ Y fr lo nE sx pc ls (.int y :: .int x :: st) n sh m P := by
  intro p l e R s mi args below meth c D K ad A H0 H locs cells slots Cm Sm Q la hC hD hl hR
  exact lv_ishr hC.1 hC.2.1 hd (k p l e R s mi args below meth c D K ad A H0 H locs cells slots Cm Sm Q la hC hD hl hR)
theorem vJ.idiv {x y : Int32} (hd : decode Y.2.1 pc = .ok (.idiv, 1)) (hne : ¬ y = 0) (k : vJ Y fr lo nE sx (pc + 1) ls (.int (x / y) :: st) n sh m P) : vJ Y fr lo nE sx pc ls (.int y :: .int x :: st) n sh m P := by
  intro p l e R s mi args below meth c D K ad A H0 H locs cells slots Cm Sm Q la hC hD hl hR
  exact lv_idiv hC.1 hC.2.1 hd hne (k p l e R s mi args below meth c D K ad A H0 H locs cells slots Cm Sm Q la hC hD hl hR)
theorem vJ.irem {x y : Int32} (hd : decode Y.2.1 pc = .ok (.irem, 1)) (hne : ¬ y = 0) (k : vJ Y fr lo nE sx (pc + 1) ls (.int (x - x / y * y) :: st) n sh m P) : vJ Y fr lo nE sx pc ls (.int y :: .int x :: st) n sh m P := by
  intro p l e R s mi args below meth c D K ad A H0 H locs cells slots Cm Sm Q la hC hD hl hR
  exact lv_irem hC.1 hC.2.1 hd hne (k p l e R s mi args below meth c D K ad A H0 H locs cells slots Cm Sm Q la hC hD hl hR)
theorem vJ.ladd {x y : Int64} (hd : decode Y.2.1 pc = .ok (.ladd, 1)) (k : vJ Y fr lo nE sx (pc + 1) ls (.long (x + y) :: st) n sh m P) : vJ Y fr lo nE sx pc ls (.long y :: .long x :: st) n sh m P := by
  intro p l e R s mi args below meth c D K ad A H0 H locs cells slots Cm Sm Q la hC hD hl hR
  exact lv_ladd hC.1 hC.2.1 hd (k p l e R s mi args below meth c D K ad A H0 H locs cells slots Cm Sm Q la hC hD hl hR)
theorem vJ.lsub {x y : Int64} (hd : decode Y.2.1 pc = .ok (.lsub, 1)) (k : vJ Y fr lo nE sx (pc + 1) ls (.long (x - y) :: st) n sh m P) : vJ Y fr lo nE sx pc ls (.long y :: .long x :: st) n sh m P := by
  intro p l e R s mi args below meth c D K ad A H0 H locs cells slots Cm Sm Q la hC hD hl hR
  exact lv_lsub hC.1 hC.2.1 hd (k p l e R s mi args below meth c D K ad A H0 H locs cells slots Cm Sm Q la hC hD hl hR)
theorem vJ.lmul {x y : Int64} (hd : decode Y.2.1 pc = .ok (.lmul, 1)) (k : vJ Y fr lo nE sx (pc + 1) ls (.long (x * y) :: st) n sh m P) : vJ Y fr lo nE sx pc ls (.long y :: .long x :: st) n sh m P := by
  intro p l e R s mi args below meth c D K ad A H0 H locs cells slots Cm Sm Q la hC hD hl hR
  exact lv_lmul hC.1 hC.2.1 hd (k p l e R s mi args below meth c D K ad A H0 H locs cells slots Cm Sm Q la hC hD hl hR)
theorem vJ.ldiv {x y : Int64} (hd : decode Y.2.1 pc = .ok (.ldiv, 1)) (hne : ¬ y = 0) (k : vJ Y fr lo nE sx (pc + 1) ls (.long (x / y) :: st) n sh m P) : vJ Y fr lo nE sx pc ls (.long y :: .long x :: st) n sh m P := by
  intro p l e R s mi args below meth c D K ad A H0 H locs cells slots Cm Sm Q la hC hD hl hR
  exact lv_ldiv hC.1 hC.2.1 hd hne (k p l e R s mi args below meth c D K ad A H0 H locs cells slots Cm Sm Q la hC hD hl hR)
theorem vJ.lcmp {x y : Int64} (hd : decode Y.2.1 pc = .ok (.lcmp, 1)) (k : vJ Y fr lo nE sx (pc + 1) ls (.int (lg_cmp x y) :: st) n sh m P) : vJ Y fr lo nE sx pc ls (.long y :: .long x :: st) n sh m P := by
  intro p l e R s mi args below meth c D K ad A H0 H locs cells slots Cm Sm Q la hC hD hl hR
  exact W.lcmp hC.1 hC.2.1 hd (k p l e R s mi args below meth c D K ad A H0 H locs cells slots Cm Sm Q la hC hD hl hR)
theorem vJ.i2l {x : Int32} (hd : decode Y.2.1 pc = .ok (.i2l, 1)) (k : vJ Y fr lo nE sx (pc + 1) ls (.long x.toInt64 :: st) n sh m P) : vJ Y fr lo nE sx pc ls (.int x :: st) n sh m P := by
  intro p l e R s mi args below meth c D K ad A H0 H locs cells slots Cm Sm Q la hC hD hl hR
  exact lv_i2l hC.1 hC.2.1 hd rfl (k p l e R s mi args below meth c D K ad A H0 H locs cells slots Cm Sm Q la hC hD hl hR)
theorem vJ.l2i {x : Int64} (hd : decode Y.2.1 pc = .ok (.l2i, 1)) (k : vJ Y fr lo nE sx (pc + 1) ls (.int x.toInt32 :: st) n sh m P) : vJ Y fr lo nE sx pc ls (.long x :: st) n sh m P := by
  intro p l e R s mi args below meth c D K ad A H0 H locs cells slots Cm Sm Q la hC hD hl hR
  exact lv_l2i hC.1 hC.2.1 hd rfl (k p l e R s mi args below meth c D K ad A H0 H locs cells slots Cm Sm Q la hC hD hl hR)
theorem vJ.dup {v : Value} (hd : decode Y.2.1 pc = .ok (.dup, 1)) (hv : v.category = 1) (k : vJ Y fr lo nE sx (pc + 1) ls (v :: v :: st) n sh m P) : vJ Y fr lo nE sx pc ls (v :: st) n sh m P := by
  intro p l e R s mi args below meth c D K ad A H0 H locs cells slots Cm Sm Q la hC hD hl hR
  exact lv_dup hC.1 hC.2.1 hd (by rw [vtr_cat]; exact hv) (k p l e R s mi args below meth c D K ad A H0 H locs cells slots Cm Sm Q la hC hD hl hR)
theorem vJ.pop {v : Value} (hd : decode Y.2.1 pc = .ok (.pop, 1)) (hv : v.category = 1) (k : vJ Y fr lo nE sx (pc + 1) ls st n sh m P) : vJ Y fr lo nE sx pc ls (v :: st) n sh m P := by
  intro p l e R s mi args below meth c D K ad A H0 H locs cells slots Cm Sm Q la hC hD hl hR
  exact lv_pop hC.1 hC.2.1 hd (by rw [vtr_cat]; exact hv) (k p l e R s mi args below meth c D K ad A H0 H locs cells slots Cm Sm Q la hC hD hl hR)
theorem vJ.dup2 {v u : Value} (hd : decode Y.2.1 pc = .ok (.dup2, 1)) (hv : v.category = 1) (hu : u.category = 1) (k : vJ Y fr lo nE sx (pc + 1) ls (v :: u :: v :: u :: st) n sh m P) : vJ Y fr lo nE sx pc ls (v :: u :: st) n sh m P := by
  intro p l e R s mi args below meth c D K ad A H0 H locs cells slots Cm Sm Q la hC hD hl hR
  exact lv_dup2_11 hC.1 hC.2.1 hd (by rw [vtr_cat]; exact hv) (by rw [vtr_cat]; exact hu) (k p l e R s mi args below meth c D K ad A H0 H locs cells slots Cm Sm Q la hC hD hl hR)
theorem vJ.if_eq {x : Int32} {off : Int} {tgt : Nat} (hd : decode Y.2.1 pc = .ok (.ifCond .eq off, 3)) (ht : (pc : Int) + off = (tgt : Int)) (kt : x = 0 → vJ Y fr lo nE sx tgt ls st n sh m P) (kf : ¬ x = 0 → vJ Y fr lo nE sx (pc + 3) ls st n sh m P) : vJ Y fr lo nE sx pc ls (.int x :: st) n sh m P := by
  intro p l e R s mi args below meth c D K ad A H0 H locs cells slots Cm Sm Q la hC hD hl hR
  exact lv_if_eq hC.1 hC.2.1 hd ht (fun h => kt h p l e R s mi args below meth c D K ad A H0 H locs cells slots Cm Sm Q la hC hD hl hR) (fun h => kf h p l e R s mi args below meth c D K ad A H0 H locs cells slots Cm Sm Q la hC hD hl hR)
theorem vJ.icmp_eq {x y : Int32} {off : Int} {tgt : Nat} (hd : decode Y.2.1 pc = .ok (.if_icmp .eq off, 3)) (ht : (pc : Int) + off = (tgt : Int)) (kt : x = y → vJ Y fr lo nE sx tgt ls st n sh m P) (kf : ¬ x = y → vJ Y fr lo nE sx (pc + 3) ls st n sh m P) : vJ Y fr lo nE sx pc ls (.int y :: .int x :: st) n sh m P := by
  intro p l e R s mi args below meth c D K ad A H0 H locs cells slots Cm Sm Q la hC hD hl hR
  exact lv_icmp_eq hC.1 hC.2.1 hd ht (fun h => kt h p l e R s mi args below meth c D K ad A H0 H locs cells slots Cm Sm Q la hC hD hl hR) (fun h => kf h p l e R s mi args below meth c D K ad A H0 H locs cells slots Cm Sm Q la hC hD hl hR)
theorem vJ.if_ne {x : Int32} {off : Int} {tgt : Nat} (hd : decode Y.2.1 pc = .ok (.ifCond .ne off, 3)) (ht : (pc : Int) + off = (tgt : Int)) (kt : ¬ x = 0 → vJ Y fr lo nE sx tgt ls st n sh m P) (kf : x = 0 → vJ Y fr lo nE sx (pc + 3) ls st n sh m P) : vJ Y fr lo nE sx pc ls (.int x :: st) n sh m P := by
  intro p l e R s mi args below meth c D K ad A H0 H locs cells slots Cm Sm Q la hC hD hl hR
  exact lv_if_ne hC.1 hC.2.1 hd ht (fun h => kt h p l e R s mi args below meth c D K ad A H0 H locs cells slots Cm Sm Q la hC hD hl hR) (fun h => kf h p l e R s mi args below meth c D K ad A H0 H locs cells slots Cm Sm Q la hC hD hl hR)
theorem vJ.icmp_ne {x y : Int32} {off : Int} {tgt : Nat} (hd : decode Y.2.1 pc = .ok (.if_icmp .ne off, 3)) (ht : (pc : Int) + off = (tgt : Int)) (kt : ¬ x = y → vJ Y fr lo nE sx tgt ls st n sh m P) (kf : x = y → vJ Y fr lo nE sx (pc + 3) ls st n sh m P) : vJ Y fr lo nE sx pc ls (.int y :: .int x :: st) n sh m P := by
  intro p l e R s mi args below meth c D K ad A H0 H locs cells slots Cm Sm Q la hC hD hl hR
  exact lv_icmp_ne hC.1 hC.2.1 hd ht (fun h => kt h p l e R s mi args below meth c D K ad A H0 H locs cells slots Cm Sm Q la hC hD hl hR) (fun h => kf h p l e R s mi args below meth c D K ad A H0 H locs cells slots Cm Sm Q la hC hD hl hR)
theorem vJ.if_lt {x : Int32} {off : Int} {tgt : Nat} (hd : decode Y.2.1 pc = .ok (.ifCond .lt off, 3)) (ht : (pc : Int) + off = (tgt : Int)) (kt : x < 0 → vJ Y fr lo nE sx tgt ls st n sh m P) (kf : ¬ x < 0 → vJ Y fr lo nE sx (pc + 3) ls st n sh m P) : vJ Y fr lo nE sx pc ls (.int x :: st) n sh m P := by
  intro p l e R s mi args below meth c D K ad A H0 H locs cells slots Cm Sm Q la hC hD hl hR
  exact lv_if_lt hC.1 hC.2.1 hd ht (fun h => kt h p l e R s mi args below meth c D K ad A H0 H locs cells slots Cm Sm Q la hC hD hl hR) (fun h => kf h p l e R s mi args below meth c D K ad A H0 H locs cells slots Cm Sm Q la hC hD hl hR)
theorem vJ.icmp_lt {x y : Int32} {off : Int} {tgt : Nat} (hd : decode Y.2.1 pc = .ok (.if_icmp .lt off, 3)) (ht : (pc : Int) + off = (tgt : Int)) (kt : x < y → vJ Y fr lo nE sx tgt ls st n sh m P) (kf : ¬ x < y → vJ Y fr lo nE sx (pc + 3) ls st n sh m P) : vJ Y fr lo nE sx pc ls (.int y :: .int x :: st) n sh m P := by
  intro p l e R s mi args below meth c D K ad A H0 H locs cells slots Cm Sm Q la hC hD hl hR
  exact lv_icmp_lt hC.1 hC.2.1 hd ht (fun h => kt h p l e R s mi args below meth c D K ad A H0 H locs cells slots Cm Sm Q la hC hD hl hR) (fun h => kf h p l e R s mi args below meth c D K ad A H0 H locs cells slots Cm Sm Q la hC hD hl hR)
theorem vJ.if_ge {x : Int32} {off : Int} {tgt : Nat} (hd : decode Y.2.1 pc = .ok (.ifCond .ge off, 3)) (ht : (pc : Int) + off = (tgt : Int)) (kt : 0 ≤ x → vJ Y fr lo nE sx tgt ls st n sh m P) (kf : ¬ 0 ≤ x → vJ Y fr lo nE sx (pc + 3) ls st n sh m P) : vJ Y fr lo nE sx pc ls (.int x :: st) n sh m P := by
  intro p l e R s mi args below meth c D K ad A H0 H locs cells slots Cm Sm Q la hC hD hl hR
  exact lv_if_ge hC.1 hC.2.1 hd ht (fun h => kt h p l e R s mi args below meth c D K ad A H0 H locs cells slots Cm Sm Q la hC hD hl hR) (fun h => kf h p l e R s mi args below meth c D K ad A H0 H locs cells slots Cm Sm Q la hC hD hl hR)
theorem vJ.icmp_ge {x y : Int32} {off : Int} {tgt : Nat} (hd : decode Y.2.1 pc = .ok (.if_icmp .ge off, 3)) (ht : (pc : Int) + off = (tgt : Int)) (kt : y ≤ x → vJ Y fr lo nE sx tgt ls st n sh m P) (kf : ¬ y ≤ x → vJ Y fr lo nE sx (pc + 3) ls st n sh m P) : vJ Y fr lo nE sx pc ls (.int y :: .int x :: st) n sh m P := by
  intro p l e R s mi args below meth c D K ad A H0 H locs cells slots Cm Sm Q la hC hD hl hR
  exact lv_icmp_ge hC.1 hC.2.1 hd ht (fun h => kt h p l e R s mi args below meth c D K ad A H0 H locs cells slots Cm Sm Q la hC hD hl hR) (fun h => kf h p l e R s mi args below meth c D K ad A H0 H locs cells slots Cm Sm Q la hC hD hl hR)
theorem vJ.if_gt {x : Int32} {off : Int} {tgt : Nat} (hd : decode Y.2.1 pc = .ok (.ifCond .gt off, 3)) (ht : (pc : Int) + off = (tgt : Int)) (kt : 0 < x → vJ Y fr lo nE sx tgt ls st n sh m P) (kf : ¬ 0 < x → vJ Y fr lo nE sx (pc + 3) ls st n sh m P) : vJ Y fr lo nE sx pc ls (.int x :: st) n sh m P := by
  intro p l e R s mi args below meth c D K ad A H0 H locs cells slots Cm Sm Q la hC hD hl hR
  exact lv_if_gt hC.1 hC.2.1 hd ht (fun h => kt h p l e R s mi args below meth c D K ad A H0 H locs cells slots Cm Sm Q la hC hD hl hR) (fun h => kf h p l e R s mi args below meth c D K ad A H0 H locs cells slots Cm Sm Q la hC hD hl hR)
theorem vJ.icmp_gt {x y : Int32} {off : Int} {tgt : Nat} (hd : decode Y.2.1 pc = .ok (.if_icmp .gt off, 3)) (ht : (pc : Int) + off = (tgt : Int)) (kt : y < x → vJ Y fr lo nE sx tgt ls st n sh m P) (kf : ¬ y < x → vJ Y fr lo nE sx (pc + 3) ls st n sh m P) : vJ Y fr lo nE sx pc ls (.int y :: .int x :: st) n sh m P := by
  intro p l e R s mi args below meth c D K ad A H0 H locs cells slots Cm Sm Q la hC hD hl hR
  exact lv_icmp_gt hC.1 hC.2.1 hd ht (fun h => kt h p l e R s mi args below meth c D K ad A H0 H locs cells slots Cm Sm Q la hC hD hl hR) (fun h => kf h p l e R s mi args below meth c D K ad A H0 H locs cells slots Cm Sm Q la hC hD hl hR)
theorem vJ.if_le {x : Int32} {off : Int} {tgt : Nat} (hd : decode Y.2.1 pc = .ok (.ifCond .le off, 3)) (ht : (pc : Int) + off = (tgt : Int)) (kt : x ≤ 0 → vJ Y fr lo nE sx tgt ls st n sh m P) (kf : ¬ x ≤ 0 → vJ Y fr lo nE sx (pc + 3) ls st n sh m P) : vJ Y fr lo nE sx pc ls (.int x :: st) n sh m P := by
  intro p l e R s mi args below meth c D K ad A H0 H locs cells slots Cm Sm Q la hC hD hl hR
  exact lv_if_le hC.1 hC.2.1 hd ht (fun h => kt h p l e R s mi args below meth c D K ad A H0 H locs cells slots Cm Sm Q la hC hD hl hR) (fun h => kf h p l e R s mi args below meth c D K ad A H0 H locs cells slots Cm Sm Q la hC hD hl hR)
theorem vJ.icmp_le {x y : Int32} {off : Int} {tgt : Nat} (hd : decode Y.2.1 pc = .ok (.if_icmp .le off, 3)) (ht : (pc : Int) + off = (tgt : Int)) (kt : x ≤ y → vJ Y fr lo nE sx tgt ls st n sh m P) (kf : ¬ x ≤ y → vJ Y fr lo nE sx (pc + 3) ls st n sh m P) : vJ Y fr lo nE sx pc ls (.int y :: .int x :: st) n sh m P := by
  intro p l e R s mi args below meth c D K ad A H0 H locs cells slots Cm Sm Q la hC hD hl hR
  exact lv_icmp_le hC.1 hC.2.1 hd ht (fun h => kt h p l e R s mi args below meth c D K ad A H0 H locs cells slots Cm Sm Q la hC hD hl hR) (fun h => kf h p l e R s mi args below meth c D K ad A H0 H locs cells slots Cm Sm Q la hC hD hl hR)
theorem vJ.ifnonnull {a : Nat} {off : Int} {tgt : Nat} (hd : decode Y.2.1 pc = .ok (.ifnonnull off, 3)) (ht : (pc : Int) + off = (tgt : Int)) (k : vJ Y fr lo nE sx tgt ls st n sh m P) : vJ Y fr lo nE sx pc ls (.ref a :: st) n sh m P := by
  intro p l e R s mi args below meth c D K ad A H0 H locs cells slots Cm Sm Q la hC hD hl hR
  exact lv_ifnonnull hC.1 hC.2.1 hd ht (k p l e R s mi args below meth c D K ad A H0 H locs cells slots Cm Sm Q la hC hD hl hR)
theorem vJ.ifnull {a : Nat} {off : Int} (hd : decode Y.2.1 pc = .ok (.ifnull off, 3)) (k : vJ Y fr lo nE sx (pc + 3) ls st n sh m P) : vJ Y fr lo nE sx pc ls (.ref a :: st) n sh m P := by
  intro p l e R s mi args below meth c D K ad A H0 H locs cells slots Cm Sm Q la hC hD hl hR
  exact lv_ifnull hC.1 hC.2.1 hd (k p l e R s mi args below meth c D K ad A H0 H locs cells slots Cm Sm Q la hC hD hl hR)
theorem vJ.ifnullN {off : Int} {tgt : Nat} (hd : decode Y.2.1 pc = .ok (.ifnull off, 3)) (ht : (pc : Int) + off = (tgt : Int)) (k : vJ Y fr lo nE sx tgt ls st n sh m P) : vJ Y fr lo nE sx pc ls (.null :: st) n sh m P := by
  intro p l e R s mi args below meth c D K ad A H0 H locs cells slots Cm Sm Q la hC hD hl hR
  exact lv_ifnullN hC.1 hC.2.1 hd ht (k p l e R s mi args below meth c D K ad A H0 H locs cells slots Cm Sm Q la hC hD hl hR)
theorem vJ.ifnonnullN {off : Int} (hd : decode Y.2.1 pc = .ok (.ifnonnull off, 3)) (k : vJ Y fr lo nE sx (pc + 3) ls st n sh m P) : vJ Y fr lo nE sx pc ls (.null :: st) n sh m P := by
  intro p l e R s mi args below meth c D K ad A H0 H locs cells slots Cm Sm Q la hC hD hl hR
  exact lv_ifnonnullN hC.1 hC.2.1 hd (k p l e R s mi args below meth c D K ad A H0 H locs cells slots Cm Sm Q la hC hD hl hR)
theorem vJ.goto {off : Int} {tgt : Nat} (hd : decode Y.2.1 pc = .ok (.goto off, 3)) (ht : (pc : Int) + off = (tgt : Int)) (k : vJ Y fr lo nE sx tgt ls st n sh m P) : vJ Y fr lo nE sx pc ls st n sh m P := by
  intro p l e R s mi args below meth c D K ad A H0 H locs cells slots Cm Sm Q la hC hD hl hR
  exact lv_goto hC.1 hC.2.1 hd ht (k p l e R s mi args below meth c D K ad A H0 H locs cells slots Cm Sm Q la hC hD hl hR)
theorem vJ.tabIn {dflt lq hq : Int} {offs : Array Int} {len : Nat} {x : Int32} {off : Int} {tgt : Nat} (hd : decode Y.2.1 pc = .ok (.tableswitch dflt lq hq offs, len)) (h1 : ¬ x.toInt < lq) (h2 : ¬ hq < x.toInt) (ho : offs[(x.toInt - lq).toNat]? = some off) (ht : (pc : Int) + off = (tgt : Int)) (k : vJ Y fr lo nE sx tgt ls st n sh m P) : vJ Y fr lo nE sx pc ls (.int x :: st) n sh m P := by
  intro p l e R s mi args below meth c D K ad A H0 H locs cells slots Cm Sm Q la hC hD hl hR
  exact lv_tableIn hC.1 hC.2.1 hd h1 h2 ho ht (k p l e R s mi args below meth c D K ad A H0 H locs cells slots Cm Sm Q la hC hD hl hR)
theorem vJ.tabOut {dflt lq hq : Int} {offs : Array Int} {len : Nat} {x : Int32} {tgt : Nat} (hd : decode Y.2.1 pc = .ok (.tableswitch dflt lq hq offs, len)) (h1 : x.toInt < lq ∨ hq < x.toInt) (ht : (pc : Int) + dflt = (tgt : Int)) (k : vJ Y fr lo nE sx tgt ls st n sh m P) : vJ Y fr lo nE sx pc ls (.int x :: st) n sh m P := by
  intro p l e R s mi args below meth c D K ad A H0 H locs cells slots Cm Sm Q la hC hD hl hR
  exact lv_tableOut hC.1 hC.2.1 hd h1 ht (k p l e R s mi args below meth c D K ad A H0 H locs cells slots Cm Sm Q la hC hD hl hR)
end VJ
end
section
theorem map_set_r {N k : Nat} {f f' : Nat → Value} {v : Value} (h1 : f' k = v) (h2 : ∀ j, j ≠ k → f' j = f j) : ((List.range N).map f).set k v = (List.range N).map f' := by
  apply List.ext_getElem?
  intro i
  rw [List.getElem?_set]
  by_cases hi : k = i
  · subst hi
    rw [if_pos rfl]
    by_cases hk : k < N
    · rw [if_pos (by simpa using hk), List.getElem?_map, List.getElem?_range hk, ← h1]; rfl
    · rw [if_neg (by simpa using hk)]; simp [hk]
  · rw [if_neg hi]
    by_cases hk : i < N
    · rw [List.getElem?_map, List.getElem?_map, List.getElem?_range hk]
      simp [h2 i (fun q => hi q.symm)]
    · simp [hk]
theorem vRB_upI {n : Nat} {sh : vSh} {m : vM} {a j : Nat} {v : Int32} (h : vRB n sh m) (hv : (sh a).1 = 4 → v = 0 ∨ v.toNatClampNeg - 1 < n) : vRB n sh (upI m a j v) := by
  intro k hk
  refine ⟨(h k hk).1, fun h4 i => ?_⟩
  rw [upI_r]
  split
  · rename_i hq; obtain ⟨rfl, -⟩ := hq; exact hv h4
  · exact (h k hk).2 h4 i
theorem vRB_of1 {n : Nat} {sh : vSh} {m m' : vM} (h : vRB n sh m) (hm : ∀ k, (sh k).1 = 4 → m'.1 k = m.1 k) : vRB n sh m' := fun k hk => ⟨(h k hk).1, fun h4 j => by rw [hm k h4]; exact (h k hk).2 h4 j⟩
theorem vRB_upS {n : Nat} {sh : vSh} {m : vM} {a k c : Nat} (h : vRB n sh m) (hc : ∀ x, c = x + 2 → x < n) : vRB n (upS sh a (setC (sh a) k c)) m := by
  intro b hb
  by_cases hba : b = a
  · subst hba
    refine ⟨fun j x hj => ?_, fun h4 j => ?_⟩
    · simp only [upS, if_true, setC] at hj
      split at hj
      · exact hc x hj
      · exact (h b hb).1 j x hj
    · simp only [upS, if_true, setC] at h4
      exact (h b hb).2 h4 j
  · simp only [upS, if_neg hba]
    exact h b hb
section VM1
variable {Y : vMeth} {fr lo nE : Nat} {sx : Option (Nat × (Nat → Int32))} {pc : Nat} {ls : List (Nat × Value)} {st : List Value} {n : Nat} {sh : vSh} {m : vM} {P : Option Value → vSh → vM → Prop}
theorem vJ.getI {index ci N a k : Nat} {C : String} {T : u_T} {cs : Nat → Nat} (hd : decode Y.2.1 pc = .ok (.getfield index, 3)) (hs : sh a = (ci + 6, N, cs)) (ha : a < n) (hc : vwCl[ci]? = some (C, T, N)) (hin : ∀ w ∈ u_ws C T N, w ∈ vtb) (hk : k < N) (hcs : cs k = 0) (hw : Cond.fieldLink Y.1.cls index (T k).1 (T k).2.1 (T k).2.2.1 ∈ vtb) (kk : vJ Y fr lo nE sx (pc + 3) ls (.int (m.1 a k) :: st) n sh m P) : vJ Y fr lo nE sx pc ls (.ref a :: st) n sh m P := by
  intro p l e R s mi args below meth c D K ad A H0 H locs cells slots Cm Sm Q la hC hD hl hR
  obtain ⟨hx, hb, hml, hown, hts, hrt, hlk, hinit, hfr, hlo, hK, hXt⟩ := id hC
  have he : (wld K ad sh m n)[a]? = some (ad a, .inr (ci, (List.range N).map (fun j => vsl ad (cs j) (m.1 a j)))) := by rw [wld_get ha, hs]; rfl
  refine va_get hx hb hts hin hown hK hD.1 a he hc k hk (hts _ hw) (fun _ h => h) (v := vtr ad (.int (m.1 a k))) ?_ hd (kk p l e R s mi args below meth c D K ad A H0 H locs cells slots Cm Sm Q la hC hD hl hR)
  simp [List.getElem?_map, List.getElem?_range hk, hcs, vsl, vtr]
theorem vJ.getR {index ci N a k j : Nat} {C : String} {T : u_T} {cs : Nat → Nat} (hd : decode Y.2.1 pc = .ok (.getfield index, 3)) (hs : sh a = (ci + 6, N, cs)) (ha : a < n) (hc : vwCl[ci]? = some (C, T, N)) (hin : ∀ w ∈ u_ws C T N, w ∈ vtb) (hk : k < N) (hcs : cs k = j + 2) (hw : Cond.fieldLink Y.1.cls index (T k).1 (T k).2.1 (T k).2.2.1 ∈ vtb) (kk : vJ Y fr lo nE sx (pc + 3) ls (.ref j :: st) n sh m P) : vJ Y fr lo nE sx pc ls (.ref a :: st) n sh m P := by
  intro p l e R s mi args below meth c D K ad A H0 H locs cells slots Cm Sm Q la hC hD hl hR
  obtain ⟨hx, hb, hml, hown, hts, hrt, hlk, hinit, hfr, hlo, hK, hXt⟩ := id hC
  have he : (wld K ad sh m n)[a]? = some (ad a, .inr (ci, (List.range N).map (fun j => vsl ad (cs j) (m.1 a j)))) := by rw [wld_get ha, hs]; rfl
  refine va_get hx hb hts hin hown hK hD.1 a he hc k hk (hts _ hw) (fun _ h => h) (v := vtr ad (.ref j)) ?_ hd (kk p l e R s mi args below meth c D K ad A H0 H locs cells slots Cm Sm Q la hC hD hl hR)
  simp [List.getElem?_map, List.getElem?_range hk, hcs, vsl, vtr]
theorem vJ.putI {index ci N a k : Nat} {C : String} {T : u_T} {cs : Nat → Nat} {x : Int32} (hd : decode Y.2.1 pc = .ok (.putfield index, 3)) (hs : sh a = (ci + 6, N, cs)) (ha : a < n) (hc : vwCl[ci]? = some (C, T, N)) (hin : ∀ w ∈ u_ws C T N, w ∈ vtb) (ty0 : Nat → FieldType) (hty : ∀ k, k < N → parseFieldDescriptor (T k).2.2.1 = some (ty0 k)) (hnm : ∀ a, a < N → ∀ b, b < N → a ≠ b → (T a).2.1 ≠ (T b).2.1) (hk : k < N) (hcs : cs k = 0) (hfin : (T k).2.2.2 = false) (hw : Cond.fieldLink Y.1.cls index (T k).1 (T k).2.1 (T k).2.2.1 ∈ vtb) (hnr : narrow (ty0 k) (.int x) = .int x) (hft : fits (ty0 k) (.int x) = true) (kk : vJ Y fr lo nE sx (pc + 3) ls st n sh (upI m a k x) P) : vJ Y fr lo nE sx pc ls (.int x :: .ref a :: st) n sh m P := by
  intro p l e R s mi args below meth c D K ad A H0 H locs cells slots Cm Sm Q la hC hD hl hR
  obtain ⟨hx, hb, hml, hown, hts, hrt, hlk, hinit, hfr, hlo, hK, hXt⟩ := id hC
  obtain ⟨hP, hDd, hS, hA, hB, hn, hc1, hs1, hc2, hs2, hsx⟩ := id hD
  have he : (wld K ad sh m n)[a]? = some (ad a, .inr (ci, (List.range N).map (fun j => vsl ad (cs j) (m.1 a j)))) := by rw [wld_get ha, hs]; rfl
  refine va_put (v := .int x) hx hb hts hin ty0 hty hnm hown hK hP hDd hS a he hc k hk (hts _ hw) (fun _ h => h) hfin (hty k hk) hnr hft (by simpa using hk) hd (fun H1 locs1 hP1 hD1 hS1 => ?_)
  have e9 : (wld K ad sh m n).set a (ad a, .inr (ci, ((List.range N).map (fun j => vsl ad (cs j) (m.1 a j))).set k (.int x))) = wld K ad sh (upI m a k x) n := by
    refine wld_set ha ?_ (fun j hj => ⟨rfl, upI_o m a k j x hj, rfl⟩)
    rw [hs]
    show _ = Sum.inr (ci, _)
    rw [map_set_r (f' := fun j => vsl ad (cs j) ((upI m a k x).1 a j))]
    · show vsl ad (cs k) _ = _
      rw [hcs, upI_s]; rfl
    · intro j hj
      show vsl ad (cs j) _ = _
      rw [upI_n m a k a j x (Or.inr hj)]
  rw [e9] at hP1 hD1
  exact kk p l e R s mi args below meth c D K ad A H0 H1 locs1 cells slots Cm Sm Q la hC ⟨hP1, hD1, hS1, hA, vRB_upI hB (fun h4 => by rw [hs] at h4; exact absurd h4 (by show ¬ ci + 6 = 4; omega)), hn, hc1, hs1, hc2, hs2, hsx⟩ hl hR
theorem vJ.putF {index ci N a k j : Nat} {C : String} {T : u_T} {cs : Nat → Nat} (hd : decode Y.2.1 pc = .ok (.putfield index, 3)) (hs : sh a = (ci + 6, N, cs)) (ha : a < n) (hj : j < n) (hc : vwCl[ci]? = some (C, T, N)) (hin : ∀ w ∈ u_ws C T N, w ∈ vtb) (ty0 : Nat → FieldType) (hty : ∀ k, k < N → parseFieldDescriptor (T k).2.2.1 = some (ty0 k)) (hnm : ∀ a, a < N → ∀ b, b < N → a ≠ b → (T a).2.1 ≠ (T b).2.1) (hk : k < N) (hfin : (T k).2.2.2 = true) (hi : Y.1.name = "<init>") (hdecl : (T k).1 = Y.1.cls) (hw : Cond.fieldLink Y.1.cls index (T k).1 (T k).2.1 (T k).2.2.1 ∈ vtb) (hft : ∀ b : Nat, narrow (ty0 k) (.ref b) = .ref b ∧ fits (ty0 k) (.ref b) = true) (kk : vJ Y fr lo nE sx (pc + 3) ls st n (upS sh a (setC (sh a) k (j + 2))) m P) : vJ Y fr lo nE sx pc ls (.ref j :: .ref a :: st) n sh m P := by
  intro p l e R s mi args below meth c D K ad A H0 H locs cells slots Cm Sm Q la hC hD hl hR
  obtain ⟨hx, hb, hml, hown, hts, hrt, hlk, hinit, hfr, hlo, hK, hXt⟩ := id hC
  obtain ⟨hP, hDd, hS, hA, hB, hn, hc1, hs1, hc2, hs2, hsx⟩ := id hD
  have he : (wld K ad sh m n)[a]? = some (ad a, .inr (ci, (List.range N).map (fun j => vsl ad (cs j) (m.1 a j)))) := by rw [wld_get ha, hs]; rfl
  refine va_putF (v := .ref (ad j)) hx hb hts hin ty0 hty hnm hown hK hP hDd hS a he hc k hk (hts _ hw) (fun _ h => h) hfin (hinit hi) hdecl (hty k hk) (hft _).1 (hft _).2 (by simpa using hk) hd (fun H1 locs1 hP1 hD1 hS1 => ?_)
  have e9 : (wld K ad sh m n).set a (ad a, .inr (ci, ((List.range N).map (fun j => vsl ad (cs j) (m.1 a j))).set k (.ref (ad j)))) = wld K ad (upS sh a (setC (sh a) k (j + 2))) m n := by
    refine wld_set ha ?_ (fun i hi => ⟨by simp [upS, hi], rfl, rfl⟩)
    have e8 : upS sh a (setC (sh a) k (j + 2)) a = (ci + 6, N, fun i => if i = k then j + 2 else cs i) := by
      simp [upS, setC, hs]
    rw [e8]
    show _ = Sum.inr (ci, _)
    rw [map_set_r (f' := fun i => vsl ad (if i = k then j + 2 else cs i) (m.1 a i))]
    · simp [vsl]
    · intro i hi
      simp [hi]
  rw [e9] at hP1 hD1
  exact kk p l e R s mi args below meth c D K ad A H0 H1 locs1 cells slots Cm Sm Q la hC ⟨hP1, hD1, hS1, hA, vRB_upS hB (fun x h => by omega), hn, hc1, hs1, hc2, hs2, hsx⟩ hl hR
theorem vJ.iald {a len : Nat} {cs : Nat → Nat} {i : Int32} (hd : decode Y.2.1 pc = .ok (.iaload, 1)) (hs : sh a = (0, len, cs)) (ha : a < n) (hi : vp_in i len)  (kk : vJ Y fr lo nE sx (pc + 1) ls (.int (m.1 a i.toNatClampNeg) :: st) n sh m P) : vJ Y fr lo nE sx pc ls (.int i :: .ref a :: st) n sh m P := by
  intro p l e R s mi args below meth c D K ad A H0 H locs cells slots Cm Sm Q la hC hD hl hR
  obtain ⟨hx, hb, hml, hown, hts, hrt, hlk, hinit, hfr, hlo, hK, hXt⟩ := id hC
  have he : (wld K ad sh m n)[a]? = some (ad a, .inl (K 0, len, .inl (m.1 a))) := by rw [wld_get ha, hs]; rfl
  exact va_iald hx hb hK hD.1 a 0 he rfl hi hd (kk p l e R s mi args below meth c D K ad A H0 H locs cells slots Cm Sm Q la hC hD hl hR)
theorem vJ.zald {a len : Nat} {cs : Nat → Nat} {i : Int32} (hd : decode Y.2.1 pc = .ok (.baload, 1)) (hs : sh a = (1, len, cs)) (ha : a < n) (hi : vp_in i len)  (kk : vJ Y fr lo nE sx (pc + 1) ls (.int (m.1 a i.toNatClampNeg) :: st) n sh m P) : vJ Y fr lo nE sx pc ls (.int i :: .ref a :: st) n sh m P := by
  intro p l e R s mi args below meth c D K ad A H0 H locs cells slots Cm Sm Q la hC hD hl hR
  obtain ⟨hx, hb, hml, hown, hts, hrt, hlk, hinit, hfr, hlo, hK, hXt⟩ := id hC
  have he : (wld K ad sh m n)[a]? = some (ad a, .inl (K 1, len, .inl (m.1 a))) := by rw [wld_get ha, hs]; rfl
  exact va_zald hx hb hK hD.1 a 1 he rfl hi hd (kk p l e R s mi args below meth c D K ad A H0 H locs cells slots Cm Sm Q la hC hD hl hR)
theorem vJ.lald {a len : Nat} {cs : Nat → Nat} {i : Int32} (hd : decode Y.2.1 pc = .ok (.laload, 1)) (hs : sh a = (2, len, cs)) (ha : a < n) (hi : vp_in i len)  (kk : vJ Y fr lo nE sx (pc + 1) ls (.long (m.2 a i.toNatClampNeg) :: st) n sh m P) : vJ Y fr lo nE sx pc ls (.int i :: .ref a :: st) n sh m P := by
  intro p l e R s mi args below meth c D K ad A H0 H locs cells slots Cm Sm Q la hC hD hl hR
  obtain ⟨hx, hb, hml, hown, hts, hrt, hlk, hinit, hfr, hlo, hK, hXt⟩ := id hC
  have he : (wld K ad sh m n)[a]? = some (ad a, .inl (K 2, len, .inr (.inl (m.2 a)))) := by rw [wld_get ha, hs]; rfl
  exact va_lald hx hb hK hD.1 a 2 he rfl hi hd (kk p l e R s mi args below meth c D K ad A H0 H locs cells slots Cm Sm Q la hC hD hl hR)
theorem vJ.aaldS {a len j : Nat} {cs : Nat → Nat} {i : Int32} (hd : decode Y.2.1 pc = .ok (.aaload, 1)) (hs : sh a = (3, len, cs)) (ha : a < n) (hi : vp_in i len) (hcs : cs i.toNatClampNeg = j + 2) (kk : vJ Y fr lo nE sx (pc + 1) ls (.ref j :: st) n sh m P) : vJ Y fr lo nE sx pc ls (.int i :: .ref a :: st) n sh m P := by
  intro p l e R s mi args below meth c D K ad A H0 H locs cells slots Cm Sm Q la hC hD hl hR
  obtain ⟨hx, hb, hml, hown, hts, hrt, hlk, hinit, hfr, hlo, hK, hXt⟩ := id hC
  have he : (wld K ad sh m n)[a]? = some (ad a, .inl (K 3, len, .inr (.inr (.inr (.inr (fun j => vrq ad (cs j))))))) := by rw [wld_get ha, hs]; rfl
  refine va_aldq hx hb hK hD.1 a 3 he rfl hi hd ?_
  show W p l e R s mi args below meth c H locs cells slots Q (F0 mi (pc + 1) la (va_rf (vrq ad (cs i.toNatClampNeg)) :: st.map (vtr ad)))
  rw [hcs]
  exact kk p l e R s mi args below meth c D K ad A H0 H locs cells slots Cm Sm Q la hC hD hl hR
theorem vJ.aald5 {a len j : Nat} {cs : Nat → Nat} {i : Int32} (hd : decode Y.2.1 pc = .ok (.aaload, 1)) (hs : sh a = (5, len, cs)) (ha : a < n) (hi : vp_in i len) (hcs : cs i.toNatClampNeg = j + 2) (kk : vJ Y fr lo nE sx (pc + 1) ls (.ref j :: st) n sh m P) : vJ Y fr lo nE sx pc ls (.int i :: .ref a :: st) n sh m P := by
  intro p l e R s mi args below meth c D K ad A H0 H locs cells slots Cm Sm Q la hC hD hl hR
  obtain ⟨hx, hb, hml, hown, hts, hrt, hlk, hinit, hfr, hlo, hK, hXt⟩ := id hC
  have he : (wld K ad sh m n)[a]? = some (ad a, .inl (K 4, len, .inr (.inr (.inr (.inr (fun j => vrq ad (cs j))))))) := by rw [wld_get ha, hs]; rfl
  have hlt : i.toNatClampNeg < len := Nat.not_le.mp fun q => hi (Or.inr q)
  refine W.aald (v := va_rf (vrq ad (cs i.toNatClampNeg))) (ty := .array .int) hx hb (hD.1 a _ he) ((hK.2 4 _ rfl).1 len (fun j => va_rf (vrq ad (cs j)))) rfl (fun q => by cases q) (by show ¬ (i < 0 ∨ (arrV _ _ _).slots.size ≤ _); rw [arrV_size]; exact hi) (by show (arrV _ _ _).slots[_]? = _; rw [arrV_read _ _ hlt]) rfl rfl hd ?_
  show W p l e R s mi args below meth c H locs cells slots Q (F0 mi (pc + 1) la (va_rf (vrq ad (cs i.toNatClampNeg)) :: st.map (vtr ad)))
  rw [hcs]
  exact kk p l e R s mi args below meth c D K ad A H0 H locs cells slots Cm Sm Q la hC hD hl hR
theorem vJ.aaldD0 {a len : Nat} {cs : Nat → Nat} {i : Int32} (hd : decode Y.2.1 pc = .ok (.aaload, 1)) (hs : sh a = (4, len, cs)) (ha : a < n) (hi : vp_in i len) (hv : m.1 a i.toNatClampNeg = 0) (kk : vJ Y fr lo nE sx (pc + 1) ls (.null :: st) n sh m P) : vJ Y fr lo nE sx pc ls (.int i :: .ref a :: st) n sh m P := by
  intro p l e R s mi args below meth c D K ad A H0 H locs cells slots Cm Sm Q la hC hD hl hR
  obtain ⟨hx, hb, hml, hown, hts, hrt, hlk, hinit, hfr, hlo, hK, hXt⟩ := id hC
  have he : (wld K ad sh m n)[a]? = some (ad a, .inl (K 3, len, .inr (.inr (.inr (.inr (fun j => vdq ad (m.1 a j))))))) := by rw [wld_get ha, hs]; rfl
  refine va_aldq hx hb hK hD.1 a 3 he rfl hi hd ?_
  show W p l e R s mi args below meth c H locs cells slots Q (F0 mi (pc + 1) la (va_rf (vdq ad (m.1 a i.toNatClampNeg)) :: st.map (vtr ad)))
  rw [show vdq ad (m.1 a i.toNatClampNeg) = none by unfold vdq; rw [if_pos hv]]
  exact kk p l e R s mi args below meth c D K ad A H0 H locs cells slots Cm Sm Q la hC hD hl hR
theorem vJ.aaldD1 {a len j : Nat} {cs : Nat → Nat} {i : Int32} (hd : decode Y.2.1 pc = .ok (.aaload, 1)) (hs : sh a = (4, len, cs)) (ha : a < n) (hi : vp_in i len) (hv : ¬ m.1 a i.toNatClampNeg = 0) (hj : (m.1 a i.toNatClampNeg).toNatClampNeg - 1 = j) (kk : vJ Y fr lo nE sx (pc + 1) ls (.ref j :: st) n sh m P) : vJ Y fr lo nE sx pc ls (.int i :: .ref a :: st) n sh m P := by
  intro p l e R s mi args below meth c D K ad A H0 H locs cells slots Cm Sm Q la hC hD hl hR
  obtain ⟨hx, hb, hml, hown, hts, hrt, hlk, hinit, hfr, hlo, hK, hXt⟩ := id hC
  have he : (wld K ad sh m n)[a]? = some (ad a, .inl (K 3, len, .inr (.inr (.inr (.inr (fun j => vdq ad (m.1 a j))))))) := by rw [wld_get ha, hs]; rfl
  refine va_aldq hx hb hK hD.1 a 3 he rfl hi hd ?_
  show W p l e R s mi args below meth c H locs cells slots Q (F0 mi (pc + 1) la (va_rf (vdq ad (m.1 a i.toNatClampNeg)) :: st.map (vtr ad)))
  rw [show vdq ad (m.1 a i.toNatClampNeg) = some (ad j) by unfold vdq; rw [if_neg hv, hj]]
  exact kk p l e R s mi args below meth c D K ad A H0 H locs cells slots Cm Sm Q la hC hD hl hR
theorem vJ.alen0 {a len : Nat} {cs : Nat → Nat} {v : Int32} (hd : decode Y.2.1 pc = .ok (.arraylength, 1)) (hs : sh a = (0, len, cs)) (ha : a < n) (hv : Int32.ofNat len = v) (kk : vJ Y fr lo nE sx (pc + 1) ls (.int v :: st) n sh m P) : vJ Y fr lo nE sx pc ls (.ref a :: st) n sh m P := by
  intro p l e R s mi args below meth c D K ad A H0 H locs cells slots Cm Sm Q la hC hD hl hR
  obtain ⟨hx, hb, hml, hown, hts, hrt, hlk, hinit, hfr, hlo, hK, hXt⟩ := id hC
  have he : (wld K ad sh m n)[a]? = some (ad a, .inl (K 0, len, .inl (m.1 a))) := by rw [wld_get ha, hs]; rfl
  exact va_alen hx hb hK hD.1 a 0 he rfl hv hd (kk p l e R s mi args below meth c D K ad A H0 H locs cells slots Cm Sm Q la hC hD hl hR)
theorem vJ.alen3 {a len : Nat} {cs : Nat → Nat} {v : Int32} (hd : decode Y.2.1 pc = .ok (.arraylength, 1)) (hs : sh a = (3, len, cs)) (ha : a < n) (hv : Int32.ofNat len = v) (kk : vJ Y fr lo nE sx (pc + 1) ls (.int v :: st) n sh m P) : vJ Y fr lo nE sx pc ls (.ref a :: st) n sh m P := by
  intro p l e R s mi args below meth c D K ad A H0 H locs cells slots Cm Sm Q la hC hD hl hR
  obtain ⟨hx, hb, hml, hown, hts, hrt, hlk, hinit, hfr, hlo, hK, hXt⟩ := id hC
  have he : (wld K ad sh m n)[a]? = some (ad a, .inl (K 3, len, .inr (.inr (.inr (.inr (fun j => vrq ad (cs j))))))) := by rw [wld_get ha, hs]; rfl
  exact va_alen hx hb hK hD.1 a 3 he rfl hv hd (kk p l e R s mi args below meth c D K ad A H0 H locs cells slots Cm Sm Q la hC hD hl hR)
theorem vJ.alen4 {a len : Nat} {cs : Nat → Nat} {v : Int32} (hd : decode Y.2.1 pc = .ok (.arraylength, 1)) (hs : sh a = (4, len, cs)) (ha : a < n) (hv : Int32.ofNat len = v) (kk : vJ Y fr lo nE sx (pc + 1) ls (.int v :: st) n sh m P) : vJ Y fr lo nE sx pc ls (.ref a :: st) n sh m P := by
  intro p l e R s mi args below meth c D K ad A H0 H locs cells slots Cm Sm Q la hC hD hl hR
  obtain ⟨hx, hb, hml, hown, hts, hrt, hlk, hinit, hfr, hlo, hK, hXt⟩ := id hC
  have he : (wld K ad sh m n)[a]? = some (ad a, .inl (K 3, len, .inr (.inr (.inr (.inr (fun j => vdq ad (m.1 a j))))))) := by rw [wld_get ha, hs]; rfl
  exact va_alen hx hb hK hD.1 a 3 he rfl hv hd (kk p l e R s mi args below meth c D K ad A H0 H locs cells slots Cm Sm Q la hC hD hl hR)
theorem vJ.iast {a len : Nat} {cs : Nat → Nat} {i x : Int32} (hd : decode Y.2.1 pc = .ok (.iastore, 1)) (hs : sh a = (0, len, cs)) (ha : a < n) (hi : vp_in i len) (kk : vJ Y fr lo nE sx (pc + 1) ls st n sh (upI m a i.toNatClampNeg x) P) : vJ Y fr lo nE sx pc ls (.int x :: .int i :: .ref a :: st) n sh m P := by
  intro p l e R s mi args below meth c D K ad A H0 H locs cells slots Cm Sm Q la hC hD hl hR
  obtain ⟨hx, hb, hml, hown, hts, hrt, hlk, hinit, hfr, hlo, hK, hXt⟩ := id hC
  obtain ⟨hP, hDd, hS, hA, hB, hn, hc1, hs1, hc2, hs2, hsx⟩ := id hD
  have he : (wld K ad sh m n)[a]? = some (ad a, .inl (K 0, len, .inl (m.1 a))) := by rw [wld_get ha, hs]; rfl
  refine va_iast hx hb hK hP hDd hS a 0 he rfl hi hd (fun H1 locs1 hP1 hD1 hS1 => ?_)
  have e9 : (wld K ad sh m n).set a (ad a, .inl (K 0, len, .inl (upd (m.1 a) i.toNatClampNeg x))) = wld K ad sh (upI m a i.toNatClampNeg x) n := by
    refine wld_set ha ?_ (fun j hj => ⟨rfl, upI_o m a _ j x hj, rfl⟩)
    rw [hs]
    show _ = Sum.inl (K 0, len, Sum.inl ((upI m a i.toNatClampNeg x).1 a))
    simp [upI]
  rw [e9] at hP1 hD1
  exact kk p l e R s mi args below meth c D K ad A H0 H1 locs1 cells slots Cm Sm Q la hC ⟨hP1, hD1, hS1, hA, vRB_upI hB (fun h4 => by rw [hs] at h4; exact absurd h4 (by show ¬ (0 : Nat) = 4; omega)), hn, hc1, hs1, hc2, hs2, hsx⟩ hl hR
theorem vJ.zast {a len : Nat} {cs : Nat → Nat} {i x : Int32} (hd : decode Y.2.1 pc = .ok (.bastore, 1)) (hs : sh a = (1, len, cs)) (ha : a < n) (hi : vp_in i len) (hx0 : vp_nar .boolean x = x) (kk : vJ Y fr lo nE sx (pc + 1) ls st n sh (upI m a i.toNatClampNeg x) P) : vJ Y fr lo nE sx pc ls (.int x :: .int i :: .ref a :: st) n sh m P := by
  intro p l e R s mi args below meth c D K ad A H0 H locs cells slots Cm Sm Q la hC hD hl hR
  obtain ⟨hx, hb, hml, hown, hts, hrt, hlk, hinit, hfr, hlo, hK, hXt⟩ := id hC
  obtain ⟨hP, hDd, hS, hA, hB, hn, hc1, hs1, hc2, hs2, hsx⟩ := id hD
  have he : (wld K ad sh m n)[a]? = some (ad a, .inl (K 1, len, .inl (m.1 a))) := by rw [wld_get ha, hs]; rfl
  refine va_zast hx hb hK hP hDd hS a 1 he rfl hi hd (fun H1 locs1 hP1 hD1 hS1 => ?_)
  rw [hx0] at hP1 hD1
  have e9 : (wld K ad sh m n).set a (ad a, .inl (K 1, len, .inl (upd (m.1 a) i.toNatClampNeg x))) = wld K ad sh (upI m a i.toNatClampNeg x) n := by
    refine wld_set ha ?_ (fun j hj => ⟨rfl, upI_o m a _ j x hj, rfl⟩)
    rw [hs]
    show _ = Sum.inl (K 1, len, Sum.inl ((upI m a i.toNatClampNeg x).1 a))
    simp [upI]
  rw [e9] at hP1 hD1
  exact kk p l e R s mi args below meth c D K ad A H0 H1 locs1 cells slots Cm Sm Q la hC ⟨hP1, hD1, hS1, hA, vRB_upI hB (fun h4 => by rw [hs] at h4; exact absurd h4 (by show ¬ (1 : Nat) = 4; omega)), hn, hc1, hs1, hc2, hs2, hsx⟩ hl hR
theorem vJ.last {a len : Nat} {cs : Nat → Nat} {i : Int32} {x : Int64} (hd : decode Y.2.1 pc = .ok (.lastore, 1)) (hs : sh a = (2, len, cs)) (ha : a < n) (hi : vp_in i len) (kk : vJ Y fr lo nE sx (pc + 1) ls st n sh (upL m a i.toNatClampNeg x) P) : vJ Y fr lo nE sx pc ls (.long x :: .int i :: .ref a :: st) n sh m P := by
  intro p l e R s mi args below meth c D K ad A H0 H locs cells slots Cm Sm Q la hC hD hl hR
  obtain ⟨hx, hb, hml, hown, hts, hrt, hlk, hinit, hfr, hlo, hK, hXt⟩ := id hC
  obtain ⟨hP, hDd, hS, hA, hB, hn, hc1, hs1, hc2, hs2, hsx⟩ := id hD
  have he : (wld K ad sh m n)[a]? = some (ad a, .inl (K 2, len, .inr (.inl (m.2 a)))) := by rw [wld_get ha, hs]; rfl
  refine va_last hx hb hK hP hDd hS a 2 he rfl hi hd (fun H1 locs1 hP1 hD1 hS1 => ?_)
  have e9 : (wld K ad sh m n).set a (ad a, .inl (K 2, len, .inr (.inl (vp_updL (m.2 a) i.toNatClampNeg x)))) = wld K ad sh (upL m a i.toNatClampNeg x) n := by
    refine wld_set ha ?_ (fun j hj => ⟨rfl, rfl, by simp [upL, hj]⟩)
    rw [hs]
    show _ = Sum.inl (K 2, len, Sum.inr (Sum.inl ((upL m a i.toNatClampNeg x).2 a)))
    simp [upL]
  rw [e9] at hP1 hD1
  exact kk p l e R s mi args below meth c D K ad A H0 H1 locs1 cells slots Cm Sm Q la hC ⟨hP1, hD1, hS1, hA, vRB_of1 hB (fun k _ => rfl), hn, hc1, hs1, hc2, hs2, hsx⟩ hl hR
theorem vdq_some {ad : Nat → Nat} {v : Nat} (h : v < 1000000) : vdq ad (nI (v + 1)) = some (ad v) := by
  unfold vdq
  rw [if_neg (nI_ne0 (by omega) (by omega)), nI_clamp (by omega)]
  rfl
theorem vJ.aastD {a len v cN : Nat} {cs cv : Nat → Nat} {i : Int32} (hd : decode Y.2.1 pc = .ok (.aastore, 1)) (hs : sh a = (4, len, cs)) (ha : a < n) (hv : v < n) (hn0 : v < 1000000) (hsv : sh v = (6, cN, cv)) (hi : vp_in i len) (kk : vJ Y fr lo nE sx (pc + 1) ls st n sh (upI m a i.toNatClampNeg (nI (v + 1))) P) : vJ Y fr lo nE sx pc ls (.ref v :: .int i :: .ref a :: st) n sh m P := by
  intro p l e R s mi args below meth c D K ad A H0 H locs cells slots Cm Sm Q la hC hD hl hR
  obtain ⟨hx, hb, hml, hown, hts, hrt, hlk, hinit, hfr, hlo, hK, hXt⟩ := id hC
  obtain ⟨hP, hDd, hS, hA, hB, hn, hc1, hs1, hc2, hs2, hsx⟩ := id hD
  have he : (wld K ad sh m n)[a]? = some (ad a, .inl (K 3, len, .inr (.inr (.inr (.inr (fun j => vdq ad (m.1 a j))))))) := by rw [wld_get ha, hs]; rfl
  have hev : (wld K ad sh m n)[v]? = some (ad v, .inr (0, (List.range cN).map (fun j => vsl ad (cv j) (m.1 v j)))) := by rw [wld_get hv, hsv]; rfl
  refine va_astq hx hb hK hP hDd hS a 3 v 0 (r := (RX0, TX0, 11)) he rfl hev rfl hi hd (fun H1 locs1 hP1 hD1 hS1 => ?_)
  have e9 : (wld K ad sh m n).set a (ad a, .inl (K 3, len, .inr (.inr (.inr (.inr (va_up (fun j => vdq ad (m.1 a j)) i.toNatClampNeg (some (ad v)))))))) = wld K ad sh (upI m a i.toNatClampNeg (nI (v + 1))) n := by
    refine wld_set ha ?_ (fun j hj => ⟨rfl, upI_o m a _ j _ hj, rfl⟩)
    rw [hs]
    show _ = Sum.inl (K 3, len, Sum.inr (Sum.inr (Sum.inr (Sum.inr (fun j => vdq ad ((upI m a i.toNatClampNeg (nI (v + 1))).1 a j))))))
    have e7 : va_up (fun j => vdq ad (m.1 a j)) i.toNatClampNeg (some (ad v)) = fun j => vdq ad ((upI m a i.toNatClampNeg (nI (v + 1))).1 a j) := by
      funext j
      rw [upI_r]
      by_cases hj : j = i.toNatClampNeg
      · simp [va_up, hj, vdq_some hn0]
      · simp [va_up, hj]
    rw [e7]
  rw [e9] at hP1 hD1
  exact kk p l e R s mi args below meth c D K ad A H0 H1 locs1 cells slots Cm Sm Q la hC ⟨hP1, hD1, hS1, hA, vRB_upI hB (fun _ => Or.inr (by rw [nI_clamp (by omega)]; omega)), hn, hc1, hs1, hc2, hs2, hsx⟩ hl hR
theorem vJ.aastS {a len v cN : Nat} {cs cv : Nat → Nat} {i : Int32} (hd : decode Y.2.1 pc = .ok (.aastore, 1)) (hs : sh a = (3, len, cs)) (ha : a < n) (hv : v < n) (hsv : sh v = (6, cN, cv)) (hi : vp_in i len) (kk : vJ Y fr lo nE sx (pc + 1) ls st n (upS sh a (setC (sh a) i.toNatClampNeg (v + 2))) m P) : vJ Y fr lo nE sx pc ls (.ref v :: .int i :: .ref a :: st) n sh m P := by
  intro p l e R s mi args below meth c D K ad A H0 H locs cells slots Cm Sm Q la hC hD hl hR
  obtain ⟨hx, hb, hml, hown, hts, hrt, hlk, hinit, hfr, hlo, hK, hXt⟩ := id hC
  obtain ⟨hP, hDd, hS, hA, hB, hn, hc1, hs1, hc2, hs2, hsx⟩ := id hD
  have he : (wld K ad sh m n)[a]? = some (ad a, .inl (K 3, len, .inr (.inr (.inr (.inr (fun j => vrq ad (cs j))))))) := by rw [wld_get ha, hs]; rfl
  have hev : (wld K ad sh m n)[v]? = some (ad v, .inr (0, (List.range cN).map (fun j => vsl ad (cv j) (m.1 v j)))) := by rw [wld_get hv, hsv]; rfl
  refine va_astq hx hb hK hP hDd hS a 3 v 0 (r := (RX0, TX0, 11)) he rfl hev rfl hi hd (fun H1 locs1 hP1 hD1 hS1 => ?_)
  have e9 : (wld K ad sh m n).set a (ad a, .inl (K 3, len, .inr (.inr (.inr (.inr (va_up (fun j => vrq ad (cs j)) i.toNatClampNeg (some (ad v)))))))) = wld K ad (upS sh a (setC (sh a) i.toNatClampNeg (v + 2))) m n := by
    refine wld_set ha ?_ (fun j hj => ⟨by simp [upS, hj], rfl, rfl⟩)
    have e8 : upS sh a (setC (sh a) i.toNatClampNeg (v + 2)) a = (3, len, fun j => if j = i.toNatClampNeg then v + 2 else cs j) := by
      simp [upS, setC, hs]
    rw [e8]
    show _ = Sum.inl (K 3, len, Sum.inr (Sum.inr (Sum.inr (Sum.inr (fun j => vrq ad (if j = i.toNatClampNeg then v + 2 else cs j))))))
    have e7 : va_up (fun j => vrq ad (cs j)) i.toNatClampNeg (some (ad v)) = fun j => vrq ad (if j = i.toNatClampNeg then v + 2 else cs j) := by
      funext j
      by_cases hj : j = i.toNatClampNeg
      · simp [va_up, hj, vrq]
      · simp [va_up, hj]
    rw [e7]
  rw [e9] at hP1 hD1
  exact kk p l e R s mi args below meth c D K ad A H0 H1 locs1 cells slots Cm Sm Q la hC ⟨hP1, hD1, hS1, hA, vRB_upS hB (fun x h => by omega), hn, hc1, hs1, hc2, hs2, hsx⟩ hl hR
theorem vJ.acopy {index a a0 len len0 : Nat} {cs cs0 : Nat → Nat} {sp dp q : Int32} (hd : decode Y.2.1 pc = .ok (.invokestatic index, 3)) (hs : sh a = (0, len, cs)) (hs0 : sh a0 = (0, len0, cs0)) (ha : a < n) (ha0 : a0 < n) (h1 : ¬ sp < 0) (h2 : ¬ dp < 0) (h3 : ¬ q < 0) (h4 : sp.toNatClampNeg + q.toNatClampNeg ≤ len0) (h5 : dp.toNatClampNeg + q.toNatClampNeg ≤ len) (hw : Cond.methodLink Y.1.cls index arraycopyName ∈ vtb) (hw2 : Cond.native arraycopyName ∈ vtb) (hw3 : Cond.static arraycopyName ∈ vtb) (hw4 : Cond.initialized "java/lang/System" ∈ vtb) (hf : 1 ≤ fr) (ho : vcat st + (nativeFrameWords "java/lang/System" "arraycopy" 5 + 11) ≤ lo) (kk : vJ Y fr lo nE sx (pc + 3) ls st n sh (upA m a (va_cpy (m.1 a0) (m.1 a) sp.toNatClampNeg dp.toNatClampNeg q.toNatClampNeg)) P) : vJ Y fr lo nE sx pc ls (.int q :: .int dp :: .ref a :: .int sp :: .ref a0 :: st) n sh m P := by
  intro p l e R s mi args below meth c D K ad A H0 H locs cells slots Cm Sm Q la hC hD hl hR
  obtain ⟨hx, hb, hml, hown, hts, hrt, hlk, hinit, hfr, hlo, hK, hXt⟩ := id hC
  obtain ⟨hP, hDd, hS, hA, hB, hn, hc1, hs1, hc2, hs2, hsx⟩ := id hD
  have he : (wld K ad sh m n)[a]? = some (ad a, .inl (K 0, len, .inl (m.1 a))) := by rw [wld_get ha, hs]; rfl
  have he0 : (wld K ad sh m n)[a0]? = some (ad a0, .inl (K 0, len0, .inl (m.1 a0))) := by rw [wld_get ha0, hs0]; rfl
  refine va_copyi hx hb (hml.trans hl.1.symm) hown (hts _ hw) (hts _ hw2) (hts _ hw3) (hts _ hw4) hK hP hDd hS a0 a 0 0 he0 he rfl rfl rfl h1 h2 h3 h4 h5 (fun i _ => rfl) (by omega) (by rw [vcat_tr]; omega) hd (fun H1 locs1 hP1 hD1 hS1 => ?_)
  have e9 : (wld K ad sh m n).set a (ad a, .inl (K 0, len, .inl (va_cpy (m.1 a0) (m.1 a) sp.toNatClampNeg dp.toNatClampNeg q.toNatClampNeg))) = wld K ad sh (upA m a (va_cpy (m.1 a0) (m.1 a) sp.toNatClampNeg dp.toNatClampNeg q.toNatClampNeg)) n := by
    refine wld_set ha ?_ (fun j hj => ⟨rfl, by simp [upA, hj], rfl⟩)
    rw [hs]
    show _ = Sum.inl (K 0, len, Sum.inl ((upA m a _).1 a))
    simp [upA]
  rw [e9] at hP1 hD1
  exact kk p l e R s mi args below meth c D K ad A H0 H1 locs1 cells slots Cm Sm Q la hC ⟨hP1, hD1, hS1, hA, vRB_of1 hB (fun k h4 => by
    have : k ≠ a := fun q => by rw [q, hs] at h4; exact absurd h4 (by show ¬ (0 : Nat) = 4; omega)
    simp [upA, this]), hn, hc1, hs1, hc2, hs2, hsx⟩ hl hR
theorem vJ.mmax {index : Nat} {x y : Int32} (hd : decode Y.2.1 pc = .ok (.invokestatic index, 3)) (hw : Cond.methodLink Y.1.cls index Lib.Math.max.name ∈ vtb) (hw2 : Cond.static Lib.Math.max.name ∈ vtb) (hw3 : Cond.initialized "java/lang/Math" ∈ vtb) (hw4 : Cond.code Lib.Math.max.name Lib.Math.max.code 2 (some .int) ∈ vtb) (hf : 1 ≤ fr) (ho : vcat st + 13 ≤ lo) (kk : vJ Y fr lo nE sx (pc + 3) ls (.int (if x < y then y else x) :: st) n sh m P) : vJ Y fr lo nE sx pc ls (.int y :: .int x :: st) n sh m P := by
  intro p l e R s mi args below meth c D K ad A H0 H locs cells slots Cm Sm Q la hC hD hl hR
  obtain ⟨hx, hb, hml, hown, hts, hrt, hlk, hinit, hfr, hlo, hK, hXt⟩ := id hC
  obtain ⟨hP, hDd, hS, hA, hB, hn, hc1, hs1, hc2, hs2, hsx⟩ := id hD
  exact va_mmax hx hb (hml.trans hl.1.symm) hown (hts _ hw) (hts _ hw2) (hts _ hw3) (hts _ hw4) (by omega) (by rw [vcat_tr]; omega) (by omega) (by omega) hd (kk p l e R s mi args below meth c D K ad A H0 H locs cells slots Cm Sm Q la hC hD hl hR)
theorem vJ.mmin {index : Nat} {x y : Int32} (hd : decode Y.2.1 pc = .ok (.invokestatic index, 3)) (hw : Cond.methodLink Y.1.cls index Lib.Math.min.name ∈ vtb) (hw2 : Cond.static Lib.Math.min.name ∈ vtb) (hw3 : Cond.initialized "java/lang/Math" ∈ vtb) (hw4 : Cond.code Lib.Math.min.name Lib.Math.min.code 2 (some .int) ∈ vtb) (hf : 1 ≤ fr) (ho : vcat st + 13 ≤ lo) (kk : vJ Y fr lo nE sx (pc + 3) ls (.int (if y < x then y else x) :: st) n sh m P) : vJ Y fr lo nE sx pc ls (.int y :: .int x :: st) n sh m P := by
  intro p l e R s mi args below meth c D K ad A H0 H locs cells slots Cm Sm Q la hC hD hl hR
  obtain ⟨hx, hb, hml, hown, hts, hrt, hlk, hinit, hfr, hlo, hK, hXt⟩ := id hC
  obtain ⟨hP, hDd, hS, hA, hB, hn, hc1, hs1, hc2, hs2, hsx⟩ := id hD
  exact va_mmin hx hb (hml.trans hl.1.symm) hown (hts _ hw) (hts _ hw2) (hts _ hw3) (hts _ hw4) (by omega) (by rw [vcat_tr]; omega) (by omega) (by omega) hd (kk p l e R s mi args below meth c D K ad A H0 H locs cells slots Cm Sm Q la hC hD hl hR)
theorem vJ.objInit {index a : Nat} (hd : decode Y.2.1 pc = .ok (.invokespecial index, 3)) (hw : Cond.methodLink Y.1.cls index objectInit ∈ vtb) (hw2 : Cond.instanceMethod objectInit ∈ vtb) (hw3 : Cond.code objectInit ⟨#[0xb1]⟩ 1 none ∈ vtb) (hf : 1 ≤ fr) (ho : vcat st + 12 ≤ lo) (kk : vJ Y fr lo nE sx (pc + 3) ls st n sh m P) : vJ Y fr lo nE sx pc ls (.ref a :: st) n sh m P := by
  intro p l e R s mi args below meth c D K ad A H0 H locs cells slots Cm Sm Q la hC hD hl hR
  obtain ⟨hx, hb, hml, hown, hts, hrt, hlk, hinit, hfr, hlo, hK, hXt⟩ := id hC
  refine W.objInit hx hb hown (hts _ hw) (hts _ hw2) (hts _ hw3) rfl (by show la.size = _; rw [hml]; exact hl.1) rfl hd (by omega) ?_ (kk p l e R s mi args below meth c D K ad A H0 H locs cells slots Cm Sm Q la hC hD hl hR)
  have h9 := lv_room (m := mi) (pc := pc) (ls := la) (rest := st.map (vtr ad)) (st := []) (by simp)
  have h8 := vcat_tr ad st
  show 2 * (F0 mi pc la ((Value.ref (ad a)) :: st.map (vtr ad))).monitorRoom + _ + 12 ≤ _
  have h7 : (F0 mi pc la ((Value.ref (ad a)) :: st.map (vtr ad))).monitorRoom = 0 := rfl
  rw [h7, h8]
  omega
theorem vJ.ireturn {x : Int32} {ty : FieldType} (hd : decode Y.2.1 pc = .ok (.ireturn, 1)) (hr : Y.2.2.2 = some ty) (hnr : narrow ty (.int x) = .int x) (hE : nE = n) (hp : P (some (.int x)) sh m) : vJ Y fr lo nE sx pc ls [.int x] n sh m P := by
  intro p l e R s mi args below meth c D K ad A H0 H locs cells slots Cm Sm Q la hC hD hl hR
  subst hE
  exact hR (some (.int x)) sh m ad H locs cells slots la pc (Or.inr (Or.inl ⟨x, rfl, hd, ty, hr, hnr⟩)) hp (fun _ _ => rfl) (fun _ => rfl) hD
theorem vJ.lreturn {x : Int64} (hd : decode Y.2.1 pc = .ok (.lreturn, 1)) (hr : Y.2.2.2 = some .long) (hE : nE = n) (hp : P (some (.long x)) sh m) : vJ Y fr lo nE sx pc ls [.long x] n sh m P := by
  intro p l e R s mi args below meth c D K ad A H0 H locs cells slots Cm Sm Q la hC hD hl hR
  subst hE
  exact hR (some (.long x)) sh m ad H locs cells slots la pc (Or.inr (Or.inr (Or.inl ⟨x, rfl, hd, hr⟩))) hp (fun _ _ => rfl) (fun _ => rfl) hD
theorem vJ.areturn {v : Value} {C : String} (hd : decode Y.2.1 pc = .ok (.areturn, 1)) (hr : Y.2.2.2 = some (.object C)) (hv : v = .null ∨ ∃ a, v = .ref a) (hE : nE = n) (hp : P (some v) sh m) : vJ Y fr lo nE sx pc ls [v] n sh m P := by
  intro p l e R s mi args below meth c D K ad A H0 H locs cells slots Cm Sm Q la hC hD hl hR
  subst hE
  exact hR (some v) sh m ad H locs cells slots la pc (Or.inr (Or.inr (Or.inr ⟨v, C, rfl, hd, hr, hv⟩))) hp (fun _ _ => rfl) (fun _ => rfl) hD
theorem vJ.vreturn (hd : decode Y.2.1 pc = .ok (.return_, 1)) (hr : Y.2.2.2 = none) (hE : nE = n) (hp : P none sh m) : vJ Y fr lo nE sx pc ls [] n sh m P := by
  intro p l e R s mi args below meth c D K ad A H0 H locs cells slots Cm Sm Q la hC hD hl hR
  subst hE
  exact hR none sh m ad H locs cells slots la pc (Or.inl ⟨rfl, hd, hr⟩) hp (fun _ _ => rfl) (fun _ => rfl) hD
theorem vJ.sld {L : Nat} {xs : Nat → Int32} {i : Int32} (hsx0 : sx = some (L, xs)) (hd : decode Y.2.1 pc = .ok (.iaload, 1)) (hi : vp_in i L) (kk : vJ Y fr lo nE sx (pc + 1) ls (.int (xs i.toNatClampNeg) :: st) n sh m P) : vJ Y fr lo nE sx pc ls (.int i :: .ref vsN :: st) n sh m P := by
  intro p l e R s mi args below meth c D K ad A H0 H locs cells slots Cm Sm Q la hC hD hl hR
  obtain ⟨hx, hb, hml, hown, hts, hrt, hlk, hinit, hfr, hlo, hK, hXt⟩ := id hC
  obtain ⟨hP, hDd, hS, hA, hB, hn, hc1, hs1, hc2, hs2, hsx⟩ := id hD
  obtain ⟨h1, h2, h3⟩ := hsx L xs hsx0
  exact va_sld hx hb h1 h2 h3 hS hi hd (kk p l e R s mi args below meth c D K ad A H0 H locs cells slots Cm Sm Q la hC hD hl hR)
theorem vJ.slen {L : Nat} {xs : Nat → Int32} (hsx0 : sx = some (L, xs)) (hd : decode Y.2.1 pc = .ok (.arraylength, 1)) (kk : vJ Y fr lo nE sx (pc + 1) ls (.int (Int32.ofNat L) :: st) n sh m P) : vJ Y fr lo nE sx pc ls (.ref vsN :: st) n sh m P := by
  intro p l e R s mi args below meth c D K ad A H0 H locs cells slots Cm Sm Q la hC hD hl hR
  obtain ⟨hx, hb, hml, hown, hts, hrt, hlk, hinit, hfr, hlo, hK, hXt⟩ := id hC
  obtain ⟨hP, hDd, hS, hA, hB, hn, hc1, hs1, hc2, hs2, hsx⟩ := id hD
  obtain ⟨h1, h2, h3⟩ := hsx L xs hsx0
  exact va_slen hx hb h1 h2 h3 hS hd (kk p l e R s mi args below meth c D K ad A H0 H locs cells slots Cm Sm Q la hC hD hl hR)
end VM1
end
section
def vrf (n : Nat) (v : Value) : Prop := ∀ k, v = .ref k → k < n ∨ k = vsN
def vOK (n : Nat) (ls : List (Nat × Value)) (st : List Value) : Prop := (∀ q ∈ ls, vrf n q.2) ∧ ∀ v ∈ st, vrf n v
theorem vrf_ref {n k : Nat} (h : k < n) : vrf n (.ref k) := fun j hj => by cases hj; exact Or.inl h
theorem vrf_int {n : Nat} {x : Int32} : vrf n (.int x) := fun _ h => by cases h
theorem vrf_long {n : Nat} {x : Int64} : vrf n (.long x) := fun _ h => by cases h
theorem vrf_null {n : Nat} : vrf n .null := fun _ h => by cases h
theorem vrf_sN {n : Nat} : vrf n (.ref vsN) := fun j hj => by cases hj; exact Or.inr rfl
theorem fa_nil {α : Type} {p : α → Prop} : ∀ q ∈ ([] : List α), p q := fun _ h => by cases h
theorem fa_cons {α : Type} {p : α → Prop} {a : α} {l : List α} (h : p a) (t : ∀ q ∈ l, p q) : ∀ q ∈ a :: l, p q := fun q hq => by
  rcases List.mem_cons.mp hq with rfl | h1
  · exact h
  · exact t q h1
theorem vtr_ag {n : Nat} {ad ad' : Nat → Nat} {v : Value} (h : vAg n ad ad') (hv : vrf n v) : vtr ad' v = vtr ad v := by
  cases v with
  | ref k => simp only [vtr]; rw [h k (hv k rfl)]
  | _ => rfl
theorem vls_ag {n : Nat} {ad ad' : Nat → Nat} {ls : List (Nat × Value)} (h : vAg n ad ad') (hv : ∀ q ∈ ls, vrf n q.2) : vls ad' ls = vls ad ls := by
  unfold vls
  exact List.map_congr_left (fun q hq => by rw [vtr_ag h (hv q hq)])
theorem vst_ag {n : Nat} {ad ad' : Nat → Nat} {st : List Value} (h : vAg n ad ad') (hv : ∀ v ∈ st, vrf n v) : st.map (vtr ad') = st.map (vtr ad) := List.map_congr_left (fun q hq => vtr_ag h (hv q hq))
theorem vAg_up {n q : Nat} {ad : Nat → Nat} (hn : n < 1000000) : vAg n ad (va_up ad n q) := by
  intro k hk
  have : k ≠ n := by rcases hk with h | h <;> (try subst h) <;> (try unfold vsN) <;> omega
  simp [va_up, this]
theorem vAg_tr {n n' : Nat} {ad ad1 ad2 : Nat → Nat} (h1 : vAg n ad ad1) (h2 : vAg n' ad1 ad2) (h : n ≤ n') : vAg n ad ad2 := fun k hk => (h2 k (by rcases hk with h | h <;> omega)).trans (h1 k hk)
theorem vRB_new {n : Nat} {sh sh' : vSh} {m m' : vM} (hB : vRB n sh m) (ho : ∀ j, j < n → sh' j = sh j ∧ m'.1 j = m.1 j) (h1 : ∀ j x, (sh' n).2.2 j = x + 2 → x < n + 1) (h2 : (sh' n).1 = 4 → ∀ j, m'.1 n j = 0) : vRB (n + 1) sh' m' := by
  intro k hk
  by_cases hkn : k = n
  · subst hkn
    exact ⟨h1, fun h4 j => Or.inl (h2 h4 j)⟩
  · obtain ⟨e1, e2⟩ := ho k (by omega)
    rw [e1, e2]
    refine ⟨fun j x h => Nat.lt_succ_of_lt ((hB k (by omega)).1 j x h), fun h4 j => ?_⟩
    rcases (hB k (by omega)).2 h4 j with h | h
    · exact Or.inl h
    · exact Or.inr (Nat.lt_succ_of_lt h)
theorem vK_int {D : va_G} {K : Nat → ClassId} {s : State} {cA : ClassId} (h : va_K D vwCl (vtys K) s) (h' : va_K D vwCl (vtys K ++ [(cA, .int)]) s) : cA = K 0 := Option.some.inj ((h'.2 5 (cA, .int) rfl).2.symm.trans (h.2 0 _ rfl).2)
theorem vK_bool {D : va_G} {K : Nat → ClassId} {s : State} {cA : ClassId} (h : va_K D vwCl (vtys K) s) (h' : va_K D vwCl (vtys K ++ [(cA, .boolean)]) s) : cA = K 1 := Option.some.inj ((h'.2 5 (cA, .boolean) rfl).2.symm.trans (h.2 1 _ rfl).2)
theorem vK_long {D : va_G} {K : Nat → ClassId} {s : State} {cA : ClassId} (h : va_K D vwCl (vtys K) s) (h' : va_K D vwCl (vtys K ++ [(cA, .long)]) s) : cA = K 2 := Option.some.inj ((h'.2 5 (cA, .long) rfl).2.symm.trans (h.2 2 _ rfl).2)
theorem vK_cell {D : va_G} {K : Nat → ClassId} {s : State} {cA : ClassId} (h : va_K D vwCl (vtys K) s) (h' : va_K D vwCl (vtys K ++ [(cA, .object "TableSetter$Cell")]) s) : cA = K 3 := by
  obtain ⟨_, _, -, -, -, h1⟩ := (h.2 3 _ rfl).2
  obtain ⟨_, _, -, -, -, h2⟩ := (h'.2 5 (cA, .object "TableSetter$Cell") rfl).2
  exact Option.some.inj (h2.symm.trans h1)
theorem vK_arr {D : va_G} {K : Nat → ClassId} {s : State} {cA : ClassId} (h : va_K D vwCl (vtys K) s) (h' : va_K D vwCl (vtys K ++ [(cA, .array .int)]) s) : cA = K 4 := Option.some.inj ((h'.2 5 (cA, .array .int) rfl).2.symm.trans (h.2 4 _ rfl).2)
section VC1
variable {Y : vMeth} {fr lo nE : Nat} {sx : Option (Nat × (Nat → Int32))} {pc : Nat} {ls : List (Nat × Value)} {st : List Value} {n : Nat} {sh : vSh} {m : vM} {P : Option Value → vSh → vM → Prop}
theorem vJ.new {index ci N : Nat} {C : String} {T : u_T} (hd : decode Y.2.1 pc = .ok (.new index, 3)) (hc : vwCl[ci]? = some (C, T, N)) (hin : ∀ w ∈ u_ws C T N, w ∈ vtb) (ty0 : Nat → FieldType) (hty : ∀ k, k < N → parseFieldDescriptor (T k).2.2.1 = some (ty0 k)) (cs : Nat → Nat) (hcs : ∀ j, j < N → (cs j = 0 ∧ defaultValue (ty0 j) = .int 0) ∨ (cs j = 1 ∧ defaultValue (ty0 j) = .null)) (hcs2 : ∀ j, cs j ≤ 1) (hw1 : Cond.classLink Y.1.cls index C ∈ vtb) (hw2 : Cond.instantiable C N ∈ vtb) (hw3 : Cond.initialized C ∈ vtb) (hn1 : n + 1 ≤ nE) (hnn : n < 1000000) (hsz : (SH n).2.1 = N) (hok : vOK n ls st) (kk : vJ Y fr lo nE sx (pc + 3) ls (.ref n :: st) (n + 1) (upS sh n (ci + 6, N, cs)) (upZ m n) P) : vJ Y fr lo nE sx pc ls st n sh m P := by
  intro p l e R s mi args below meth c D K ad A H0 H locs cells slots Cm Sm Q la hC hD hl hR
  obtain ⟨hx, hb, hml, hown, hts, hrt, hlk, hinit, hfr, hlo, hK, hXt⟩ := id hC
  obtain ⟨hP, hDd, hS, hA, hB, hn, hc1, hs1, hc2, hs2, hsx⟩ := id hD
  have hzq := vSZ_lt (a := n) (b := nE) hn1
  rw [hsz] at hzq
  refine va_new hx hb hts hin ty0 hty hown (hts _ hw1) (hts _ hw2) (hts _ hw3) hK hP hDd hS hA hc (fs := (List.range N).map (fun j => vsl ad (cs j) 0)) (fun j hj => ?_) (by omega) (by omega) hd (fun q H1 hP1 hD1 hS1 => ?_)
  · simp only [vp_V, List.getD_eq_getElem?_getD, List.getElem?_map, List.getElem?_range hj]
    rcases hcs j hj with ⟨h1, h2⟩ | ⟨h1, h2⟩
    · simp [h1, h2, vsl]
    · simp [h1, h2, vsl]
  have hag : vAg n ad (va_up ad n q) := vAg_up hnn
  have e9 : wld K ad sh m n ++ [(q, .inr (ci, (List.range N).map (fun j => vsl ad (cs j) 0)))] = wld K (va_up ad n q) (upS sh n (ci + 6, N, cs)) (upZ m n) (n + 1) := by
    refine wld_push (fun k hk => hag k (Or.inl hk)) (by simp [va_up]) ?_ (fun j hj => ⟨by simp [upS, Nat.ne_of_lt hj], by simp [upZ, Nat.ne_of_lt hj], by simp [upZ, Nat.ne_of_lt hj]⟩) hB
    simp only [upS, if_true, upZ]
    show _ = Sum.inr (ci, _)
    congr 2
    apply List.map_congr_left
    intro j _
    have := hcs2 j
    show vsl ad (cs j) 0 = vsl (va_up ad n q) (cs j) 0
    generalize cs j = t at this ⊢
    match t, this with
    | 0, _ => rfl
    | 1, _ => rfl
    | x + 2, h => exact absurd h (by omega)
  rw [e9] at hP1 hD1
  have hz := vSZ_lt (a := n) (b := nE) hn1
  rw [hsz] at hz
  have hz1 : vSZ (n + 1) = vSZ n + N := by show vSZ n + _ = _; rw [hsz]
  have hz2 := vSZ_mono hn1
  have hl1 : lv_has la Y.2.2.1 (vls (va_up ad n q) ls) := by rw [vls_ag hag hok.1]; exact hl
  have k1 := kk p l e R s mi args below meth c D K (va_up ad n q) A H0 H1 locs (cells + 1) (slots + N) Cm Sm Q la hC ⟨hP1, hD1, hS1, hA, vRB_new hB (fun j hj => ⟨by simp [upS, Nat.ne_of_lt hj], by simp [upZ, Nat.ne_of_lt hj]⟩) (fun j x h => by simp [upS] at h; have := hcs2 j; omega) (fun h4 => by simp [upS] at h4), hn1, by omega, by omega, hc2, hs2, fun L xs h => by rw [hag vsN (Or.inr rfl)]; exact hsx L xs h⟩ hl1 (fun r sh' m' ad2 H' locs' cells' slots' la' pc' h1 h2 h3 h4 h5 => hR r sh' m' ad2 H' locs' cells' slots' la' pc' h1 h2 (vAg_tr hag h3 (Nat.le_succ n)) (fun e => absurd e (by omega)) h5)
  simp only [List.map_cons, vst_ag hag hok.2] at k1
  have e8 : vtr (va_up ad n q) (.ref n) = .ref q := by simp [vtr, va_up]
  rw [e8] at k1
  exact k1
theorem vJ.newaI {N : Nat} {q0 : Int32} (hd : decode Y.2.1 pc = .ok (.newarray .int, 2)) (hq : ¬ q0 < 0) (hN : q0.toNatClampNeg = N) (hN2 : N ≤ 1000) (hw : Cond.arrayClass .int ∈ vtb) (hn1 : n + 1 ≤ nE) (hnn : n < 1000000) (hsz : (SH n).2.1 = N) (hok : vOK n ls st) (kk : vJ Y fr lo nE sx (pc + 2) ls (.ref n :: st) (n + 1) (upS sh n (0, N, vz)) (upZ m n) P) : vJ Y fr lo nE sx pc ls (.int q0 :: st) n sh m P := by
  intro p l e R s mi args below meth c D K ad A H0 H locs cells slots Cm Sm Q la hC hD hl hR
  obtain ⟨hx, hb, hml, hown, hts, hrt, hlk, hinit, hfr, hlo, hK, hXt⟩ := id hC
  obtain ⟨hP, hDd, hS, hA, hB, hn, hc1, hs1, hc2, hs2, hsx⟩ := id hD
  have hzq := vSZ_lt (a := n) (b := nE) hn1
  rw [hsz] at hzq
  refine va_newa (atype := .int) (ty := .int) hx hb (hts _ hw) rfl hK hP hDd hS hA (a0 := (N, .inl (fun _ => 0))) (fun _ => rfl) hq hN (by simp only [componentBytes]; omega) (by omega) (by omega) hd (fun q cA H1 hK1 hP1 hD1 hS1 => ?_)
  have hcA := vK_int hK hK1
  subst hcA
  have hag : vAg n ad (va_up ad n q) := vAg_up hnn
  have e9 : wld K ad sh m n ++ [(q, .inl (K 0, N, .inl (fun _ => 0)))] = wld K (va_up ad n q) (upS sh n (0, N, vz)) (upZ m n) (n + 1) := by
    refine wld_push (fun k hk => hag k (Or.inl hk)) (by simp [va_up]) ?_ (fun j hj => ⟨by simp [upS, Nat.ne_of_lt hj], by simp [upZ, Nat.ne_of_lt hj], by simp [upZ, Nat.ne_of_lt hj]⟩) hB
    simp only [upS, if_true, upZ]
    rfl
  rw [e9] at hP1 hD1
  have hz := vSZ_lt (a := n) (b := nE) hn1
  rw [hsz] at hz
  have hz1 : vSZ (n + 1) = vSZ n + N := by show vSZ n + _ = _; rw [hsz]
  have hz2 := vSZ_mono hn1
  have hl1 : lv_has la Y.2.2.1 (vls (va_up ad n q) ls) := by rw [vls_ag hag hok.1]; exact hl
  have k1 := kk p l e R s mi args below meth c D K (va_up ad n q) A H0 H1 locs (cells + 1) (slots + N) Cm Sm Q la hC ⟨hP1, hD1, hS1, hA, vRB_new hB (fun j hj => ⟨by simp [upS, Nat.ne_of_lt hj], by simp [upZ, Nat.ne_of_lt hj]⟩) (fun j x h => by simp [upS, vz] at h) (fun h4 => by simp [upS] at h4), hn1, by omega, by omega, hc2, hs2, fun L xs h => by rw [hag vsN (Or.inr rfl)]; exact hsx L xs h⟩ hl1 (fun r sh' m' ad2 H' locs' cells' slots' la' pc' h1 h2 h3 h4 h5 => hR r sh' m' ad2 H' locs' cells' slots' la' pc' h1 h2 (vAg_tr hag h3 (Nat.le_succ n)) (fun e => absurd e (by omega)) h5)
  simp only [List.map_cons, vst_ag hag hok.2] at k1
  have e8 : vtr (va_up ad n q) (.ref n) = .ref q := by simp [vtr, va_up]
  rw [e8] at k1
  exact k1
theorem vJ.newaZ {N : Nat} {q0 : Int32} (hd : decode Y.2.1 pc = .ok (.newarray .boolean, 2)) (hq : ¬ q0 < 0) (hN : q0.toNatClampNeg = N) (hN2 : N ≤ 1000) (hw : Cond.arrayClass .boolean ∈ vtb) (hn1 : n + 1 ≤ nE) (hnn : n < 1000000) (hsz : (SH n).2.1 = N) (hok : vOK n ls st) (kk : vJ Y fr lo nE sx (pc + 2) ls (.ref n :: st) (n + 1) (upS sh n (1, N, vz)) (upZ m n) P) : vJ Y fr lo nE sx pc ls (.int q0 :: st) n sh m P := by
  intro p l e R s mi args below meth c D K ad A H0 H locs cells slots Cm Sm Q la hC hD hl hR
  obtain ⟨hx, hb, hml, hown, hts, hrt, hlk, hinit, hfr, hlo, hK, hXt⟩ := id hC
  obtain ⟨hP, hDd, hS, hA, hB, hn, hc1, hs1, hc2, hs2, hsx⟩ := id hD
  have hzq := vSZ_lt (a := n) (b := nE) hn1
  rw [hsz] at hzq
  refine va_newa (atype := .boolean) (ty := .boolean) hx hb (hts _ hw) rfl hK hP hDd hS hA (a0 := (N, .inl (fun _ => 0))) (fun _ => rfl) hq hN (by simp only [componentBytes]; omega) (by omega) (by omega) hd (fun q cA H1 hK1 hP1 hD1 hS1 => ?_)
  have hcA := vK_bool hK hK1
  subst hcA
  have hag : vAg n ad (va_up ad n q) := vAg_up hnn
  have e9 : wld K ad sh m n ++ [(q, .inl (K 1, N, .inl (fun _ => 0)))] = wld K (va_up ad n q) (upS sh n (1, N, vz)) (upZ m n) (n + 1) := by
    refine wld_push (fun k hk => hag k (Or.inl hk)) (by simp [va_up]) ?_ (fun j hj => ⟨by simp [upS, Nat.ne_of_lt hj], by simp [upZ, Nat.ne_of_lt hj], by simp [upZ, Nat.ne_of_lt hj]⟩) hB
    simp only [upS, if_true, upZ]
    rfl
  rw [e9] at hP1 hD1
  have hz := vSZ_lt (a := n) (b := nE) hn1
  rw [hsz] at hz
  have hz1 : vSZ (n + 1) = vSZ n + N := by show vSZ n + _ = _; rw [hsz]
  have hz2 := vSZ_mono hn1
  have hl1 : lv_has la Y.2.2.1 (vls (va_up ad n q) ls) := by rw [vls_ag hag hok.1]; exact hl
  have k1 := kk p l e R s mi args below meth c D K (va_up ad n q) A H0 H1 locs (cells + 1) (slots + N) Cm Sm Q la hC ⟨hP1, hD1, hS1, hA, vRB_new hB (fun j hj => ⟨by simp [upS, Nat.ne_of_lt hj], by simp [upZ, Nat.ne_of_lt hj]⟩) (fun j x h => by simp [upS, vz] at h) (fun h4 => by simp [upS] at h4), hn1, by omega, by omega, hc2, hs2, fun L xs h => by rw [hag vsN (Or.inr rfl)]; exact hsx L xs h⟩ hl1 (fun r sh' m' ad2 H' locs' cells' slots' la' pc' h1 h2 h3 h4 h5 => hR r sh' m' ad2 H' locs' cells' slots' la' pc' h1 h2 (vAg_tr hag h3 (Nat.le_succ n)) (fun e => absurd e (by omega)) h5)
  simp only [List.map_cons, vst_ag hag hok.2] at k1
  have e8 : vtr (va_up ad n q) (.ref n) = .ref q := by simp [vtr, va_up]
  rw [e8] at k1
  exact k1
theorem vJ.newaJ {N : Nat} {q0 : Int32} (hd : decode Y.2.1 pc = .ok (.newarray .long, 2)) (hq : ¬ q0 < 0) (hN : q0.toNatClampNeg = N) (hN2 : N ≤ 1000) (hw : Cond.arrayClass .long ∈ vtb) (hn1 : n + 1 ≤ nE) (hnn : n < 1000000) (hsz : (SH n).2.1 = N) (hok : vOK n ls st) (kk : vJ Y fr lo nE sx (pc + 2) ls (.ref n :: st) (n + 1) (upS sh n (2, N, vz)) (upZ m n) P) : vJ Y fr lo nE sx pc ls (.int q0 :: st) n sh m P := by
  intro p l e R s mi args below meth c D K ad A H0 H locs cells slots Cm Sm Q la hC hD hl hR
  obtain ⟨hx, hb, hml, hown, hts, hrt, hlk, hinit, hfr, hlo, hK, hXt⟩ := id hC
  obtain ⟨hP, hDd, hS, hA, hB, hn, hc1, hs1, hc2, hs2, hsx⟩ := id hD
  have hzq := vSZ_lt (a := n) (b := nE) hn1
  rw [hsz] at hzq
  refine va_newa (atype := .long) (ty := .long) hx hb (hts _ hw) rfl hK hP hDd hS hA (a0 := (N, .inr (.inl (fun _ => 0)))) (fun _ => rfl) hq hN (by simp only [componentBytes]; omega) (by omega) (by omega) hd (fun q cA H1 hK1 hP1 hD1 hS1 => ?_)
  have hcA := vK_long hK hK1
  subst hcA
  have hag : vAg n ad (va_up ad n q) := vAg_up hnn
  have e9 : wld K ad sh m n ++ [(q, .inl (K 2, N, .inr (.inl (fun _ => 0))))] = wld K (va_up ad n q) (upS sh n (2, N, vz)) (upZ m n) (n + 1) := by
    refine wld_push (fun k hk => hag k (Or.inl hk)) (by simp [va_up]) ?_ (fun j hj => ⟨by simp [upS, Nat.ne_of_lt hj], by simp [upZ, Nat.ne_of_lt hj], by simp [upZ, Nat.ne_of_lt hj]⟩) hB
    simp only [upS, if_true, upZ]
    rfl
  rw [e9] at hP1 hD1
  have hz := vSZ_lt (a := n) (b := nE) hn1
  rw [hsz] at hz
  have hz1 : vSZ (n + 1) = vSZ n + N := by show vSZ n + _ = _; rw [hsz]
  have hz2 := vSZ_mono hn1
  have hl1 : lv_has la Y.2.2.1 (vls (va_up ad n q) ls) := by rw [vls_ag hag hok.1]; exact hl
  have k1 := kk p l e R s mi args below meth c D K (va_up ad n q) A H0 H1 locs (cells + 1) (slots + N) Cm Sm Q la hC ⟨hP1, hD1, hS1, hA, vRB_new hB (fun j hj => ⟨by simp [upS, Nat.ne_of_lt hj], by simp [upZ, Nat.ne_of_lt hj]⟩) (fun j x h => by simp [upS, vz] at h) (fun h4 => by simp [upS] at h4), hn1, by omega, by omega, hc2, hs2, fun L xs h => by rw [hag vsN (Or.inr rfl)]; exact hsx L xs h⟩ hl1 (fun r sh' m' ad2 H' locs' cells' slots' la' pc' h1 h2 h3 h4 h5 => hR r sh' m' ad2 H' locs' cells' slots' la' pc' h1 h2 (vAg_tr hag h3 (Nat.le_succ n)) (fun e => absurd e (by omega)) h5)
  simp only [List.map_cons, vst_ag hag hok.2] at k1
  have e8 : vtr (va_up ad n q) (.ref n) = .ref q := by simp [vtr, va_up]
  rw [e8] at k1
  exact k1
theorem vJ.newaC {index N : Nat} {q0 : Int32} (hd : decode Y.2.1 pc = .ok (.anewarray index, 3)) (hq : ¬ q0 < 0) (hN : q0.toNatClampNeg = N) (hN2 : N ≤ 1000) (hw : Cond.classLink Y.1.cls index "TableSetter$Cell" ∈ vtb) (hn1 : n + 1 ≤ nE) (hnn : n < 1000000) (hsz : (SH n).2.1 = N) (hok : vOK n ls st) (kk : vJ Y fr lo nE sx (pc + 3) ls (.ref n :: st) (n + 1) (upS sh n (3, N, fun _ => 1)) (upZ m n) P) : vJ Y fr lo nE sx pc ls (.int q0 :: st) n sh m P := by
  intro p l e R s mi args below meth c D K ad A H0 H locs cells slots Cm Sm Q la hC hD hl hR
  obtain ⟨hx, hb, hml, hown, hts, hrt, hlk, hinit, hfr, hlo, hK, hXt⟩ := id hC
  obtain ⟨hP, hDd, hS, hA, hB, hn, hc1, hs1, hc2, hs2, hsx⟩ := id hD
  have hzq := vSZ_lt (a := n) (b := nE) hn1
  rw [hsz] at hzq
  refine va_newq hx hb hown (hts _ hw) hXt.1 hK hP hDd hS hA hq hN (by omega) (by omega) (by omega) hd (fun q cA H1 hK1 hP1 hD1 hS1 => ?_)
  have hcA := vK_cell hK hK1
  subst hcA
  have hag : vAg n ad (va_up ad n q) := vAg_up hnn
  have e9 : wld K ad sh m n ++ [(q, .inl (K 3, N, .inr (.inr (.inr (.inr (fun _ => none))))))] = wld K (va_up ad n q) (upS sh n (3, N, fun _ => 1)) (upZ m n) (n + 1) := by
    refine wld_push (fun k hk => hag k (Or.inl hk)) (by simp [va_up]) ?_ (fun j hj => ⟨by simp [upS, Nat.ne_of_lt hj], by simp [upZ, Nat.ne_of_lt hj], by simp [upZ, Nat.ne_of_lt hj]⟩) hB
    simp only [upS, if_true, upZ]
    rfl
  rw [e9] at hP1 hD1
  have hz := vSZ_lt (a := n) (b := nE) hn1
  rw [hsz] at hz
  have hz1 : vSZ (n + 1) = vSZ n + N := by show vSZ n + _ = _; rw [hsz]
  have hz2 := vSZ_mono hn1
  have hl1 : lv_has la Y.2.2.1 (vls (va_up ad n q) ls) := by rw [vls_ag hag hok.1]; exact hl
  have k1 := kk p l e R s mi args below meth c D K (va_up ad n q) A H0 H1 locs (cells + 1) (slots + N) Cm Sm Q la hC ⟨hP1, hD1, hS1, hA, vRB_new hB (fun j hj => ⟨by simp [upS, Nat.ne_of_lt hj], by simp [upZ, Nat.ne_of_lt hj]⟩) (fun j x h => by simp [upS] at h) (fun h4 => by simp [upS] at h4), hn1, by omega, by omega, hc2, hs2, fun L xs h => by rw [hag vsN (Or.inr rfl)]; exact hsx L xs h⟩ hl1 (fun r sh' m' ad2 H' locs' cells' slots' la' pc' h1 h2 h3 h4 h5 => hR r sh' m' ad2 H' locs' cells' slots' la' pc' h1 h2 (vAg_tr hag h3 (Nat.le_succ n)) (fun e => absurd e (by omega)) h5)
  simp only [List.map_cons, vst_ag hag hok.2] at k1
  have e8 : vtr (va_up ad n q) (.ref n) = .ref q := by simp [vtr, va_up]
  rw [e8] at k1
  exact k1
theorem vJ.newaD {index N : Nat} {q0 : Int32} (hd : decode Y.2.1 pc = .ok (.anewarray index, 3)) (hq : ¬ q0 < 0) (hN : q0.toNatClampNeg = N) (hN2 : N ≤ 1000) (hw : Cond.classLink Y.1.cls index "TableSetter$Cell" ∈ vtb) (hn1 : n + 1 ≤ nE) (hnn : n < 1000000) (hsz : (SH n).2.1 = N) (hok : vOK n ls st) (kk : vJ Y fr lo nE sx (pc + 3) ls (.ref n :: st) (n + 1) (upS sh n (4, N, vz)) (upZ m n) P) : vJ Y fr lo nE sx pc ls (.int q0 :: st) n sh m P := by
  intro p l e R s mi args below meth c D K ad A H0 H locs cells slots Cm Sm Q la hC hD hl hR
  obtain ⟨hx, hb, hml, hown, hts, hrt, hlk, hinit, hfr, hlo, hK, hXt⟩ := id hC
  obtain ⟨hP, hDd, hS, hA, hB, hn, hc1, hs1, hc2, hs2, hsx⟩ := id hD
  have hzq := vSZ_lt (a := n) (b := nE) hn1
  rw [hsz] at hzq
  refine va_newq hx hb hown (hts _ hw) hXt.1 hK hP hDd hS hA hq hN (by omega) (by omega) (by omega) hd (fun q cA H1 hK1 hP1 hD1 hS1 => ?_)
  have hcA := vK_cell hK hK1
  subst hcA
  have hag : vAg n ad (va_up ad n q) := vAg_up hnn
  have e9 : wld K ad sh m n ++ [(q, .inl (K 3, N, .inr (.inr (.inr (.inr (fun _ => none))))))] = wld K (va_up ad n q) (upS sh n (4, N, vz)) (upZ m n) (n + 1) := by
    refine wld_push (fun k hk => hag k (Or.inl hk)) (by simp [va_up]) ?_ (fun j hj => ⟨by simp [upS, Nat.ne_of_lt hj], by simp [upZ, Nat.ne_of_lt hj], by simp [upZ, Nat.ne_of_lt hj]⟩) hB
    simp only [upS, if_true, upZ]
    rfl
  rw [e9] at hP1 hD1
  have hz := vSZ_lt (a := n) (b := nE) hn1
  rw [hsz] at hz
  have hz1 : vSZ (n + 1) = vSZ n + N := by show vSZ n + _ = _; rw [hsz]
  have hz2 := vSZ_mono hn1
  have hl1 : lv_has la Y.2.2.1 (vls (va_up ad n q) ls) := by rw [vls_ag hag hok.1]; exact hl
  have k1 := kk p l e R s mi args below meth c D K (va_up ad n q) A H0 H1 locs (cells + 1) (slots + N) Cm Sm Q la hC ⟨hP1, hD1, hS1, hA, vRB_new hB (fun j hj => ⟨by simp [upS, Nat.ne_of_lt hj], by simp [upZ, Nat.ne_of_lt hj]⟩) (fun j x h => by simp [upS, vz] at h) (fun _ j => by simp [upZ]), hn1, by omega, by omega, hc2, hs2, fun L xs h => by rw [hag vsN (Or.inr rfl)]; exact hsx L xs h⟩ hl1 (fun r sh' m' ad2 H' locs' cells' slots' la' pc' h1 h2 h3 h4 h5 => hR r sh' m' ad2 H' locs' cells' slots' la' pc' h1 h2 (vAg_tr hag h3 (Nat.le_succ n)) (fun e => absurd e (by omega)) h5)
  simp only [List.map_cons, vst_ag hag hok.2] at k1
  have e8 : vtr (va_up ad n q) (.ref n) = .ref q := by simp [vtr, va_up]
  rw [e8] at k1
  exact k1
theorem vJ.mna {index : Nat} (hd : decode Y.2.1 pc = .ok (.multianewarray index 2, 4)) (hw : Cond.classLink Y.1.cls index ("[" ++ (FieldType.array .int).toString) ∈ vtb) (hw3 : Cond.arrayClass .int ∈ vtb) (hn1 : n + 17 ≤ nE) (hnn : n < 100000) (hsz : vSZ (n + 17) = vSZ n + 80) (hok : vOK n ls st) (kk : vJ Y fr lo nE sx (pc + 4) ls (.ref n :: st) (n + 17) (fun b => if b = n then (5, 16, fun j => if j < 16 then n + 3 + j else 1) else if n < b ∧ b < n + 17 then (0, 4, vz) else sh b) (fun b => if n ≤ b ∧ b < n + 17 then fun _ => 0 else m.1 b, fun b => if n ≤ b ∧ b < n + 17 then fun _ => 0 else m.2 b) P) : vJ Y fr lo nE sx pc ls (.int 4 :: .int 16 :: st) n sh m P := by
  intro p l e R s mi args below meth c D K ad A H0 H locs cells slots Cm Sm Q la hC hD hl hR
  obtain ⟨hx, hb, hml, hown, hts, hrt, hlk, hinit, hfr, hlo, hK, hXt⟩ := id hC
  obtain ⟨hP, hDd, hS, hA, hB, hn, hc1, hs1, hc2, hs2, hsx⟩ := id hD
  have hz2 := vSZ_mono hn1
  rw [hsz] at hz2
  refine va_mna (X := wld K ad sh m n) (L := []) (f := fun _ => .inl (0, 0, .inl (fun _ => 0))) (n := 16) (k := 4) (N' := 16) (K' := 4) (z := (4, .inl (fun _ => 0))) (ty := .int) (cy := K 0) hx hb hown (hts _ hw) hXt.2.1 (hts _ hw3) (hK.2 0 _ rfl).2 hK (by simpa [va_pl] using hP) (by simpa [va_pl] using hDd) hS hA (by decide) (by decide) (by decide) (by decide) (by decide) (by decide) (by decide) rfl rfl (by omega) (by omega) (fun c => by show ({ cls := c, slots := Array.replicate 4 _, vm := .none } : Cell) = _; rw [arrV_new]; rfl) hd (fun q r cA H1 hinj _ hK1 hP1 hD1 hS1 => ?_)
  have hcA := vK_arr hK hK1
  subst hcA
  have hag : vAg n ad (fun k => if k = n then q else if n < k ∧ k < n + 17 then r (k - n - 1) else ad k) := by
    intro k hk
    have h1 : k ≠ n := by rcases hk with h | h <;> (try subst h) <;> (try unfold vsN) <;> omega
    have h2 : ¬ (n < k ∧ k < n + 17) := by rcases hk with h | h <;> (try subst h) <;> (try unfold vsN) <;> omega
    simp only [h1, h2, if_false]
  generalize hadd : (fun k => if k = n then q else if n < k ∧ k < n + 17 then r (k - n - 1) else ad k) = ad2 at hag
  have e9 : (wld K ad sh m n ++ [(q, .inl (K 4, 16, .inr (.inr (.inr (.inr (fun i => if i < 16 then some (r i) else none))))))]) ++ va_pl ([] ++ (List.range 16).map r) (vr_up (fun _ => .inl (0, 0, .inl (fun _ => 0))) ((List.range 16).map r) (.inl (K 0, (4, .inl (fun _ => 0))))) = wld K ad2 (fun b => if b = n then (5, 16, fun j => if j < 16 then n + 3 + j else 1) else if n < b ∧ b < n + 17 then (0, 4, vz) else sh b) (fun b => if n ≤ b ∧ b < n + 17 then fun _ => 0 else m.1 b, fun b => if n ≤ b ∧ b < n + 17 then fun _ => 0 else m.2 b) (n + 17) := by
    unfold wld
    rw [show n + 17 = n + (1 + 16) from rfl, List.range_add, List.map_append, List.append_assoc]
    congr 1
    · apply List.map_congr_left
      intro k hk
      have hk := List.mem_range.mp hk
      have h1 : k ≠ n := Nat.ne_of_lt hk
      have h2 : ¬ (n < k ∧ k < n + 17) := by omega
      have h3 : ¬ (n ≤ k ∧ k < n + 17) := by omega
      simp only [h1, h2, h3, if_false]
      rw [hag k (Or.inl hk), venc_ag (fun j hj => hag j (Or.inl hj)) (hB k hk).1 (hB k hk).2]
    · rw [show List.range (1 + 16) = 0 :: (List.range 16).map (1 + ·) from rfl]
      simp only [List.map_cons, List.map_map, Nat.add_zero, List.singleton_append, List.nil_append]
      congr 1
      · subst hadd
        simp only [if_true]
        refine congrArg (fun z => (q, z)) ?_
        show Sum.inl (K 4, 16, _) = Sum.inl (K 4, 16, _)
        refine congrArg (fun z => (Sum.inl (K 4, 16, Sum.inr (Sum.inr (Sum.inr (Sum.inr z)))) : va_E)) ?_
        funext i
        by_cases hi : i < 16
        · simp only [hi, if_true]
          rw [show n + 3 + i = (n + 1 + i) + 2 by omega]
          simp only [vrq]
          have h1 : ¬ n + 1 + i = n := by omega
          have h2 : n < n + 1 + i ∧ n + 1 + i < n + 17 := by omega
          simp only [h1, h2, if_true, if_false, and_self]
          rw [show n + 1 + i - n - 1 = i by omega]
        · simp only [hi, if_false, vrq]
      · unfold va_pl
        rw [List.map_map]
        apply List.map_congr_left
        intro i hi
        have hi := List.mem_range.mp hi
        subst hadd
        have h1 : ¬ n + (1 + i) = n := by omega
        have h2 : n < n + (1 + i) ∧ n + (1 + i) < n + 17 := by omega
        have h3 : n ≤ n + (1 + i) ∧ n + (1 + i) < n + 17 := by omega
        simp only [Function.comp, h1, h2, h3, if_true, if_false, and_self]
        rw [show n + (1 + i) - n - 1 = i by omega, vr_up_in (List.mem_map.mpr ⟨i, List.mem_range.mpr hi, rfl⟩)]
        rfl
  rw [e9] at hP1 hD1
  have hl1 : lv_has la Y.2.2.1 (vls ad2 ls) := by rw [vls_ag hag hok.1]; exact hl
  have hB2 : vRB (n + 17) (fun b => if b = n then (5, 16, fun j => if j < 16 then n + 3 + j else 1) else if n < b ∧ b < n + 17 then (0, 4, vz) else sh b) (fun b => if n ≤ b ∧ b < n + 17 then fun _ => 0 else m.1 b, fun b => if n ≤ b ∧ b < n + 17 then fun _ => 0 else m.2 b) := by
    intro b hb9
    by_cases h1 : b = n
    · simp only [h1, if_true]
      refine ⟨fun j x hj => ?_, fun h4 => absurd h4 (by decide)⟩
      split at hj <;> omega
    · by_cases h2 : n < b ∧ b < n + 17
      · simp only [h1, h2, if_true, if_false, and_self]
        exact ⟨fun j x hj => by simp [vz] at hj, fun h4 => absurd h4 (by decide)⟩
      · have h3 : ¬ (n ≤ b ∧ b < n + 17) := by omega
        have hbn : b < n := by omega
        simp only [h1, h2, h3, if_false]
        exact ⟨fun j x hj => Nat.lt_of_lt_of_le ((hB b hbn).1 j x hj) (by omega), fun h4 j => by
          rcases (hB b hbn).2 h4 j with h | h
          · exact Or.inl h
          · exact Or.inr (by omega)⟩
  have k1 := kk p l e R s mi args below meth c D K ad2 A H0 H1 locs (cells + 1 + 16) (slots + 16 + 16 * 4) Cm Sm Q la hC ⟨hP1, hD1, hS1, hA, hB2, hn1, by omega, by omega, hc2, hs2, fun L xs h => by rw [hag vsN (Or.inr rfl)]; exact hsx L xs h⟩ hl1 (fun r1 sh' m' ad3 H' locs' cells' slots' la' pc' h1 h2 h3 h4 h5 => hR r1 sh' m' ad3 H' locs' cells' slots' la' pc' h1 h2 (vAg_tr hag h3 (by omega)) (fun e => absurd e (by omega)) h5)
  simp only [List.map_cons, vst_ag hag hok.2] at k1
  have e8 : vtr ad2 (.ref n) = .ref q := by subst hadd; simp [vtr]
  rw [e8] at k1
  exact k1

end VC1
end
section
def vws (Y : vMeth) : List Cond := .code Y.1 Y.2.1 Y.2.2.1 Y.2.2.2 :: vtb
def vQ (D : va_G) (K : Nat → ClassId) (ad : Nat → Nat) (n nE : Nat) (P : Option Value → vSh → vM → Prop) (A : Nat → Prop) : Array Value → State → Outcome → State → Prop := fun _ st oc t =>
  (∃ (r : Option Value) (ad' : Nat → Nat) (sh' : vSh) (m' : vM), oc = .returned (r.map (vtr ad')) ∧ P r sh' m' ∧ vRB nE sh' m' ∧ vAg n ad ad' ∧ (nE = n → ad' = ad) ∧ va_P D vwCl (wld K ad' sh' m' nE) t.heap ∧ va_K D vwCl (vtys K) t ∧ va_D A (wld K ad' sh' m' nE)) ∧ va_F A st t
def Ev (Y : vMeth) (fr lo nE : Nat) (as : List Value) (n : Nat) (sh : vSh) (m : vM) (P : Option Value → vSh → vM → Prop) : Prop :=
  n ≤ nE → vRB n sh m → ∀ (l : Launch) (D : va_G) (K : Nat → ClassId) (ad : Nat → Nat) (hs : Nat), Met l Y.1 (vws Y) { frames := fr, cells := nE - n, slots := vSZ nE - vSZ n, locals := lo }
    (va_Pc (as.map (vtr ad)) (fun U => U.heap.size = hs ∧ va_P D vwCl (wld K ad sh m n) U.heap ∧ va_K D vwCl (vtys K) U ∧ vXt U ∧ va_D (fun _ => True) (wld K ad sh m n)))
    (vQ D K ad n nE P (va_A (wld K ad sh m n) hs)) (nE - n) (vSZ nE - vSZ n) (va_A (wld K ad sh m n) hs)
theorem vQ.mono {D : va_G} {K : Nat → ClassId} {ad : Nat → Nat} {n nE : Nat} {P P' : Option Value → vSh → vM → Prop} {A : Nat → Prop} (h : ∀ r sh' m', P r sh' m' → P' r sh' m') : ∀ a st oc t, vQ D K ad n nE P A a st oc t → vQ D K ad n nE P' A a st oc t := by
  rintro a st oc t ⟨⟨r, ad', sh', m', h1, h2, h3⟩, h4⟩
  exact ⟨⟨r, ad', sh', m', h1, h r sh' m' h2, h3⟩, h4⟩
theorem lg_len (ad : Nat → Nat) (as : List Value) : (lg_sl (as.map (vtr ad))).length = (lg_sl as).length := by
  unfold lg_sl
  induction as with
  | nil => rfl
  | cons v t ih =>
    simp only [List.map_cons, List.flatMap_cons, List.length_append, ih, vtr_cat]
    split <;> rfl
theorem lv_args_tr (ad : Nat → Nat) (as : List Value) : ∀ i, lv_args i (as.map (vtr ad)) = vls ad (lv_args i as) := by
  induction as with
  | nil => intro i; rfl
  | cons v t ih =>
    intro i
    show (i, vtr ad v) :: lv_args (if (vtr ad v).category = 2 then i + 2 else i + 1) (t.map (vtr ad)) = _
    rw [ih, vtr_cat]
    rfl
theorem Ev.of {Y : vMeth} {fr lo nE : Nat} {as : List Value} {n : Nat} {sh : vSh} {m : vM} {P : Option Value → vSh → vM → Prop} (hcls : plainName Y.1.cls = true) (hlen : (lg_sl as).length ≤ Y.2.2.1) (h : vJ Y fr lo nE none 0 (lv_args 0 as) [] n sh m P) : Ev Y fr lo nE as n sh m P := by
  intro hn hB l D K ad hs
  refine Met.ofW (cc := Y.2.1) (maxL := Y.2.2.1) (ret := Y.2.2.2) hcls rfl ?_
  intro p e s mi args below meth c s₁ B hml hv
  obtain ⟨rfl, hsz, hP, hK, hXt, hD0⟩ := hv
  have hx := B.exec
  have hb := B.bytes
  have hr := B.returns
  have hts := atoms_spec (ws := vws Y) B.pre
  have hown : s.vm.findClass Y.1.cls = some mi.cls := findClass_of_methodNamed B.named
  have hlk : meth.locks = false := B.notSynchronized
  have hname : meth.name = Y.1.name := (name_of_methodNamed B.named B.method).1
  subst hsz
  have hD := hD0.self (sz := s.heap.size)
  rw [lg_entry_eq]
  have hl := lv_entry (as.map (vtr ad)) (n := Y.2.2.1) (by rw [lg_len]; exact hlen)
  rw [lv_args_tr] at hl
  generalize (lg_sl (as.map (vtr ad)) ++ List.replicate (Y.2.2.1 - (lg_sl (as.map (vtr ad))).length) Slot.unset).toArray = la at hl ⊢
  refine h p l e { frames := fr, cells := nE - n, slots := vSZ nE - vSZ n, locals := lo } s mi _ below meth c D K ad (va_A (wld K ad sh m n) s.heap.size) s.heap s.heap [] 0 0 (nE - n) (vSZ nE - vSZ n) _ la ⟨hx, hb, hml, hown, fun w hw => hts w (List.mem_cons_of_mem _ hw), hr, hlk, fun q => hname.trans q, Nat.le_refl _, Nat.le_refl _, hK, hXt⟩ ⟨hP, hD, va_S.rf, fun q hq => Or.inr hq, hB, hn, by omega, by omega, Nat.le_refl _, Nat.le_refl _, fun L xs q => by cases q⟩ hl ?_
  intro r sh' m' ad' H' locs' cells' slots' la' pc' hret hp hag hne hDy
  obtain ⟨hP', hDd', hS', hA', hB', hn', hc1, hs1, hc2, hs2, -⟩ := hDy
  refine W.widen (k := nE - n) (n := vSZ nE - vSZ n) (by omega) (by omega) ?_
  have hq : ∀ t : State, t.heap = H' → s.WarmedH t.vm → vQ D K ad n nE P (va_A (wld K ad sh m n) s.heap.size) (as.map (vtr ad)).toArray s (.returned (r.map (vtr ad'))) t := fun t ht hW => ⟨⟨r, ad', sh', m', rfl, hp, hB', hag, hne, by rw [ht]; exact hP', va_K.moved hW.alike hK, hDd'⟩, hS'.F ht⟩
  rcases hret with ⟨rfl, hd, hty⟩ | ⟨x, rfl, hd, ty, hty, hnr⟩ | ⟨x, rfl, hd, hty⟩ | ⟨v, C, rfl, hd, hty, hv⟩
  · exact W.vret hx hb (hr.trans hty) hq hS'.2.2 hd
  · exact W.zret hx hb (hr.trans hty) hnr hq hS'.2.2 hd
  · exact W.lret hx hb (hr.trans hty) hq hS'.2.2 hd
  · refine W.aret (v := vtr ad' v) hx hb (hr.trans hty) (Or.inl ⟨C, rfl⟩) ?_ hq hS'.2.2 hd
    rcases hv with rfl | ⟨a, rfl⟩
    · exact Or.inl rfl
    · exact Or.inr ⟨_, rfl⟩
theorem tbl_good : ∀ w ∈ vtb, goodWord w = true := fun w h => (List.mem_filter.mp h).2
theorem vtb_in {w : Cond} (i : Nat) (h : lw_tbl[i]? = some w) (hg : goodWord w = true) : w ∈ vtb := List.mem_filter.mpr ⟨List.mem_of_getElem? h, hg⟩
theorem tbl_in {ws : List Cond} (h : ∀ w ∈ ws, w ∈ vtb) : GoodIn vtb ws := fun w hw => ⟨h w hw, good_of_word (tbl_good w (h w hw))⟩
theorem tbl_code {Y : vMeth} (h : Cond.code Y.1 Y.2.1 Y.2.2.1 Y.2.2.2 ∈ vtb) : GoodIn vtb (vws Y) := tbl_in (fun w hw => by
  rcases List.mem_cons.mp hw with rfl | q
  · exact h
  · exact q)
theorem vblind {D : va_G} {K : Nat → ClassId} {ad : Nat → Nat} {sh : vSh} {m : vM} {n hs : Nat} {av : List Value} : FrameBlind (va_Pc av (fun U => U.heap.size = hs ∧ va_P D vwCl (wld K ad sh m n) U.heap ∧ va_K D vwCl (vtys K) U ∧ vXt U ∧ va_D (fun _ => True) (wld K ad sh m n))) := fun a U g mk q => by
  obtain ⟨q0, q1, qP, qK, qX, qD⟩ := q
  exact ⟨q0, q1, qP, va_K.moved (u := U) (U := U.calling g mk a) (Vm.Alike.refl U.vm) qK, vXt.same (u := U) (U := U.calling g mk a) rfl qX, qD⟩
section VE1
variable {Y : vMeth} {fr lo nE : Nat} {sx : Option (Nat × (Nat → Int32))} {pc : Nat} {ls : List (Nat × Value)} {st : List Value} {n : Nat} {sh : vSh} {m : vM} {P : Option Value → vSh → vM → Prop}
theorem vRun_vJ {p : Program} {l : Launch} {e : Env} {R : Room} {s : State} {mi : MethodId} {args : Array Value} {below : List Frame} {meth : Method} {c : Code} {D : va_G} {K : Nat → ClassId} {ad : Nat → Nat} {A : Nat → Prop} {H0 H : Heap} {locs : List Loc} {cells slots Cm Sm : Nat} {Q : State → Prop} {la : Array Slot} {st0 : List Value} {a9 : Array Value} {n2 : Nat} (hn2 : n ≤ n2) (hnE : n2 ≤ nE) (hok : n2 = n ∨ vOK n ls st)
    (hC : vCx Y fr lo p R s mi args meth c D K) (hD : vDy sx D K ad sh m n nE A H0 H locs R cells slots Cm Sm s) (hl : lv_has la Y.2.2.1 (vls ad ls))
    (hR : ∀ (r : Option Value) (sh' : vSh) (m' : vM) (ad' : Nat → Nat) (H' : Heap) (locs' : List Loc) (cells' slots' : Nat) (la' : Array Slot) (pc' : Nat), vRet Y pc' r → P r sh' m' → vAg n ad ad' → (nE = n → ad' = ad) → vDy sx D K ad' sh' m' nE nE A H0 H' locs' R cells' slots' Cm Sm s → W p l e R s mi args below meth c H' locs' cells' slots' Q (F0 mi pc' la' (r.toList.map (vtr ad'))))
    (hr : va_Run p l e R s mi args below meth c H locs cells slots (n2 - n) (vSZ n2 - vSZ n) (F0 mi pc la st0) (st.map (vtr ad)) (vQ D K ad n n2 (fun r sh' m' => vJ Y fr lo nE sx (pc + 3) ls (r.toList ++ st) n2 sh' m' P) (va_A (wld K ad sh m n) H.size) a9) (va_A (wld K ad sh m n) H.size)) :
    W p l e R s mi args below meth c H locs cells slots Q (F0 mi pc la st0) := by
  obtain ⟨hP, hDd, hS, hA, hB, hn, hc1, hs1, hc2, hs2, hsx⟩ := hD
  have hfA : ∀ q, va_A (wld K ad sh m n) H.size q → A q := by
    intro q hq
    rcases hq with ⟨k, e9, hk⟩ | hq
    · exact hDd.2 k _ hk
    · exact hA q (Nat.le_trans hS.1 hq)
  intro T hT X
  obtain ⟨v, st₀, t, T', L, h0, X', hL, e1, e2, ⟨⟨r, ad', sh', m', hv, hp, hB', hag, hne, hP', hK', hD'⟩, hz, hk⟩, stp⟩ := hr T hT X
  cases hv
  rw [h0] at hz hk
  have hS' : va_S A H0 T'.heap (locs ++ L) := ⟨Nat.le_trans hS.1 (by rw [e1]; exact hz), fun q h1 h2 => by rw [e1, hk q (Nat.lt_of_lt_of_le h1 hS.1) (fun z => h2 (hfA q z))]; exact hS.2.1 q h1 h2, fun q hq => by
      rcases List.mem_append.mp hq with h | h
      · exact hS.2.2 q h
      · exact hfA _ (hL q h)⟩
  have hm1 := vSZ_mono hn2
  have hm2 := vSZ_mono hnE
  have hls : vls ad' ls = vls ad ls := by
    rcases hok with h | h
    · rw [hne h]
    · exact vls_ag hag h.1
  have hst : st.map (vtr ad') = st.map (vtr ad) := by
    rcases hok with h | h
    · rw [hne h]
    · exact vst_ag hag h.2
  have k1 := hp p l e R s mi args below meth c D K ad' A H0 T'.heap (locs ++ L) (cells + (n2 - n)) (slots + (vSZ n2 - vSZ n)) Cm Sm Q la hC ⟨by rw [e1]; exact hP', hD'.weaken (fun _ q _ h => hfA q.1 h), hS', hA, hB', hnE, by omega, by omega, hc2, hs2, fun L xs h => by rw [hag vsN (Or.inr rfl)]; exact hsx L xs h⟩ (by rw [hls]; exact hl) (fun r1 sh1 m1 ad2 H' locs' cells' slots' la' pc' h1 h2 h3 h4 h5 => hR r1 sh1 m1 ad2 H' locs' cells' slots' la' pc' h1 h2 (vAg_tr hag h3 hn2) (fun q => (h4 (by omega)).trans (hne (by omega))) h5)
  obtain ⟨t2, a1, b1⟩ := k1 T' rfl X'
  refine ⟨t2, stp t2 ?_, b1⟩
  rw [List.map_append, hst] at a1
  cases r with
  | none => exact a1
  | some r => exact a1
theorem vJ.callV {index ci N b frc loc : Nat} {Yc : vMeth} {T : u_T} {cs : Nat → Nat} {as st0 : List Value} (hd : decode Y.2.1 pc = .ok (.invokevirtual index, 3)) (hst : st0 = as.reverse ++ .ref b :: st) (hs : sh b = (ci + 6, N, cs)) (hb0 : b < n) (hc : vwCl[ci]? = some (Yc.1.cls, T, N)) (hlink : Cond.methodLink Y.1.cls index Yc.1 ∈ vtb) (hinst : Cond.instanceMethod Yc.1 ∈ vtb) (hsel : Cond.selects Yc.1.cls Yc.1 Yc.1 ∈ vtb) (hcode : Cond.code Yc.1 Yc.2.1 Yc.2.2.1 Yc.2.2.2 ∈ vtb) (hini : Cond.initialized Yc.1.cls ∈ vtb) (hpl : Yc.1.cls ≠ "java/lang/invoke/MethodHandle" ∧ Yc.1.cls ≠ "java/lang/invoke/VarHandle" ∧ (parseMethodDescriptor Yc.1.desc).map (fun d => d.parameters.length) = some as.length) (hfr2 : frc + 1 ≤ fr) (hlo2 : 8 + (Yc.2.2.1 + 11) + loc ≤ lo) (hcat : vcat st ≤ 8)
    (hE : Ev Yc frc loc n (.ref b :: as) n sh m (fun r sh' m' => vJ Y fr lo nE sx (pc + 3) ls (r.toList ++ st) n sh' m' P)) : vJ Y fr lo nE sx pc ls st0 n sh m P := by
  intro p l e R s mi args below meth c D K ad A H0 H locs cells slots Cm Sm Q la hC hD hl hR
  subst hst
  obtain ⟨hx, hb, hml, hown, hts, hrt, hlk, hinit, hfr, hlo, hK, hXt⟩ := id hC
  obtain ⟨hP, hDd, hS, hA, hB, hn, hc1, hs1, hc2, hs2, hsx⟩ := id hD
  have hM := hE (Nat.le_refl n) hB l D K ad H.size
  have hrec : FrameBlind (va_Pc ((.ref b :: as).map (vtr ad)) (fun U => U.heap.size = H.size ∧ va_P D vwCl (wld K ad sh m n) U.heap ∧ va_K D vwCl (vtys K) U ∧ vXt U ∧ va_D (fun _ => True) (wld K ad sh m n))) := vblind
  have hpre : ∀ U : State, U.heap = H → s.WarmedH U.vm → va_Pc ((.ref b :: as).map (vtr ad)) (fun U => U.heap.size = H.size ∧ va_P D vwCl (wld K ad sh m n) U.heap ∧ va_K D vwCl (vtys K) U ∧ vXt U ∧ va_D (fun _ => True) (wld K ad sh m n)) ((.ref b :: as).map (vtr ad)).toArray U := fun U hU hW => ⟨rfl, by rw [hU], by rw [hU]; exact hP, va_K.moved hW.alike hK, vXt.warm hW hXt, hDd.weaken (fun _ _ _ _ => trivial)⟩
  have he : (wld K ad sh m n)[b]? = some (ad b, .inr (ci, (List.range N).map (fun j => vsl ad (cs j) (m.1 b j)))) := by rw [wld_get hb0, hs]; rfl
  have hcw : CallW R s args Y.1.cls Yc.1.cls index Yc.1 Yc.2.1 Yc.2.2.1 Yc.2.2.2 (vws Yc) { frames := frc, cells := n - n, slots := vSZ n - vSZ n, locals := loc } (n - n) (vSZ n - vSZ n) as.length := by
    refine cwV as.length hts ?_ rfl rfl rfl ⟨rfl, hpl⟩ ⟨by show frc + 1 ≤ _; omega, by show 8 + (Yc.2.2.1 + 11) + loc ≤ _; omega⟩
    refine tbl_in (fun w hw => ?_)
    rcases List.mem_append.mp hw with h | h
    · simp only [List.mem_cons, List.not_mem_nil, or_false] at h
      rcases h with rfl | rfl | rfl | rfl
      · exact hlink
      · exact hinst
      · exact hsel
      · exact hini
    · exact ((tbl_code hcode) w h).1
  have hrun := va_runV (cells := cells) (slots := slots) (locs := locs) (e := e) (below := below) (meth := meth) (g := F0 mi pc la ((as.reverse ++ .ref b :: st).map (vtr ad))) (b := ad b) (As := as.map (vtr ad)) (rest := st.map (vtr ad)) ⟨hx, hb, hml, hown, hts⟩ hM hcw ⟨hrec, va_recv hK hP hc he, hpre⟩ rfl (by simp) hl.1 (by simp [vtr]) (lv_room (by rw [vcat_tr]; exact hcat)) hd ⟨by omega, by omega⟩
  exact vRun_vJ (Nat.le_refl n) hn (Or.inl rfl) hC hD hl hR hrun
theorem vJ.callS {index frc loc : Nat} {Yc : vMeth} {as st0 : List Value} (hd : decode Y.2.1 pc = .ok (.invokestatic index, 3)) (hst : st0 = as.reverse ++ st) (hlink : Cond.methodLink Y.1.cls index Yc.1 ∈ vtb) (hstat : Cond.static Yc.1 ∈ vtb) (hcode : Cond.code Yc.1 Yc.2.1 Yc.2.2.1 Yc.2.2.2 ∈ vtb) (hini : Cond.initialized Yc.1.cls ∈ vtb) (hpl : Yc.1.cls ≠ "java/lang/invoke/MethodHandle" ∧ Yc.1.cls ≠ "java/lang/invoke/VarHandle" ∧ (parseMethodDescriptor Yc.1.desc).map (fun d => d.parameters.length) = some as.length) (hfr2 : frc + 1 ≤ fr) (hlo2 : 8 + (Yc.2.2.1 + 11) + loc ≤ lo) (hcat : vcat st ≤ 8)
    (hE : Ev Yc frc loc n as n sh m (fun r sh' m' => vJ Y fr lo nE sx (pc + 3) ls (r.toList ++ st) n sh' m' P)) : vJ Y fr lo nE sx pc ls st0 n sh m P := by
  intro p l e R s mi args below meth c D K ad A H0 H locs cells slots Cm Sm Q la hC hD hl hR
  subst hst
  obtain ⟨hx, hb, hml, hown, hts, hrt, hlk, hinit, hfr, hlo, hK, hXt⟩ := id hC
  obtain ⟨hP, hDd, hS, hA, hB, hn, hc1, hs1, hc2, hs2, hsx⟩ := id hD
  have hM := hE (Nat.le_refl n) hB l D K ad H.size
  have hrec : FrameBlind (va_Pc (as.map (vtr ad)) (fun U => U.heap.size = H.size ∧ va_P D vwCl (wld K ad sh m n) U.heap ∧ va_K D vwCl (vtys K) U ∧ vXt U ∧ va_D (fun _ => True) (wld K ad sh m n))) := vblind
  have hpre : ∀ U : State, U.heap = H → s.WarmedH U.vm → va_Pc (as.map (vtr ad)) (fun U => U.heap.size = H.size ∧ va_P D vwCl (wld K ad sh m n) U.heap ∧ va_K D vwCl (vtys K) U ∧ vXt U ∧ va_D (fun _ => True) (wld K ad sh m n)) (as.map (vtr ad)).toArray U := fun U hU hW => ⟨rfl, by rw [hU], by rw [hU]; exact hP, va_K.moved hW.alike hK, vXt.warm hW hXt, hDd.weaken (fun _ _ _ _ => trivial)⟩
  have hcw : CallB R s args Y.1.cls index Yc.1 Yc.2.1 Yc.2.2.1 Yc.2.2.2 (vws Yc) { frames := frc, cells := n - n, slots := vSZ n - vSZ n, locals := loc } (n - n) (vSZ n - vSZ n) as.length :=
    callB_of as.length hts (tbl_code hcode) rfl rfl rfl (hts _ hini) (hts _ hlink) hpl ⟨by show frc + 1 ≤ _; omega, by show 8 + (Yc.2.2.1 + 11) + loc ≤ _; omega⟩
  have hrun := va_runS (cells := cells) (slots := slots) (locs := locs) (e := e) (below := below) (meth := meth) (g := F0 mi pc la ((as.reverse ++ st).map (vtr ad))) (As := as.map (vtr ad)) (rest := st.map (vtr ad)) ⟨hx, hb, hml, hown, hts⟩ hM ⟨hcw, hts _ hstat⟩ ⟨hrec, hpre⟩ rfl (by simp) hl.1 (by simp) (lv_room (by rw [vcat_tr]; exact hcat)) hd ⟨by omega, by omega⟩
  exact vRun_vJ (Nat.le_refl n) hn (Or.inl rfl) hC hD hl hR hrun
theorem vJ.callI {index b frc loc n2 : Nat} {Yc : vMeth} {as st0 : List Value} (hd : decode Y.2.1 pc = .ok (.invokespecial index, 3)) (hst : st0 = as.reverse ++ .ref b :: st) (hlink : Cond.methodLink Y.1.cls index Yc.1 ∈ vtb) (hinst : Cond.instanceMethod Yc.1 ∈ vtb) (hin2 : Yc.1.name = "<init>") (hret : Yc.2.2.2 = none) (hcode : Cond.code Yc.1 Yc.2.1 Yc.2.2.1 Yc.2.2.2 ∈ vtb) (hini : Cond.initialized Yc.1.cls ∈ vtb) (hpl : Yc.1.cls ≠ "java/lang/invoke/MethodHandle" ∧ Yc.1.cls ≠ "java/lang/invoke/VarHandle" ∧ (parseMethodDescriptor Yc.1.desc).map (fun d => d.parameters.length) = some as.length) (hfr2 : frc + 1 ≤ fr) (hlo2 : 8 + (Yc.2.2.1 + 11) + loc ≤ lo) (hcat : vcat st ≤ 8) (hn2 : n ≤ n2) (hnE : n2 ≤ nE) (hok : vOK n ls st)
    (hE : Ev Yc frc loc n2 (.ref b :: as) n sh m (fun r sh' m' => vJ Y fr lo nE sx (pc + 3) ls (r.toList ++ st) n2 sh' m' P)) : vJ Y fr lo nE sx pc ls st0 n sh m P := by
  intro p l e R s mi args below meth c D K ad A H0 H locs cells slots Cm Sm Q la hC hD hl hR
  subst hst
  obtain ⟨hx, hb, hml, hown, hts, hrt, hlk, hinit, hfr, hlo, hK, hXt⟩ := id hC
  obtain ⟨hP, hDd, hS, hA, hB, hn, hc1, hs1, hc2, hs2, hsx⟩ := id hD
  have hm1 := vSZ_mono hn2
  have hm2 := vSZ_mono hnE
  have hM := hE hn2 hB l D K ad H.size
  have hrec : FrameBlind (va_Pc ((.ref b :: as).map (vtr ad)) (fun U => U.heap.size = H.size ∧ va_P D vwCl (wld K ad sh m n) U.heap ∧ va_K D vwCl (vtys K) U ∧ vXt U ∧ va_D (fun _ => True) (wld K ad sh m n))) := vblind
  have hpre : ∀ U : State, U.heap = H → s.WarmedH U.vm → va_Pc ((.ref b :: as).map (vtr ad)) (fun U => U.heap.size = H.size ∧ va_P D vwCl (wld K ad sh m n) U.heap ∧ va_K D vwCl (vtys K) U ∧ vXt U ∧ va_D (fun _ => True) (wld K ad sh m n)) ((.ref b :: as).map (vtr ad)).toArray U := fun U hU hW => ⟨rfl, by rw [hU], by rw [hU]; exact hP, va_K.moved hW.alike hK, vXt.warm hW hXt, hDd.weaken (fun _ _ _ _ => trivial)⟩
  have hcw := cwI (R := R) (own := Y.1.cls) (index := index) (y := Yc.1) (bytes := Yc.2.1) (maxL := Yc.2.2.1) (ws := vws Yc) (rm := { frames := frc, cells := n2 - n, slots := vSZ n2 - vSZ n, locals := loc }) (mc := n2 - n) (ms := vSZ n2 - vSZ n) as.length hts (tbl_code hcode) (by rw [← hret]; rfl) rfl rfl (hts _ hini) (hts _ hlink) (hts _ hinst) hin2 hpl ⟨by show frc + 1 ≤ _; omega, by show 8 + (Yc.2.2.1 + 11) + loc ≤ _; omega⟩
  have hrun := va_runI (cells := cells) (slots := slots) (locs := locs) (e := e) (below := below) (meth := meth) (g := F0 mi pc la ((as.reverse ++ .ref b :: st).map (vtr ad))) (b := ad b) (As := as.map (vtr ad)) (rest := st.map (vtr ad)) ⟨hx, hb, hml, hown, hts⟩ hM hcw ⟨hrec, hpre⟩ rfl (by simp) hl.1 (by simp [vtr]) (lv_room (by rw [vcat_tr]; exact hcat)) hd ⟨by omega, by omega⟩
  exact vRun_vJ hn2 hnE (Or.inr hok) hC hD hl hR hrun
theorem vJ.callIN {index b frc loc n2 : Nat} {Yc : vMeth} {as st0 : List Value} (hd : decode Y.2.1 pc = .ok (.invokespecial index, 3)) (hst : st0 = as.reverse ++ .ref b :: st) {host : String} (hlink : ∀ U : State, vXt U → va_Nw (.methodLinkNest Y.1.cls index Yc.1 host) U) (hinst : Cond.instanceMethod Yc.1 ∈ vtb) (hin2 : Yc.1.name = "<init>") (hret : Yc.2.2.2 = none) (hcode : Cond.code Yc.1 Yc.2.1 Yc.2.2.1 Yc.2.2.2 ∈ vtb) (hini : Cond.initialized Yc.1.cls ∈ vtb) (hpl : Yc.1.cls ≠ "java/lang/invoke/MethodHandle" ∧ Yc.1.cls ≠ "java/lang/invoke/VarHandle" ∧ (parseMethodDescriptor Yc.1.desc).map (fun d => d.parameters.length) = some as.length) (hfr2 : frc + 1 ≤ fr) (hlo2 : 8 + (Yc.2.2.1 + 11) + loc ≤ lo) (hcat : vcat st ≤ 8) (hn2 : n ≤ n2) (hnE : n2 ≤ nE) (hok : vOK n ls st)
    (hE : Ev Yc frc loc n2 (.ref b :: as) n sh m (fun r sh' m' => vJ Y fr lo nE sx (pc + 3) ls (r.toList ++ st) n2 sh' m' P)) : vJ Y fr lo nE sx pc ls st0 n sh m P := by
  intro p l e R s mi args below meth c D K ad A H0 H locs cells slots Cm Sm Q la hC hD hl hR
  subst hst
  obtain ⟨hx, hb, hml, hown, hts, hrt, hlk, hinit, hfr, hlo, hK, hXt⟩ := id hC
  obtain ⟨hP, hDd, hS, hA, hB, hn, hc1, hs1, hc2, hs2, hsx⟩ := id hD
  have hm1 := vSZ_mono hn2
  have hm2 := vSZ_mono hnE
  have hM := hE hn2 hB l D K ad H.size
  have hrec : FrameBlind (va_Pc ((.ref b :: as).map (vtr ad)) (fun U => U.heap.size = H.size ∧ va_P D vwCl (wld K ad sh m n) U.heap ∧ va_K D vwCl (vtys K) U ∧ vXt U ∧ va_D (fun _ => True) (wld K ad sh m n))) := vblind
  have hpre : ∀ U : State, U.heap = H → s.WarmedH U.vm → va_Pc ((.ref b :: as).map (vtr ad)) (fun U => U.heap.size = H.size ∧ va_P D vwCl (wld K ad sh m n) U.heap ∧ va_K D vwCl (vtys K) U ∧ vXt U ∧ va_D (fun _ => True) (wld K ad sh m n)) ((.ref b :: as).map (vtr ad)).toArray U := fun U hU hW => ⟨rfl, by rw [hU], by rw [hU]; exact hP, va_K.moved hW.alike hK, vXt.warm hW hXt, hDd.weaken (fun _ _ _ _ => trivial)⟩
  have hcw := va_cnB (R := R) (own := Y.1.cls) (host := host) (index := index) (y := Yc.1) (bytes := Yc.2.1) (maxL := Yc.2.2.1) (ret := none) (ws := vws Yc) (rm := { frames := frc, cells := n2 - n, slots := vSZ n2 - vSZ n, locals := loc }) (mc := n2 - n) (ms := vSZ n2 - vSZ n) as.length hts (tbl_code hcode) (by rw [← hret]; rfl) rfl rfl (hlink s hXt) (hts _ hini) hpl ⟨by show frc + 1 ≤ _; omega, by show 8 + (Yc.2.2.1 + 11) + loc ≤ _; omega⟩
  have hrun := va_runIN (cells := cells) (slots := slots) (locs := locs) (e := e) (below := below) (meth := meth) (g := F0 mi pc la ((as.reverse ++ .ref b :: st).map (vtr ad))) (b := ad b) (As := as.map (vtr ad)) (rest := st.map (vtr ad)) ⟨hx, hb, hml, hown, hts⟩ hM ⟨hcw, hin2, hts _ hinst⟩ ⟨hrec, hpre⟩ rfl (by simp) hl.1 (by simp [vtr]) (lv_room (by rw [vcat_tr]; exact hcat)) hd ⟨by omega, by omega⟩
  exact vRun_vJ hn2 hnE (Or.inr hok) hC hD hl hR hrun
end VE1
end
section
/-! the methods; each word by its place in lw_tbl -/
def mX6_init : vMeth := (yX6_init, cX6_init, 1, none)
theorem co_X6_init : Cond.code yX6_init cX6_init 1 none ∈ vtb := vtb_in 66 (by decide +kernel) rfl
def mX1_init : vMeth := (yX1_init, cX1_init, 2, none)
theorem co_X1_init : Cond.code yX1_init cX1_init 2 none ∈ vtb := vtb_in 74 (by decide +kernel) rfl
def mX0_init : vMeth := (yX0_init, cX0_init, 1, none)
theorem co_X0_init : Cond.code yX0_init cX0_init 1 none ∈ vtb := vtb_in 81 (by decide +kernel) rfl
def mJ7_fill_53178 : vMeth := (yJ7_fill_53178, cJ7_fill_53178, 4, none)
theorem co_J7_fill_53178 : Cond.code yJ7_fill_53178 cJ7_fill_53178 4 none ∈ vtb := vtb_in 137 (by decide +kernel) rfl
def mX1_begin : vMeth := (yX1_begin, cX1_begin, 4, none)
theorem co_X1_begin : Cond.code yX1_begin cX1_begin 4 none ∈ vtb := vtb_in 141 (by decide +kernel) rfl
def mX2_init : vMeth := (yX2_init, cX2_init, 2, none)
theorem co_X2_init : Cond.code yX2_init cX2_init 2 none ∈ vtb := vtb_in 181 (by decide +kernel) rfl
def mX5_init : vMeth := (yX5_init, cX5_init, 3, none)
theorem co_X5_init : Cond.code yX5_init cX5_init 3 none ∈ vtb := vtb_in 206 (by decide +kernel) rfl
def mX4_init : vMeth := (yX4_init, cX4_init, 1, none)
theorem co_X4_init : Cond.code yX4_init cX4_init 1 none ∈ vtb := vtb_in 212 (by decide +kernel) rfl
def mX3_init : vMeth := (yX3_init, cX3_init, 3, none)
theorem co_X3_init : Cond.code yX3_init cX3_init 3 none ∈ vtb := vtb_in 257 (by decide +kernel) rfl
def mX6_table : vMeth := (yX6_table, cX6_table, 4, (some .int))
theorem co_X6_table : Cond.code yX6_table cX6_table 4 (some .int) ∈ vtb := vtb_in 328 (by decide +kernel) rfl
def mX6_isWithin : vMeth := (yX6_isWithin, cX6_isWithin, 3, (some .boolean))
theorem co_X6_isWithin : Cond.code yX6_isWithin cX6_isWithin 3 (some .boolean) ∈ vtb := vtb_in 331 (by decide +kernel) rfl
def mX5_forget : vMeth := (yX5_forget, cX5_forget, 1, none)
theorem co_X5_forget : Cond.code yX5_forget cX5_forget 1 none ∈ vtb := vtb_in 336 (by decide +kernel) rfl
def mX3_forget : vMeth := (yX3_forget, cX3_forget, 1, none)
theorem co_X3_forget : Cond.code yX3_forget cX3_forget 1 none ∈ vtb := vtb_in 341 (by decide +kernel) rfl
def mX6_weight : vMeth := (yX6_weight, cX6_weight, 4, (some .int))
theorem co_X6_weight : Cond.code yX6_weight cX6_weight 4 (some .int) ∈ vtb := vtb_in 345 (by decide +kernel) rfl
def mX6_note : vMeth := (yX6_note, cX6_note, 4, (some .int))
theorem co_X6_note : Cond.code yX6_note cX6_note 4 (some .int) ∈ vtb := vtb_in 349 (by decide +kernel) rfl
def mX6_cell : vMeth := (yX6_cell, cX6_cell, 7, (some .int))
theorem co_X6_cell : Cond.code yX6_cell cX6_cell 7 (some .int) ∈ vtb := vtb_in 353 (by decide +kernel) rfl
def mX6_isPlace : vMeth := (yX6_isPlace, cX6_isPlace, 3, (some .boolean))
theorem co_X6_isPlace : Cond.code yX6_isPlace cX6_isPlace 3 (some .boolean) ∈ vtb := vtb_in 357 (by decide +kernel) rfl
def mX6_tell : vMeth := (yX6_tell, cX6_tell, 2, (some .int))
theorem co_X6_tell : Cond.code yX6_tell cX6_tell 2 (some .int) ∈ vtb := vtb_in 361 (by decide +kernel) rfl
def mX1_firstOn : vMeth := (yX1_firstOn, cX1_firstOn, 7, (some .int))
theorem co_X1_firstOn : Cond.code yX1_firstOn cX1_firstOn 7 (some .int) ∈ vtb := vtb_in 365 (by decide +kernel) rfl
def mX1_present : vMeth := (yX1_present, cX1_present, 3, (some (.object "TableSetter$Cell")))
theorem co_X1_present : Cond.code yX1_present cX1_present 3 (some (.object "TableSetter$Cell")) ∈ vtb := vtb_in 369 (by decide +kernel) rfl
def mX1_numbered : vMeth := (yX1_numbered, cX1_numbered, 2, (some (.object "TableSetter$Cell")))
theorem co_X1_numbered : Cond.code yX1_numbered cX1_numbered 2 (some (.object "TableSetter$Cell")) ∈ vtb := vtb_in 373 (by decide +kernel) rfl
def mX0_meets : vMeth := (yX0_meets, cX0_meets, 5, (some .boolean))
theorem co_X0_meets : Cond.code yX0_meets cX0_meets 5 (some .boolean) ∈ vtb := vtb_in 377 (by decide +kernel) rfl
def mX1_add : vMeth := (yX1_add, cX1_add, 6, (some .int))
theorem co_X1_add : Cond.code yX1_add cX1_add 6 (some .int) ∈ vtb := vtb_in 381 (by decide +kernel) rfl
def mX0_begin : vMeth := (yX0_begin, cX0_begin, 6, none)
theorem co_X0_begin : Cond.code yX0_begin cX0_begin 6 none ∈ vtb := vtb_in 385 (by decide +kernel) rfl
def mX0_fill : vMeth := (yX0_fill, cX0_fill, 2, none)
theorem co_X0_fill : Cond.code yX0_fill cX0_fill 2 none ∈ vtb := vtb_in 389 (by decide +kernel) rfl
def mX0_forgetLines : vMeth := (yX0_forgetLines, cX0_forgetLines, 1, none)
theorem co_X0_forgetLines : Cond.code yX0_forgetLines cX0_forgetLines 1 none ∈ vtb := vtb_in 394 (by decide +kernel) rfl
def mX6_clash : vMeth := (yX6_clash, cX6_clash, 1, (some .int))
theorem co_X6_clash : Cond.code yX6_clash cX6_clash 1 (some .int) ∈ vtb := vtb_in 398 (by decide +kernel) rfl
def mX6_drop : vMeth := (yX6_drop, cX6_drop, 3, (some .int))
theorem co_X6_drop : Cond.code yX6_drop cX6_drop 3 (some .int) ∈ vtb := vtb_in 402 (by decide +kernel) rfl
def mX6_told : vMeth := (yX6_told, cX6_told, 4, (some .int))
theorem co_X6_told : Cond.code yX6_told cX6_told 4 (some .int) ∈ vtb := vtb_in 407 (by decide +kernel) rfl
def mX0_fact : vMeth := (yX0_fact, cX0_fact, 2, (some .int))
theorem co_X0_fact : Cond.code yX0_fact cX0_fact 2 (some .int) ∈ vtb := vtb_in 411 (by decide +kernel) rfl
def mX6_is : vMeth := (yX6_is, cX6_is, 4, (some .int))
theorem co_X6_is : Cond.code yX6_is cX6_is 4 (some .int) ∈ vtb := vtb_in 415 (by decide +kernel) rfl
def mX6_on : vMeth := (yX6_on, cX6_on, 3, (some .int))
theorem co_X6_on : Cond.code yX6_on cX6_on 3 (some .int) ∈ vtb := vtb_in 419 (by decide +kernel) rfl
def mX6_words : vMeth := (yX6_words, cX6_words, 4, (some .int))
theorem co_X6_words : Cond.code yX6_words cX6_words 4 (some .int) ∈ vtb := vtb_in 423 (by decide +kernel) rfl
def mX6_word : vMeth := (yX6_word, cX6_word, 5, (some .int))
theorem co_X6_word : Cond.code yX6_word cX6_word 5 (some .int) ∈ vtb := vtb_in 428 (by decide +kernel) rfl
def mX0_holds : vMeth := (yX0_holds, cX0_holds, 3, (some .boolean))
theorem co_X0_holds : Cond.code yX0_holds cX0_holds 3 (some .boolean) ∈ vtb := vtb_in 432 (by decide +kernel) rfl
def mX0_exchange : vMeth := (yX0_exchange, cX0_exchange, 4, (some .int))
theorem co_X0_exchange : Cond.code yX0_exchange cX0_exchange 4 (some .int) ∈ vtb := vtb_in 436 (by decide +kernel) rfl
def mX6_copy : vMeth := (yX6_copy, cX6_copy, 8, (some .int))
theorem co_X6_copy : Cond.code yX6_copy cX6_copy 8 (some .int) ∈ vtb := vtb_in 440 (by decide +kernel) rfl
def mX0_take : vMeth := (yX0_take, cX0_take, 5, none)
theorem co_X0_take : Cond.code yX0_take cX0_take 5 none ∈ vtb := vtb_in 444 (by decide +kernel) rfl
def mX6_mean : vMeth := (yX6_mean, cX6_mean, 3, (some .int))
theorem co_X6_mean : Cond.code yX6_mean cX6_mean 3 (some .int) ∈ vtb := vtb_in 452 (by decide +kernel) rfl
def mX0_allLetters : vMeth := (yX0_allLetters, cX0_allLetters, 3, (some .int))
theorem co_X0_allLetters : Cond.code yX0_allLetters cX0_allLetters 3 (some .int) ∈ vtb := vtb_in 456 (by decide +kernel) rfl
def mX6_calls : vMeth := (yX6_calls, cX6_calls, 5, (some .int))
theorem co_X6_calls : Cond.code yX6_calls cX6_calls 5 (some .int) ∈ vtb := vtb_in 460 (by decide +kernel) rfl
def mX6_fix : vMeth := (yX6_fix, cX6_fix, 5, (some .int))
theorem co_X6_fix : Cond.code yX6_fix cX6_fix 5 (some .int) ∈ vtb := vtb_in 464 (by decide +kernel) rfl
def mX6_lines : vMeth := (yX6_lines, cX6_lines, 4, (some .int))
theorem co_X6_lines : Cond.code yX6_lines cX6_lines 4 (some .int) ∈ vtb := vtb_in 468 (by decide +kernel) rfl
def mX0_linesIn : vMeth := (yX0_linesIn, cX0_linesIn, 3, (some .int))
theorem co_X0_linesIn : Cond.code yX0_linesIn cX0_linesIn 3 (some .int) ∈ vtb := vtb_in 472 (by decide +kernel) rfl
def mX0_countLines : vMeth := (yX0_countLines, cX0_countLines, 7, (some .int))
theorem co_X0_countLines : Cond.code yX0_countLines cX0_countLines 7 (some .int) ∈ vtb := vtb_in 479 (by decide +kernel) rfl
def mX6_want : vMeth := (yX6_want, cX6_want, 4, (some .int))
theorem co_X6_want : Cond.code yX6_want cX6_want 4 (some .int) ∈ vtb := vtb_in 483 (by decide +kernel) rfl
def mX0_wanted : vMeth := (yX0_wanted, cX0_wanted, 2, (some .int))
theorem co_X0_wanted : Cond.code yX0_wanted cX0_wanted 2 (some .int) ∈ vtb := vtb_in 487 (by decide +kernel) rfl
def mX0_longestPiece : vMeth := (yX0_longestPiece, cX0_longestPiece, 3, (some .int))
theorem co_X0_longestPiece : Cond.code yX0_longestPiece cX0_longestPiece 3 (some .int) ∈ vtb := vtb_in 491 (by decide +kernel) rfl
def mX6_natural : vMeth := (yX6_natural, cX6_natural, 3, (some .int))
theorem co_X6_natural : Cond.code yX6_natural cX6_natural 3 (some .int) ∈ vtb := vtb_in 496 (by decide +kernel) rfl
def mX5_measure : vMeth := (yX5_measure, cX5_measure, 2, none)
theorem co_X5_measure : Cond.code yX5_measure cX5_measure 2 none ∈ vtb := vtb_in 500 (by decide +kernel) rfl
def mX5_measureFor : vMeth := (yX5_measureFor, cX5_measureFor, 6, none)
theorem co_X5_measureFor : Cond.code yX5_measureFor cX5_measureFor 6 none ∈ vtb := vtb_in 504 (by decide +kernel) rfl
def mX1_spanOf : vMeth := (yX1_spanOf, cX1_spanOf, 6, (some .int))
theorem co_X1_spanOf : Cond.code yX1_spanOf cX1_spanOf 6 (some .int) ∈ vtb := vtb_in 510 (by decide +kernel) rfl
def mX5_noteLack : vMeth := (yX5_noteLack, cX5_noteLack, 4, none)
theorem co_X5_noteLack : Cond.code yX5_noteLack cX5_noteLack 4 none ∈ vtb := vtb_in 517 (by decide +kernel) rfl
def mX4_divide : vMeth := (yX4_divide, cX4_divide, 9, none)
theorem co_X4_divide : Cond.code yX4_divide cX4_divide 9 none ∈ vtb := vtb_in 521 (by decide +kernel) rfl
def mX4_giveOne : vMeth := (yX4_giveOne, cX4_giveOne, 5, none)
theorem co_X4_giveOne : Cond.code yX4_giveOne cX4_giveOne 5 none ∈ vtb := vtb_in 527 (by decide +kernel) rfl
def mX5_addTo : vMeth := (yX5_addTo, cX5_addTo, 4, none)
theorem co_X5_addTo : Cond.code yX5_addTo cX5_addTo 4 none ∈ vtb := vtb_in 532 (by decide +kernel) rfl
def mX6_set : vMeth := (yX6_set, cX6_set, 3, (some .int))
theorem co_X6_set : Cond.code yX6_set cX6_set 3 (some .int) ∈ vtb := vtb_in 536 (by decide +kernel) rfl
def mX5_spareOf : vMeth := (yX5_spareOf, cX5_spareOf, 2, (some .int))
theorem co_X5_spareOf : Cond.code yX5_spareOf cX5_spareOf 2 (some .int) ∈ vtb := vtb_in 540 (by decide +kernel) rfl
def mX1_gaps : vMeth := (yX1_gaps, cX1_gaps, 1, (some .int))
theorem co_X1_gaps : Cond.code yX1_gaps cX1_gaps 1 (some .int) ∈ vtb := vtb_in 544 (by decide +kernel) rfl
def mX5_sumOf : vMeth := (yX5_sumOf, cX5_sumOf, 4, (some .int))
theorem co_X5_sumOf : Cond.code yX5_sumOf cX5_sumOf 4 (some .int) ∈ vtb := vtb_in 548 (by decide +kernel) rfl
def mX5_spread : vMeth := (yX5_spread, cX5_spread, 4, none)
theorem co_X5_spread : Cond.code yX5_spread cX5_spread 4 none ∈ vtb := vtb_in 552 (by decide +kernel) rfl
def mX6_heightOfTable : vMeth := (yX6_heightOfTable, cX6_heightOfTable, 1, (some .int))
theorem co_X6_heightOfTable : Cond.code yX6_heightOfTable cX6_heightOfTable 1 (some .int) ∈ vtb := vtb_in 557 (by decide +kernel) rfl
def mX2_sortCells : vMeth := (yX2_sortCells, cX2_sortCells, 4, none)
theorem co_X2_sortCells : Cond.code yX2_sortCells cX2_sortCells 4 none ∈ vtb := vtb_in 561 (by decide +kernel) rfl
def mX2_measure : vMeth := (yX2_measure, cX2_measure, 5, (some .int))
theorem co_X2_measure : Cond.code yX2_measure cX2_measure 5 (some .int) ∈ vtb := vtb_in 566 (by decide +kernel) rfl
def mX2_grow : vMeth := (yX2_grow, cX2_grow, 2, none)
theorem co_X2_grow : Cond.code yX2_grow cX2_grow 2 none ∈ vtb := vtb_in 571 (by decide +kernel) rfl
def mX2_noteLack : vMeth := (yX2_noteLack, cX2_noteLack, 6, none)
theorem co_X2_noteLack : Cond.code yX2_noteLack cX2_noteLack 6 none ∈ vtb := vtb_in 577 (by decide +kernel) rfl
def mX2_sum : vMeth := (yX2_sum, cX2_sum, 3, (some .int))
theorem co_X2_sum : Cond.code yX2_sum cX2_sum 3 (some .int) ∈ vtb := vtb_in 583 (by decide +kernel) rfl
def mX6_tight : vMeth := (yX6_tight, cX6_tight, 6, (some .int))
theorem co_X6_tight : Cond.code yX6_tight cX6_tight 6 (some .int) ∈ vtb := vtb_in 587 (by decide +kernel) rfl
def mX5_waysToSpread : vMeth := (yX5_waysToSpread, cX5_waysToSpread, 5, (some .long))
theorem co_X5_waysToSpread : Cond.code yX5_waysToSpread cX5_waysToSpread 5 (some .long) ∈ vtb := vtb_in 591 (by decide +kernel) rfl
def mX5_tighten : vMeth := (yX5_tighten, cX5_tighten, 6, (some .int))
theorem co_X5_tighten : Cond.code yX5_tighten cX5_tighten 6 (some .int) ∈ vtb := vtb_in 595 (by decide +kernel) rfl
def mX5_addToLast : vMeth := (yX5_addToLast, cX5_addToLast, 3, none)
theorem co_X5_addToLast : Cond.code yX5_addToLast cX5_addToLast 3 none ∈ vtb := vtb_in 599 (by decide +kernel) rfl
def mX5_tryNext : vMeth := (yX5_tryNext, cX5_tryNext, 3, none)
theorem co_X5_tryNext : Cond.code yX5_tryNext cX5_tryNext 3 none ∈ vtb := vtb_in 605 (by decide +kernel) rfl
def mX6_tries : vMeth := (yX6_tries, cX6_tries, 1, (some .int))
theorem co_X6_tries : Cond.code yX6_tries cX6_tries 1 (some .int) ∈ vtb := vtb_in 610 (by decide +kernel) rfl
def mX6_width : vMeth := (yX6_width, cX6_width, 2, (some .int))
theorem co_X6_width : Cond.code yX6_width cX6_width 2 (some .int) ∈ vtb := vtb_in 614 (by decide +kernel) rfl
def mX6_height : vMeth := (yX6_height, cX6_height, 2, (some .int))
theorem co_X6_height : Cond.code yX6_height cX6_height 2 (some .int) ∈ vtb := vtb_in 618 (by decide +kernel) rfl
def mX6_pages : vMeth := (yX6_pages, cX6_pages, 2, (some .int))
theorem co_X6_pages : Cond.code yX6_pages cX6_pages 2 (some .int) ∈ vtb := vtb_in 622 (by decide +kernel) rfl
def mX3_make : vMeth := (yX3_make, cX3_make, 3, (some .int))
theorem co_X3_make : Cond.code yX3_make cX3_make 3 (some .int) ∈ vtb := vtb_in 626 (by decide +kernel) rfl
def mX1_headRows : vMeth := (yX1_headRows, cX1_headRows, 2, (some .int))
theorem co_X1_headRows : Cond.code yX1_headRows cX1_headRows 2 (some .int) ∈ vtb := vtb_in 630 (by decide +kernel) rfl
def mX1_hasHead : vMeth := (yX1_hasHead, cX1_hasHead, 4, (some .boolean))
theorem co_X1_hasHead : Cond.code yX1_hasHead cX1_hasHead 4 (some .boolean) ∈ vtb := vtb_in 634 (by decide +kernel) rfl
def mX0_liesOnRow : vMeth := (yX0_liesOnRow, cX0_liesOnRow, 2, (some .boolean))
theorem co_X0_liesOnRow : Cond.code yX0_liesOnRow cX0_liesOnRow 2 (some .boolean) ∈ vtb := vtb_in 638 (by decide +kernel) rfl
def mX3_findHomes : vMeth := (yX3_findHomes, cX3_findHomes, 4, none)
theorem co_X3_findHomes : Cond.code yX3_findHomes cX3_findHomes 4 none ∈ vtb := vtb_in 643 (by decide +kernel) rfl
def mX1_firstCall : vMeth := (yX1_firstCall, cX1_firstCall, 5, (some .int))
theorem co_X1_firstCall : Cond.code yX1_firstCall cX1_firstCall 5 (some .int) ∈ vtb := vtb_in 648 (by decide +kernel) rfl
def mX1_breaksAhead : vMeth := (yX1_breaksAhead, cX1_breaksAhead, 5, (some .boolean))
theorem co_X1_breaksAhead : Cond.code yX1_breaksAhead cX1_breaksAhead 5 (some .boolean) ∈ vtb := vtb_in 653 (by decide +kernel) rfl
def mX3_planFrom : vMeth := (yX3_planFrom, cX3_planFrom, 5, none)
theorem co_X3_planFrom : Cond.code yX3_planFrom cX3_planFrom 5 none ∈ vtb := vtb_in 657 (by decide +kernel) rfl
def mX3_isAlone : vMeth := (yX3_isAlone, cX3_isAlone, 3, (some .boolean))
theorem co_X3_isAlone : Cond.code yX3_isAlone cX3_isAlone 3 (some .boolean) ∈ vtb := vtb_in 661 (by decide +kernel) rfl
def mX3_weigh : vMeth := (yX3_weigh, cX3_weigh, 7, none)
theorem co_X3_weigh : Cond.code yX3_weigh cX3_weigh 7 none ∈ vtb := vtb_in 665 (by decide +kernel) rfl
def mX3_layOut : vMeth := (yX3_layOut, cX3_layOut, 5, none)
theorem co_X3_layOut : Cond.code yX3_layOut cX3_layOut 5 none ∈ vtb := vtb_in 669 (by decide +kernel) rfl
def mX6_page : vMeth := (yX6_page, cX6_page, 3, (some .int))
theorem co_X6_page : Cond.code yX6_page cX6_page 3 (some .int) ∈ vtb := vtb_in 673 (by decide +kernel) rfl
def mX6_pageOf : vMeth := (yX6_pageOf, cX6_pageOf, 2, (some .int))
theorem co_X6_pageOf : Cond.code yX6_pageOf cX6_pageOf 2 (some .int) ∈ vtb := vtb_in 677 (by decide +kernel) rfl
def mX3_holding : vMeth := (yX3_holding, cX3_holding, 3, (some .int))
theorem co_X3_holding : Cond.code yX3_holding cX3_holding 3 (some .int) ∈ vtb := vtb_in 681 (by decide +kernel) rfl
def mX6_mayBreak : vMeth := (yX6_mayBreak, cX6_mayBreak, 2, (some .int))
theorem co_X6_mayBreak : Cond.code yX6_mayBreak cX6_mayBreak 2 (some .int) ∈ vtb := vtb_in 685 (by decide +kernel) rfl
def mX6_count : vMeth := (yX6_count, cX6_count, 2, (some .int))
theorem co_X6_count : Cond.code yX6_count cX6_count 2 (some .int) ∈ vtb := vtb_in 691 (by decide +kernel) rfl
def mX1_presentCells : vMeth := (yX1_presentCells, cX1_presentCells, 3, (some .int))
theorem co_X1_presentCells : Cond.code yX1_presentCells cX1_presentCells 3 (some .int) ∈ vtb := vtb_in 695 (by decide +kernel) rfl
def mX6_finding : vMeth := (yX6_finding, cX6_finding, 1, (some .int))
theorem co_X6_finding : Cond.code yX6_finding cX6_finding 1 (some .int) ∈ vtb := vtb_in 699 (by decide +kernel) rfl
def mX6_findings : vMeth := (yX6_findings, cX6_findings, 2, (some .int))
theorem co_X6_findings : Cond.code yX6_findings cX6_findings 2 (some .int) ∈ vtb := vtb_in 703 (by decide +kernel) rfl
def mX6_digest : vMeth := (yX6_digest, cX6_digest, 5, (some .long))
theorem co_X6_digest : Cond.code yX6_digest cX6_digest 5 (some .long) ∈ vtb := vtb_in 707 (by decide +kernel) rfl
def mX6_mixed : vMeth := (yX6_mixed, cX6_mixed, 7, (some .long))
theorem co_X6_mixed : Cond.code yX6_mixed cX6_mixed 7 (some .long) ∈ vtb := vtb_in 712 (by decide +kernel) rfl
def mX6_mixedCell : vMeth := (yX6_mixedCell, cX6_mixedCell, 6, (some .long))
theorem co_X6_mixedCell : Cond.code yX6_mixedCell cX6_mixedCell 6 (some .long) ∈ vtb := vtb_in 716 (by decide +kernel) rfl
def mX7_init : vMeth := (yX7_init, cX7_init, 2, none)
theorem co_X7_init : Cond.code yX7_init cX7_init 2 none ∈ vtb := vtb_in 721 (by decide +kernel) rfl
def mX7_begin : vMeth := (yX7_begin, cX7_begin, 5, none)
theorem co_X7_begin : Cond.code yX7_begin cX7_begin 5 none ∈ vtb := vtb_in 726 (by decide +kernel) rfl
def mX7_finding : vMeth := (yX7_finding, cX7_finding, 1, (some .int))
theorem co_X7_finding : Cond.code yX7_finding cX7_finding 1 (some .int) ∈ vtb := vtb_in 856 (by decide +kernel) rfl
def mX7_findings : vMeth := (yX7_findings, cX7_findings, 2, (some .int))
theorem co_X7_findings : Cond.code yX7_findings cX7_findings 2 (some .int) ∈ vtb := vtb_in 860 (by decide +kernel) rfl
def mX7_in : vMeth := (yX7_in, cX7_in, 3, (some .boolean))
theorem co_X7_in : Cond.code yX7_in cX7_in 3 (some .boolean) ∈ vtb := vtb_in 863 (by decide +kernel) rfl
def mX7_table : vMeth := (yX7_table, cX7_table, 4, (some .int))
theorem co_X7_table : Cond.code yX7_table cX7_table 4 (some .int) ∈ vtb := vtb_in 867 (by decide +kernel) rfl
def mX7_weight : vMeth := (yX7_weight, cX7_weight, 4, (some .int))
theorem co_X7_weight : Cond.code yX7_weight cX7_weight 4 (some .int) ∈ vtb := vtb_in 871 (by decide +kernel) rfl
def mX7_isColumn : vMeth := (yX7_isColumn, cX7_isColumn, 2, (some .boolean))
theorem co_X7_isColumn : Cond.code yX7_isColumn cX7_isColumn 2 (some .boolean) ∈ vtb := vtb_in 875 (by decide +kernel) rfl
def mX7_note : vMeth := (yX7_note, cX7_note, 4, (some .int))
theorem co_X7_note : Cond.code yX7_note cX7_note 4 (some .int) ∈ vtb := vtb_in 879 (by decide +kernel) rfl
def mX7_cell : vMeth := (yX7_cell, cX7_cell, 10, (some .int))
theorem co_X7_cell : Cond.code yX7_cell cX7_cell 10 (some .int) ∈ vtb := vtb_in 883 (by decide +kernel) rfl
def mX7_isRow : vMeth := (yX7_isRow, cX7_isRow, 2, (some .boolean))
theorem co_X7_isRow : Cond.code yX7_isRow cX7_isRow 2 (some .boolean) ∈ vtb := vtb_in 887 (by decide +kernel) rfl
def mX7_meets : vMeth := (yX7_meets, cX7_meets, 2, (some .int))
theorem co_X7_meets : Cond.code yX7_meets cX7_meets 2 (some .int) ∈ vtb := vtb_in 891 (by decide +kernel) rfl
def mX7_cellOn : vMeth := (yX7_cellOn, cX7_cellOn, 4, (some .int))
theorem co_X7_cellOn : Cond.code yX7_cellOn cX7_cellOn 4 (some .int) ∈ vtb := vtb_in 895 (by decide +kernel) rfl
def mX7_liesOn : vMeth := (yX7_liesOn, cX7_liesOn, 4, (some .boolean))
theorem co_X7_liesOn : Cond.code yX7_liesOn cX7_liesOn 4 (some .boolean) ∈ vtb := vtb_in 899 (by decide +kernel) rfl
def mX7_clash : vMeth := (yX7_clash, cX7_clash, 1, (some .int))
theorem co_X7_clash : Cond.code yX7_clash cX7_clash 1 (some .int) ∈ vtb := vtb_in 903 (by decide +kernel) rfl
def mX7_drop : vMeth := (yX7_drop, cX7_drop, 2, (some .int))
theorem co_X7_drop : Cond.code yX7_drop cX7_drop 2 (some .int) ∈ vtb := vtb_in 907 (by decide +kernel) rfl
def mX7_isCell : vMeth := (yX7_isCell, cX7_isCell, 2, (some .boolean))
theorem co_X7_isCell : Cond.code yX7_isCell cX7_isCell 2 (some .boolean) ∈ vtb := vtb_in 911 (by decide +kernel) rfl
def mX7_told : vMeth := (yX7_told, cX7_told, 4, (some .int))
theorem co_X7_told : Cond.code yX7_told cX7_told 4 (some .int) ∈ vtb := vtb_in 915 (by decide +kernel) rfl
def mX7_need : vMeth := (yX7_need, cX7_need, 3, (some .int))
theorem co_X7_need : Cond.code yX7_need cX7_need 3 (some .int) ∈ vtb := vtb_in 919 (by decide +kernel) rfl
def mX7_toldOf : vMeth := (yX7_toldOf, cX7_toldOf, 3, (some .int))
theorem co_X7_toldOf : Cond.code yX7_toldOf cX7_toldOf 3 (some .int) ∈ vtb := vtb_in 923 (by decide +kernel) rfl
def mX7_is : vMeth := (yX7_is, cX7_is, 4, (some .int))
theorem co_X7_is : Cond.code yX7_is cX7_is 4 (some .int) ∈ vtb := vtb_in 927 (by decide +kernel) rfl
def mX7_on : vMeth := (yX7_on, cX7_on, 3, (some .int))
theorem co_X7_on : Cond.code yX7_on cX7_on 3 (some .int) ∈ vtb := vtb_in 931 (by decide +kernel) rfl
def mX7_words : vMeth := (yX7_words, cX7_words, 5, (some .int))
theorem co_X7_words : Cond.code yX7_words cX7_words 5 (some .int) ∈ vtb := vtb_in 935 (by decide +kernel) rfl
def mX7_word : vMeth := (yX7_word, cX7_word, 6, (some .int))
theorem co_X7_word : Cond.code yX7_word cX7_word 6 (some .int) ∈ vtb := vtb_in 939 (by decide +kernel) rfl
def mX7_copy : vMeth := (yX7_copy, cX7_copy, 7, (some .int))
theorem co_X7_copy : Cond.code yX7_copy cX7_copy 7 (some .int) ∈ vtb := vtb_in 943 (by decide +kernel) rfl
def mX7_mean : vMeth := (yX7_mean, cX7_mean, 3, (some .int))
theorem co_X7_mean : Cond.code yX7_mean cX7_mean 3 (some .int) ∈ vtb := vtb_in 947 (by decide +kernel) rfl
def mX7_lettersOf : vMeth := (yX7_lettersOf, cX7_lettersOf, 4, (some .int))
theorem co_X7_lettersOf : Cond.code yX7_lettersOf cX7_lettersOf 4 (some .int) ∈ vtb := vtb_in 951 (by decide +kernel) rfl
def mX7_calls : vMeth := (yX7_calls, cX7_calls, 5, (some .int))
theorem co_X7_calls : Cond.code yX7_calls cX7_calls 5 (some .int) ∈ vtb := vtb_in 955 (by decide +kernel) rfl
def mX7_fix : vMeth := (yX7_fix, cX7_fix, 5, (some .int))
theorem co_X7_fix : Cond.code yX7_fix cX7_fix 5 (some .int) ∈ vtb := vtb_in 959 (by decide +kernel) rfl
def mX7_lines : vMeth := (yX7_lines, cX7_lines, 4, (some .int))
theorem co_X7_lines : Cond.code yX7_lines cX7_lines 4 (some .int) ∈ vtb := vtb_in 963 (by decide +kernel) rfl
def mX7_linesOf : vMeth := (yX7_linesOf, cX7_linesOf, 9, (some .int))
theorem co_X7_linesOf : Cond.code yX7_linesOf cX7_linesOf 9 (some .int) ∈ vtb := vtb_in 967 (by decide +kernel) rfl
def mX7_want : vMeth := (yX7_want, cX7_want, 4, (some .int))
theorem co_X7_want : Cond.code yX7_want cX7_want 4 (some .int) ∈ vtb := vtb_in 971 (by decide +kernel) rfl
def mX7_wantOf : vMeth := (yX7_wantOf, cX7_wantOf, 5, (some .int))
theorem co_X7_wantOf : Cond.code yX7_wantOf cX7_wantOf 5 (some .int) ∈ vtb := vtb_in 975 (by decide +kernel) rfl
def mX7_natural : vMeth := (yX7_natural, cX7_natural, 3, (some .int))
theorem co_X7_natural : Cond.code yX7_natural cX7_natural 3 (some .int) ∈ vtb := vtb_in 979 (by decide +kernel) rfl
def mX7_layBoth : vMeth := (yX7_layBoth, cX7_layBoth, 2, none)
theorem co_X7_layBoth : Cond.code yX7_layBoth cX7_layBoth 2 none ∈ vtb := vtb_in 983 (by decide +kernel) rfl
def mX7_layWidths : vMeth := (yX7_layWidths, cX7_layWidths, 5, none)
theorem co_X7_layWidths : Cond.code yX7_layWidths cX7_layWidths 5 none ∈ vtb := vtb_in 987 (by decide +kernel) rfl
def mX7_widthOver : vMeth := (yX7_widthOver, cX7_widthOver, 6, (some .int))
theorem co_X7_widthOver : Cond.code yX7_widthOver cX7_widthOver 6 (some .int) ∈ vtb := vtb_in 991 (by decide +kernel) rfl
def mX7_lacks : vMeth := (yX7_lacks, cX7_lacks, 5, none)
theorem co_X7_lacks : Cond.code yX7_lacks cX7_lacks 5 none ∈ vtb := vtb_in 995 (by decide +kernel) rfl
def mX7_share : vMeth := (yX7_share, cX7_share, 8, none)
theorem co_X7_share : Cond.code yX7_share cX7_share 8 none ∈ vtb := vtb_in 999 (by decide +kernel) rfl
def mX7_set : vMeth := (yX7_set, cX7_set, 6, (some .int))
theorem co_X7_set : Cond.code yX7_set cX7_set 6 (some .int) ∈ vtb := vtb_in 1003 (by decide +kernel) rfl
def mX7_sumOf : vMeth := (yX7_sumOf, cX7_sumOf, 4, (some .int))
theorem co_X7_sumOf : Cond.code yX7_sumOf cX7_sumOf 4 (some .int) ∈ vtb := vtb_in 1007 (by decide +kernel) rfl
def mX7_heightBy : vMeth := (yX7_heightBy, cX7_heightBy, 4, (some .int))
theorem co_X7_heightBy : Cond.code yX7_heightBy cX7_heightBy 4 (some .int) ∈ vtb := vtb_in 1011 (by decide +kernel) rfl
def mX7_layHeights : vMeth := (yX7_layHeights, cX7_layHeights, 6, none)
theorem co_X7_layHeights : Cond.code yX7_layHeights cX7_layHeights 6 none ∈ vtb := vtb_in 1015 (by decide +kernel) rfl
def mX7_tight : vMeth := (yX7_tight, cX7_tight, 8, (some .int))
theorem co_X7_tight : Cond.code yX7_tight cX7_tight 8 (some .int) ∈ vtb := vtb_in 1019 (by decide +kernel) rfl
def mX7_next : vMeth := (yX7_next, cX7_next, 3, (some .boolean))
theorem co_X7_next : Cond.code yX7_next cX7_next 3 (some .boolean) ∈ vtb := vtb_in 1023 (by decide +kernel) rfl
def mX7_tries : vMeth := (yX7_tries, cX7_tries, 1, (some .int))
theorem co_X7_tries : Cond.code yX7_tries cX7_tries 1 (some .int) ∈ vtb := vtb_in 1027 (by decide +kernel) rfl
def mX7_width : vMeth := (yX7_width, cX7_width, 2, (some .int))
theorem co_X7_width : Cond.code yX7_width cX7_width 2 (some .int) ∈ vtb := vtb_in 1031 (by decide +kernel) rfl
def mX7_height : vMeth := (yX7_height, cX7_height, 2, (some .int))
theorem co_X7_height : Cond.code yX7_height cX7_height 2 (some .int) ∈ vtb := vtb_in 1035 (by decide +kernel) rfl
def mX7_mayBreak : vMeth := (yX7_mayBreak, cX7_mayBreak, 2, (some .int))
theorem co_X7_mayBreak : Cond.code yX7_mayBreak cX7_mayBreak 2 (some .int) ∈ vtb := vtb_in 1039 (by decide +kernel) rfl
def mX7_mayBreakAt : vMeth := (yX7_mayBreakAt, cX7_mayBreakAt, 5, (some .boolean))
theorem co_X7_mayBreakAt : Cond.code yX7_mayBreakAt cX7_mayBreakAt 5 (some .boolean) ∈ vtb := vtb_in 1043 (by decide +kernel) rfl
def mX7_headRows : vMeth := (yX7_headRows, cX7_headRows, 6, (some .int))
theorem co_X7_headRows : Cond.code yX7_headRows cX7_headRows 6 (some .int) ∈ vtb := vtb_in 1047 (by decide +kernel) rfl
def mX7_pages : vMeth := (yX7_pages, cX7_pages, 11, (some .int))
theorem co_X7_pages : Cond.code yX7_pages cX7_pages 11 (some .int) ∈ vtb := vtb_in 1051 (by decide +kernel) rfl
def mX7_emptyOf : vMeth := (yX7_emptyOf, cX7_emptyOf, 8, (some .int))
theorem co_X7_emptyOf : Cond.code yX7_emptyOf cX7_emptyOf 8 (some .int) ∈ vtb := vtb_in 1055 (by decide +kernel) rfl
def mX7_notesOn : vMeth := (yX7_notesOn, cX7_notesOn, 7, (some .int))
theorem co_X7_notesOn : Cond.code yX7_notesOn cX7_notesOn 7 (some .int) ∈ vtb := vtb_in 1059 (by decide +kernel) rfl
def mX7_homeOf : vMeth := (yX7_homeOf, cX7_homeOf, 6, (some .int))
theorem co_X7_homeOf : Cond.code yX7_homeOf cX7_homeOf 6 (some .int) ∈ vtb := vtb_in 1063 (by decide +kernel) rfl
def mX7_page : vMeth := (yX7_page, cX7_page, 3, (some .int))
theorem co_X7_page : Cond.code yX7_page cX7_page 3 (some .int) ∈ vtb := vtb_in 1067 (by decide +kernel) rfl
def mX7_pageTold : vMeth := (yX7_pageTold, cX7_pageTold, 3, (some .int))
theorem co_X7_pageTold : Cond.code yX7_pageTold cX7_pageTold 3 (some .int) ∈ vtb := vtb_in 1071 (by decide +kernel) rfl
def mX7_pageOf : vMeth := (yX7_pageOf, cX7_pageOf, 2, (some .int))
theorem co_X7_pageOf : Cond.code yX7_pageOf cX7_pageOf 2 (some .int) ∈ vtb := vtb_in 1075 (by decide +kernel) rfl
def mX7_count : vMeth := (yX7_count, cX7_count, 4, (some .int))
theorem co_X7_count : Cond.code yX7_count cX7_count 4 (some .int) ∈ vtb := vtb_in 1079 (by decide +kernel) rfl
def mX7_digest : vMeth := (yX7_digest, cX7_digest, 5, (some .long))
theorem co_X7_digest : Cond.code yX7_digest cX7_digest 5 (some .long) ∈ vtb := vtb_in 1083 (by decide +kernel) rfl
def mX7_digestCell : vMeth := (yX7_digestCell, cX7_digestCell, 7, (some .long))
theorem co_X7_digestCell : Cond.code yX7_digestCell cX7_digestCell 7 (some .long) ∈ vtb := vtb_in 1089 (by decide +kernel) rfl
theorem se_yX6_isPlace : Cond.selects RX6 yX6_isPlace yX6_isPlace ∈ vtb := vtb_in 0 (by decide +kernel) rfl
theorem se_yX6_tell : Cond.selects RX6 yX6_tell yX6_tell ∈ vtb := vtb_in 1 (by decide +kernel) rfl
theorem se_yX0_forgetLines : Cond.selects RX0 yX0_forgetLines yX0_forgetLines ∈ vtb := vtb_in 2 (by decide +kernel) rfl
theorem se_yX0_countLines : Cond.selects RX0 yX0_countLines yX0_countLines ∈ vtb := vtb_in 3 (by decide +kernel) rfl
theorem se_yX0_longestPiece : Cond.selects RX0 yX0_longestPiece yX0_longestPiece ∈ vtb := vtb_in 4 (by decide +kernel) rfl
theorem se_yX5_measureFor : Cond.selects RX5 yX5_measureFor yX5_measureFor ∈ vtb := vtb_in 5 (by decide +kernel) rfl
theorem se_yX5_noteLack : Cond.selects RX5 yX5_noteLack yX5_noteLack ∈ vtb := vtb_in 6 (by decide +kernel) rfl
theorem se_yX4_giveOne : Cond.selects RX4 yX4_giveOne yX4_giveOne ∈ vtb := vtb_in 7 (by decide +kernel) rfl
theorem se_yX5_addTo : Cond.selects RX5 yX5_addTo yX5_addTo ∈ vtb := vtb_in 8 (by decide +kernel) rfl
theorem se_yX5_sumOf : Cond.selects RX5 yX5_sumOf yX5_sumOf ∈ vtb := vtb_in 9 (by decide +kernel) rfl
theorem se_yX6_heightOfTable : Cond.selects RX6 yX6_heightOfTable yX6_heightOfTable ∈ vtb := vtb_in 10 (by decide +kernel) rfl
theorem se_yX2_grow : Cond.selects RX2 yX2_grow yX2_grow ∈ vtb := vtb_in 11 (by decide +kernel) rfl
theorem se_yX2_noteLack : Cond.selects RX2 yX2_noteLack yX2_noteLack ∈ vtb := vtb_in 12 (by decide +kernel) rfl
theorem se_yX2_sum : Cond.selects RX2 yX2_sum yX2_sum ∈ vtb := vtb_in 13 (by decide +kernel) rfl
theorem se_yX5_addToLast : Cond.selects RX5 yX5_addToLast yX5_addToLast ∈ vtb := vtb_in 14 (by decide +kernel) rfl
theorem se_yX5_tryNext : Cond.selects RX5 yX5_tryNext yX5_tryNext ∈ vtb := vtb_in 15 (by decide +kernel) rfl
theorem se_yX1_hasHead : Cond.selects RX1 yX1_hasHead yX1_hasHead ∈ vtb := vtb_in 16 (by decide +kernel) rfl
theorem se_yX3_findHomes : Cond.selects RX3 yX3_findHomes yX3_findHomes ∈ vtb := vtb_in 17 (by decide +kernel) rfl
theorem se_yX3_planFrom : Cond.selects RX3 yX3_planFrom yX3_planFrom ∈ vtb := vtb_in 18 (by decide +kernel) rfl
theorem se_yX3_isAlone : Cond.selects RX3 yX3_isAlone yX3_isAlone ∈ vtb := vtb_in 19 (by decide +kernel) rfl
theorem se_yX3_weigh : Cond.selects RX3 yX3_weigh yX3_weigh ∈ vtb := vtb_in 20 (by decide +kernel) rfl
theorem se_yX3_layOut : Cond.selects RX3 yX3_layOut yX3_layOut ∈ vtb := vtb_in 21 (by decide +kernel) rfl
theorem se_yX7_begin : Cond.selects RX7 yX7_begin yX7_begin ∈ vtb := vtb_in 22 (by decide +kernel) rfl
theorem se_yX7_isColumn : Cond.selects RX7 yX7_isColumn yX7_isColumn ∈ vtb := vtb_in 23 (by decide +kernel) rfl
theorem se_yX7_isRow : Cond.selects RX7 yX7_isRow yX7_isRow ∈ vtb := vtb_in 24 (by decide +kernel) rfl
theorem se_yX7_meets : Cond.selects RX7 yX7_meets yX7_meets ∈ vtb := vtb_in 25 (by decide +kernel) rfl
theorem se_yX7_cellOn : Cond.selects RX7 yX7_cellOn yX7_cellOn ∈ vtb := vtb_in 26 (by decide +kernel) rfl
theorem se_yX7_liesOn : Cond.selects RX7 yX7_liesOn yX7_liesOn ∈ vtb := vtb_in 27 (by decide +kernel) rfl
theorem se_yX7_isCell : Cond.selects RX7 yX7_isCell yX7_isCell ∈ vtb := vtb_in 28 (by decide +kernel) rfl
theorem se_yX7_need : Cond.selects RX7 yX7_need yX7_need ∈ vtb := vtb_in 29 (by decide +kernel) rfl
theorem se_yX7_toldOf : Cond.selects RX7 yX7_toldOf yX7_toldOf ∈ vtb := vtb_in 30 (by decide +kernel) rfl
theorem se_yX7_lettersOf : Cond.selects RX7 yX7_lettersOf yX7_lettersOf ∈ vtb := vtb_in 31 (by decide +kernel) rfl
theorem se_yX7_linesOf : Cond.selects RX7 yX7_linesOf yX7_linesOf ∈ vtb := vtb_in 32 (by decide +kernel) rfl
theorem se_yX7_wantOf : Cond.selects RX7 yX7_wantOf yX7_wantOf ∈ vtb := vtb_in 33 (by decide +kernel) rfl
theorem se_yX7_layBoth : Cond.selects RX7 yX7_layBoth yX7_layBoth ∈ vtb := vtb_in 34 (by decide +kernel) rfl
theorem se_yX7_layWidths : Cond.selects RX7 yX7_layWidths yX7_layWidths ∈ vtb := vtb_in 35 (by decide +kernel) rfl
theorem se_yX7_widthOver : Cond.selects RX7 yX7_widthOver yX7_widthOver ∈ vtb := vtb_in 36 (by decide +kernel) rfl
theorem se_yX7_lacks : Cond.selects RX7 yX7_lacks yX7_lacks ∈ vtb := vtb_in 37 (by decide +kernel) rfl
theorem se_yX7_share : Cond.selects RX7 yX7_share yX7_share ∈ vtb := vtb_in 38 (by decide +kernel) rfl
theorem se_yX7_sumOf : Cond.selects RX7 yX7_sumOf yX7_sumOf ∈ vtb := vtb_in 39 (by decide +kernel) rfl
theorem se_yX7_heightBy : Cond.selects RX7 yX7_heightBy yX7_heightBy ∈ vtb := vtb_in 40 (by decide +kernel) rfl
theorem se_yX7_layHeights : Cond.selects RX7 yX7_layHeights yX7_layHeights ∈ vtb := vtb_in 41 (by decide +kernel) rfl
theorem se_yX7_next : Cond.selects RX7 yX7_next yX7_next ∈ vtb := vtb_in 42 (by decide +kernel) rfl
theorem se_yX7_mayBreakAt : Cond.selects RX7 yX7_mayBreakAt yX7_mayBreakAt ∈ vtb := vtb_in 43 (by decide +kernel) rfl
theorem se_yX7_headRows : Cond.selects RX7 yX7_headRows yX7_headRows ∈ vtb := vtb_in 44 (by decide +kernel) rfl
theorem se_yX7_emptyOf : Cond.selects RX7 yX7_emptyOf yX7_emptyOf ∈ vtb := vtb_in 45 (by decide +kernel) rfl
theorem se_yX7_notesOn : Cond.selects RX7 yX7_notesOn yX7_notesOn ∈ vtb := vtb_in 46 (by decide +kernel) rfl
theorem se_yX7_homeOf : Cond.selects RX7 yX7_homeOf yX7_homeOf ∈ vtb := vtb_in 47 (by decide +kernel) rfl
theorem se_yX7_pageTold : Cond.selects RX7 yX7_pageTold yX7_pageTold ∈ vtb := vtb_in 48 (by decide +kernel) rfl
theorem se_yX7_digestCell : Cond.selects RX7 yX7_digestCell yX7_digestCell ∈ vtb := vtb_in 49 (by decide +kernel) rfl
theorem in_TableSetterLaw : Cond.initialized RL ∈ vtb := vtb_in 50 (by decide +kernel) rfl
theorem in_TableSetter : Cond.initialized RX6 ∈ vtb := vtb_in 51 (by decide +kernel) rfl
theorem in_TableSetter_Grid : Cond.initialized RX1 ∈ vtb := vtb_in 52 (by decide +kernel) rfl
theorem in_TableSetter_Cell : Cond.initialized RX0 ∈ vtb := vtb_in 53 (by decide +kernel) rfl
theorem in_java_util_Arrays : Cond.initialized RJ7 ∈ vtb := vtb_in 54 (by decide +kernel) rfl
theorem in_TableSetter_Heights : Cond.initialized RX2 ∈ vtb := vtb_in 55 (by decide +kernel) rfl
theorem in_TableSetter_Widths : Cond.initialized RX5 ∈ vtb := vtb_in 56 (by decide +kernel) rfl
theorem in_TableSetter_Share : Cond.initialized RX4 ∈ vtb := vtb_in 57 (by decide +kernel) rfl
theorem in_TableSetter_Pager : Cond.initialized RX3 ∈ vtb := vtb_in 58 (by decide +kernel) rfl
theorem in_TableSetterModel : Cond.initialized RX7 ∈ vtb := vtb_in 59 (by decide +kernel) rfl
theorem in_java_lang_System : Cond.initialized "java/lang/System" ∈ vtb := vtb_in 60 (by decide +kernel) rfl
theorem in_java_lang_Math : Cond.initialized "java/lang/Math" ∈ vtb := vtb_in 61 (by decide +kernel) rfl
theorem cl_RL_7 : Cond.classLink RL 7 RX6 ∈ vtb := vtb_in 62 (by decide +kernel) rfl
theorem it_RX6 : Cond.instantiable RX6 8 ∈ vtb := vtb_in 63 (by decide +kernel) rfl
theorem ml_RL_9 : Cond.methodLink RL 9 yX6_init ∈ vtb := vtb_in 64 (by decide +kernel) rfl
theorem im_yX6_init : Cond.instanceMethod yX6_init ∈ vtb := vtb_in 65 (by decide +kernel) rfl
theorem ml_RX6_1 : Cond.methodLink RX6 1 objectInit ∈ vtb := vtb_in 67 (by decide +kernel) rfl
theorem im_objectInit : Cond.instanceMethod objectInit ∈ vtb := vtb_in 68 (by decide +kernel) rfl
theorem cl_RX6_7 : Cond.classLink RX6 7 RX1 ∈ vtb := vtb_in 70 (by decide +kernel) rfl
theorem it_RX1 : Cond.instantiable RX1 7 ∈ vtb := vtb_in 71 (by decide +kernel) rfl
theorem ml_RX6_9 : Cond.methodLink RX6 9 yX1_init ∈ vtb := vtb_in 72 (by decide +kernel) rfl
theorem im_yX1_init : Cond.instanceMethod yX1_init ∈ vtb := vtb_in 73 (by decide +kernel) rfl
theorem ml_RX1_3 : Cond.methodLink RX1 3 objectInit ∈ vtb := vtb_in 75 (by decide +kernel) rfl
theorem cl_RX1_18 : Cond.classLink RX1 18 RX0 ∈ vtb := vtb_in 76 (by decide +kernel) rfl
theorem it_RX0 : Cond.instantiable RX0 11 ∈ vtb := vtb_in 78 (by decide +kernel) rfl
theorem im_yX0_init : Cond.instanceMethod yX0_init ∈ vtb := vtb_in 80 (by decide +kernel) rfl
theorem ml_RX0_3 : Cond.methodLink RX0 3 objectInit ∈ vtb := vtb_in 82 (by decide +kernel) rfl
theorem fl_RX0_18 : Cond.fieldLink RX0 18 "TableSetter$Cell" "kind" "I" ∈ vtb := vtb_in 83 (by decide +kernel) rfl
theorem fl_RX1_70 : Cond.fieldLink RX1 70 "TableSetter$Cell" "kind" "I" ∈ vtb := vtb_in 84 (by decide +kernel) rfl
theorem fl_RX6_111 : Cond.fieldLink RX6 111 "TableSetter$Cell" "kind" "I" ∈ vtb := vtb_in 85 (by decide +kernel) rfl
theorem fl_RX0_22 : Cond.fieldLink RX0 22 "TableSetter$Cell" "row" "I" ∈ vtb := vtb_in 86 (by decide +kernel) rfl
theorem fl_RX2_73 : Cond.fieldLink RX2 73 "TableSetter$Cell" "row" "I" ∈ vtb := vtb_in 87 (by decide +kernel) rfl
theorem fl_RX1_79 : Cond.fieldLink RX1 79 "TableSetter$Cell" "row" "I" ∈ vtb := vtb_in 88 (by decide +kernel) rfl
theorem fl_RX0_25 : Cond.fieldLink RX0 25 "TableSetter$Cell" "column" "I" ∈ vtb := vtb_in 89 (by decide +kernel) rfl
theorem fl_RX5_98 : Cond.fieldLink RX5 98 "TableSetter$Cell" "column" "I" ∈ vtb := vtb_in 90 (by decide +kernel) rfl
theorem fl_RX1_82 : Cond.fieldLink RX1 82 "TableSetter$Cell" "column" "I" ∈ vtb := vtb_in 91 (by decide +kernel) rfl
theorem fl_RX0_28 : Cond.fieldLink RX0 28 "TableSetter$Cell" "rows" "I" ∈ vtb := vtb_in 92 (by decide +kernel) rfl
theorem fl_RX2_44 : Cond.fieldLink RX2 44 "TableSetter$Cell" "rows" "I" ∈ vtb := vtb_in 93 (by decide +kernel) rfl
theorem fl_RX0_31 : Cond.fieldLink RX0 31 "TableSetter$Cell" "cols" "I" ∈ vtb := vtb_in 94 (by decide +kernel) rfl
theorem fl_RX5_74 : Cond.fieldLink RX5 74 "TableSetter$Cell" "cols" "I" ∈ vtb := vtb_in 95 (by decide +kernel) rfl
theorem fl_RX1_85 : Cond.fieldLink RX1 85 "TableSetter$Cell" "cols" "I" ∈ vtb := vtb_in 96 (by decide +kernel) rfl
theorem fl_RX0_34 : Cond.fieldLink RX0 34 "TableSetter$Cell" "called" "I" ∈ vtb := vtb_in 97 (by decide +kernel) rfl
theorem fl_RX1_76 : Cond.fieldLink RX1 76 "TableSetter$Cell" "called" "I" ∈ vtb := vtb_in 98 (by decide +kernel) rfl
theorem fl_RX6_136 : Cond.fieldLink RX6 136 "TableSetter$Cell" "called" "I" ∈ vtb := vtb_in 99 (by decide +kernel) rfl
theorem fl_RX0_37 : Cond.fieldLink RX0 37 "TableSetter$Cell" "fixedWidth" "I" ∈ vtb := vtb_in 100 (by decide +kernel) rfl
theorem fl_RX6_139 : Cond.fieldLink RX6 139 "TableSetter$Cell" "fixedWidth" "I" ∈ vtb := vtb_in 101 (by decide +kernel) rfl
theorem fl_RX2_45 : Cond.fieldLink RX2 45 "TableSetter$Cell" "pieces" "I" ∈ vtb := vtb_in 102 (by decide +kernel) rfl
theorem fl_RX0_48 : Cond.fieldLink RX0 48 "TableSetter$Cell" "pieces" "I" ∈ vtb := vtb_in 103 (by decide +kernel) rfl
theorem fl_RX6_129 : Cond.fieldLink RX6 129 "TableSetter$Cell" "pieces" "I" ∈ vtb := vtb_in 104 (by decide +kernel) rfl
theorem fl_RX0_40 : Cond.fieldLink RX0 40 "TableSetter$Cell" "gone" "Z" ∈ vtb := vtb_in 105 (by decide +kernel) rfl
theorem fl_RX1_52 : Cond.fieldLink RX1 52 "TableSetter$Cell" "gone" "Z" ∈ vtb := vtb_in 106 (by decide +kernel) rfl
theorem fl_RX6_102 : Cond.fieldLink RX6 102 "TableSetter$Cell" "gone" "Z" ∈ vtb := vtb_in 107 (by decide +kernel) rfl
theorem fl_RX0_9 : Cond.fieldLink RX0 9 "TableSetter$Cell" "letters" "[I" ∈ vtb := vtb_in 108 (by decide +kernel) rfl
theorem fl_RX6_217 : Cond.fieldLink RX6 217 "TableSetter$Cell" "letters" "[I" ∈ vtb := vtb_in 109 (by decide +kernel) rfl
theorem fl_RX0_15 : Cond.fieldLink RX0 15 "TableSetter$Cell" "knownLines" "[I" ∈ vtb := vtb_in 110 (by decide +kernel) rfl
theorem ac_int : Cond.arrayClass .int ∈ vtb := vtb_in 134 (by decide +kernel) rfl
theorem ml_RX1_25 : Cond.methodLink RX1 25 yJ7_fill_53178 ∈ vtb := vtb_in 135 (by decide +kernel) rfl
theorem st_yJ7_fill_53178 : Cond.static yJ7_fill_53178 ∈ vtb := vtb_in 136 (by decide +kernel) rfl
theorem ml_RX1_31 : Cond.methodLink RX1 31 yX1_begin ∈ vtb := vtb_in 138 (by decide +kernel) rfl
theorem im_yX1_begin : Cond.instanceMethod yX1_begin ∈ vtb := vtb_in 139 (by decide +kernel) rfl
theorem se_yX1_begin : Cond.selects RX1 yX1_begin yX1_begin ∈ vtb := vtb_in 140 (by decide +kernel) rfl
theorem fl_RX1_35 : Cond.fieldLink RX1 35 "TableSetter$Grid" "rows" "I" ∈ vtb := vtb_in 142 (by decide +kernel) rfl
theorem fl_RX2_32 : Cond.fieldLink RX2 32 "TableSetter$Grid" "rows" "I" ∈ vtb := vtb_in 143 (by decide +kernel) rfl
theorem fl_RX3_53 : Cond.fieldLink RX3 53 "TableSetter$Grid" "rows" "I" ∈ vtb := vtb_in 144 (by decide +kernel) rfl
theorem fl_RX6_83 : Cond.fieldLink RX6 83 "TableSetter$Grid" "rows" "I" ∈ vtb := vtb_in 145 (by decide +kernel) rfl
theorem fl_RX1_39 : Cond.fieldLink RX1 39 "TableSetter$Grid" "columns" "I" ∈ vtb := vtb_in 146 (by decide +kernel) rfl
theorem fl_RX6_67 : Cond.fieldLink RX6 67 "TableSetter$Grid" "columns" "I" ∈ vtb := vtb_in 147 (by decide +kernel) rfl
theorem fl_RX5_61 : Cond.fieldLink RX5 61 "TableSetter$Grid" "columns" "I" ∈ vtb := vtb_in 148 (by decide +kernel) rfl
theorem fl_RX1_42 : Cond.fieldLink RX1 42 "TableSetter$Grid" "gap" "I" ∈ vtb := vtb_in 149 (by decide +kernel) rfl
theorem fl_RX6_203 : Cond.fieldLink RX6 203 "TableSetter$Grid" "gap" "I" ∈ vtb := vtb_in 150 (by decide +kernel) rfl
theorem fl_RX1_45 : Cond.fieldLink RX1 45 "TableSetter$Grid" "ever" "I" ∈ vtb := vtb_in 151 (by decide +kernel) rfl
theorem fl_RX2_37 : Cond.fieldLink RX2 37 "TableSetter$Grid" "ever" "I" ∈ vtb := vtb_in 152 (by decide +kernel) rfl
theorem fl_RX5_67 : Cond.fieldLink RX5 67 "TableSetter$Grid" "ever" "I" ∈ vtb := vtb_in 153 (by decide +kernel) rfl
theorem fl_RX6_80 : Cond.fieldLink RX6 80 "TableSetter$Grid" "ever" "I" ∈ vtb := vtb_in 154 (by decide +kernel) rfl
theorem fl_RX1_9 : Cond.fieldLink RX1 9 "TableSetter$Grid" "weights" "[I" ∈ vtb := vtb_in 155 (by decide +kernel) rfl
theorem fl_RX6_70 : Cond.fieldLink RX6 70 "TableSetter$Grid" "weights" "[I" ∈ vtb := vtb_in 156 (by decide +kernel) rfl
theorem fl_RX5_95 : Cond.fieldLink RX5 95 "TableSetter$Grid" "weights" "[I" ∈ vtb := vtb_in 157 (by decide +kernel) rfl
theorem fl_RX1_15 : Cond.fieldLink RX1 15 "TableSetter$Grid" "noteLines" "[I" ∈ vtb := vtb_in 158 (by decide +kernel) rfl
theorem fl_RX6_73 : Cond.fieldLink RX6 73 "TableSetter$Grid" "noteLines" "[I" ∈ vtb := vtb_in 159 (by decide +kernel) rfl
theorem fl_RX3_100 : Cond.fieldLink RX3 100 "TableSetter$Grid" "noteLines" "[I" ∈ vtb := vtb_in 160 (by decide +kernel) rfl
theorem fl_RX1_20 : Cond.fieldLink RX1 20 "TableSetter$Grid" "cells" "[LTableSetter$Cell;" ∈ vtb := vtb_in 161 (by decide +kernel) rfl
theorem cl_RX6_16 : Cond.classLink RX6 16 RX2 ∈ vtb := vtb_in 177 (by decide +kernel) rfl
theorem it_RX2 : Cond.instantiable RX2 5 ∈ vtb := vtb_in 178 (by decide +kernel) rfl
theorem ml_RX6_18 : Cond.methodLink RX6 18 yX2_init ∈ vtb := vtb_in 179 (by decide +kernel) rfl
theorem im_yX2_init : Cond.instanceMethod yX2_init ∈ vtb := vtb_in 180 (by decide +kernel) rfl
theorem ml_RX2_3 : Cond.methodLink RX2 3 objectInit ∈ vtb := vtb_in 182 (by decide +kernel) rfl
theorem cl_RX2_18 : Cond.classLink RX2 18 RX0 ∈ vtb := vtb_in 183 (by decide +kernel) rfl
theorem fl_RX2_9 : Cond.fieldLink RX2 9 "TableSetter$Heights" "now" "[I" ∈ vtb := vtb_in 184 (by decide +kernel) rfl
theorem fl_RX3_68 : Cond.fieldLink RX3 68 "TableSetter$Heights" "now" "[I" ∈ vtb := vtb_in 185 (by decide +kernel) rfl
theorem fl_RX6_176 : Cond.fieldLink RX6 176 "TableSetter$Heights" "now" "[I" ∈ vtb := vtb_in 186 (by decide +kernel) rfl
theorem fl_RX2_28 : Cond.fieldLink RX2 28 "TableSetter$Heights" "grid" "LTableSetter$Grid;" ∈ vtb := vtb_in 187 (by decide +kernel) rfl
theorem fl_RX2_15 : Cond.fieldLink RX2 15 "TableSetter$Heights" "growth" "[I" ∈ vtb := vtb_in 188 (by decide +kernel) rfl
theorem fl_RX2_20 : Cond.fieldLink RX2 20 "TableSetter$Heights" "order" "[LTableSetter$Cell;" ∈ vtb := vtb_in 189 (by decide +kernel) rfl
theorem fl_RX2_24 : Cond.fieldLink RX2 24 "TableSetter$Heights" "ordered" "I" ∈ vtb := vtb_in 190 (by decide +kernel) rfl
theorem cl_RX6_25 : Cond.classLink RX6 25 RX5 ∈ vtb := vtb_in 202 (by decide +kernel) rfl
theorem it_RX5 : Cond.instantiable RX5 9 ∈ vtb := vtb_in 203 (by decide +kernel) rfl
theorem ml_RX6_27 : Cond.methodLink RX6 27 yX5_init ∈ vtb := vtb_in 204 (by decide +kernel) rfl
theorem im_yX5_init : Cond.instanceMethod yX5_init ∈ vtb := vtb_in 205 (by decide +kernel) rfl
theorem ml_RX5_3 : Cond.methodLink RX5 3 objectInit ∈ vtb := vtb_in 207 (by decide +kernel) rfl
theorem cl_RX5_21 : Cond.classLink RX5 21 RX4 ∈ vtb := vtb_in 208 (by decide +kernel) rfl
theorem it_RX4 : Cond.instantiable RX4 2 ∈ vtb := vtb_in 209 (by decide +kernel) rfl
theorem im_yX4_init : Cond.instanceMethod yX4_init ∈ vtb := vtb_in 211 (by decide +kernel) rfl
theorem ml_RX4_3 : Cond.methodLink RX4 3 objectInit ∈ vtb := vtb_in 213 (by decide +kernel) rfl
theorem fl_RX4_9 : Cond.fieldLink RX4 9 "TableSetter$Share" "parts" "[I" ∈ vtb := vtb_in 214 (by decide +kernel) rfl
theorem fl_RX5_105 : Cond.fieldLink RX5 105 "TableSetter$Share" "parts" "[I" ∈ vtb := vtb_in 215 (by decide +kernel) rfl
theorem fl_RX4_15 : Cond.fieldLink RX4 15 "TableSetter$Share" "cutOff" "[I" ∈ vtb := vtb_in 216 (by decide +kernel) rfl
theorem fl_RX5_9 : Cond.fieldLink RX5 9 "TableSetter$Widths" "now" "[I" ∈ vtb := vtb_in 222 (by decide +kernel) rfl
theorem fl_RX6_173 : Cond.fieldLink RX6 173 "TableSetter$Widths" "now" "[I" ∈ vtb := vtb_in 223 (by decide +kernel) rfl
theorem fl_RX5_15 : Cond.fieldLink RX5 15 "TableSetter$Widths" "least" "[I" ∈ vtb := vtb_in 224 (by decide +kernel) rfl
theorem fl_RX6_151 : Cond.fieldLink RX6 151 "TableSetter$Widths" "least" "[I" ∈ vtb := vtb_in 225 (by decide +kernel) rfl
theorem fl_RX5_18 : Cond.fieldLink RX5 18 "TableSetter$Widths" "best" "[I" ∈ vtb := vtb_in 226 (by decide +kernel) rfl
theorem fl_RX6_154 : Cond.fieldLink RX6 154 "TableSetter$Widths" "best" "[I" ∈ vtb := vtb_in 227 (by decide +kernel) rfl
theorem fl_RX5_37 : Cond.fieldLink RX5 37 "TableSetter$Widths" "grid" "LTableSetter$Grid;" ∈ vtb := vtb_in 228 (by decide +kernel) rfl
theorem fl_RX5_41 : Cond.fieldLink RX5 41 "TableSetter$Widths" "heights" "LTableSetter$Heights;" ∈ vtb := vtb_in 229 (by decide +kernel) rfl
theorem fl_RX5_24 : Cond.fieldLink RX5 24 "TableSetter$Widths" "share" "LTableSetter$Share;" ∈ vtb := vtb_in 230 (by decide +kernel) rfl
theorem fl_RX5_28 : Cond.fieldLink RX5 28 "TableSetter$Widths" "growth" "[I" ∈ vtb := vtb_in 231 (by decide +kernel) rfl
theorem fl_RX5_31 : Cond.fieldLink RX5 31 "TableSetter$Widths" "more" "[I" ∈ vtb := vtb_in 232 (by decide +kernel) rfl
theorem fl_RX5_34 : Cond.fieldLink RX5 34 "TableSetter$Widths" "trial" "[I" ∈ vtb := vtb_in 233 (by decide +kernel) rfl
theorem cl_RX6_34 : Cond.classLink RX6 34 RX3 ∈ vtb := vtb_in 253 (by decide +kernel) rfl
theorem it_RX3 : Cond.instantiable RX3 12 ∈ vtb := vtb_in 254 (by decide +kernel) rfl
theorem ml_RX6_36 : Cond.methodLink RX6 36 yX3_init ∈ vtb := vtb_in 255 (by decide +kernel) rfl
theorem im_yX3_init : Cond.instanceMethod yX3_init ∈ vtb := vtb_in 256 (by decide +kernel) rfl
theorem ml_RX3_3 : Cond.methodLink RX3 3 objectInit ∈ vtb := vtb_in 258 (by decide +kernel) rfl
theorem cl_RX3_15 : Cond.classLink RX3 15 "[[I" ∈ vtb := vtb_in 259 (by decide +kernel) rfl
theorem fl_RX3_9 : Cond.fieldLink RX3 9 "TableSetter$Pager" "made" "I" ∈ vtb := vtb_in 261 (by decide +kernel) rfl
theorem fl_RX6_180 : Cond.fieldLink RX6 180 "TableSetter$Pager" "made" "I" ∈ vtb := vtb_in 262 (by decide +kernel) rfl
theorem fl_RX3_17 : Cond.fieldLink RX3 17 "TableSetter$Pager" "facts" "[[I" ∈ vtb := vtb_in 263 (by decide +kernel) rfl
theorem fl_RX6_183 : Cond.fieldLink RX6 183 "TableSetter$Pager" "facts" "[[I" ∈ vtb := vtb_in 264 (by decide +kernel) rfl
theorem fl_RX3_36 : Cond.fieldLink RX3 36 "TableSetter$Pager" "grid" "LTableSetter$Grid;" ∈ vtb := vtb_in 265 (by decide +kernel) rfl
theorem fl_RX3_40 : Cond.fieldLink RX3 40 "TableSetter$Pager" "heights" "LTableSetter$Heights;" ∈ vtb := vtb_in 266 (by decide +kernel) rfl
theorem fl_RX3_20 : Cond.fieldLink RX3 20 "TableSetter$Pager" "homeNotes" "[I" ∈ vtb := vtb_in 267 (by decide +kernel) rfl
theorem fl_RX3_24 : Cond.fieldLink RX3 24 "TableSetter$Pager" "homeLines" "[I" ∈ vtb := vtb_in 268 (by decide +kernel) rfl
theorem fl_RX3_27 : Cond.fieldLink RX3 27 "TableSetter$Pager" "fewest" "[I" ∈ vtb := vtb_in 269 (by decide +kernel) rfl
theorem fl_RX3_30 : Cond.fieldLink RX3 30 "TableSetter$Pager" "waste" "[I" ∈ vtb := vtb_in 270 (by decide +kernel) rfl
theorem fl_RX3_33 : Cond.fieldLink RX3 33 "TableSetter$Pager" "ends" "[I" ∈ vtb := vtb_in 271 (by decide +kernel) rfl
theorem fl_RX3_65 : Cond.fieldLink RX3 65 "TableSetter$Pager" "room" "I" ∈ vtb := vtb_in 272 (by decide +kernel) rfl
theorem fl_RX3_50 : Cond.fieldLink RX3 50 "TableSetter$Pager" "body" "I" ∈ vtb := vtb_in 273 (by decide +kernel) rfl
theorem fl_RX3_62 : Cond.fieldLink RX3 62 "TableSetter$Pager" "last" "I" ∈ vtb := vtb_in 274 (by decide +kernel) rfl
theorem fl_RX6_10 : Cond.fieldLink RX6 10 "TableSetter" "grid" "LTableSetter$Grid;" ∈ vtb := vtb_in 300 (by decide +kernel) rfl
theorem fl_RX6_21 : Cond.fieldLink RX6 21 "TableSetter" "heights" "LTableSetter$Heights;" ∈ vtb := vtb_in 301 (by decide +kernel) rfl
theorem fl_RX6_30 : Cond.fieldLink RX6 30 "TableSetter" "widths" "LTableSetter$Widths;" ∈ vtb := vtb_in 302 (by decide +kernel) rfl
theorem fl_RX6_37 : Cond.fieldLink RX6 37 "TableSetter" "pager" "LTableSetter$Pager;" ∈ vtb := vtb_in 303 (by decide +kernel) rfl
theorem fl_RX6_41 : Cond.fieldLink RX6 41 "TableSetter" "findingCounts" "[I" ∈ vtb := vtb_in 304 (by decide +kernel) rfl
theorem fl_RX6_45 : Cond.fieldLink RX6 45 "TableSetter" "latestFinding" "I" ∈ vtb := vtb_in 305 (by decide +kernel) rfl
theorem fl_RX6_49 : Cond.fieldLink RX6 49 "TableSetter" "latestClash" "I" ∈ vtb := vtb_in 306 (by decide +kernel) rfl
theorem fl_RX6_52 : Cond.fieldLink RX6 52 "TableSetter" "latestTries" "I" ∈ vtb := vtb_in 307 (by decide +kernel) rfl
theorem ml_RL_13 : Cond.methodLink RL 13 yX6_table ∈ vtb := vtb_in 325 (by decide +kernel) rfl
theorem im_yX6_table : Cond.instanceMethod yX6_table ∈ vtb := vtb_in 326 (by decide +kernel) rfl
theorem se_yX6_table : Cond.selects RX6 yX6_table yX6_table ∈ vtb := vtb_in 327 (by decide +kernel) rfl
theorem ml_RX6_55 : Cond.methodLink RX6 55 yX6_isWithin ∈ vtb := vtb_in 329 (by decide +kernel) rfl
theorem st_yX6_isWithin : Cond.static yX6_isWithin ∈ vtb := vtb_in 330 (by decide +kernel) rfl
theorem ml_RX6_59 : Cond.methodLink RX6 59 yX1_begin ∈ vtb := vtb_in 332 (by decide +kernel) rfl
theorem ml_RX6_63 : Cond.methodLink RX6 63 yX5_forget ∈ vtb := vtb_in 333 (by decide +kernel) rfl
theorem im_yX5_forget : Cond.instanceMethod yX5_forget ∈ vtb := vtb_in 334 (by decide +kernel) rfl
theorem se_yX5_forget : Cond.selects RX5 yX5_forget yX5_forget ∈ vtb := vtb_in 335 (by decide +kernel) rfl
theorem ml_RX5_45 : Cond.methodLink RX5 45 yJ7_fill_53178 ∈ vtb := vtb_in 337 (by decide +kernel) rfl
theorem ml_RX6_66 : Cond.methodLink RX6 66 yX3_forget ∈ vtb := vtb_in 338 (by decide +kernel) rfl
theorem im_yX3_forget : Cond.instanceMethod yX3_forget ∈ vtb := vtb_in 339 (by decide +kernel) rfl
theorem se_yX3_forget : Cond.selects RX3 yX3_forget yX3_forget ∈ vtb := vtb_in 340 (by decide +kernel) rfl
theorem ml_RL_18 : Cond.methodLink RL 18 yX6_weight ∈ vtb := vtb_in 342 (by decide +kernel) rfl
theorem im_yX6_weight : Cond.instanceMethod yX6_weight ∈ vtb := vtb_in 343 (by decide +kernel) rfl
theorem se_yX6_weight : Cond.selects RX6 yX6_weight yX6_weight ∈ vtb := vtb_in 344 (by decide +kernel) rfl
theorem ml_RL_23 : Cond.methodLink RL 23 yX6_note ∈ vtb := vtb_in 346 (by decide +kernel) rfl
theorem im_yX6_note : Cond.instanceMethod yX6_note ∈ vtb := vtb_in 347 (by decide +kernel) rfl
theorem se_yX6_note : Cond.selects RX6 yX6_note yX6_note ∈ vtb := vtb_in 348 (by decide +kernel) rfl
theorem ml_RL_27 : Cond.methodLink RL 27 yX6_cell ∈ vtb := vtb_in 350 (by decide +kernel) rfl
theorem im_yX6_cell : Cond.instanceMethod yX6_cell ∈ vtb := vtb_in 351 (by decide +kernel) rfl
theorem se_yX6_cell : Cond.selects RX6 yX6_cell yX6_cell ∈ vtb := vtb_in 352 (by decide +kernel) rfl
theorem ml_RX6_76 : Cond.methodLink RX6 76 yX6_isPlace ∈ vtb := vtb_in 354 (by decide +kernel) rfl
theorem im_yX6_isPlace : Cond.instanceMethod yX6_isPlace ∈ vtb := vtb_in 356 (by decide +kernel) rfl
theorem ml_RX6_86 : Cond.methodLink RX6 86 yX6_tell ∈ vtb := vtb_in 358 (by decide +kernel) rfl
theorem im_yX6_tell : Cond.instanceMethod yX6_tell ∈ vtb := vtb_in 360 (by decide +kernel) rfl
theorem ml_RX6_90 : Cond.methodLink RX6 90 yX1_firstOn ∈ vtb := vtb_in 362 (by decide +kernel) rfl
theorem im_yX1_firstOn : Cond.instanceMethod yX1_firstOn ∈ vtb := vtb_in 363 (by decide +kernel) rfl
theorem se_yX1_firstOn : Cond.selects RX1 yX1_firstOn yX1_firstOn ∈ vtb := vtb_in 364 (by decide +kernel) rfl
theorem ml_RX1_59 : Cond.methodLink RX1 59 yX1_present ∈ vtb := vtb_in 366 (by decide +kernel) rfl
theorem im_yX1_present : Cond.instanceMethod yX1_present ∈ vtb := vtb_in 367 (by decide +kernel) rfl
theorem se_yX1_present : Cond.selects RX1 yX1_present yX1_present ∈ vtb := vtb_in 368 (by decide +kernel) rfl
theorem ml_RX1_48 : Cond.methodLink RX1 48 yX1_numbered ∈ vtb := vtb_in 370 (by decide +kernel) rfl
theorem im_yX1_numbered : Cond.instanceMethod yX1_numbered ∈ vtb := vtb_in 371 (by decide +kernel) rfl
theorem se_yX1_numbered : Cond.selects RX1 yX1_numbered yX1_numbered ∈ vtb := vtb_in 372 (by decide +kernel) rfl
theorem ml_RX1_62 : Cond.methodLink RX1 62 yX0_meets ∈ vtb := vtb_in 374 (by decide +kernel) rfl
theorem im_yX0_meets : Cond.instanceMethod yX0_meets ∈ vtb := vtb_in 375 (by decide +kernel) rfl
theorem se_yX0_meets : Cond.selects RX0 yX0_meets yX0_meets ∈ vtb := vtb_in 376 (by decide +kernel) rfl
theorem ml_RX6_94 : Cond.methodLink RX6 94 yX1_add ∈ vtb := vtb_in 378 (by decide +kernel) rfl
theorem im_yX1_add : Cond.instanceMethod yX1_add ∈ vtb := vtb_in 379 (by decide +kernel) rfl
theorem se_yX1_add : Cond.selects RX1 yX1_add yX1_add ∈ vtb := vtb_in 380 (by decide +kernel) rfl
theorem ml_RX1_56 : Cond.methodLink RX1 56 yX0_begin ∈ vtb := vtb_in 382 (by decide +kernel) rfl
theorem im_yX0_begin : Cond.instanceMethod yX0_begin ∈ vtb := vtb_in 383 (by decide +kernel) rfl
theorem se_yX0_begin : Cond.selects RX0 yX0_begin yX0_begin ∈ vtb := vtb_in 384 (by decide +kernel) rfl
theorem ml_RX0_44 : Cond.methodLink RX0 44 yX0_fill ∈ vtb := vtb_in 386 (by decide +kernel) rfl
theorem im_yX0_fill : Cond.instanceMethod yX0_fill ∈ vtb := vtb_in 387 (by decide +kernel) rfl
theorem se_yX0_fill : Cond.selects RX0 yX0_fill yX0_fill ∈ vtb := vtb_in 388 (by decide +kernel) rfl
theorem ml_RX0_51 : Cond.methodLink RX0 51 yJ7_fill_53178 ∈ vtb := vtb_in 390 (by decide +kernel) rfl
theorem ml_RX0_56 : Cond.methodLink RX0 56 yX0_forgetLines ∈ vtb := vtb_in 391 (by decide +kernel) rfl
theorem im_yX0_forgetLines : Cond.instanceMethod yX0_forgetLines ∈ vtb := vtb_in 393 (by decide +kernel) rfl
theorem ml_RL_32 : Cond.methodLink RL 32 yX6_clash ∈ vtb := vtb_in 395 (by decide +kernel) rfl
theorem im_yX6_clash : Cond.instanceMethod yX6_clash ∈ vtb := vtb_in 396 (by decide +kernel) rfl
theorem se_yX6_clash : Cond.selects RX6 yX6_clash yX6_clash ∈ vtb := vtb_in 397 (by decide +kernel) rfl
theorem ml_RL_37 : Cond.methodLink RL 37 yX6_drop ∈ vtb := vtb_in 399 (by decide +kernel) rfl
theorem im_yX6_drop : Cond.instanceMethod yX6_drop ∈ vtb := vtb_in 400 (by decide +kernel) rfl
theorem se_yX6_drop : Cond.selects RX6 yX6_drop yX6_drop ∈ vtb := vtb_in 401 (by decide +kernel) rfl
theorem ml_RX6_98 : Cond.methodLink RX6 98 yX1_numbered ∈ vtb := vtb_in 403 (by decide +kernel) rfl
theorem ml_RL_42 : Cond.methodLink RL 42 yX6_told ∈ vtb := vtb_in 404 (by decide +kernel) rfl
theorem im_yX6_told : Cond.instanceMethod yX6_told ∈ vtb := vtb_in 405 (by decide +kernel) rfl
theorem se_yX6_told : Cond.selects RX6 yX6_told yX6_told ∈ vtb := vtb_in 406 (by decide +kernel) rfl
theorem ml_RX6_108 : Cond.methodLink RX6 108 yX0_fact ∈ vtb := vtb_in 408 (by decide +kernel) rfl
theorem im_yX0_fact : Cond.instanceMethod yX0_fact ∈ vtb := vtb_in 409 (by decide +kernel) rfl
theorem se_yX0_fact : Cond.selects RX0 yX0_fact yX0_fact ∈ vtb := vtb_in 410 (by decide +kernel) rfl
theorem ml_RL_46 : Cond.methodLink RL 46 yX6_is ∈ vtb := vtb_in 412 (by decide +kernel) rfl
theorem im_yX6_is : Cond.instanceMethod yX6_is ∈ vtb := vtb_in 413 (by decide +kernel) rfl
theorem se_yX6_is : Cond.selects RX6 yX6_is yX6_is ∈ vtb := vtb_in 414 (by decide +kernel) rfl
theorem ml_RL_50 : Cond.methodLink RL 50 yX6_on ∈ vtb := vtb_in 416 (by decide +kernel) rfl
theorem im_yX6_on : Cond.instanceMethod yX6_on ∈ vtb := vtb_in 417 (by decide +kernel) rfl
theorem se_yX6_on : Cond.selects RX6 yX6_on yX6_on ∈ vtb := vtb_in 418 (by decide +kernel) rfl
theorem ml_RL_54 : Cond.methodLink RL 54 yX6_words ∈ vtb := vtb_in 420 (by decide +kernel) rfl
theorem im_yX6_words : Cond.instanceMethod yX6_words ∈ vtb := vtb_in 421 (by decide +kernel) rfl
theorem se_yX6_words : Cond.selects RX6 yX6_words yX6_words ∈ vtb := vtb_in 422 (by decide +kernel) rfl
theorem ml_RX6_114 : Cond.methodLink RX6 114 yX0_fill ∈ vtb := vtb_in 424 (by decide +kernel) rfl
theorem ml_RL_58 : Cond.methodLink RL 58 yX6_word ∈ vtb := vtb_in 425 (by decide +kernel) rfl
theorem im_yX6_word : Cond.instanceMethod yX6_word ∈ vtb := vtb_in 426 (by decide +kernel) rfl
theorem se_yX6_word : Cond.selects RX6 yX6_word yX6_word ∈ vtb := vtb_in 427 (by decide +kernel) rfl
theorem ml_RX6_118 : Cond.methodLink RX6 118 yX0_holds ∈ vtb := vtb_in 429 (by decide +kernel) rfl
theorem im_yX0_holds : Cond.instanceMethod yX0_holds ∈ vtb := vtb_in 430 (by decide +kernel) rfl
theorem se_yX0_holds : Cond.selects RX0 yX0_holds yX0_holds ∈ vtb := vtb_in 431 (by decide +kernel) rfl
theorem ml_RX6_121 : Cond.methodLink RX6 121 yX0_exchange ∈ vtb := vtb_in 433 (by decide +kernel) rfl
theorem im_yX0_exchange : Cond.instanceMethod yX0_exchange ∈ vtb := vtb_in 434 (by decide +kernel) rfl
theorem se_yX0_exchange : Cond.selects RX0 yX0_exchange yX0_exchange ∈ vtb := vtb_in 435 (by decide +kernel) rfl
theorem ml_RL_62 : Cond.methodLink RL 62 yX6_copy ∈ vtb := vtb_in 437 (by decide +kernel) rfl
theorem im_yX6_copy : Cond.instanceMethod yX6_copy ∈ vtb := vtb_in 438 (by decide +kernel) rfl
theorem se_yX6_copy : Cond.selects RX6 yX6_copy yX6_copy ∈ vtb := vtb_in 439 (by decide +kernel) rfl
theorem ml_RX6_125 : Cond.methodLink RX6 125 yX0_take ∈ vtb := vtb_in 441 (by decide +kernel) rfl
theorem im_yX0_take : Cond.instanceMethod yX0_take ∈ vtb := vtb_in 442 (by decide +kernel) rfl
theorem se_yX0_take : Cond.selects RX0 yX0_take yX0_take ∈ vtb := vtb_in 443 (by decide +kernel) rfl
theorem ml_RX0_59 : Cond.methodLink RX0 59 yX0_holds ∈ vtb := vtb_in 445 (by decide +kernel) rfl
theorem ml_RX0_63 : Cond.methodLink RX0 63 arraycopyName ∈ vtb := vtb_in 446 (by decide +kernel) rfl
theorem st_arraycopyName : Cond.static arraycopyName ∈ vtb := vtb_in 447 (by decide +kernel) rfl
theorem na_arraycopyName : Cond.native arraycopyName ∈ vtb := vtb_in 448 (by decide +kernel) rfl
theorem ml_RL_66 : Cond.methodLink RL 66 yX6_mean ∈ vtb := vtb_in 449 (by decide +kernel) rfl
theorem im_yX6_mean : Cond.instanceMethod yX6_mean ∈ vtb := vtb_in 450 (by decide +kernel) rfl
theorem se_yX6_mean : Cond.selects RX6 yX6_mean yX6_mean ∈ vtb := vtb_in 451 (by decide +kernel) rfl
theorem ml_RX6_132 : Cond.methodLink RX6 132 yX0_allLetters ∈ vtb := vtb_in 453 (by decide +kernel) rfl
theorem im_yX0_allLetters : Cond.instanceMethod yX0_allLetters ∈ vtb := vtb_in 454 (by decide +kernel) rfl
theorem se_yX0_allLetters : Cond.selects RX0 yX0_allLetters yX0_allLetters ∈ vtb := vtb_in 455 (by decide +kernel) rfl
theorem ml_RL_70 : Cond.methodLink RL 70 yX6_calls ∈ vtb := vtb_in 457 (by decide +kernel) rfl
theorem im_yX6_calls : Cond.instanceMethod yX6_calls ∈ vtb := vtb_in 458 (by decide +kernel) rfl
theorem se_yX6_calls : Cond.selects RX6 yX6_calls yX6_calls ∈ vtb := vtb_in 459 (by decide +kernel) rfl
theorem ml_RL_74 : Cond.methodLink RL 74 yX6_fix ∈ vtb := vtb_in 461 (by decide +kernel) rfl
theorem im_yX6_fix : Cond.instanceMethod yX6_fix ∈ vtb := vtb_in 462 (by decide +kernel) rfl
theorem se_yX6_fix : Cond.selects RX6 yX6_fix yX6_fix ∈ vtb := vtb_in 463 (by decide +kernel) rfl
theorem ml_RL_78 : Cond.methodLink RL 78 yX6_lines ∈ vtb := vtb_in 465 (by decide +kernel) rfl
theorem im_yX6_lines : Cond.instanceMethod yX6_lines ∈ vtb := vtb_in 466 (by decide +kernel) rfl
theorem se_yX6_lines : Cond.selects RX6 yX6_lines yX6_lines ∈ vtb := vtb_in 467 (by decide +kernel) rfl
theorem ml_RX6_142 : Cond.methodLink RX6 142 yX0_linesIn ∈ vtb := vtb_in 469 (by decide +kernel) rfl
theorem im_yX0_linesIn : Cond.instanceMethod yX0_linesIn ∈ vtb := vtb_in 470 (by decide +kernel) rfl
theorem se_yX0_linesIn : Cond.selects RX0 yX0_linesIn yX0_linesIn ∈ vtb := vtb_in 471 (by decide +kernel) rfl
theorem ml_RX0_76 : Cond.methodLink RX0 76 Lib.Math.max.name ∈ vtb := vtb_in 473 (by decide +kernel) rfl
theorem st_Lib_Math_max_name : Cond.static Lib.Math.max.name ∈ vtb := vtb_in 474 (by decide +kernel) rfl
theorem ml_RX0_82 : Cond.methodLink RX0 82 yX0_countLines ∈ vtb := vtb_in 476 (by decide +kernel) rfl
theorem im_yX0_countLines : Cond.instanceMethod yX0_countLines ∈ vtb := vtb_in 478 (by decide +kernel) rfl
theorem ml_RL_82 : Cond.methodLink RL 82 yX6_want ∈ vtb := vtb_in 480 (by decide +kernel) rfl
theorem im_yX6_want : Cond.instanceMethod yX6_want ∈ vtb := vtb_in 481 (by decide +kernel) rfl
theorem se_yX6_want : Cond.selects RX6 yX6_want yX6_want ∈ vtb := vtb_in 482 (by decide +kernel) rfl
theorem ml_RX6_145 : Cond.methodLink RX6 145 yX0_wanted ∈ vtb := vtb_in 484 (by decide +kernel) rfl
theorem im_yX0_wanted : Cond.instanceMethod yX0_wanted ∈ vtb := vtb_in 485 (by decide +kernel) rfl
theorem se_yX0_wanted : Cond.selects RX0 yX0_wanted yX0_wanted ∈ vtb := vtb_in 486 (by decide +kernel) rfl
theorem ml_RX0_69 : Cond.methodLink RX0 69 yX0_longestPiece ∈ vtb := vtb_in 488 (by decide +kernel) rfl
theorem im_yX0_longestPiece : Cond.instanceMethod yX0_longestPiece ∈ vtb := vtb_in 490 (by decide +kernel) rfl
theorem ml_RX0_73 : Cond.methodLink RX0 73 yX0_allLetters ∈ vtb := vtb_in 492 (by decide +kernel) rfl
theorem ml_RL_86 : Cond.methodLink RL 86 yX6_natural ∈ vtb := vtb_in 493 (by decide +kernel) rfl
theorem im_yX6_natural : Cond.instanceMethod yX6_natural ∈ vtb := vtb_in 494 (by decide +kernel) rfl
theorem se_yX6_natural : Cond.selects RX6 yX6_natural yX6_natural ∈ vtb := vtb_in 495 (by decide +kernel) rfl
theorem ml_RX6_148 : Cond.methodLink RX6 148 yX5_measure ∈ vtb := vtb_in 497 (by decide +kernel) rfl
theorem im_yX5_measure : Cond.instanceMethod yX5_measure ∈ vtb := vtb_in 498 (by decide +kernel) rfl
theorem se_yX5_measure : Cond.selects RX5 yX5_measure yX5_measure ∈ vtb := vtb_in 499 (by decide +kernel) rfl
theorem ml_RX5_51 : Cond.methodLink RX5 51 yX5_measureFor ∈ vtb := vtb_in 501 (by decide +kernel) rfl
theorem im_yX5_measureFor : Cond.instanceMethod yX5_measureFor ∈ vtb := vtb_in 503 (by decide +kernel) rfl
theorem ml_RX5_70 : Cond.methodLink RX5 70 yX1_present ∈ vtb := vtb_in 505 (by decide +kernel) rfl
theorem ml_RX5_79 : Cond.methodLink RX5 79 yX0_wanted ∈ vtb := vtb_in 506 (by decide +kernel) rfl
theorem ml_RX5_83 : Cond.methodLink RX5 83 yX1_spanOf ∈ vtb := vtb_in 507 (by decide +kernel) rfl
theorem im_yX1_spanOf : Cond.instanceMethod yX1_spanOf ∈ vtb := vtb_in 508 (by decide +kernel) rfl
theorem se_yX1_spanOf : Cond.selects RX1 yX1_spanOf yX1_spanOf ∈ vtb := vtb_in 509 (by decide +kernel) rfl
theorem ml_RX1_88 : Cond.methodLink RX1 88 Lib.Math.min.name ∈ vtb := vtb_in 511 (by decide +kernel) rfl
theorem st_Lib_Math_min_name : Cond.static Lib.Math.min.name ∈ vtb := vtb_in 512 (by decide +kernel) rfl
theorem ml_RX5_87 : Cond.methodLink RX5 87 yX5_noteLack ∈ vtb := vtb_in 514 (by decide +kernel) rfl
theorem im_yX5_noteLack : Cond.instanceMethod yX5_noteLack ∈ vtb := vtb_in 516 (by decide +kernel) rfl
theorem ml_RX5_101 : Cond.methodLink RX5 101 yX4_divide ∈ vtb := vtb_in 518 (by decide +kernel) rfl
theorem im_yX4_divide : Cond.instanceMethod yX4_divide ∈ vtb := vtb_in 519 (by decide +kernel) rfl
theorem se_yX4_divide : Cond.selects RX4 yX4_divide yX4_divide ∈ vtb := vtb_in 520 (by decide +kernel) rfl
theorem ml_RX4_18 : Cond.methodLink RX4 18 yJ7_fill_53178 ∈ vtb := vtb_in 522 (by decide +kernel) rfl
theorem ml_RX4_24 : Cond.methodLink RX4 24 Lib.Math.min.name ∈ vtb := vtb_in 523 (by decide +kernel) rfl
theorem ml_RX4_30 : Cond.methodLink RX4 30 yX4_giveOne ∈ vtb := vtb_in 524 (by decide +kernel) rfl
theorem im_yX4_giveOne : Cond.instanceMethod yX4_giveOne ∈ vtb := vtb_in 526 (by decide +kernel) rfl
theorem ml_RX5_55 : Cond.methodLink RX5 55 Lib.Math.max.name ∈ vtb := vtb_in 528 (by decide +kernel) rfl
theorem ml_RX5_91 : Cond.methodLink RX5 91 yX5_addTo ∈ vtb := vtb_in 529 (by decide +kernel) rfl
theorem im_yX5_addTo : Cond.instanceMethod yX5_addTo ∈ vtb := vtb_in 531 (by decide +kernel) rfl
theorem ml_RL_90 : Cond.methodLink RL 90 yX6_set ∈ vtb := vtb_in 533 (by decide +kernel) rfl
theorem im_yX6_set : Cond.instanceMethod yX6_set ∈ vtb := vtb_in 534 (by decide +kernel) rfl
theorem se_yX6_set : Cond.selects RX6 yX6_set yX6_set ∈ vtb := vtb_in 535 (by decide +kernel) rfl
theorem ml_RX6_157 : Cond.methodLink RX6 157 yX5_spareOf ∈ vtb := vtb_in 537 (by decide +kernel) rfl
theorem im_yX5_spareOf : Cond.instanceMethod yX5_spareOf ∈ vtb := vtb_in 538 (by decide +kernel) rfl
theorem se_yX5_spareOf : Cond.selects RX5 yX5_spareOf yX5_spareOf ∈ vtb := vtb_in 539 (by decide +kernel) rfl
theorem ml_RX5_108 : Cond.methodLink RX5 108 yX1_gaps ∈ vtb := vtb_in 541 (by decide +kernel) rfl
theorem im_yX1_gaps : Cond.instanceMethod yX1_gaps ∈ vtb := vtb_in 542 (by decide +kernel) rfl
theorem se_yX1_gaps : Cond.selects RX1 yX1_gaps yX1_gaps ∈ vtb := vtb_in 543 (by decide +kernel) rfl
theorem ml_RX5_112 : Cond.methodLink RX5 112 yX5_sumOf ∈ vtb := vtb_in 545 (by decide +kernel) rfl
theorem im_yX5_sumOf : Cond.instanceMethod yX5_sumOf ∈ vtb := vtb_in 547 (by decide +kernel) rfl
theorem ml_RX6_160 : Cond.methodLink RX6 160 yX5_spread ∈ vtb := vtb_in 549 (by decide +kernel) rfl
theorem im_yX5_spread : Cond.instanceMethod yX5_spread ∈ vtb := vtb_in 550 (by decide +kernel) rfl
theorem se_yX5_spread : Cond.selects RX5 yX5_spread yX5_spread ∈ vtb := vtb_in 551 (by decide +kernel) rfl
theorem ml_RX5_116 : Cond.methodLink RX5 116 arraycopyName ∈ vtb := vtb_in 553 (by decide +kernel) rfl
theorem ml_RX6_163 : Cond.methodLink RX6 163 yX6_heightOfTable ∈ vtb := vtb_in 554 (by decide +kernel) rfl
theorem im_yX6_heightOfTable : Cond.instanceMethod yX6_heightOfTable ∈ vtb := vtb_in 556 (by decide +kernel) rfl
theorem ml_RX6_220 : Cond.methodLink RX6 220 yX2_sortCells ∈ vtb := vtb_in 558 (by decide +kernel) rfl
theorem im_yX2_sortCells : Cond.instanceMethod yX2_sortCells ∈ vtb := vtb_in 559 (by decide +kernel) rfl
theorem se_yX2_sortCells : Cond.selects RX2 yX2_sortCells yX2_sortCells ∈ vtb := vtb_in 560 (by decide +kernel) rfl
theorem ml_RX2_40 : Cond.methodLink RX2 40 yX1_present ∈ vtb := vtb_in 562 (by decide +kernel) rfl
theorem ml_RX6_223 : Cond.methodLink RX6 223 yX2_measure ∈ vtb := vtb_in 563 (by decide +kernel) rfl
theorem im_yX2_measure : Cond.instanceMethod yX2_measure ∈ vtb := vtb_in 564 (by decide +kernel) rfl
theorem se_yX2_measure : Cond.selects RX2 yX2_measure yX2_measure ∈ vtb := vtb_in 565 (by decide +kernel) rfl
theorem ml_RX2_48 : Cond.methodLink RX2 48 yJ7_fill_53178 ∈ vtb := vtb_in 567 (by decide +kernel) rfl
theorem ml_RX2_54 : Cond.methodLink RX2 54 yX2_grow ∈ vtb := vtb_in 568 (by decide +kernel) rfl
theorem im_yX2_grow : Cond.instanceMethod yX2_grow ∈ vtb := vtb_in 570 (by decide +kernel) rfl
theorem ml_RX2_57 : Cond.methodLink RX2 57 yX1_spanOf ∈ vtb := vtb_in 572 (by decide +kernel) rfl
theorem ml_RX2_61 : Cond.methodLink RX2 61 yX0_linesIn ∈ vtb := vtb_in 573 (by decide +kernel) rfl
theorem ml_RX2_65 : Cond.methodLink RX2 65 yX2_noteLack ∈ vtb := vtb_in 574 (by decide +kernel) rfl
theorem im_yX2_noteLack : Cond.instanceMethod yX2_noteLack ∈ vtb := vtb_in 576 (by decide +kernel) rfl
theorem ml_RX2_76 : Cond.methodLink RX2 76 Lib.Math.min.name ∈ vtb := vtb_in 578 (by decide +kernel) rfl
theorem ml_RX2_82 : Cond.methodLink RX2 82 Lib.Math.max.name ∈ vtb := vtb_in 579 (by decide +kernel) rfl
theorem ml_RX2_69 : Cond.methodLink RX2 69 yX2_sum ∈ vtb := vtb_in 580 (by decide +kernel) rfl
theorem im_yX2_sum : Cond.instanceMethod yX2_sum ∈ vtb := vtb_in 582 (by decide +kernel) rfl
theorem ml_RL_94 : Cond.methodLink RL 94 yX6_tight ∈ vtb := vtb_in 584 (by decide +kernel) rfl
theorem im_yX6_tight : Cond.instanceMethod yX6_tight ∈ vtb := vtb_in 585 (by decide +kernel) rfl
theorem se_yX6_tight : Cond.selects RX6 yX6_tight yX6_tight ∈ vtb := vtb_in 586 (by decide +kernel) rfl
theorem ml_RX6_166 : Cond.methodLink RX6 166 yX5_waysToSpread ∈ vtb := vtb_in 588 (by decide +kernel) rfl
theorem im_yX5_waysToSpread : Cond.instanceMethod yX5_waysToSpread ∈ vtb := vtb_in 589 (by decide +kernel) rfl
theorem se_yX5_waysToSpread : Cond.selects RX5 yX5_waysToSpread yX5_waysToSpread ∈ vtb := vtb_in 590 (by decide +kernel) rfl
theorem ml_RX6_170 : Cond.methodLink RX6 170 yX5_tighten ∈ vtb := vtb_in 592 (by decide +kernel) rfl
theorem im_yX5_tighten : Cond.instanceMethod yX5_tighten ∈ vtb := vtb_in 593 (by decide +kernel) rfl
theorem se_yX5_tighten : Cond.selects RX5 yX5_tighten yX5_tighten ∈ vtb := vtb_in 594 (by decide +kernel) rfl
theorem ml_RX5_122 : Cond.methodLink RX5 122 yX5_addToLast ∈ vtb := vtb_in 596 (by decide +kernel) rfl
theorem im_yX5_addToLast : Cond.instanceMethod yX5_addToLast ∈ vtb := vtb_in 598 (by decide +kernel) rfl
theorem ml_RX5_126 : Cond.methodLink RX5 126 yX2_sortCells ∈ vtb := vtb_in 600 (by decide +kernel) rfl
theorem ml_RX5_131 : Cond.methodLink RX5 131 yX2_measure ∈ vtb := vtb_in 601 (by decide +kernel) rfl
theorem ml_RX5_134 : Cond.methodLink RX5 134 yX5_tryNext ∈ vtb := vtb_in 602 (by decide +kernel) rfl
theorem im_yX5_tryNext : Cond.instanceMethod yX5_tryNext ∈ vtb := vtb_in 604 (by decide +kernel) rfl
theorem ml_RX5_137 : Cond.methodLink RX5 137 Lib.Math.min.name ∈ vtb := vtb_in 606 (by decide +kernel) rfl
theorem ml_RL_98 : Cond.methodLink RL 98 yX6_tries ∈ vtb := vtb_in 607 (by decide +kernel) rfl
theorem im_yX6_tries : Cond.instanceMethod yX6_tries ∈ vtb := vtb_in 608 (by decide +kernel) rfl
theorem se_yX6_tries : Cond.selects RX6 yX6_tries yX6_tries ∈ vtb := vtb_in 609 (by decide +kernel) rfl
theorem ml_RL_102 : Cond.methodLink RL 102 yX6_width ∈ vtb := vtb_in 611 (by decide +kernel) rfl
theorem im_yX6_width : Cond.instanceMethod yX6_width ∈ vtb := vtb_in 612 (by decide +kernel) rfl
theorem se_yX6_width : Cond.selects RX6 yX6_width yX6_width ∈ vtb := vtb_in 613 (by decide +kernel) rfl
theorem ml_RL_106 : Cond.methodLink RL 106 yX6_height ∈ vtb := vtb_in 615 (by decide +kernel) rfl
theorem im_yX6_height : Cond.instanceMethod yX6_height ∈ vtb := vtb_in 616 (by decide +kernel) rfl
theorem se_yX6_height : Cond.selects RX6 yX6_height yX6_height ∈ vtb := vtb_in 617 (by decide +kernel) rfl
theorem ml_RL_110 : Cond.methodLink RL 110 yX6_pages ∈ vtb := vtb_in 619 (by decide +kernel) rfl
theorem im_yX6_pages : Cond.instanceMethod yX6_pages ∈ vtb := vtb_in 620 (by decide +kernel) rfl
theorem se_yX6_pages : Cond.selects RX6 yX6_pages yX6_pages ∈ vtb := vtb_in 621 (by decide +kernel) rfl
theorem ml_RX6_177 : Cond.methodLink RX6 177 yX3_make ∈ vtb := vtb_in 623 (by decide +kernel) rfl
theorem im_yX3_make : Cond.instanceMethod yX3_make ∈ vtb := vtb_in 624 (by decide +kernel) rfl
theorem se_yX3_make : Cond.selects RX3 yX3_make yX3_make ∈ vtb := vtb_in 625 (by decide +kernel) rfl
theorem ml_RX3_44 : Cond.methodLink RX3 44 yX1_headRows ∈ vtb := vtb_in 627 (by decide +kernel) rfl
theorem im_yX1_headRows : Cond.instanceMethod yX1_headRows ∈ vtb := vtb_in 628 (by decide +kernel) rfl
theorem se_yX1_headRows : Cond.selects RX1 yX1_headRows yX1_headRows ∈ vtb := vtb_in 629 (by decide +kernel) rfl
theorem ml_RX1_66 : Cond.methodLink RX1 66 yX1_hasHead ∈ vtb := vtb_in 631 (by decide +kernel) rfl
theorem im_yX1_hasHead : Cond.instanceMethod yX1_hasHead ∈ vtb := vtb_in 633 (by decide +kernel) rfl
theorem ml_RX1_73 : Cond.methodLink RX1 73 yX0_liesOnRow ∈ vtb := vtb_in 635 (by decide +kernel) rfl
theorem im_yX0_liesOnRow : Cond.instanceMethod yX0_liesOnRow ∈ vtb := vtb_in 636 (by decide +kernel) rfl
theorem se_yX0_liesOnRow : Cond.selects RX0 yX0_liesOnRow yX0_liesOnRow ∈ vtb := vtb_in 637 (by decide +kernel) rfl
theorem ml_RX3_56 : Cond.methodLink RX3 56 Lib.Math.min.name ∈ vtb := vtb_in 639 (by decide +kernel) rfl
theorem ml_RX3_73 : Cond.methodLink RX3 73 yX3_findHomes ∈ vtb := vtb_in 640 (by decide +kernel) rfl
theorem im_yX3_findHomes : Cond.instanceMethod yX3_findHomes ∈ vtb := vtb_in 642 (by decide +kernel) rfl
theorem ml_RX3_76 : Cond.methodLink RX3 76 yJ7_fill_53178 ∈ vtb := vtb_in 644 (by decide +kernel) rfl
theorem ml_RX3_93 : Cond.methodLink RX3 93 yX1_firstCall ∈ vtb := vtb_in 645 (by decide +kernel) rfl
theorem im_yX1_firstCall : Cond.instanceMethod yX1_firstCall ∈ vtb := vtb_in 646 (by decide +kernel) rfl
theorem se_yX1_firstCall : Cond.selects RX1 yX1_firstCall yX1_firstCall ∈ vtb := vtb_in 647 (by decide +kernel) rfl
theorem ml_RX3_97 : Cond.methodLink RX3 97 Lib.Math.max.name ∈ vtb := vtb_in 649 (by decide +kernel) rfl
theorem ml_RX3_82 : Cond.methodLink RX3 82 yX1_breaksAhead ∈ vtb := vtb_in 650 (by decide +kernel) rfl
theorem im_yX1_breaksAhead : Cond.instanceMethod yX1_breaksAhead ∈ vtb := vtb_in 651 (by decide +kernel) rfl
theorem se_yX1_breaksAhead : Cond.selects RX1 yX1_breaksAhead yX1_breaksAhead ∈ vtb := vtb_in 652 (by decide +kernel) rfl
theorem ml_RX3_86 : Cond.methodLink RX3 86 yX3_planFrom ∈ vtb := vtb_in 654 (by decide +kernel) rfl
theorem im_yX3_planFrom : Cond.instanceMethod yX3_planFrom ∈ vtb := vtb_in 656 (by decide +kernel) rfl
theorem ml_RX3_103 : Cond.methodLink RX3 103 yX3_isAlone ∈ vtb := vtb_in 658 (by decide +kernel) rfl
theorem im_yX3_isAlone : Cond.instanceMethod yX3_isAlone ∈ vtb := vtb_in 660 (by decide +kernel) rfl
theorem ml_RX3_106 : Cond.methodLink RX3 106 yX3_weigh ∈ vtb := vtb_in 662 (by decide +kernel) rfl
theorem im_yX3_weigh : Cond.instanceMethod yX3_weigh ∈ vtb := vtb_in 664 (by decide +kernel) rfl
theorem ml_RX3_90 : Cond.methodLink RX3 90 yX3_layOut ∈ vtb := vtb_in 666 (by decide +kernel) rfl
theorem im_yX3_layOut : Cond.instanceMethod yX3_layOut ∈ vtb := vtb_in 668 (by decide +kernel) rfl
theorem ml_RL_114 : Cond.methodLink RL 114 yX6_page ∈ vtb := vtb_in 670 (by decide +kernel) rfl
theorem im_yX6_page : Cond.instanceMethod yX6_page ∈ vtb := vtb_in 671 (by decide +kernel) rfl
theorem se_yX6_page : Cond.selects RX6 yX6_page yX6_page ∈ vtb := vtb_in 672 (by decide +kernel) rfl
theorem ml_RL_118 : Cond.methodLink RL 118 yX6_pageOf ∈ vtb := vtb_in 674 (by decide +kernel) rfl
theorem im_yX6_pageOf : Cond.instanceMethod yX6_pageOf ∈ vtb := vtb_in 675 (by decide +kernel) rfl
theorem se_yX6_pageOf : Cond.selects RX6 yX6_pageOf yX6_pageOf ∈ vtb := vtb_in 676 (by decide +kernel) rfl
theorem ml_RX6_187 : Cond.methodLink RX6 187 yX3_holding ∈ vtb := vtb_in 678 (by decide +kernel) rfl
theorem im_yX3_holding : Cond.instanceMethod yX3_holding ∈ vtb := vtb_in 679 (by decide +kernel) rfl
theorem se_yX3_holding : Cond.selects RX3 yX3_holding yX3_holding ∈ vtb := vtb_in 680 (by decide +kernel) rfl
theorem ml_RL_122 : Cond.methodLink RL 122 yX6_mayBreak ∈ vtb := vtb_in 682 (by decide +kernel) rfl
theorem im_yX6_mayBreak : Cond.instanceMethod yX6_mayBreak ∈ vtb := vtb_in 683 (by decide +kernel) rfl
theorem se_yX6_mayBreak : Cond.selects RX6 yX6_mayBreak yX6_mayBreak ∈ vtb := vtb_in 684 (by decide +kernel) rfl
theorem ml_RX6_190 : Cond.methodLink RX6 190 yX1_headRows ∈ vtb := vtb_in 686 (by decide +kernel) rfl
theorem ml_RX6_193 : Cond.methodLink RX6 193 yX1_breaksAhead ∈ vtb := vtb_in 687 (by decide +kernel) rfl
theorem ml_RL_126 : Cond.methodLink RL 126 yX6_count ∈ vtb := vtb_in 688 (by decide +kernel) rfl
theorem im_yX6_count : Cond.instanceMethod yX6_count ∈ vtb := vtb_in 689 (by decide +kernel) rfl
theorem se_yX6_count : Cond.selects RX6 yX6_count yX6_count ∈ vtb := vtb_in 690 (by decide +kernel) rfl
theorem ml_RX6_196 : Cond.methodLink RX6 196 yX1_presentCells ∈ vtb := vtb_in 692 (by decide +kernel) rfl
theorem im_yX1_presentCells : Cond.instanceMethod yX1_presentCells ∈ vtb := vtb_in 693 (by decide +kernel) rfl
theorem se_yX1_presentCells : Cond.selects RX1 yX1_presentCells yX1_presentCells ∈ vtb := vtb_in 694 (by decide +kernel) rfl
theorem ml_RL_130 : Cond.methodLink RL 130 yX6_finding ∈ vtb := vtb_in 696 (by decide +kernel) rfl
theorem im_yX6_finding : Cond.instanceMethod yX6_finding ∈ vtb := vtb_in 697 (by decide +kernel) rfl
theorem se_yX6_finding : Cond.selects RX6 yX6_finding yX6_finding ∈ vtb := vtb_in 698 (by decide +kernel) rfl
theorem ml_RL_134 : Cond.methodLink RL 134 yX6_findings ∈ vtb := vtb_in 700 (by decide +kernel) rfl
theorem im_yX6_findings : Cond.instanceMethod yX6_findings ∈ vtb := vtb_in 701 (by decide +kernel) rfl
theorem se_yX6_findings : Cond.selects RX6 yX6_findings yX6_findings ∈ vtb := vtb_in 702 (by decide +kernel) rfl
theorem ml_RL_138 : Cond.methodLink RL 138 yX6_digest ∈ vtb := vtb_in 704 (by decide +kernel) rfl
theorem im_yX6_digest : Cond.instanceMethod yX6_digest ∈ vtb := vtb_in 705 (by decide +kernel) rfl
theorem se_yX6_digest : Cond.selects RX6 yX6_digest yX6_digest ∈ vtb := vtb_in 706 (by decide +kernel) rfl
theorem kl_RX6_199 : Cond.constantLong RX6 199 (17) ∈ vtb := vtb_in 708 (by decide +kernel) rfl
theorem kl_RX6_201 : Cond.constantLong RX6 201 (31) ∈ vtb := vtb_in 709 (by decide +kernel) rfl
theorem ml_RX6_206 : Cond.methodLink RX6 206 yX6_mixed ∈ vtb := vtb_in 710 (by decide +kernel) rfl
theorem st_yX6_mixed : Cond.static yX6_mixed ∈ vtb := vtb_in 711 (by decide +kernel) rfl
theorem ml_RX6_210 : Cond.methodLink RX6 210 yX1_present ∈ vtb := vtb_in 713 (by decide +kernel) rfl
theorem ml_RX6_213 : Cond.methodLink RX6 213 yX6_mixedCell ∈ vtb := vtb_in 714 (by decide +kernel) rfl
theorem st_yX6_mixedCell : Cond.static yX6_mixedCell ∈ vtb := vtb_in 715 (by decide +kernel) rfl
theorem cl_RL_10 : Cond.classLink RL 10 RX7 ∈ vtb := vtb_in 717 (by decide +kernel) rfl
theorem it_RX7 : Cond.instantiable RX7 41 ∈ vtb := vtb_in 718 (by decide +kernel) rfl
theorem ml_RL_12 : Cond.methodLink RL 12 yX7_init ∈ vtb := vtb_in 719 (by decide +kernel) rfl
theorem im_yX7_init : Cond.instanceMethod yX7_init ∈ vtb := vtb_in 720 (by decide +kernel) rfl
theorem ml_RX7_1 : Cond.methodLink RX7 1 objectInit ∈ vtb := vtb_in 722 (by decide +kernel) rfl
theorem ml_RX7_111 : Cond.methodLink RX7 111 yX7_begin ∈ vtb := vtb_in 723 (by decide +kernel) rfl
theorem im_yX7_begin : Cond.instanceMethod yX7_begin ∈ vtb := vtb_in 725 (by decide +kernel) rfl
theorem fl_RX7_115 : Cond.fieldLink RX7 115 "TableSetterModel" "latest" "I" ∈ vtb := vtb_in 727 (by decide +kernel) rfl
theorem fl_RX7_7 : Cond.fieldLink RX7 7 "TableSetterModel" "came" "[I" ∈ vtb := vtb_in 728 (by decide +kernel) rfl
theorem fl_RX7_123 : Cond.fieldLink RX7 123 "TableSetterModel" "rows" "I" ∈ vtb := vtb_in 729 (by decide +kernel) rfl
theorem fl_RX7_126 : Cond.fieldLink RX7 126 "TableSetterModel" "columns" "I" ∈ vtb := vtb_in 730 (by decide +kernel) rfl
theorem fl_RX7_129 : Cond.fieldLink RX7 129 "TableSetterModel" "gap" "I" ∈ vtb := vtb_in 731 (by decide +kernel) rfl
theorem fl_RX7_13 : Cond.fieldLink RX7 13 "TableSetterModel" "weights" "[I" ∈ vtb := vtb_in 732 (by decide +kernel) rfl
theorem fl_RX7_16 : Cond.fieldLink RX7 16 "TableSetterModel" "noteLines" "[I" ∈ vtb := vtb_in 733 (by decide +kernel) rfl
theorem fl_RX7_132 : Cond.fieldLink RX7 132 "TableSetterModel" "cells" "I" ∈ vtb := vtb_in 734 (by decide +kernel) rfl
theorem fl_RX7_19 : Cond.fieldLink RX7 19 "TableSetterModel" "kindOf" "[I" ∈ vtb := vtb_in 735 (by decide +kernel) rfl
theorem fl_RX7_22 : Cond.fieldLink RX7 22 "TableSetterModel" "rowOf" "[I" ∈ vtb := vtb_in 736 (by decide +kernel) rfl
theorem fl_RX7_25 : Cond.fieldLink RX7 25 "TableSetterModel" "columnOf" "[I" ∈ vtb := vtb_in 737 (by decide +kernel) rfl
theorem fl_RX7_28 : Cond.fieldLink RX7 28 "TableSetterModel" "rowMany" "[I" ∈ vtb := vtb_in 738 (by decide +kernel) rfl
theorem fl_RX7_31 : Cond.fieldLink RX7 31 "TableSetterModel" "columnMany" "[I" ∈ vtb := vtb_in 739 (by decide +kernel) rfl
theorem fl_RX7_34 : Cond.fieldLink RX7 34 "TableSetterModel" "isGone" "[Z" ∈ vtb := vtb_in 740 (by decide +kernel) rfl
theorem fl_RX7_38 : Cond.fieldLink RX7 38 "TableSetterModel" "wordMany" "[I" ∈ vtb := vtb_in 741 (by decide +kernel) rfl
theorem fl_RX7_41 : Cond.fieldLink RX7 41 "TableSetterModel" "letters" "[I" ∈ vtb := vtb_in 742 (by decide +kernel) rfl
theorem fl_RX7_44 : Cond.fieldLink RX7 44 "TableSetterModel" "called" "[I" ∈ vtb := vtb_in 743 (by decide +kernel) rfl
theorem fl_RX7_47 : Cond.fieldLink RX7 47 "TableSetterModel" "fixed" "[I" ∈ vtb := vtb_in 744 (by decide +kernel) rfl
theorem fl_RX7_135 : Cond.fieldLink RX7 135 "TableSetterModel" "clash" "I" ∈ vtb := vtb_in 745 (by decide +kernel) rfl
theorem fl_RX7_50 : Cond.fieldLink RX7 50 "TableSetterModel" "copied" "[I" ∈ vtb := vtb_in 746 (by decide +kernel) rfl
theorem fl_RX7_53 : Cond.fieldLink RX7 53 "TableSetterModel" "numbers" "[I" ∈ vtb := vtb_in 747 (by decide +kernel) rfl
theorem fl_RX7_56 : Cond.fieldLink RX7 56 "TableSetterModel" "shares" "[I" ∈ vtb := vtb_in 748 (by decide +kernel) rfl
theorem fl_RX7_59 : Cond.fieldLink RX7 59 "TableSetterModel" "rests" "[I" ∈ vtb := vtb_in 749 (by decide +kernel) rfl
theorem fl_RX7_62 : Cond.fieldLink RX7 62 "TableSetterModel" "widths" "[I" ∈ vtb := vtb_in 750 (by decide +kernel) rfl
theorem fl_RX7_65 : Cond.fieldLink RX7 65 "TableSetterModel" "least" "[I" ∈ vtb := vtb_in 751 (by decide +kernel) rfl
theorem fl_RX7_68 : Cond.fieldLink RX7 68 "TableSetterModel" "best" "[I" ∈ vtb := vtb_in 752 (by decide +kernel) rfl
theorem fl_RX7_71 : Cond.fieldLink RX7 71 "TableSetterModel" "grows" "[I" ∈ vtb := vtb_in 753 (by decide +kernel) rfl
theorem fl_RX7_74 : Cond.fieldLink RX7 74 "TableSetterModel" "heights" "[I" ∈ vtb := vtb_in 754 (by decide +kernel) rfl
theorem fl_RX7_77 : Cond.fieldLink RX7 77 "TableSetterModel" "rises" "[I" ∈ vtb := vtb_in 755 (by decide +kernel) rfl
theorem fl_RX7_206 : Cond.fieldLink RX7 206 "TableSetterModel" "tries" "I" ∈ vtb := vtb_in 756 (by decide +kernel) rfl
theorem fl_RX7_80 : Cond.fieldLink RX7 80 "TableSetterModel" "trial" "[I" ∈ vtb := vtb_in 757 (by decide +kernel) rfl
theorem fl_RX7_83 : Cond.fieldLink RX7 83 "TableSetterModel" "first" "[I" ∈ vtb := vtb_in 758 (by decide +kernel) rfl
theorem fl_RX7_138 : Cond.fieldLink RX7 138 "TableSetterModel" "pageMany" "I" ∈ vtb := vtb_in 759 (by decide +kernel) rfl
theorem fl_RX7_86 : Cond.fieldLink RX7 86 "TableSetterModel" "pageFirst" "[I" ∈ vtb := vtb_in 760 (by decide +kernel) rfl
theorem fl_RX7_89 : Cond.fieldLink RX7 89 "TableSetterModel" "pageRows" "[I" ∈ vtb := vtb_in 761 (by decide +kernel) rfl
theorem fl_RX7_92 : Cond.fieldLink RX7 92 "TableSetterModel" "pageEmpty" "[I" ∈ vtb := vtb_in 762 (by decide +kernel) rfl
theorem fl_RX7_95 : Cond.fieldLink RX7 95 "TableSetterModel" "pageNotes" "[I" ∈ vtb := vtb_in 763 (by decide +kernel) rfl
theorem fl_RX7_98 : Cond.fieldLink RX7 98 "TableSetterModel" "pageOf" "[I" ∈ vtb := vtb_in 764 (by decide +kernel) rfl
theorem fl_RX7_101 : Cond.fieldLink RX7 101 "TableSetterModel" "bestPages" "[I" ∈ vtb := vtb_in 765 (by decide +kernel) rfl
theorem fl_RX7_104 : Cond.fieldLink RX7 104 "TableSetterModel" "bestSquares" "[J" ∈ vtb := vtb_in 766 (by decide +kernel) rfl
theorem fl_RX7_108 : Cond.fieldLink RX7 108 "TableSetterModel" "bestRows" "[I" ∈ vtb := vtb_in 767 (by decide +kernel) rfl
theorem ac_boolean : Cond.arrayClass .boolean ∈ vtb := vtb_in 851 (by decide +kernel) rfl
theorem ac_long : Cond.arrayClass .long ∈ vtb := vtb_in 852 (by decide +kernel) rfl
theorem ml_RL_133 : Cond.methodLink RL 133 yX7_finding ∈ vtb := vtb_in 853 (by decide +kernel) rfl
theorem im_yX7_finding : Cond.instanceMethod yX7_finding ∈ vtb := vtb_in 854 (by decide +kernel) rfl
theorem se_yX7_finding : Cond.selects RX7 yX7_finding yX7_finding ∈ vtb := vtb_in 855 (by decide +kernel) rfl
theorem ml_RL_137 : Cond.methodLink RL 137 yX7_findings ∈ vtb := vtb_in 857 (by decide +kernel) rfl
theorem im_yX7_findings : Cond.instanceMethod yX7_findings ∈ vtb := vtb_in 858 (by decide +kernel) rfl
theorem se_yX7_findings : Cond.selects RX7 yX7_findings yX7_findings ∈ vtb := vtb_in 859 (by decide +kernel) rfl
theorem ml_RX7_119 : Cond.methodLink RX7 119 yX7_in ∈ vtb := vtb_in 861 (by decide +kernel) rfl
theorem st_yX7_in : Cond.static yX7_in ∈ vtb := vtb_in 862 (by decide +kernel) rfl
theorem ml_RL_17 : Cond.methodLink RL 17 yX7_table ∈ vtb := vtb_in 864 (by decide +kernel) rfl
theorem im_yX7_table : Cond.instanceMethod yX7_table ∈ vtb := vtb_in 865 (by decide +kernel) rfl
theorem se_yX7_table : Cond.selects RX7 yX7_table yX7_table ∈ vtb := vtb_in 866 (by decide +kernel) rfl
theorem ml_RL_22 : Cond.methodLink RL 22 yX7_weight ∈ vtb := vtb_in 868 (by decide +kernel) rfl
theorem im_yX7_weight : Cond.instanceMethod yX7_weight ∈ vtb := vtb_in 869 (by decide +kernel) rfl
theorem se_yX7_weight : Cond.selects RX7 yX7_weight yX7_weight ∈ vtb := vtb_in 870 (by decide +kernel) rfl
theorem ml_RX7_141 : Cond.methodLink RX7 141 yX7_isColumn ∈ vtb := vtb_in 872 (by decide +kernel) rfl
theorem im_yX7_isColumn : Cond.instanceMethod yX7_isColumn ∈ vtb := vtb_in 874 (by decide +kernel) rfl
theorem ml_RL_26 : Cond.methodLink RL 26 yX7_note ∈ vtb := vtb_in 876 (by decide +kernel) rfl
theorem im_yX7_note : Cond.instanceMethod yX7_note ∈ vtb := vtb_in 877 (by decide +kernel) rfl
theorem se_yX7_note : Cond.selects RX7 yX7_note yX7_note ∈ vtb := vtb_in 878 (by decide +kernel) rfl
theorem ml_RL_31 : Cond.methodLink RL 31 yX7_cell ∈ vtb := vtb_in 880 (by decide +kernel) rfl
theorem im_yX7_cell : Cond.instanceMethod yX7_cell ∈ vtb := vtb_in 881 (by decide +kernel) rfl
theorem se_yX7_cell : Cond.selects RX7 yX7_cell yX7_cell ∈ vtb := vtb_in 882 (by decide +kernel) rfl
theorem ml_RX7_148 : Cond.methodLink RX7 148 yX7_isRow ∈ vtb := vtb_in 884 (by decide +kernel) rfl
theorem im_yX7_isRow : Cond.instanceMethod yX7_isRow ∈ vtb := vtb_in 886 (by decide +kernel) rfl
theorem ml_RX7_151 : Cond.methodLink RX7 151 yX7_meets ∈ vtb := vtb_in 888 (by decide +kernel) rfl
theorem im_yX7_meets : Cond.instanceMethod yX7_meets ∈ vtb := vtb_in 890 (by decide +kernel) rfl
theorem ml_RX7_155 : Cond.methodLink RX7 155 yX7_cellOn ∈ vtb := vtb_in 892 (by decide +kernel) rfl
theorem im_yX7_cellOn : Cond.instanceMethod yX7_cellOn ∈ vtb := vtb_in 894 (by decide +kernel) rfl
theorem ml_RX7_145 : Cond.methodLink RX7 145 yX7_liesOn ∈ vtb := vtb_in 896 (by decide +kernel) rfl
theorem im_yX7_liesOn : Cond.instanceMethod yX7_liesOn ∈ vtb := vtb_in 898 (by decide +kernel) rfl
theorem ml_RL_36 : Cond.methodLink RL 36 yX7_clash ∈ vtb := vtb_in 900 (by decide +kernel) rfl
theorem im_yX7_clash : Cond.instanceMethod yX7_clash ∈ vtb := vtb_in 901 (by decide +kernel) rfl
theorem se_yX7_clash : Cond.selects RX7 yX7_clash yX7_clash ∈ vtb := vtb_in 902 (by decide +kernel) rfl
theorem ml_RL_41 : Cond.methodLink RL 41 yX7_drop ∈ vtb := vtb_in 904 (by decide +kernel) rfl
theorem im_yX7_drop : Cond.instanceMethod yX7_drop ∈ vtb := vtb_in 905 (by decide +kernel) rfl
theorem se_yX7_drop : Cond.selects RX7 yX7_drop yX7_drop ∈ vtb := vtb_in 906 (by decide +kernel) rfl
theorem ml_RX7_159 : Cond.methodLink RX7 159 yX7_isCell ∈ vtb := vtb_in 908 (by decide +kernel) rfl
theorem im_yX7_isCell : Cond.instanceMethod yX7_isCell ∈ vtb := vtb_in 910 (by decide +kernel) rfl
theorem ml_RL_45 : Cond.methodLink RL 45 yX7_told ∈ vtb := vtb_in 912 (by decide +kernel) rfl
theorem im_yX7_told : Cond.instanceMethod yX7_told ∈ vtb := vtb_in 913 (by decide +kernel) rfl
theorem se_yX7_told : Cond.selects RX7 yX7_told yX7_told ∈ vtb := vtb_in 914 (by decide +kernel) rfl
theorem ml_RX7_162 : Cond.methodLink RX7 162 yX7_need ∈ vtb := vtb_in 916 (by decide +kernel) rfl
theorem im_yX7_need : Cond.instanceMethod yX7_need ∈ vtb := vtb_in 918 (by decide +kernel) rfl
theorem ml_RX7_166 : Cond.methodLink RX7 166 yX7_toldOf ∈ vtb := vtb_in 920 (by decide +kernel) rfl
theorem im_yX7_toldOf : Cond.instanceMethod yX7_toldOf ∈ vtb := vtb_in 922 (by decide +kernel) rfl
theorem ml_RL_49 : Cond.methodLink RL 49 yX7_is ∈ vtb := vtb_in 924 (by decide +kernel) rfl
theorem im_yX7_is : Cond.instanceMethod yX7_is ∈ vtb := vtb_in 925 (by decide +kernel) rfl
theorem se_yX7_is : Cond.selects RX7 yX7_is yX7_is ∈ vtb := vtb_in 926 (by decide +kernel) rfl
theorem ml_RL_53 : Cond.methodLink RL 53 yX7_on ∈ vtb := vtb_in 928 (by decide +kernel) rfl
theorem im_yX7_on : Cond.instanceMethod yX7_on ∈ vtb := vtb_in 929 (by decide +kernel) rfl
theorem se_yX7_on : Cond.selects RX7 yX7_on yX7_on ∈ vtb := vtb_in 930 (by decide +kernel) rfl
theorem ml_RL_57 : Cond.methodLink RL 57 yX7_words ∈ vtb := vtb_in 932 (by decide +kernel) rfl
theorem im_yX7_words : Cond.instanceMethod yX7_words ∈ vtb := vtb_in 933 (by decide +kernel) rfl
theorem se_yX7_words : Cond.selects RX7 yX7_words yX7_words ∈ vtb := vtb_in 934 (by decide +kernel) rfl
theorem ml_RL_61 : Cond.methodLink RL 61 yX7_word ∈ vtb := vtb_in 936 (by decide +kernel) rfl
theorem im_yX7_word : Cond.instanceMethod yX7_word ∈ vtb := vtb_in 937 (by decide +kernel) rfl
theorem se_yX7_word : Cond.selects RX7 yX7_word yX7_word ∈ vtb := vtb_in 938 (by decide +kernel) rfl
theorem ml_RL_65 : Cond.methodLink RL 65 yX7_copy ∈ vtb := vtb_in 940 (by decide +kernel) rfl
theorem im_yX7_copy : Cond.instanceMethod yX7_copy ∈ vtb := vtb_in 941 (by decide +kernel) rfl
theorem se_yX7_copy : Cond.selects RX7 yX7_copy yX7_copy ∈ vtb := vtb_in 942 (by decide +kernel) rfl
theorem ml_RL_69 : Cond.methodLink RL 69 yX7_mean ∈ vtb := vtb_in 944 (by decide +kernel) rfl
theorem im_yX7_mean : Cond.instanceMethod yX7_mean ∈ vtb := vtb_in 945 (by decide +kernel) rfl
theorem se_yX7_mean : Cond.selects RX7 yX7_mean yX7_mean ∈ vtb := vtb_in 946 (by decide +kernel) rfl
theorem ml_RX7_169 : Cond.methodLink RX7 169 yX7_lettersOf ∈ vtb := vtb_in 948 (by decide +kernel) rfl
theorem im_yX7_lettersOf : Cond.instanceMethod yX7_lettersOf ∈ vtb := vtb_in 950 (by decide +kernel) rfl
theorem ml_RL_73 : Cond.methodLink RL 73 yX7_calls ∈ vtb := vtb_in 952 (by decide +kernel) rfl
theorem im_yX7_calls : Cond.instanceMethod yX7_calls ∈ vtb := vtb_in 953 (by decide +kernel) rfl
theorem se_yX7_calls : Cond.selects RX7 yX7_calls yX7_calls ∈ vtb := vtb_in 954 (by decide +kernel) rfl
theorem ml_RL_77 : Cond.methodLink RL 77 yX7_fix ∈ vtb := vtb_in 956 (by decide +kernel) rfl
theorem im_yX7_fix : Cond.instanceMethod yX7_fix ∈ vtb := vtb_in 957 (by decide +kernel) rfl
theorem se_yX7_fix : Cond.selects RX7 yX7_fix yX7_fix ∈ vtb := vtb_in 958 (by decide +kernel) rfl
theorem ml_RL_81 : Cond.methodLink RL 81 yX7_lines ∈ vtb := vtb_in 960 (by decide +kernel) rfl
theorem im_yX7_lines : Cond.instanceMethod yX7_lines ∈ vtb := vtb_in 961 (by decide +kernel) rfl
theorem se_yX7_lines : Cond.selects RX7 yX7_lines yX7_lines ∈ vtb := vtb_in 962 (by decide +kernel) rfl
theorem ml_RX7_172 : Cond.methodLink RX7 172 yX7_linesOf ∈ vtb := vtb_in 964 (by decide +kernel) rfl
theorem im_yX7_linesOf : Cond.instanceMethod yX7_linesOf ∈ vtb := vtb_in 966 (by decide +kernel) rfl
theorem ml_RL_85 : Cond.methodLink RL 85 yX7_want ∈ vtb := vtb_in 968 (by decide +kernel) rfl
theorem im_yX7_want : Cond.instanceMethod yX7_want ∈ vtb := vtb_in 969 (by decide +kernel) rfl
theorem se_yX7_want : Cond.selects RX7 yX7_want yX7_want ∈ vtb := vtb_in 970 (by decide +kernel) rfl
theorem ml_RX7_175 : Cond.methodLink RX7 175 yX7_wantOf ∈ vtb := vtb_in 972 (by decide +kernel) rfl
theorem im_yX7_wantOf : Cond.instanceMethod yX7_wantOf ∈ vtb := vtb_in 974 (by decide +kernel) rfl
theorem ml_RL_89 : Cond.methodLink RL 89 yX7_natural ∈ vtb := vtb_in 976 (by decide +kernel) rfl
theorem im_yX7_natural : Cond.instanceMethod yX7_natural ∈ vtb := vtb_in 977 (by decide +kernel) rfl
theorem se_yX7_natural : Cond.selects RX7 yX7_natural yX7_natural ∈ vtb := vtb_in 978 (by decide +kernel) rfl
theorem ml_RX7_192 : Cond.methodLink RX7 192 yX7_layBoth ∈ vtb := vtb_in 980 (by decide +kernel) rfl
theorem im_yX7_layBoth : Cond.instanceMethod yX7_layBoth ∈ vtb := vtb_in 982 (by decide +kernel) rfl
theorem ml_RX7_188 : Cond.methodLink RX7 188 yX7_layWidths ∈ vtb := vtb_in 984 (by decide +kernel) rfl
theorem im_yX7_layWidths : Cond.instanceMethod yX7_layWidths ∈ vtb := vtb_in 986 (by decide +kernel) rfl
theorem ml_RX7_178 : Cond.methodLink RX7 178 yX7_widthOver ∈ vtb := vtb_in 988 (by decide +kernel) rfl
theorem im_yX7_widthOver : Cond.instanceMethod yX7_widthOver ∈ vtb := vtb_in 990 (by decide +kernel) rfl
theorem ml_RX7_182 : Cond.methodLink RX7 182 yX7_lacks ∈ vtb := vtb_in 992 (by decide +kernel) rfl
theorem im_yX7_lacks : Cond.instanceMethod yX7_lacks ∈ vtb := vtb_in 994 (by decide +kernel) rfl
theorem ml_RX7_185 : Cond.methodLink RX7 185 yX7_share ∈ vtb := vtb_in 996 (by decide +kernel) rfl
theorem im_yX7_share : Cond.instanceMethod yX7_share ∈ vtb := vtb_in 998 (by decide +kernel) rfl
theorem ml_RL_93 : Cond.methodLink RL 93 yX7_set ∈ vtb := vtb_in 1000 (by decide +kernel) rfl
theorem im_yX7_set : Cond.instanceMethod yX7_set ∈ vtb := vtb_in 1001 (by decide +kernel) rfl
theorem se_yX7_set : Cond.selects RX7 yX7_set yX7_set ∈ vtb := vtb_in 1002 (by decide +kernel) rfl
theorem ml_RX7_195 : Cond.methodLink RX7 195 yX7_sumOf ∈ vtb := vtb_in 1004 (by decide +kernel) rfl
theorem im_yX7_sumOf : Cond.instanceMethod yX7_sumOf ∈ vtb := vtb_in 1006 (by decide +kernel) rfl
theorem ml_RX7_199 : Cond.methodLink RX7 199 yX7_heightBy ∈ vtb := vtb_in 1008 (by decide +kernel) rfl
theorem im_yX7_heightBy : Cond.instanceMethod yX7_heightBy ∈ vtb := vtb_in 1010 (by decide +kernel) rfl
theorem ml_RX7_202 : Cond.methodLink RX7 202 yX7_layHeights ∈ vtb := vtb_in 1012 (by decide +kernel) rfl
theorem im_yX7_layHeights : Cond.instanceMethod yX7_layHeights ∈ vtb := vtb_in 1014 (by decide +kernel) rfl
theorem ml_RL_97 : Cond.methodLink RL 97 yX7_tight ∈ vtb := vtb_in 1016 (by decide +kernel) rfl
theorem im_yX7_tight : Cond.instanceMethod yX7_tight ∈ vtb := vtb_in 1017 (by decide +kernel) rfl
theorem se_yX7_tight : Cond.selects RX7 yX7_tight yX7_tight ∈ vtb := vtb_in 1018 (by decide +kernel) rfl
theorem ml_RX7_209 : Cond.methodLink RX7 209 yX7_next ∈ vtb := vtb_in 1020 (by decide +kernel) rfl
theorem im_yX7_next : Cond.instanceMethod yX7_next ∈ vtb := vtb_in 1022 (by decide +kernel) rfl
theorem ml_RL_101 : Cond.methodLink RL 101 yX7_tries ∈ vtb := vtb_in 1024 (by decide +kernel) rfl
theorem im_yX7_tries : Cond.instanceMethod yX7_tries ∈ vtb := vtb_in 1025 (by decide +kernel) rfl
theorem se_yX7_tries : Cond.selects RX7 yX7_tries yX7_tries ∈ vtb := vtb_in 1026 (by decide +kernel) rfl
theorem ml_RL_105 : Cond.methodLink RL 105 yX7_width ∈ vtb := vtb_in 1028 (by decide +kernel) rfl
theorem im_yX7_width : Cond.instanceMethod yX7_width ∈ vtb := vtb_in 1029 (by decide +kernel) rfl
theorem se_yX7_width : Cond.selects RX7 yX7_width yX7_width ∈ vtb := vtb_in 1030 (by decide +kernel) rfl
theorem ml_RL_109 : Cond.methodLink RL 109 yX7_height ∈ vtb := vtb_in 1032 (by decide +kernel) rfl
theorem im_yX7_height : Cond.instanceMethod yX7_height ∈ vtb := vtb_in 1033 (by decide +kernel) rfl
theorem se_yX7_height : Cond.selects RX7 yX7_height yX7_height ∈ vtb := vtb_in 1034 (by decide +kernel) rfl
theorem ml_RL_125 : Cond.methodLink RL 125 yX7_mayBreak ∈ vtb := vtb_in 1036 (by decide +kernel) rfl
theorem im_yX7_mayBreak : Cond.instanceMethod yX7_mayBreak ∈ vtb := vtb_in 1037 (by decide +kernel) rfl
theorem se_yX7_mayBreak : Cond.selects RX7 yX7_mayBreak yX7_mayBreak ∈ vtb := vtb_in 1038 (by decide +kernel) rfl
theorem ml_RX7_217 : Cond.methodLink RX7 217 yX7_mayBreakAt ∈ vtb := vtb_in 1040 (by decide +kernel) rfl
theorem im_yX7_mayBreakAt : Cond.instanceMethod yX7_mayBreakAt ∈ vtb := vtb_in 1042 (by decide +kernel) rfl
theorem ml_RX7_213 : Cond.methodLink RX7 213 yX7_headRows ∈ vtb := vtb_in 1044 (by decide +kernel) rfl
theorem im_yX7_headRows : Cond.instanceMethod yX7_headRows ∈ vtb := vtb_in 1046 (by decide +kernel) rfl
theorem ml_RL_113 : Cond.methodLink RL 113 yX7_pages ∈ vtb := vtb_in 1048 (by decide +kernel) rfl
theorem im_yX7_pages : Cond.instanceMethod yX7_pages ∈ vtb := vtb_in 1049 (by decide +kernel) rfl
theorem se_yX7_pages : Cond.selects RX7 yX7_pages yX7_pages ∈ vtb := vtb_in 1050 (by decide +kernel) rfl
theorem ml_RX7_227 : Cond.methodLink RX7 227 yX7_emptyOf ∈ vtb := vtb_in 1052 (by decide +kernel) rfl
theorem im_yX7_emptyOf : Cond.instanceMethod yX7_emptyOf ∈ vtb := vtb_in 1054 (by decide +kernel) rfl
theorem ml_RX7_223 : Cond.methodLink RX7 223 yX7_notesOn ∈ vtb := vtb_in 1056 (by decide +kernel) rfl
theorem im_yX7_notesOn : Cond.instanceMethod yX7_notesOn ∈ vtb := vtb_in 1058 (by decide +kernel) rfl
theorem ml_RX7_220 : Cond.methodLink RX7 220 yX7_homeOf ∈ vtb := vtb_in 1060 (by decide +kernel) rfl
theorem im_yX7_homeOf : Cond.instanceMethod yX7_homeOf ∈ vtb := vtb_in 1062 (by decide +kernel) rfl
theorem ml_RL_117 : Cond.methodLink RL 117 yX7_page ∈ vtb := vtb_in 1064 (by decide +kernel) rfl
theorem im_yX7_page : Cond.instanceMethod yX7_page ∈ vtb := vtb_in 1065 (by decide +kernel) rfl
theorem se_yX7_page : Cond.selects RX7 yX7_page yX7_page ∈ vtb := vtb_in 1066 (by decide +kernel) rfl
theorem ml_RX7_231 : Cond.methodLink RX7 231 yX7_pageTold ∈ vtb := vtb_in 1068 (by decide +kernel) rfl
theorem im_yX7_pageTold : Cond.instanceMethod yX7_pageTold ∈ vtb := vtb_in 1070 (by decide +kernel) rfl
theorem ml_RL_121 : Cond.methodLink RL 121 yX7_pageOf ∈ vtb := vtb_in 1072 (by decide +kernel) rfl
theorem im_yX7_pageOf : Cond.instanceMethod yX7_pageOf ∈ vtb := vtb_in 1073 (by decide +kernel) rfl
theorem se_yX7_pageOf : Cond.selects RX7 yX7_pageOf yX7_pageOf ∈ vtb := vtb_in 1074 (by decide +kernel) rfl
theorem ml_RL_129 : Cond.methodLink RL 129 yX7_count ∈ vtb := vtb_in 1076 (by decide +kernel) rfl
theorem im_yX7_count : Cond.instanceMethod yX7_count ∈ vtb := vtb_in 1077 (by decide +kernel) rfl
theorem se_yX7_count : Cond.selects RX7 yX7_count yX7_count ∈ vtb := vtb_in 1078 (by decide +kernel) rfl
theorem ml_RL_142 : Cond.methodLink RL 142 yX7_digest ∈ vtb := vtb_in 1080 (by decide +kernel) rfl
theorem im_yX7_digest : Cond.instanceMethod yX7_digest ∈ vtb := vtb_in 1081 (by decide +kernel) rfl
theorem se_yX7_digest : Cond.selects RX7 yX7_digest yX7_digest ∈ vtb := vtb_in 1082 (by decide +kernel) rfl
theorem kl_RX7_234 : Cond.constantLong RX7 234 (31) ∈ vtb := vtb_in 1084 (by decide +kernel) rfl
theorem kl_RX7_236 : Cond.constantLong RX7 236 (527) ∈ vtb := vtb_in 1085 (by decide +kernel) rfl
theorem ml_RX7_238 : Cond.methodLink RX7 238 yX7_digestCell ∈ vtb := vtb_in 1086 (by decide +kernel) rfl
theorem im_yX7_digestCell : Cond.instanceMethod yX7_digestCell ∈ vtb := vtb_in 1088 (by decide +kernel) rfl
theorem co_Math_max : Cond.code Lib.Math.max.name Lib.Math.max.code 2 (some .int) ∈ vtb := vtb_in 475 (by decide +kernel) rfl
theorem co_Math_min : Cond.code Lib.Math.min.name Lib.Math.min.code 2 (some .int) ∈ vtb := vtb_in 513 (by decide +kernel) rfl
theorem co_Object : Cond.code objectInit ⟨#[0xb1]⟩ 1 none ∈ vtb := vtb_in 69 (by decide +kernel) rfl
theorem inX0 : ∀ w ∈ u_ws RX0 TX0 11, w ∈ vtb := fun w hw => List.mem_filter.mpr (by have h := List.all_eq_true.mp (by decide +kernel : (u_ws RX0 TX0 11).all (fun w => decide (w ∈ lw_tbl) && goodWord w) = true) w hw; simpa only [Bool.and_eq_true, decide_eq_true_eq] using h)
theorem inX1 : ∀ w ∈ u_ws RX1 TX1 7, w ∈ vtb := fun w hw => List.mem_filter.mpr (by have h := List.all_eq_true.mp (by decide +kernel : (u_ws RX1 TX1 7).all (fun w => decide (w ∈ lw_tbl) && goodWord w) = true) w hw; simpa only [Bool.and_eq_true, decide_eq_true_eq] using h)
theorem inX2 : ∀ w ∈ u_ws RX2 TX2 5, w ∈ vtb := fun w hw => List.mem_filter.mpr (by have h := List.all_eq_true.mp (by decide +kernel : (u_ws RX2 TX2 5).all (fun w => decide (w ∈ lw_tbl) && goodWord w) = true) w hw; simpa only [Bool.and_eq_true, decide_eq_true_eq] using h)
theorem inX3 : ∀ w ∈ u_ws RX3 TX3 12, w ∈ vtb := fun w hw => List.mem_filter.mpr (by have h := List.all_eq_true.mp (by decide +kernel : (u_ws RX3 TX3 12).all (fun w => decide (w ∈ lw_tbl) && goodWord w) = true) w hw; simpa only [Bool.and_eq_true, decide_eq_true_eq] using h)
theorem inX4 : ∀ w ∈ u_ws RX4 TX4 2, w ∈ vtb := fun w hw => List.mem_filter.mpr (by have h := List.all_eq_true.mp (by decide +kernel : (u_ws RX4 TX4 2).all (fun w => decide (w ∈ lw_tbl) && goodWord w) = true) w hw; simpa only [Bool.and_eq_true, decide_eq_true_eq] using h)
theorem inX5 : ∀ w ∈ u_ws RX5 TX5 9, w ∈ vtb := fun w hw => List.mem_filter.mpr (by have h := List.all_eq_true.mp (by decide +kernel : (u_ws RX5 TX5 9).all (fun w => decide (w ∈ lw_tbl) && goodWord w) = true) w hw; simpa only [Bool.and_eq_true, decide_eq_true_eq] using h)
theorem inX6 : ∀ w ∈ u_ws RX6 TX6 8, w ∈ vtb := fun w hw => List.mem_filter.mpr (by have h := List.all_eq_true.mp (by decide +kernel : (u_ws RX6 TX6 8).all (fun w => decide (w ∈ lw_tbl) && goodWord w) = true) w hw; simpa only [Bool.and_eq_true, decide_eq_true_eq] using h)
theorem inX7 : ∀ w ∈ u_ws RX7 TX7 41, w ∈ vtb := fun w hw => List.mem_filter.mpr (by have h := List.all_eq_true.mp (by decide +kernel : (u_ws RX7 TX7 41).all (fun w => decide (w ∈ lw_tbl) && goodWord w) = true) w hw; simpa only [Bool.and_eq_true, decide_eq_true_eq] using h)
theorem pl_X6_init : mX6_init.1.cls ≠ "java/lang/invoke/MethodHandle" ∧ mX6_init.1.cls ≠ "java/lang/invoke/VarHandle" ∧ (parseMethodDescriptor mX6_init.1.desc).map (fun d => d.parameters.length) = some 0 := by decide +kernel
theorem pn_X6_init : plainName mX6_init.1.cls = true := by decide +kernel
theorem pl_X1_init : mX1_init.1.cls ≠ "java/lang/invoke/MethodHandle" ∧ mX1_init.1.cls ≠ "java/lang/invoke/VarHandle" ∧ (parseMethodDescriptor mX1_init.1.desc).map (fun d => d.parameters.length) = some 0 := by decide +kernel
theorem pn_X1_init : plainName mX1_init.1.cls = true := by decide +kernel
theorem pl_X0_init : mX0_init.1.cls ≠ "java/lang/invoke/MethodHandle" ∧ mX0_init.1.cls ≠ "java/lang/invoke/VarHandle" ∧ (parseMethodDescriptor mX0_init.1.desc).map (fun d => d.parameters.length) = some 0 := by decide +kernel
theorem pn_X0_init : plainName mX0_init.1.cls = true := by decide +kernel
theorem pl_J7_fill_53178 : mJ7_fill_53178.1.cls ≠ "java/lang/invoke/MethodHandle" ∧ mJ7_fill_53178.1.cls ≠ "java/lang/invoke/VarHandle" ∧ (parseMethodDescriptor mJ7_fill_53178.1.desc).map (fun d => d.parameters.length) = some 2 := by decide +kernel
theorem pn_J7_fill_53178 : plainName mJ7_fill_53178.1.cls = true := by decide +kernel
theorem pl_X1_begin : mX1_begin.1.cls ≠ "java/lang/invoke/MethodHandle" ∧ mX1_begin.1.cls ≠ "java/lang/invoke/VarHandle" ∧ (parseMethodDescriptor mX1_begin.1.desc).map (fun d => d.parameters.length) = some 3 := by decide +kernel
theorem pn_X1_begin : plainName mX1_begin.1.cls = true := by decide +kernel
theorem pl_X2_init : mX2_init.1.cls ≠ "java/lang/invoke/MethodHandle" ∧ mX2_init.1.cls ≠ "java/lang/invoke/VarHandle" ∧ (parseMethodDescriptor mX2_init.1.desc).map (fun d => d.parameters.length) = some 1 := by decide +kernel
theorem pn_X2_init : plainName mX2_init.1.cls = true := by decide +kernel
theorem pl_X5_init : mX5_init.1.cls ≠ "java/lang/invoke/MethodHandle" ∧ mX5_init.1.cls ≠ "java/lang/invoke/VarHandle" ∧ (parseMethodDescriptor mX5_init.1.desc).map (fun d => d.parameters.length) = some 2 := by decide +kernel
theorem pn_X5_init : plainName mX5_init.1.cls = true := by decide +kernel
theorem pl_X4_init : mX4_init.1.cls ≠ "java/lang/invoke/MethodHandle" ∧ mX4_init.1.cls ≠ "java/lang/invoke/VarHandle" ∧ (parseMethodDescriptor mX4_init.1.desc).map (fun d => d.parameters.length) = some 0 := by decide +kernel
theorem pn_X4_init : plainName mX4_init.1.cls = true := by decide +kernel
theorem pl_X3_init : mX3_init.1.cls ≠ "java/lang/invoke/MethodHandle" ∧ mX3_init.1.cls ≠ "java/lang/invoke/VarHandle" ∧ (parseMethodDescriptor mX3_init.1.desc).map (fun d => d.parameters.length) = some 2 := by decide +kernel
theorem pn_X3_init : plainName mX3_init.1.cls = true := by decide +kernel
theorem pl_X6_table : mX6_table.1.cls ≠ "java/lang/invoke/MethodHandle" ∧ mX6_table.1.cls ≠ "java/lang/invoke/VarHandle" ∧ (parseMethodDescriptor mX6_table.1.desc).map (fun d => d.parameters.length) = some 3 := by decide +kernel
theorem pn_X6_table : plainName mX6_table.1.cls = true := by decide +kernel
theorem pl_X6_isWithin : mX6_isWithin.1.cls ≠ "java/lang/invoke/MethodHandle" ∧ mX6_isWithin.1.cls ≠ "java/lang/invoke/VarHandle" ∧ (parseMethodDescriptor mX6_isWithin.1.desc).map (fun d => d.parameters.length) = some 3 := by decide +kernel
theorem pn_X6_isWithin : plainName mX6_isWithin.1.cls = true := by decide +kernel
theorem pl_X5_forget : mX5_forget.1.cls ≠ "java/lang/invoke/MethodHandle" ∧ mX5_forget.1.cls ≠ "java/lang/invoke/VarHandle" ∧ (parseMethodDescriptor mX5_forget.1.desc).map (fun d => d.parameters.length) = some 0 := by decide +kernel
theorem pn_X5_forget : plainName mX5_forget.1.cls = true := by decide +kernel
theorem pl_X3_forget : mX3_forget.1.cls ≠ "java/lang/invoke/MethodHandle" ∧ mX3_forget.1.cls ≠ "java/lang/invoke/VarHandle" ∧ (parseMethodDescriptor mX3_forget.1.desc).map (fun d => d.parameters.length) = some 0 := by decide +kernel
theorem pn_X3_forget : plainName mX3_forget.1.cls = true := by decide +kernel
theorem pl_X6_weight : mX6_weight.1.cls ≠ "java/lang/invoke/MethodHandle" ∧ mX6_weight.1.cls ≠ "java/lang/invoke/VarHandle" ∧ (parseMethodDescriptor mX6_weight.1.desc).map (fun d => d.parameters.length) = some 2 := by decide +kernel
theorem pn_X6_weight : plainName mX6_weight.1.cls = true := by decide +kernel
theorem pl_X6_note : mX6_note.1.cls ≠ "java/lang/invoke/MethodHandle" ∧ mX6_note.1.cls ≠ "java/lang/invoke/VarHandle" ∧ (parseMethodDescriptor mX6_note.1.desc).map (fun d => d.parameters.length) = some 2 := by decide +kernel
theorem pn_X6_note : plainName mX6_note.1.cls = true := by decide +kernel
theorem pl_X6_cell : mX6_cell.1.cls ≠ "java/lang/invoke/MethodHandle" ∧ mX6_cell.1.cls ≠ "java/lang/invoke/VarHandle" ∧ (parseMethodDescriptor mX6_cell.1.desc).map (fun d => d.parameters.length) = some 5 := by decide +kernel
theorem pn_X6_cell : plainName mX6_cell.1.cls = true := by decide +kernel
theorem pl_X6_isPlace : mX6_isPlace.1.cls ≠ "java/lang/invoke/MethodHandle" ∧ mX6_isPlace.1.cls ≠ "java/lang/invoke/VarHandle" ∧ (parseMethodDescriptor mX6_isPlace.1.desc).map (fun d => d.parameters.length) = some 2 := by decide +kernel
theorem pn_X6_isPlace : plainName mX6_isPlace.1.cls = true := by decide +kernel
theorem pl_X6_tell : mX6_tell.1.cls ≠ "java/lang/invoke/MethodHandle" ∧ mX6_tell.1.cls ≠ "java/lang/invoke/VarHandle" ∧ (parseMethodDescriptor mX6_tell.1.desc).map (fun d => d.parameters.length) = some 1 := by decide +kernel
theorem pn_X6_tell : plainName mX6_tell.1.cls = true := by decide +kernel
theorem pl_X1_firstOn : mX1_firstOn.1.cls ≠ "java/lang/invoke/MethodHandle" ∧ mX1_firstOn.1.cls ≠ "java/lang/invoke/VarHandle" ∧ (parseMethodDescriptor mX1_firstOn.1.desc).map (fun d => d.parameters.length) = some 4 := by decide +kernel
theorem pn_X1_firstOn : plainName mX1_firstOn.1.cls = true := by decide +kernel
theorem pl_X1_present : mX1_present.1.cls ≠ "java/lang/invoke/MethodHandle" ∧ mX1_present.1.cls ≠ "java/lang/invoke/VarHandle" ∧ (parseMethodDescriptor mX1_present.1.desc).map (fun d => d.parameters.length) = some 1 := by decide +kernel
theorem pn_X1_present : plainName mX1_present.1.cls = true := by decide +kernel
theorem pl_X1_numbered : mX1_numbered.1.cls ≠ "java/lang/invoke/MethodHandle" ∧ mX1_numbered.1.cls ≠ "java/lang/invoke/VarHandle" ∧ (parseMethodDescriptor mX1_numbered.1.desc).map (fun d => d.parameters.length) = some 1 := by decide +kernel
theorem pn_X1_numbered : plainName mX1_numbered.1.cls = true := by decide +kernel
theorem pl_X0_meets : mX0_meets.1.cls ≠ "java/lang/invoke/MethodHandle" ∧ mX0_meets.1.cls ≠ "java/lang/invoke/VarHandle" ∧ (parseMethodDescriptor mX0_meets.1.desc).map (fun d => d.parameters.length) = some 4 := by decide +kernel
theorem pn_X0_meets : plainName mX0_meets.1.cls = true := by decide +kernel
theorem pl_X1_add : mX1_add.1.cls ≠ "java/lang/invoke/MethodHandle" ∧ mX1_add.1.cls ≠ "java/lang/invoke/VarHandle" ∧ (parseMethodDescriptor mX1_add.1.desc).map (fun d => d.parameters.length) = some 5 := by decide +kernel
theorem pn_X1_add : plainName mX1_add.1.cls = true := by decide +kernel
theorem pl_X0_begin : mX0_begin.1.cls ≠ "java/lang/invoke/MethodHandle" ∧ mX0_begin.1.cls ≠ "java/lang/invoke/VarHandle" ∧ (parseMethodDescriptor mX0_begin.1.desc).map (fun d => d.parameters.length) = some 5 := by decide +kernel
theorem pn_X0_begin : plainName mX0_begin.1.cls = true := by decide +kernel
theorem pl_X0_fill : mX0_fill.1.cls ≠ "java/lang/invoke/MethodHandle" ∧ mX0_fill.1.cls ≠ "java/lang/invoke/VarHandle" ∧ (parseMethodDescriptor mX0_fill.1.desc).map (fun d => d.parameters.length) = some 1 := by decide +kernel
theorem pn_X0_fill : plainName mX0_fill.1.cls = true := by decide +kernel
theorem pl_X0_forgetLines : mX0_forgetLines.1.cls ≠ "java/lang/invoke/MethodHandle" ∧ mX0_forgetLines.1.cls ≠ "java/lang/invoke/VarHandle" ∧ (parseMethodDescriptor mX0_forgetLines.1.desc).map (fun d => d.parameters.length) = some 0 := by decide +kernel
theorem pn_X0_forgetLines : plainName mX0_forgetLines.1.cls = true := by decide +kernel
theorem pl_X6_clash : mX6_clash.1.cls ≠ "java/lang/invoke/MethodHandle" ∧ mX6_clash.1.cls ≠ "java/lang/invoke/VarHandle" ∧ (parseMethodDescriptor mX6_clash.1.desc).map (fun d => d.parameters.length) = some 0 := by decide +kernel
theorem pn_X6_clash : plainName mX6_clash.1.cls = true := by decide +kernel
theorem pl_X6_drop : mX6_drop.1.cls ≠ "java/lang/invoke/MethodHandle" ∧ mX6_drop.1.cls ≠ "java/lang/invoke/VarHandle" ∧ (parseMethodDescriptor mX6_drop.1.desc).map (fun d => d.parameters.length) = some 1 := by decide +kernel
theorem pn_X6_drop : plainName mX6_drop.1.cls = true := by decide +kernel
theorem pl_X6_told : mX6_told.1.cls ≠ "java/lang/invoke/MethodHandle" ∧ mX6_told.1.cls ≠ "java/lang/invoke/VarHandle" ∧ (parseMethodDescriptor mX6_told.1.desc).map (fun d => d.parameters.length) = some 2 := by decide +kernel
theorem pn_X6_told : plainName mX6_told.1.cls = true := by decide +kernel
theorem pl_X0_fact : mX0_fact.1.cls ≠ "java/lang/invoke/MethodHandle" ∧ mX0_fact.1.cls ≠ "java/lang/invoke/VarHandle" ∧ (parseMethodDescriptor mX0_fact.1.desc).map (fun d => d.parameters.length) = some 1 := by decide +kernel
theorem pn_X0_fact : plainName mX0_fact.1.cls = true := by decide +kernel
theorem pl_X6_is : mX6_is.1.cls ≠ "java/lang/invoke/MethodHandle" ∧ mX6_is.1.cls ≠ "java/lang/invoke/VarHandle" ∧ (parseMethodDescriptor mX6_is.1.desc).map (fun d => d.parameters.length) = some 2 := by decide +kernel
theorem pn_X6_is : plainName mX6_is.1.cls = true := by decide +kernel
theorem pl_X6_on : mX6_on.1.cls ≠ "java/lang/invoke/MethodHandle" ∧ mX6_on.1.cls ≠ "java/lang/invoke/VarHandle" ∧ (parseMethodDescriptor mX6_on.1.desc).map (fun d => d.parameters.length) = some 2 := by decide +kernel
theorem pn_X6_on : plainName mX6_on.1.cls = true := by decide +kernel
theorem pl_X6_words : mX6_words.1.cls ≠ "java/lang/invoke/MethodHandle" ∧ mX6_words.1.cls ≠ "java/lang/invoke/VarHandle" ∧ (parseMethodDescriptor mX6_words.1.desc).map (fun d => d.parameters.length) = some 2 := by decide +kernel
theorem pn_X6_words : plainName mX6_words.1.cls = true := by decide +kernel
theorem pl_X6_word : mX6_word.1.cls ≠ "java/lang/invoke/MethodHandle" ∧ mX6_word.1.cls ≠ "java/lang/invoke/VarHandle" ∧ (parseMethodDescriptor mX6_word.1.desc).map (fun d => d.parameters.length) = some 3 := by decide +kernel
theorem pn_X6_word : plainName mX6_word.1.cls = true := by decide +kernel
theorem pl_X0_holds : mX0_holds.1.cls ≠ "java/lang/invoke/MethodHandle" ∧ mX0_holds.1.cls ≠ "java/lang/invoke/VarHandle" ∧ (parseMethodDescriptor mX0_holds.1.desc).map (fun d => d.parameters.length) = some 2 := by decide +kernel
theorem pn_X0_holds : plainName mX0_holds.1.cls = true := by decide +kernel
theorem pl_X0_exchange : mX0_exchange.1.cls ≠ "java/lang/invoke/MethodHandle" ∧ mX0_exchange.1.cls ≠ "java/lang/invoke/VarHandle" ∧ (parseMethodDescriptor mX0_exchange.1.desc).map (fun d => d.parameters.length) = some 2 := by decide +kernel
theorem pn_X0_exchange : plainName mX0_exchange.1.cls = true := by decide +kernel
theorem pl_X6_copy : mX6_copy.1.cls ≠ "java/lang/invoke/MethodHandle" ∧ mX6_copy.1.cls ≠ "java/lang/invoke/VarHandle" ∧ (parseMethodDescriptor mX6_copy.1.desc).map (fun d => d.parameters.length) = some 5 := by decide +kernel
theorem pn_X6_copy : plainName mX6_copy.1.cls = true := by decide +kernel
theorem pl_X0_take : mX0_take.1.cls ≠ "java/lang/invoke/MethodHandle" ∧ mX0_take.1.cls ≠ "java/lang/invoke/VarHandle" ∧ (parseMethodDescriptor mX0_take.1.desc).map (fun d => d.parameters.length) = some 4 := by decide +kernel
theorem pn_X0_take : plainName mX0_take.1.cls = true := by decide +kernel
theorem pl_X6_mean : mX6_mean.1.cls ≠ "java/lang/invoke/MethodHandle" ∧ mX6_mean.1.cls ≠ "java/lang/invoke/VarHandle" ∧ (parseMethodDescriptor mX6_mean.1.desc).map (fun d => d.parameters.length) = some 1 := by decide +kernel
theorem pn_X6_mean : plainName mX6_mean.1.cls = true := by decide +kernel
theorem pl_X0_allLetters : mX0_allLetters.1.cls ≠ "java/lang/invoke/MethodHandle" ∧ mX0_allLetters.1.cls ≠ "java/lang/invoke/VarHandle" ∧ (parseMethodDescriptor mX0_allLetters.1.desc).map (fun d => d.parameters.length) = some 0 := by decide +kernel
theorem pn_X0_allLetters : plainName mX0_allLetters.1.cls = true := by decide +kernel
theorem pl_X6_calls : mX6_calls.1.cls ≠ "java/lang/invoke/MethodHandle" ∧ mX6_calls.1.cls ≠ "java/lang/invoke/VarHandle" ∧ (parseMethodDescriptor mX6_calls.1.desc).map (fun d => d.parameters.length) = some 2 := by decide +kernel
theorem pn_X6_calls : plainName mX6_calls.1.cls = true := by decide +kernel
theorem pl_X6_fix : mX6_fix.1.cls ≠ "java/lang/invoke/MethodHandle" ∧ mX6_fix.1.cls ≠ "java/lang/invoke/VarHandle" ∧ (parseMethodDescriptor mX6_fix.1.desc).map (fun d => d.parameters.length) = some 2 := by decide +kernel
theorem pn_X6_fix : plainName mX6_fix.1.cls = true := by decide +kernel
theorem pl_X6_lines : mX6_lines.1.cls ≠ "java/lang/invoke/MethodHandle" ∧ mX6_lines.1.cls ≠ "java/lang/invoke/VarHandle" ∧ (parseMethodDescriptor mX6_lines.1.desc).map (fun d => d.parameters.length) = some 2 := by decide +kernel
theorem pn_X6_lines : plainName mX6_lines.1.cls = true := by decide +kernel
theorem pl_X0_linesIn : mX0_linesIn.1.cls ≠ "java/lang/invoke/MethodHandle" ∧ mX0_linesIn.1.cls ≠ "java/lang/invoke/VarHandle" ∧ (parseMethodDescriptor mX0_linesIn.1.desc).map (fun d => d.parameters.length) = some 1 := by decide +kernel
theorem pn_X0_linesIn : plainName mX0_linesIn.1.cls = true := by decide +kernel
theorem pl_X0_countLines : mX0_countLines.1.cls ≠ "java/lang/invoke/MethodHandle" ∧ mX0_countLines.1.cls ≠ "java/lang/invoke/VarHandle" ∧ (parseMethodDescriptor mX0_countLines.1.desc).map (fun d => d.parameters.length) = some 1 := by decide +kernel
theorem pn_X0_countLines : plainName mX0_countLines.1.cls = true := by decide +kernel
theorem pl_X6_want : mX6_want.1.cls ≠ "java/lang/invoke/MethodHandle" ∧ mX6_want.1.cls ≠ "java/lang/invoke/VarHandle" ∧ (parseMethodDescriptor mX6_want.1.desc).map (fun d => d.parameters.length) = some 2 := by decide +kernel
theorem pn_X6_want : plainName mX6_want.1.cls = true := by decide +kernel
theorem pl_X0_wanted : mX0_wanted.1.cls ≠ "java/lang/invoke/MethodHandle" ∧ mX0_wanted.1.cls ≠ "java/lang/invoke/VarHandle" ∧ (parseMethodDescriptor mX0_wanted.1.desc).map (fun d => d.parameters.length) = some 1 := by decide +kernel
theorem pn_X0_wanted : plainName mX0_wanted.1.cls = true := by decide +kernel
theorem pl_X0_longestPiece : mX0_longestPiece.1.cls ≠ "java/lang/invoke/MethodHandle" ∧ mX0_longestPiece.1.cls ≠ "java/lang/invoke/VarHandle" ∧ (parseMethodDescriptor mX0_longestPiece.1.desc).map (fun d => d.parameters.length) = some 0 := by decide +kernel
theorem pn_X0_longestPiece : plainName mX0_longestPiece.1.cls = true := by decide +kernel
theorem pl_X6_natural : mX6_natural.1.cls ≠ "java/lang/invoke/MethodHandle" ∧ mX6_natural.1.cls ≠ "java/lang/invoke/VarHandle" ∧ (parseMethodDescriptor mX6_natural.1.desc).map (fun d => d.parameters.length) = some 2 := by decide +kernel
theorem pn_X6_natural : plainName mX6_natural.1.cls = true := by decide +kernel
theorem pl_X5_measure : mX5_measure.1.cls ≠ "java/lang/invoke/MethodHandle" ∧ mX5_measure.1.cls ≠ "java/lang/invoke/VarHandle" ∧ (parseMethodDescriptor mX5_measure.1.desc).map (fun d => d.parameters.length) = some 0 := by decide +kernel
theorem pn_X5_measure : plainName mX5_measure.1.cls = true := by decide +kernel
theorem pl_X5_measureFor : mX5_measureFor.1.cls ≠ "java/lang/invoke/MethodHandle" ∧ mX5_measureFor.1.cls ≠ "java/lang/invoke/VarHandle" ∧ (parseMethodDescriptor mX5_measureFor.1.desc).map (fun d => d.parameters.length) = some 2 := by decide +kernel
theorem pn_X5_measureFor : plainName mX5_measureFor.1.cls = true := by decide +kernel
theorem pl_X1_spanOf : mX1_spanOf.1.cls ≠ "java/lang/invoke/MethodHandle" ∧ mX1_spanOf.1.cls ≠ "java/lang/invoke/VarHandle" ∧ (parseMethodDescriptor mX1_spanOf.1.desc).map (fun d => d.parameters.length) = some 2 := by decide +kernel
theorem pn_X1_spanOf : plainName mX1_spanOf.1.cls = true := by decide +kernel
theorem pl_X5_noteLack : mX5_noteLack.1.cls ≠ "java/lang/invoke/MethodHandle" ∧ mX5_noteLack.1.cls ≠ "java/lang/invoke/VarHandle" ∧ (parseMethodDescriptor mX5_noteLack.1.desc).map (fun d => d.parameters.length) = some 2 := by decide +kernel
theorem pn_X5_noteLack : plainName mX5_noteLack.1.cls = true := by decide +kernel
theorem pl_X4_divide : mX4_divide.1.cls ≠ "java/lang/invoke/MethodHandle" ∧ mX4_divide.1.cls ≠ "java/lang/invoke/VarHandle" ∧ (parseMethodDescriptor mX4_divide.1.desc).map (fun d => d.parameters.length) = some 4 := by decide +kernel
theorem pn_X4_divide : plainName mX4_divide.1.cls = true := by decide +kernel
theorem pl_X4_giveOne : mX4_giveOne.1.cls ≠ "java/lang/invoke/MethodHandle" ∧ mX4_giveOne.1.cls ≠ "java/lang/invoke/VarHandle" ∧ (parseMethodDescriptor mX4_giveOne.1.desc).map (fun d => d.parameters.length) = some 2 := by decide +kernel
theorem pn_X4_giveOne : plainName mX4_giveOne.1.cls = true := by decide +kernel
theorem pl_X5_addTo : mX5_addTo.1.cls ≠ "java/lang/invoke/MethodHandle" ∧ mX5_addTo.1.cls ≠ "java/lang/invoke/VarHandle" ∧ (parseMethodDescriptor mX5_addTo.1.desc).map (fun d => d.parameters.length) = some 2 := by decide +kernel
theorem pn_X5_addTo : plainName mX5_addTo.1.cls = true := by decide +kernel
theorem pl_X6_set : mX6_set.1.cls ≠ "java/lang/invoke/MethodHandle" ∧ mX6_set.1.cls ≠ "java/lang/invoke/VarHandle" ∧ (parseMethodDescriptor mX6_set.1.desc).map (fun d => d.parameters.length) = some 1 := by decide +kernel
theorem pn_X6_set : plainName mX6_set.1.cls = true := by decide +kernel
theorem pl_X5_spareOf : mX5_spareOf.1.cls ≠ "java/lang/invoke/MethodHandle" ∧ mX5_spareOf.1.cls ≠ "java/lang/invoke/VarHandle" ∧ (parseMethodDescriptor mX5_spareOf.1.desc).map (fun d => d.parameters.length) = some 1 := by decide +kernel
theorem pn_X5_spareOf : plainName mX5_spareOf.1.cls = true := by decide +kernel
theorem pl_X1_gaps : mX1_gaps.1.cls ≠ "java/lang/invoke/MethodHandle" ∧ mX1_gaps.1.cls ≠ "java/lang/invoke/VarHandle" ∧ (parseMethodDescriptor mX1_gaps.1.desc).map (fun d => d.parameters.length) = some 0 := by decide +kernel
theorem pn_X1_gaps : plainName mX1_gaps.1.cls = true := by decide +kernel
theorem pl_X5_sumOf : mX5_sumOf.1.cls ≠ "java/lang/invoke/MethodHandle" ∧ mX5_sumOf.1.cls ≠ "java/lang/invoke/VarHandle" ∧ (parseMethodDescriptor mX5_sumOf.1.desc).map (fun d => d.parameters.length) = some 1 := by decide +kernel
theorem pn_X5_sumOf : plainName mX5_sumOf.1.cls = true := by decide +kernel
theorem pl_X5_spread : mX5_spread.1.cls ≠ "java/lang/invoke/MethodHandle" ∧ mX5_spread.1.cls ≠ "java/lang/invoke/VarHandle" ∧ (parseMethodDescriptor mX5_spread.1.desc).map (fun d => d.parameters.length) = some 1 := by decide +kernel
theorem pn_X5_spread : plainName mX5_spread.1.cls = true := by decide +kernel
theorem pl_X6_heightOfTable : mX6_heightOfTable.1.cls ≠ "java/lang/invoke/MethodHandle" ∧ mX6_heightOfTable.1.cls ≠ "java/lang/invoke/VarHandle" ∧ (parseMethodDescriptor mX6_heightOfTable.1.desc).map (fun d => d.parameters.length) = some 0 := by decide +kernel
theorem pn_X6_heightOfTable : plainName mX6_heightOfTable.1.cls = true := by decide +kernel
theorem pl_X2_sortCells : mX2_sortCells.1.cls ≠ "java/lang/invoke/MethodHandle" ∧ mX2_sortCells.1.cls ≠ "java/lang/invoke/VarHandle" ∧ (parseMethodDescriptor mX2_sortCells.1.desc).map (fun d => d.parameters.length) = some 0 := by decide +kernel
theorem pn_X2_sortCells : plainName mX2_sortCells.1.cls = true := by decide +kernel
theorem pl_X2_measure : mX2_measure.1.cls ≠ "java/lang/invoke/MethodHandle" ∧ mX2_measure.1.cls ≠ "java/lang/invoke/VarHandle" ∧ (parseMethodDescriptor mX2_measure.1.desc).map (fun d => d.parameters.length) = some 1 := by decide +kernel
theorem pn_X2_measure : plainName mX2_measure.1.cls = true := by decide +kernel
theorem pl_X2_grow : mX2_grow.1.cls ≠ "java/lang/invoke/MethodHandle" ∧ mX2_grow.1.cls ≠ "java/lang/invoke/VarHandle" ∧ (parseMethodDescriptor mX2_grow.1.desc).map (fun d => d.parameters.length) = some 0 := by decide +kernel
theorem pn_X2_grow : plainName mX2_grow.1.cls = true := by decide +kernel
theorem pl_X2_noteLack : mX2_noteLack.1.cls ≠ "java/lang/invoke/MethodHandle" ∧ mX2_noteLack.1.cls ≠ "java/lang/invoke/VarHandle" ∧ (parseMethodDescriptor mX2_noteLack.1.desc).map (fun d => d.parameters.length) = some 2 := by decide +kernel
theorem pn_X2_noteLack : plainName mX2_noteLack.1.cls = true := by decide +kernel
theorem pl_X2_sum : mX2_sum.1.cls ≠ "java/lang/invoke/MethodHandle" ∧ mX2_sum.1.cls ≠ "java/lang/invoke/VarHandle" ∧ (parseMethodDescriptor mX2_sum.1.desc).map (fun d => d.parameters.length) = some 0 := by decide +kernel
theorem pn_X2_sum : plainName mX2_sum.1.cls = true := by decide +kernel
theorem pl_X6_tight : mX6_tight.1.cls ≠ "java/lang/invoke/MethodHandle" ∧ mX6_tight.1.cls ≠ "java/lang/invoke/VarHandle" ∧ (parseMethodDescriptor mX6_tight.1.desc).map (fun d => d.parameters.length) = some 2 := by decide +kernel
theorem pn_X6_tight : plainName mX6_tight.1.cls = true := by decide +kernel
theorem pl_X5_waysToSpread : mX5_waysToSpread.1.cls ≠ "java/lang/invoke/MethodHandle" ∧ mX5_waysToSpread.1.cls ≠ "java/lang/invoke/VarHandle" ∧ (parseMethodDescriptor mX5_waysToSpread.1.desc).map (fun d => d.parameters.length) = some 1 := by decide +kernel
theorem pn_X5_waysToSpread : plainName mX5_waysToSpread.1.cls = true := by decide +kernel
theorem pl_X5_tighten : mX5_tighten.1.cls ≠ "java/lang/invoke/MethodHandle" ∧ mX5_tighten.1.cls ≠ "java/lang/invoke/VarHandle" ∧ (parseMethodDescriptor mX5_tighten.1.desc).map (fun d => d.parameters.length) = some 2 := by decide +kernel
theorem pn_X5_tighten : plainName mX5_tighten.1.cls = true := by decide +kernel
theorem pl_X5_addToLast : mX5_addToLast.1.cls ≠ "java/lang/invoke/MethodHandle" ∧ mX5_addToLast.1.cls ≠ "java/lang/invoke/VarHandle" ∧ (parseMethodDescriptor mX5_addToLast.1.desc).map (fun d => d.parameters.length) = some 1 := by decide +kernel
theorem pn_X5_addToLast : plainName mX5_addToLast.1.cls = true := by decide +kernel
theorem pl_X5_tryNext : mX5_tryNext.1.cls ≠ "java/lang/invoke/MethodHandle" ∧ mX5_tryNext.1.cls ≠ "java/lang/invoke/VarHandle" ∧ (parseMethodDescriptor mX5_tryNext.1.desc).map (fun d => d.parameters.length) = some 0 := by decide +kernel
theorem pn_X5_tryNext : plainName mX5_tryNext.1.cls = true := by decide +kernel
theorem pl_X6_tries : mX6_tries.1.cls ≠ "java/lang/invoke/MethodHandle" ∧ mX6_tries.1.cls ≠ "java/lang/invoke/VarHandle" ∧ (parseMethodDescriptor mX6_tries.1.desc).map (fun d => d.parameters.length) = some 0 := by decide +kernel
theorem pn_X6_tries : plainName mX6_tries.1.cls = true := by decide +kernel
theorem pl_X6_width : mX6_width.1.cls ≠ "java/lang/invoke/MethodHandle" ∧ mX6_width.1.cls ≠ "java/lang/invoke/VarHandle" ∧ (parseMethodDescriptor mX6_width.1.desc).map (fun d => d.parameters.length) = some 1 := by decide +kernel
theorem pn_X6_width : plainName mX6_width.1.cls = true := by decide +kernel
theorem pl_X6_height : mX6_height.1.cls ≠ "java/lang/invoke/MethodHandle" ∧ mX6_height.1.cls ≠ "java/lang/invoke/VarHandle" ∧ (parseMethodDescriptor mX6_height.1.desc).map (fun d => d.parameters.length) = some 1 := by decide +kernel
theorem pn_X6_height : plainName mX6_height.1.cls = true := by decide +kernel
theorem pl_X6_pages : mX6_pages.1.cls ≠ "java/lang/invoke/MethodHandle" ∧ mX6_pages.1.cls ≠ "java/lang/invoke/VarHandle" ∧ (parseMethodDescriptor mX6_pages.1.desc).map (fun d => d.parameters.length) = some 1 := by decide +kernel
theorem pn_X6_pages : plainName mX6_pages.1.cls = true := by decide +kernel
theorem pl_X3_make : mX3_make.1.cls ≠ "java/lang/invoke/MethodHandle" ∧ mX3_make.1.cls ≠ "java/lang/invoke/VarHandle" ∧ (parseMethodDescriptor mX3_make.1.desc).map (fun d => d.parameters.length) = some 1 := by decide +kernel
theorem pn_X3_make : plainName mX3_make.1.cls = true := by decide +kernel
theorem pl_X1_headRows : mX1_headRows.1.cls ≠ "java/lang/invoke/MethodHandle" ∧ mX1_headRows.1.cls ≠ "java/lang/invoke/VarHandle" ∧ (parseMethodDescriptor mX1_headRows.1.desc).map (fun d => d.parameters.length) = some 0 := by decide +kernel
theorem pn_X1_headRows : plainName mX1_headRows.1.cls = true := by decide +kernel
theorem pl_X1_hasHead : mX1_hasHead.1.cls ≠ "java/lang/invoke/MethodHandle" ∧ mX1_hasHead.1.cls ≠ "java/lang/invoke/VarHandle" ∧ (parseMethodDescriptor mX1_hasHead.1.desc).map (fun d => d.parameters.length) = some 1 := by decide +kernel
theorem pn_X1_hasHead : plainName mX1_hasHead.1.cls = true := by decide +kernel
theorem pl_X0_liesOnRow : mX0_liesOnRow.1.cls ≠ "java/lang/invoke/MethodHandle" ∧ mX0_liesOnRow.1.cls ≠ "java/lang/invoke/VarHandle" ∧ (parseMethodDescriptor mX0_liesOnRow.1.desc).map (fun d => d.parameters.length) = some 1 := by decide +kernel
theorem pn_X0_liesOnRow : plainName mX0_liesOnRow.1.cls = true := by decide +kernel
theorem pl_X3_findHomes : mX3_findHomes.1.cls ≠ "java/lang/invoke/MethodHandle" ∧ mX3_findHomes.1.cls ≠ "java/lang/invoke/VarHandle" ∧ (parseMethodDescriptor mX3_findHomes.1.desc).map (fun d => d.parameters.length) = some 0 := by decide +kernel
theorem pn_X3_findHomes : plainName mX3_findHomes.1.cls = true := by decide +kernel
theorem pl_X1_firstCall : mX1_firstCall.1.cls ≠ "java/lang/invoke/MethodHandle" ∧ mX1_firstCall.1.cls ≠ "java/lang/invoke/VarHandle" ∧ (parseMethodDescriptor mX1_firstCall.1.desc).map (fun d => d.parameters.length) = some 1 := by decide +kernel
theorem pn_X1_firstCall : plainName mX1_firstCall.1.cls = true := by decide +kernel
theorem pl_X1_breaksAhead : mX1_breaksAhead.1.cls ≠ "java/lang/invoke/MethodHandle" ∧ mX1_breaksAhead.1.cls ≠ "java/lang/invoke/VarHandle" ∧ (parseMethodDescriptor mX1_breaksAhead.1.desc).map (fun d => d.parameters.length) = some 2 := by decide +kernel
theorem pn_X1_breaksAhead : plainName mX1_breaksAhead.1.cls = true := by decide +kernel
theorem pl_X3_planFrom : mX3_planFrom.1.cls ≠ "java/lang/invoke/MethodHandle" ∧ mX3_planFrom.1.cls ≠ "java/lang/invoke/VarHandle" ∧ (parseMethodDescriptor mX3_planFrom.1.desc).map (fun d => d.parameters.length) = some 1 := by decide +kernel
theorem pn_X3_planFrom : plainName mX3_planFrom.1.cls = true := by decide +kernel
theorem pl_X3_isAlone : mX3_isAlone.1.cls ≠ "java/lang/invoke/MethodHandle" ∧ mX3_isAlone.1.cls ≠ "java/lang/invoke/VarHandle" ∧ (parseMethodDescriptor mX3_isAlone.1.desc).map (fun d => d.parameters.length) = some 2 := by decide +kernel
theorem pn_X3_isAlone : plainName mX3_isAlone.1.cls = true := by decide +kernel
theorem pl_X3_weigh : mX3_weigh.1.cls ≠ "java/lang/invoke/MethodHandle" ∧ mX3_weigh.1.cls ≠ "java/lang/invoke/VarHandle" ∧ (parseMethodDescriptor mX3_weigh.1.desc).map (fun d => d.parameters.length) = some 3 := by decide +kernel
theorem pn_X3_weigh : plainName mX3_weigh.1.cls = true := by decide +kernel
theorem pl_X3_layOut : mX3_layOut.1.cls ≠ "java/lang/invoke/MethodHandle" ∧ mX3_layOut.1.cls ≠ "java/lang/invoke/VarHandle" ∧ (parseMethodDescriptor mX3_layOut.1.desc).map (fun d => d.parameters.length) = some 0 := by decide +kernel
theorem pn_X3_layOut : plainName mX3_layOut.1.cls = true := by decide +kernel
theorem pl_X6_page : mX6_page.1.cls ≠ "java/lang/invoke/MethodHandle" ∧ mX6_page.1.cls ≠ "java/lang/invoke/VarHandle" ∧ (parseMethodDescriptor mX6_page.1.desc).map (fun d => d.parameters.length) = some 2 := by decide +kernel
theorem pn_X6_page : plainName mX6_page.1.cls = true := by decide +kernel
theorem pl_X6_pageOf : mX6_pageOf.1.cls ≠ "java/lang/invoke/MethodHandle" ∧ mX6_pageOf.1.cls ≠ "java/lang/invoke/VarHandle" ∧ (parseMethodDescriptor mX6_pageOf.1.desc).map (fun d => d.parameters.length) = some 1 := by decide +kernel
theorem pn_X6_pageOf : plainName mX6_pageOf.1.cls = true := by decide +kernel
theorem pl_X3_holding : mX3_holding.1.cls ≠ "java/lang/invoke/MethodHandle" ∧ mX3_holding.1.cls ≠ "java/lang/invoke/VarHandle" ∧ (parseMethodDescriptor mX3_holding.1.desc).map (fun d => d.parameters.length) = some 1 := by decide +kernel
theorem pn_X3_holding : plainName mX3_holding.1.cls = true := by decide +kernel
theorem pl_X6_mayBreak : mX6_mayBreak.1.cls ≠ "java/lang/invoke/MethodHandle" ∧ mX6_mayBreak.1.cls ≠ "java/lang/invoke/VarHandle" ∧ (parseMethodDescriptor mX6_mayBreak.1.desc).map (fun d => d.parameters.length) = some 1 := by decide +kernel
theorem pn_X6_mayBreak : plainName mX6_mayBreak.1.cls = true := by decide +kernel
theorem pl_X6_count : mX6_count.1.cls ≠ "java/lang/invoke/MethodHandle" ∧ mX6_count.1.cls ≠ "java/lang/invoke/VarHandle" ∧ (parseMethodDescriptor mX6_count.1.desc).map (fun d => d.parameters.length) = some 1 := by decide +kernel
theorem pn_X6_count : plainName mX6_count.1.cls = true := by decide +kernel
theorem pl_X1_presentCells : mX1_presentCells.1.cls ≠ "java/lang/invoke/MethodHandle" ∧ mX1_presentCells.1.cls ≠ "java/lang/invoke/VarHandle" ∧ (parseMethodDescriptor mX1_presentCells.1.desc).map (fun d => d.parameters.length) = some 0 := by decide +kernel
theorem pn_X1_presentCells : plainName mX1_presentCells.1.cls = true := by decide +kernel
theorem pl_X6_finding : mX6_finding.1.cls ≠ "java/lang/invoke/MethodHandle" ∧ mX6_finding.1.cls ≠ "java/lang/invoke/VarHandle" ∧ (parseMethodDescriptor mX6_finding.1.desc).map (fun d => d.parameters.length) = some 0 := by decide +kernel
theorem pn_X6_finding : plainName mX6_finding.1.cls = true := by decide +kernel
theorem pl_X6_findings : mX6_findings.1.cls ≠ "java/lang/invoke/MethodHandle" ∧ mX6_findings.1.cls ≠ "java/lang/invoke/VarHandle" ∧ (parseMethodDescriptor mX6_findings.1.desc).map (fun d => d.parameters.length) = some 1 := by decide +kernel
theorem pn_X6_findings : plainName mX6_findings.1.cls = true := by decide +kernel
theorem pl_X6_digest : mX6_digest.1.cls ≠ "java/lang/invoke/MethodHandle" ∧ mX6_digest.1.cls ≠ "java/lang/invoke/VarHandle" ∧ (parseMethodDescriptor mX6_digest.1.desc).map (fun d => d.parameters.length) = some 0 := by decide +kernel
theorem pn_X6_digest : plainName mX6_digest.1.cls = true := by decide +kernel
theorem pl_X6_mixed : mX6_mixed.1.cls ≠ "java/lang/invoke/MethodHandle" ∧ mX6_mixed.1.cls ≠ "java/lang/invoke/VarHandle" ∧ (parseMethodDescriptor mX6_mixed.1.desc).map (fun d => d.parameters.length) = some 3 := by decide +kernel
theorem pn_X6_mixed : plainName mX6_mixed.1.cls = true := by decide +kernel
theorem pl_X6_mixedCell : mX6_mixedCell.1.cls ≠ "java/lang/invoke/MethodHandle" ∧ mX6_mixedCell.1.cls ≠ "java/lang/invoke/VarHandle" ∧ (parseMethodDescriptor mX6_mixedCell.1.desc).map (fun d => d.parameters.length) = some 2 := by decide +kernel
theorem pn_X6_mixedCell : plainName mX6_mixedCell.1.cls = true := by decide +kernel
theorem pl_X7_init : mX7_init.1.cls ≠ "java/lang/invoke/MethodHandle" ∧ mX7_init.1.cls ≠ "java/lang/invoke/VarHandle" ∧ (parseMethodDescriptor mX7_init.1.desc).map (fun d => d.parameters.length) = some 0 := by decide +kernel
theorem pn_X7_init : plainName mX7_init.1.cls = true := by decide +kernel
theorem pl_X7_begin : mX7_begin.1.cls ≠ "java/lang/invoke/MethodHandle" ∧ mX7_begin.1.cls ≠ "java/lang/invoke/VarHandle" ∧ (parseMethodDescriptor mX7_begin.1.desc).map (fun d => d.parameters.length) = some 3 := by decide +kernel
theorem pn_X7_begin : plainName mX7_begin.1.cls = true := by decide +kernel
theorem pl_X7_finding : mX7_finding.1.cls ≠ "java/lang/invoke/MethodHandle" ∧ mX7_finding.1.cls ≠ "java/lang/invoke/VarHandle" ∧ (parseMethodDescriptor mX7_finding.1.desc).map (fun d => d.parameters.length) = some 0 := by decide +kernel
theorem pn_X7_finding : plainName mX7_finding.1.cls = true := by decide +kernel
theorem pl_X7_findings : mX7_findings.1.cls ≠ "java/lang/invoke/MethodHandle" ∧ mX7_findings.1.cls ≠ "java/lang/invoke/VarHandle" ∧ (parseMethodDescriptor mX7_findings.1.desc).map (fun d => d.parameters.length) = some 1 := by decide +kernel
theorem pn_X7_findings : plainName mX7_findings.1.cls = true := by decide +kernel
theorem pl_X7_in : mX7_in.1.cls ≠ "java/lang/invoke/MethodHandle" ∧ mX7_in.1.cls ≠ "java/lang/invoke/VarHandle" ∧ (parseMethodDescriptor mX7_in.1.desc).map (fun d => d.parameters.length) = some 3 := by decide +kernel
theorem pn_X7_in : plainName mX7_in.1.cls = true := by decide +kernel
theorem pl_X7_table : mX7_table.1.cls ≠ "java/lang/invoke/MethodHandle" ∧ mX7_table.1.cls ≠ "java/lang/invoke/VarHandle" ∧ (parseMethodDescriptor mX7_table.1.desc).map (fun d => d.parameters.length) = some 3 := by decide +kernel
theorem pn_X7_table : plainName mX7_table.1.cls = true := by decide +kernel
theorem pl_X7_weight : mX7_weight.1.cls ≠ "java/lang/invoke/MethodHandle" ∧ mX7_weight.1.cls ≠ "java/lang/invoke/VarHandle" ∧ (parseMethodDescriptor mX7_weight.1.desc).map (fun d => d.parameters.length) = some 2 := by decide +kernel
theorem pn_X7_weight : plainName mX7_weight.1.cls = true := by decide +kernel
theorem pl_X7_isColumn : mX7_isColumn.1.cls ≠ "java/lang/invoke/MethodHandle" ∧ mX7_isColumn.1.cls ≠ "java/lang/invoke/VarHandle" ∧ (parseMethodDescriptor mX7_isColumn.1.desc).map (fun d => d.parameters.length) = some 1 := by decide +kernel
theorem pn_X7_isColumn : plainName mX7_isColumn.1.cls = true := by decide +kernel
theorem pl_X7_note : mX7_note.1.cls ≠ "java/lang/invoke/MethodHandle" ∧ mX7_note.1.cls ≠ "java/lang/invoke/VarHandle" ∧ (parseMethodDescriptor mX7_note.1.desc).map (fun d => d.parameters.length) = some 2 := by decide +kernel
theorem pn_X7_note : plainName mX7_note.1.cls = true := by decide +kernel
theorem pl_X7_cell : mX7_cell.1.cls ≠ "java/lang/invoke/MethodHandle" ∧ mX7_cell.1.cls ≠ "java/lang/invoke/VarHandle" ∧ (parseMethodDescriptor mX7_cell.1.desc).map (fun d => d.parameters.length) = some 5 := by decide +kernel
theorem pn_X7_cell : plainName mX7_cell.1.cls = true := by decide +kernel
theorem pl_X7_isRow : mX7_isRow.1.cls ≠ "java/lang/invoke/MethodHandle" ∧ mX7_isRow.1.cls ≠ "java/lang/invoke/VarHandle" ∧ (parseMethodDescriptor mX7_isRow.1.desc).map (fun d => d.parameters.length) = some 1 := by decide +kernel
theorem pn_X7_isRow : plainName mX7_isRow.1.cls = true := by decide +kernel
theorem pl_X7_meets : mX7_meets.1.cls ≠ "java/lang/invoke/MethodHandle" ∧ mX7_meets.1.cls ≠ "java/lang/invoke/VarHandle" ∧ (parseMethodDescriptor mX7_meets.1.desc).map (fun d => d.parameters.length) = some 1 := by decide +kernel
theorem pn_X7_meets : plainName mX7_meets.1.cls = true := by decide +kernel
theorem pl_X7_cellOn : mX7_cellOn.1.cls ≠ "java/lang/invoke/MethodHandle" ∧ mX7_cellOn.1.cls ≠ "java/lang/invoke/VarHandle" ∧ (parseMethodDescriptor mX7_cellOn.1.desc).map (fun d => d.parameters.length) = some 2 := by decide +kernel
theorem pn_X7_cellOn : plainName mX7_cellOn.1.cls = true := by decide +kernel
theorem pl_X7_liesOn : mX7_liesOn.1.cls ≠ "java/lang/invoke/MethodHandle" ∧ mX7_liesOn.1.cls ≠ "java/lang/invoke/VarHandle" ∧ (parseMethodDescriptor mX7_liesOn.1.desc).map (fun d => d.parameters.length) = some 3 := by decide +kernel
theorem pn_X7_liesOn : plainName mX7_liesOn.1.cls = true := by decide +kernel
theorem pl_X7_clash : mX7_clash.1.cls ≠ "java/lang/invoke/MethodHandle" ∧ mX7_clash.1.cls ≠ "java/lang/invoke/VarHandle" ∧ (parseMethodDescriptor mX7_clash.1.desc).map (fun d => d.parameters.length) = some 0 := by decide +kernel
theorem pn_X7_clash : plainName mX7_clash.1.cls = true := by decide +kernel
theorem pl_X7_drop : mX7_drop.1.cls ≠ "java/lang/invoke/MethodHandle" ∧ mX7_drop.1.cls ≠ "java/lang/invoke/VarHandle" ∧ (parseMethodDescriptor mX7_drop.1.desc).map (fun d => d.parameters.length) = some 1 := by decide +kernel
theorem pn_X7_drop : plainName mX7_drop.1.cls = true := by decide +kernel
theorem pl_X7_isCell : mX7_isCell.1.cls ≠ "java/lang/invoke/MethodHandle" ∧ mX7_isCell.1.cls ≠ "java/lang/invoke/VarHandle" ∧ (parseMethodDescriptor mX7_isCell.1.desc).map (fun d => d.parameters.length) = some 1 := by decide +kernel
theorem pn_X7_isCell : plainName mX7_isCell.1.cls = true := by decide +kernel
theorem pl_X7_told : mX7_told.1.cls ≠ "java/lang/invoke/MethodHandle" ∧ mX7_told.1.cls ≠ "java/lang/invoke/VarHandle" ∧ (parseMethodDescriptor mX7_told.1.desc).map (fun d => d.parameters.length) = some 2 := by decide +kernel
theorem pn_X7_told : plainName mX7_told.1.cls = true := by decide +kernel
theorem pl_X7_need : mX7_need.1.cls ≠ "java/lang/invoke/MethodHandle" ∧ mX7_need.1.cls ≠ "java/lang/invoke/VarHandle" ∧ (parseMethodDescriptor mX7_need.1.desc).map (fun d => d.parameters.length) = some 2 := by decide +kernel
theorem pn_X7_need : plainName mX7_need.1.cls = true := by decide +kernel
theorem pl_X7_toldOf : mX7_toldOf.1.cls ≠ "java/lang/invoke/MethodHandle" ∧ mX7_toldOf.1.cls ≠ "java/lang/invoke/VarHandle" ∧ (parseMethodDescriptor mX7_toldOf.1.desc).map (fun d => d.parameters.length) = some 2 := by decide +kernel
theorem pn_X7_toldOf : plainName mX7_toldOf.1.cls = true := by decide +kernel
theorem pl_X7_is : mX7_is.1.cls ≠ "java/lang/invoke/MethodHandle" ∧ mX7_is.1.cls ≠ "java/lang/invoke/VarHandle" ∧ (parseMethodDescriptor mX7_is.1.desc).map (fun d => d.parameters.length) = some 2 := by decide +kernel
theorem pn_X7_is : plainName mX7_is.1.cls = true := by decide +kernel
theorem pl_X7_on : mX7_on.1.cls ≠ "java/lang/invoke/MethodHandle" ∧ mX7_on.1.cls ≠ "java/lang/invoke/VarHandle" ∧ (parseMethodDescriptor mX7_on.1.desc).map (fun d => d.parameters.length) = some 2 := by decide +kernel
theorem pn_X7_on : plainName mX7_on.1.cls = true := by decide +kernel
theorem pl_X7_words : mX7_words.1.cls ≠ "java/lang/invoke/MethodHandle" ∧ mX7_words.1.cls ≠ "java/lang/invoke/VarHandle" ∧ (parseMethodDescriptor mX7_words.1.desc).map (fun d => d.parameters.length) = some 2 := by decide +kernel
theorem pn_X7_words : plainName mX7_words.1.cls = true := by decide +kernel
theorem pl_X7_word : mX7_word.1.cls ≠ "java/lang/invoke/MethodHandle" ∧ mX7_word.1.cls ≠ "java/lang/invoke/VarHandle" ∧ (parseMethodDescriptor mX7_word.1.desc).map (fun d => d.parameters.length) = some 3 := by decide +kernel
theorem pn_X7_word : plainName mX7_word.1.cls = true := by decide +kernel
theorem pl_X7_copy : mX7_copy.1.cls ≠ "java/lang/invoke/MethodHandle" ∧ mX7_copy.1.cls ≠ "java/lang/invoke/VarHandle" ∧ (parseMethodDescriptor mX7_copy.1.desc).map (fun d => d.parameters.length) = some 5 := by decide +kernel
theorem pn_X7_copy : plainName mX7_copy.1.cls = true := by decide +kernel
theorem pl_X7_mean : mX7_mean.1.cls ≠ "java/lang/invoke/MethodHandle" ∧ mX7_mean.1.cls ≠ "java/lang/invoke/VarHandle" ∧ (parseMethodDescriptor mX7_mean.1.desc).map (fun d => d.parameters.length) = some 1 := by decide +kernel
theorem pn_X7_mean : plainName mX7_mean.1.cls = true := by decide +kernel
theorem pl_X7_lettersOf : mX7_lettersOf.1.cls ≠ "java/lang/invoke/MethodHandle" ∧ mX7_lettersOf.1.cls ≠ "java/lang/invoke/VarHandle" ∧ (parseMethodDescriptor mX7_lettersOf.1.desc).map (fun d => d.parameters.length) = some 1 := by decide +kernel
theorem pn_X7_lettersOf : plainName mX7_lettersOf.1.cls = true := by decide +kernel
theorem pl_X7_calls : mX7_calls.1.cls ≠ "java/lang/invoke/MethodHandle" ∧ mX7_calls.1.cls ≠ "java/lang/invoke/VarHandle" ∧ (parseMethodDescriptor mX7_calls.1.desc).map (fun d => d.parameters.length) = some 2 := by decide +kernel
theorem pn_X7_calls : plainName mX7_calls.1.cls = true := by decide +kernel
theorem pl_X7_fix : mX7_fix.1.cls ≠ "java/lang/invoke/MethodHandle" ∧ mX7_fix.1.cls ≠ "java/lang/invoke/VarHandle" ∧ (parseMethodDescriptor mX7_fix.1.desc).map (fun d => d.parameters.length) = some 2 := by decide +kernel
theorem pn_X7_fix : plainName mX7_fix.1.cls = true := by decide +kernel
theorem pl_X7_lines : mX7_lines.1.cls ≠ "java/lang/invoke/MethodHandle" ∧ mX7_lines.1.cls ≠ "java/lang/invoke/VarHandle" ∧ (parseMethodDescriptor mX7_lines.1.desc).map (fun d => d.parameters.length) = some 2 := by decide +kernel
theorem pn_X7_lines : plainName mX7_lines.1.cls = true := by decide +kernel
theorem pl_X7_linesOf : mX7_linesOf.1.cls ≠ "java/lang/invoke/MethodHandle" ∧ mX7_linesOf.1.cls ≠ "java/lang/invoke/VarHandle" ∧ (parseMethodDescriptor mX7_linesOf.1.desc).map (fun d => d.parameters.length) = some 2 := by decide +kernel
theorem pn_X7_linesOf : plainName mX7_linesOf.1.cls = true := by decide +kernel
theorem pl_X7_want : mX7_want.1.cls ≠ "java/lang/invoke/MethodHandle" ∧ mX7_want.1.cls ≠ "java/lang/invoke/VarHandle" ∧ (parseMethodDescriptor mX7_want.1.desc).map (fun d => d.parameters.length) = some 2 := by decide +kernel
theorem pn_X7_want : plainName mX7_want.1.cls = true := by decide +kernel
theorem pl_X7_wantOf : mX7_wantOf.1.cls ≠ "java/lang/invoke/MethodHandle" ∧ mX7_wantOf.1.cls ≠ "java/lang/invoke/VarHandle" ∧ (parseMethodDescriptor mX7_wantOf.1.desc).map (fun d => d.parameters.length) = some 2 := by decide +kernel
theorem pn_X7_wantOf : plainName mX7_wantOf.1.cls = true := by decide +kernel
theorem pl_X7_natural : mX7_natural.1.cls ≠ "java/lang/invoke/MethodHandle" ∧ mX7_natural.1.cls ≠ "java/lang/invoke/VarHandle" ∧ (parseMethodDescriptor mX7_natural.1.desc).map (fun d => d.parameters.length) = some 2 := by decide +kernel
theorem pn_X7_natural : plainName mX7_natural.1.cls = true := by decide +kernel
theorem pl_X7_layBoth : mX7_layBoth.1.cls ≠ "java/lang/invoke/MethodHandle" ∧ mX7_layBoth.1.cls ≠ "java/lang/invoke/VarHandle" ∧ (parseMethodDescriptor mX7_layBoth.1.desc).map (fun d => d.parameters.length) = some 0 := by decide +kernel
theorem pn_X7_layBoth : plainName mX7_layBoth.1.cls = true := by decide +kernel
theorem pl_X7_layWidths : mX7_layWidths.1.cls ≠ "java/lang/invoke/MethodHandle" ∧ mX7_layWidths.1.cls ≠ "java/lang/invoke/VarHandle" ∧ (parseMethodDescriptor mX7_layWidths.1.desc).map (fun d => d.parameters.length) = some 2 := by decide +kernel
theorem pn_X7_layWidths : plainName mX7_layWidths.1.cls = true := by decide +kernel
theorem pl_X7_widthOver : mX7_widthOver.1.cls ≠ "java/lang/invoke/MethodHandle" ∧ mX7_widthOver.1.cls ≠ "java/lang/invoke/VarHandle" ∧ (parseMethodDescriptor mX7_widthOver.1.desc).map (fun d => d.parameters.length) = some 3 := by decide +kernel
theorem pn_X7_widthOver : plainName mX7_widthOver.1.cls = true := by decide +kernel
theorem pl_X7_lacks : mX7_lacks.1.cls ≠ "java/lang/invoke/MethodHandle" ∧ mX7_lacks.1.cls ≠ "java/lang/invoke/VarHandle" ∧ (parseMethodDescriptor mX7_lacks.1.desc).map (fun d => d.parameters.length) = some 3 := by decide +kernel
theorem pn_X7_lacks : plainName mX7_lacks.1.cls = true := by decide +kernel
theorem pl_X7_share : mX7_share.1.cls ≠ "java/lang/invoke/MethodHandle" ∧ mX7_share.1.cls ≠ "java/lang/invoke/VarHandle" ∧ (parseMethodDescriptor mX7_share.1.desc).map (fun d => d.parameters.length) = some 3 := by decide +kernel
theorem pn_X7_share : plainName mX7_share.1.cls = true := by decide +kernel
theorem pl_X7_set : mX7_set.1.cls ≠ "java/lang/invoke/MethodHandle" ∧ mX7_set.1.cls ≠ "java/lang/invoke/VarHandle" ∧ (parseMethodDescriptor mX7_set.1.desc).map (fun d => d.parameters.length) = some 1 := by decide +kernel
theorem pn_X7_set : plainName mX7_set.1.cls = true := by decide +kernel
theorem pl_X7_sumOf : mX7_sumOf.1.cls ≠ "java/lang/invoke/MethodHandle" ∧ mX7_sumOf.1.cls ≠ "java/lang/invoke/VarHandle" ∧ (parseMethodDescriptor mX7_sumOf.1.desc).map (fun d => d.parameters.length) = some 1 := by decide +kernel
theorem pn_X7_sumOf : plainName mX7_sumOf.1.cls = true := by decide +kernel
theorem pl_X7_heightBy : mX7_heightBy.1.cls ≠ "java/lang/invoke/MethodHandle" ∧ mX7_heightBy.1.cls ≠ "java/lang/invoke/VarHandle" ∧ (parseMethodDescriptor mX7_heightBy.1.desc).map (fun d => d.parameters.length) = some 1 := by decide +kernel
theorem pn_X7_heightBy : plainName mX7_heightBy.1.cls = true := by decide +kernel
theorem pl_X7_layHeights : mX7_layHeights.1.cls ≠ "java/lang/invoke/MethodHandle" ∧ mX7_layHeights.1.cls ≠ "java/lang/invoke/VarHandle" ∧ (parseMethodDescriptor mX7_layHeights.1.desc).map (fun d => d.parameters.length) = some 1 := by decide +kernel
theorem pn_X7_layHeights : plainName mX7_layHeights.1.cls = true := by decide +kernel
theorem pl_X7_tight : mX7_tight.1.cls ≠ "java/lang/invoke/MethodHandle" ∧ mX7_tight.1.cls ≠ "java/lang/invoke/VarHandle" ∧ (parseMethodDescriptor mX7_tight.1.desc).map (fun d => d.parameters.length) = some 2 := by decide +kernel
theorem pn_X7_tight : plainName mX7_tight.1.cls = true := by decide +kernel
theorem pl_X7_next : mX7_next.1.cls ≠ "java/lang/invoke/MethodHandle" ∧ mX7_next.1.cls ≠ "java/lang/invoke/VarHandle" ∧ (parseMethodDescriptor mX7_next.1.desc).map (fun d => d.parameters.length) = some 0 := by decide +kernel
theorem pn_X7_next : plainName mX7_next.1.cls = true := by decide +kernel
theorem pl_X7_tries : mX7_tries.1.cls ≠ "java/lang/invoke/MethodHandle" ∧ mX7_tries.1.cls ≠ "java/lang/invoke/VarHandle" ∧ (parseMethodDescriptor mX7_tries.1.desc).map (fun d => d.parameters.length) = some 0 := by decide +kernel
theorem pn_X7_tries : plainName mX7_tries.1.cls = true := by decide +kernel
theorem pl_X7_width : mX7_width.1.cls ≠ "java/lang/invoke/MethodHandle" ∧ mX7_width.1.cls ≠ "java/lang/invoke/VarHandle" ∧ (parseMethodDescriptor mX7_width.1.desc).map (fun d => d.parameters.length) = some 1 := by decide +kernel
theorem pn_X7_width : plainName mX7_width.1.cls = true := by decide +kernel
theorem pl_X7_height : mX7_height.1.cls ≠ "java/lang/invoke/MethodHandle" ∧ mX7_height.1.cls ≠ "java/lang/invoke/VarHandle" ∧ (parseMethodDescriptor mX7_height.1.desc).map (fun d => d.parameters.length) = some 1 := by decide +kernel
theorem pn_X7_height : plainName mX7_height.1.cls = true := by decide +kernel
theorem pl_X7_mayBreak : mX7_mayBreak.1.cls ≠ "java/lang/invoke/MethodHandle" ∧ mX7_mayBreak.1.cls ≠ "java/lang/invoke/VarHandle" ∧ (parseMethodDescriptor mX7_mayBreak.1.desc).map (fun d => d.parameters.length) = some 1 := by decide +kernel
theorem pn_X7_mayBreak : plainName mX7_mayBreak.1.cls = true := by decide +kernel
theorem pl_X7_mayBreakAt : mX7_mayBreakAt.1.cls ≠ "java/lang/invoke/MethodHandle" ∧ mX7_mayBreakAt.1.cls ≠ "java/lang/invoke/VarHandle" ∧ (parseMethodDescriptor mX7_mayBreakAt.1.desc).map (fun d => d.parameters.length) = some 1 := by decide +kernel
theorem pn_X7_mayBreakAt : plainName mX7_mayBreakAt.1.cls = true := by decide +kernel
theorem pl_X7_headRows : mX7_headRows.1.cls ≠ "java/lang/invoke/MethodHandle" ∧ mX7_headRows.1.cls ≠ "java/lang/invoke/VarHandle" ∧ (parseMethodDescriptor mX7_headRows.1.desc).map (fun d => d.parameters.length) = some 0 := by decide +kernel
theorem pn_X7_headRows : plainName mX7_headRows.1.cls = true := by decide +kernel
theorem pl_X7_pages : mX7_pages.1.cls ≠ "java/lang/invoke/MethodHandle" ∧ mX7_pages.1.cls ≠ "java/lang/invoke/VarHandle" ∧ (parseMethodDescriptor mX7_pages.1.desc).map (fun d => d.parameters.length) = some 1 := by decide +kernel
theorem pn_X7_pages : plainName mX7_pages.1.cls = true := by decide +kernel
theorem pl_X7_emptyOf : mX7_emptyOf.1.cls ≠ "java/lang/invoke/MethodHandle" ∧ mX7_emptyOf.1.cls ≠ "java/lang/invoke/VarHandle" ∧ (parseMethodDescriptor mX7_emptyOf.1.desc).map (fun d => d.parameters.length) = some 4 := by decide +kernel
theorem pn_X7_emptyOf : plainName mX7_emptyOf.1.cls = true := by decide +kernel
theorem pl_X7_notesOn : mX7_notesOn.1.cls ≠ "java/lang/invoke/MethodHandle" ∧ mX7_notesOn.1.cls ≠ "java/lang/invoke/VarHandle" ∧ (parseMethodDescriptor mX7_notesOn.1.desc).map (fun d => d.parameters.length) = some 3 := by decide +kernel
theorem pn_X7_notesOn : plainName mX7_notesOn.1.cls = true := by decide +kernel
theorem pl_X7_homeOf : mX7_homeOf.1.cls ≠ "java/lang/invoke/MethodHandle" ∧ mX7_homeOf.1.cls ≠ "java/lang/invoke/VarHandle" ∧ (parseMethodDescriptor mX7_homeOf.1.desc).map (fun d => d.parameters.length) = some 2 := by decide +kernel
theorem pn_X7_homeOf : plainName mX7_homeOf.1.cls = true := by decide +kernel
theorem pl_X7_page : mX7_page.1.cls ≠ "java/lang/invoke/MethodHandle" ∧ mX7_page.1.cls ≠ "java/lang/invoke/VarHandle" ∧ (parseMethodDescriptor mX7_page.1.desc).map (fun d => d.parameters.length) = some 2 := by decide +kernel
theorem pn_X7_page : plainName mX7_page.1.cls = true := by decide +kernel
theorem pl_X7_pageTold : mX7_pageTold.1.cls ≠ "java/lang/invoke/MethodHandle" ∧ mX7_pageTold.1.cls ≠ "java/lang/invoke/VarHandle" ∧ (parseMethodDescriptor mX7_pageTold.1.desc).map (fun d => d.parameters.length) = some 2 := by decide +kernel
theorem pn_X7_pageTold : plainName mX7_pageTold.1.cls = true := by decide +kernel
theorem pl_X7_pageOf : mX7_pageOf.1.cls ≠ "java/lang/invoke/MethodHandle" ∧ mX7_pageOf.1.cls ≠ "java/lang/invoke/VarHandle" ∧ (parseMethodDescriptor mX7_pageOf.1.desc).map (fun d => d.parameters.length) = some 1 := by decide +kernel
theorem pn_X7_pageOf : plainName mX7_pageOf.1.cls = true := by decide +kernel
theorem pl_X7_count : mX7_count.1.cls ≠ "java/lang/invoke/MethodHandle" ∧ mX7_count.1.cls ≠ "java/lang/invoke/VarHandle" ∧ (parseMethodDescriptor mX7_count.1.desc).map (fun d => d.parameters.length) = some 1 := by decide +kernel
theorem pn_X7_count : plainName mX7_count.1.cls = true := by decide +kernel
theorem pl_X7_digest : mX7_digest.1.cls ≠ "java/lang/invoke/MethodHandle" ∧ mX7_digest.1.cls ≠ "java/lang/invoke/VarHandle" ∧ (parseMethodDescriptor mX7_digest.1.desc).map (fun d => d.parameters.length) = some 0 := by decide +kernel
theorem pn_X7_digest : plainName mX7_digest.1.cls = true := by decide +kernel
theorem pl_X7_digestCell : mX7_digestCell.1.cls ≠ "java/lang/invoke/MethodHandle" ∧ mX7_digestCell.1.cls ≠ "java/lang/invoke/VarHandle" ∧ (parseMethodDescriptor mX7_digestCell.1.desc).map (fun d => d.parameters.length) = some 2 := by decide +kernel
theorem pn_X7_digestCell : plainName mX7_digestCell.1.cls = true := by decide +kernel
theorem cb_m9 : (Int8.ofInt (-9)).toInt32 = -9 := by decide
theorem cb_m6 : (Int8.ofInt (-6)).toInt32 = -6 := by decide
theorem cb_m4 : (Int8.ofInt (-4)).toInt32 = -4 := by decide
theorem cb_m3 : (Int8.ofInt (-3)).toInt32 = -3 := by decide
theorem cb_m2 : (Int8.ofInt (-2)).toInt32 = -2 := by decide
theorem cb_6 : (Int8.ofInt (6)).toInt32 = 6 := by decide
theorem cb_7 : (Int8.ofInt (7)).toInt32 = 7 := by decide
theorem cb_9 : (Int8.ofInt (9)).toInt32 = 9 := by decide
theorem cb_10 : (Int8.ofInt (10)).toInt32 = 10 := by decide
theorem cb_12 : (Int8.ofInt (12)).toInt32 = 12 := by decide
theorem cb_16 : (Int8.ofInt (16)).toInt32 = 16 := by decide
theorem cb_17 : (Int8.ofInt (17)).toInt32 = 17 := by decide
theorem cb_20 : (Int8.ofInt (20)).toInt32 = 20 := by decide
theorem cb_31 : (Int8.ofInt (31)).toInt32 = 31 := by decide
theorem cb_40 : (Int8.ofInt (40)).toInt32 = 40 := by decide
theorem cb_60 : (Int8.ofInt (60)).toInt32 = 60 := by decide
theorem cs_200 : (Int16.ofInt (200)).toInt32 = 200 := by decide
theorem cs_252 : (Int16.ofInt (252)).toInt32 = 252 := by decide
theorem cs_400 : (Int16.ofInt (400)).toInt32 = 400 := by decide
theorem cs_480 : (Int16.ofInt (480)).toInt32 = 480 := by decide
theorem cs_1023 : (Int16.ofInt (1023)).toInt32 = 1023 := by decide
theorem cs_20000 : (Int16.ofInt (20000)).toInt32 = 20000 := by decide
theorem ci_m1 : Int32.ofInt (-1) = -1 := by decide
theorem ci_0 : Int32.ofInt (0) = 0 := by decide
theorem ci_1 : Int32.ofInt (1) = 1 := by decide
theorem ci_2 : Int32.ofInt (2) = 2 := by decide
theorem ci_3 : Int32.ofInt (3) = 3 := by decide
theorem ci_4 : Int32.ofInt (4) = 4 := by decide
theorem ci_5 : Int32.ofInt (5) = 5 := by decide
theorem cl_0 : Int64.ofNat (0 : Nat) = 0 := by decide
theorem cl_1 : Int64.ofNat (1 : Nat) = 1 := by decide
theorem lt_C {i : Nat} (h : i < 40) : cA i < 197 := by unfold cA; omega
theorem lt_L {i : Nat} (h : i < 40) : cA i + 1 < 197 := by unfold cA; omega
theorem lt_K {i : Nat} (h : i < 40) : cA i + 2 < 197 := by unfold cA; omega
theorem lt_F {i : Nat} (h : i < 16) : 141 + i < 197 := by omega
end
section
theorem dX0_init_0 : decode cX0_init 0 = .ok (.aload_n 0, 1) := by decide +kernel
theorem dX0_init_1 : decode cX0_init 1 = .ok (.invokespecial 3, 3) := by decide +kernel
theorem dX0_init_4 : decode cX0_init 4 = .ok (.aload_n 0, 1) := by decide +kernel
theorem dX0_init_5 : decode cX0_init 5 = .ok (.bipush 12, 2) := by decide +kernel
theorem dX0_init_7 : decode cX0_init 7 = .ok (.newarray .int, 2) := by decide +kernel
theorem dX0_init_9 : decode cX0_init 9 = .ok (.putfield 9, 3) := by decide +kernel
theorem dX0_init_12 : decode cX0_init 12 = .ok (.aload_n 0, 1) := by decide +kernel
theorem dX0_init_13 : decode cX0_init 13 = .ok (.sipush 252, 3) := by decide +kernel
theorem dX0_init_16 : decode cX0_init 16 = .ok (.newarray .int, 2) := by decide +kernel
theorem dX0_init_18 : decode cX0_init 18 = .ok (.putfield 15, 3) := by decide +kernel
theorem dX0_init_21 : decode cX0_init 21 = .ok (.return_, 1) := by decide +kernel
theorem dX0_begin_0 : decode cX0_begin 0 = .ok (.aload_n 0, 1) := by decide +kernel
theorem dX0_begin_1 : decode cX0_begin 1 = .ok (.iload_n 1, 1) := by decide +kernel
theorem dX0_begin_2 : decode cX0_begin 2 = .ok (.putfield 18, 3) := by decide +kernel
theorem dX0_begin_5 : decode cX0_begin 5 = .ok (.aload_n 0, 1) := by decide +kernel
theorem dX0_begin_6 : decode cX0_begin 6 = .ok (.iload_n 2, 1) := by decide +kernel
theorem dX0_begin_7 : decode cX0_begin 7 = .ok (.putfield 22, 3) := by decide +kernel
theorem dX0_begin_10 : decode cX0_begin 10 = .ok (.aload_n 0, 1) := by decide +kernel
theorem dX0_begin_11 : decode cX0_begin 11 = .ok (.iload_n 3, 1) := by decide +kernel
theorem dX0_begin_12 : decode cX0_begin 12 = .ok (.putfield 25, 3) := by decide +kernel
theorem dX0_begin_15 : decode cX0_begin 15 = .ok (.aload_n 0, 1) := by decide +kernel
theorem dX0_begin_16 : decode cX0_begin 16 = .ok (.iload 4, 2) := by decide +kernel
theorem dX0_begin_18 : decode cX0_begin 18 = .ok (.putfield 28, 3) := by decide +kernel
theorem dX0_begin_21 : decode cX0_begin 21 = .ok (.aload_n 0, 1) := by decide +kernel
theorem dX0_begin_22 : decode cX0_begin 22 = .ok (.iload 5, 2) := by decide +kernel
theorem dX0_begin_24 : decode cX0_begin 24 = .ok (.putfield 31, 3) := by decide +kernel
theorem dX0_begin_27 : decode cX0_begin 27 = .ok (.aload_n 0, 1) := by decide +kernel
theorem dX0_begin_28 : decode cX0_begin 28 = .ok (.iconst 0, 1) := by decide +kernel
theorem dX0_begin_29 : decode cX0_begin 29 = .ok (.putfield 34, 3) := by decide +kernel
theorem dX0_begin_32 : decode cX0_begin 32 = .ok (.aload_n 0, 1) := by decide +kernel
theorem dX0_begin_33 : decode cX0_begin 33 = .ok (.iconst 1, 1) := by decide +kernel
theorem dX0_begin_34 : decode cX0_begin 34 = .ok (.putfield 37, 3) := by decide +kernel
theorem dX0_begin_37 : decode cX0_begin 37 = .ok (.aload_n 0, 1) := by decide +kernel
theorem dX0_begin_38 : decode cX0_begin 38 = .ok (.iconst 0, 1) := by decide +kernel
theorem dX0_begin_39 : decode cX0_begin 39 = .ok (.putfield 40, 3) := by decide +kernel
theorem dX0_begin_42 : decode cX0_begin 42 = .ok (.aload_n 0, 1) := by decide +kernel
theorem dX0_begin_43 : decode cX0_begin 43 = .ok (.iconst 0, 1) := by decide +kernel
theorem dX0_begin_44 : decode cX0_begin 44 = .ok (.invokevirtual 44, 3) := by decide +kernel
theorem dX0_begin_47 : decode cX0_begin 47 = .ok (.return_, 1) := by decide +kernel
theorem dX0_fact_0 : decode cX0_fact 0 = .ok (.iload_n 1, 1) := by decide +kernel
theorem dX0_fact_1 : decode cX0_fact 1 = .ok (.tableswitch 69 0 5 #[39, 44, 49, 54, 59, 64], 39) := by decide +kernel
theorem dX0_fact_40 : decode cX0_fact 40 = .ok (.aload_n 0, 1) := by decide +kernel
theorem dX0_fact_41 : decode cX0_fact 41 = .ok (.getfield 18, 3) := by decide +kernel
theorem dX0_fact_44 : decode cX0_fact 44 = .ok (.ireturn, 1) := by decide +kernel
theorem dX0_fact_45 : decode cX0_fact 45 = .ok (.aload_n 0, 1) := by decide +kernel
theorem dX0_fact_46 : decode cX0_fact 46 = .ok (.getfield 22, 3) := by decide +kernel
theorem dX0_fact_49 : decode cX0_fact 49 = .ok (.ireturn, 1) := by decide +kernel
theorem dX0_fact_50 : decode cX0_fact 50 = .ok (.aload_n 0, 1) := by decide +kernel
theorem dX0_fact_51 : decode cX0_fact 51 = .ok (.getfield 25, 3) := by decide +kernel
theorem dX0_fact_54 : decode cX0_fact 54 = .ok (.ireturn, 1) := by decide +kernel
theorem dX0_fact_55 : decode cX0_fact 55 = .ok (.aload_n 0, 1) := by decide +kernel
theorem dX0_fact_56 : decode cX0_fact 56 = .ok (.getfield 28, 3) := by decide +kernel
theorem dX0_fact_59 : decode cX0_fact 59 = .ok (.ireturn, 1) := by decide +kernel
theorem dX0_fact_60 : decode cX0_fact 60 = .ok (.aload_n 0, 1) := by decide +kernel
theorem dX0_fact_61 : decode cX0_fact 61 = .ok (.getfield 31, 3) := by decide +kernel
theorem dX0_fact_64 : decode cX0_fact 64 = .ok (.ireturn, 1) := by decide +kernel
theorem dX0_fact_65 : decode cX0_fact 65 = .ok (.aload_n 0, 1) := by decide +kernel
theorem dX0_fact_66 : decode cX0_fact 66 = .ok (.getfield 48, 3) := by decide +kernel
theorem dX0_fact_69 : decode cX0_fact 69 = .ok (.ireturn, 1) := by decide +kernel
theorem dX0_fact_70 : decode cX0_fact 70 = .ok (.aload_n 0, 1) := by decide +kernel
theorem dX0_fact_71 : decode cX0_fact 71 = .ok (.getfield 34, 3) := by decide +kernel
theorem dX0_fact_74 : decode cX0_fact 74 = .ok (.ireturn, 1) := by decide +kernel
theorem dX0_meets_0 : decode cX0_meets 0 = .ok (.iload_n 1, 1) := by decide +kernel
theorem dX0_meets_1 : decode cX0_meets 1 = .ok (.aload_n 0, 1) := by decide +kernel
theorem dX0_meets_2 : decode cX0_meets 2 = .ok (.getfield 22, 3) := by decide +kernel
theorem dX0_meets_5 : decode cX0_meets 5 = .ok (.aload_n 0, 1) := by decide +kernel
theorem dX0_meets_6 : decode cX0_meets 6 = .ok (.getfield 28, 3) := by decide +kernel
theorem dX0_meets_9 : decode cX0_meets 9 = .ok (.iadd, 1) := by decide +kernel
theorem dX0_meets_10 : decode cX0_meets 10 = .ok (.if_icmp .ge 41, 3) := by decide +kernel
theorem dX0_meets_13 : decode cX0_meets 13 = .ok (.aload_n 0, 1) := by decide +kernel
theorem dX0_meets_14 : decode cX0_meets 14 = .ok (.getfield 22, 3) := by decide +kernel
theorem dX0_meets_17 : decode cX0_meets 17 = .ok (.iload_n 1, 1) := by decide +kernel
theorem dX0_meets_18 : decode cX0_meets 18 = .ok (.iload_n 3, 1) := by decide +kernel
theorem dX0_meets_19 : decode cX0_meets 19 = .ok (.iadd, 1) := by decide +kernel
theorem dX0_meets_20 : decode cX0_meets 20 = .ok (.if_icmp .ge 31, 3) := by decide +kernel
theorem dX0_meets_23 : decode cX0_meets 23 = .ok (.iload_n 2, 1) := by decide +kernel
theorem dX0_meets_24 : decode cX0_meets 24 = .ok (.aload_n 0, 1) := by decide +kernel
theorem dX0_meets_25 : decode cX0_meets 25 = .ok (.getfield 25, 3) := by decide +kernel
theorem dX0_meets_28 : decode cX0_meets 28 = .ok (.aload_n 0, 1) := by decide +kernel
theorem dX0_meets_29 : decode cX0_meets 29 = .ok (.getfield 31, 3) := by decide +kernel
theorem dX0_meets_32 : decode cX0_meets 32 = .ok (.iadd, 1) := by decide +kernel
theorem dX0_meets_33 : decode cX0_meets 33 = .ok (.if_icmp .ge 18, 3) := by decide +kernel
theorem dX0_meets_36 : decode cX0_meets 36 = .ok (.aload_n 0, 1) := by decide +kernel
theorem dX0_meets_37 : decode cX0_meets 37 = .ok (.getfield 25, 3) := by decide +kernel
theorem dX0_meets_40 : decode cX0_meets 40 = .ok (.iload_n 2, 1) := by decide +kernel
theorem dX0_meets_41 : decode cX0_meets 41 = .ok (.iload 4, 2) := by decide +kernel
theorem dX0_meets_43 : decode cX0_meets 43 = .ok (.iadd, 1) := by decide +kernel
theorem dX0_meets_44 : decode cX0_meets 44 = .ok (.if_icmp .ge 7, 3) := by decide +kernel
theorem dX0_meets_47 : decode cX0_meets 47 = .ok (.iconst 1, 1) := by decide +kernel
theorem dX0_meets_48 : decode cX0_meets 48 = .ok (.goto 4, 3) := by decide +kernel
theorem dX0_meets_51 : decode cX0_meets 51 = .ok (.iconst 0, 1) := by decide +kernel
theorem dX0_meets_52 : decode cX0_meets 52 = .ok (.ireturn, 1) := by decide +kernel
theorem dX0_liesOnRow_0 : decode cX0_liesOnRow 0 = .ok (.iload_n 1, 1) := by decide +kernel
theorem dX0_liesOnRow_1 : decode cX0_liesOnRow 1 = .ok (.aload_n 0, 1) := by decide +kernel
theorem dX0_liesOnRow_2 : decode cX0_liesOnRow 2 = .ok (.getfield 22, 3) := by decide +kernel
theorem dX0_liesOnRow_5 : decode cX0_liesOnRow 5 = .ok (.if_icmp .lt 20, 3) := by decide +kernel
theorem dX0_liesOnRow_8 : decode cX0_liesOnRow 8 = .ok (.iload_n 1, 1) := by decide +kernel
theorem dX0_liesOnRow_9 : decode cX0_liesOnRow 9 = .ok (.aload_n 0, 1) := by decide +kernel
theorem dX0_liesOnRow_10 : decode cX0_liesOnRow 10 = .ok (.getfield 22, 3) := by decide +kernel
theorem dX0_liesOnRow_13 : decode cX0_liesOnRow 13 = .ok (.aload_n 0, 1) := by decide +kernel
theorem dX0_liesOnRow_14 : decode cX0_liesOnRow 14 = .ok (.getfield 28, 3) := by decide +kernel
theorem dX0_liesOnRow_17 : decode cX0_liesOnRow 17 = .ok (.iadd, 1) := by decide +kernel
theorem dX0_liesOnRow_18 : decode cX0_liesOnRow 18 = .ok (.if_icmp .ge 7, 3) := by decide +kernel
theorem dX0_liesOnRow_21 : decode cX0_liesOnRow 21 = .ok (.iconst 1, 1) := by decide +kernel
theorem dX0_liesOnRow_22 : decode cX0_liesOnRow 22 = .ok (.goto 4, 3) := by decide +kernel
theorem dX0_liesOnRow_25 : decode cX0_liesOnRow 25 = .ok (.iconst 0, 1) := by decide +kernel
theorem dX0_liesOnRow_26 : decode cX0_liesOnRow 26 = .ok (.ireturn, 1) := by decide +kernel
theorem dX0_fill_0 : decode cX0_fill 0 = .ok (.aload_n 0, 1) := by decide +kernel
theorem dX0_fill_1 : decode cX0_fill 1 = .ok (.iload_n 1, 1) := by decide +kernel
theorem dX0_fill_2 : decode cX0_fill 2 = .ok (.putfield 48, 3) := by decide +kernel
theorem dX0_fill_5 : decode cX0_fill 5 = .ok (.aload_n 0, 1) := by decide +kernel
theorem dX0_fill_6 : decode cX0_fill 6 = .ok (.getfield 9, 3) := by decide +kernel
theorem dX0_fill_9 : decode cX0_fill 9 = .ok (.iconst 1, 1) := by decide +kernel
theorem dX0_fill_10 : decode cX0_fill 10 = .ok (.invokestatic 51, 3) := by decide +kernel
theorem dX0_fill_13 : decode cX0_fill 13 = .ok (.aload_n 0, 1) := by decide +kernel
theorem dX0_fill_14 : decode cX0_fill 14 = .ok (.invokevirtual 56, 3) := by decide +kernel
theorem dX0_fill_17 : decode cX0_fill 17 = .ok (.return_, 1) := by decide +kernel
theorem dX0_holds_0 : decode cX0_holds 0 = .ok (.iload_n 1, 1) := by decide +kernel
theorem dX0_holds_1 : decode cX0_holds 1 = .ok (.ifCond .lt 29, 3) := by decide +kernel
theorem dX0_holds_4 : decode cX0_holds 4 = .ok (.iload_n 2, 1) := by decide +kernel
theorem dX0_holds_5 : decode cX0_holds 5 = .ok (.ifCond .lt 25, 3) := by decide +kernel
theorem dX0_holds_8 : decode cX0_holds 8 = .ok (.iload_n 2, 1) := by decide +kernel
theorem dX0_holds_9 : decode cX0_holds 9 = .ok (.aload_n 0, 1) := by decide +kernel
theorem dX0_holds_10 : decode cX0_holds 10 = .ok (.getfield 48, 3) := by decide +kernel
theorem dX0_holds_13 : decode cX0_holds 13 = .ok (.if_icmp .gt 17, 3) := by decide +kernel
theorem dX0_holds_16 : decode cX0_holds 16 = .ok (.iload_n 1, 1) := by decide +kernel
theorem dX0_holds_17 : decode cX0_holds 17 = .ok (.aload_n 0, 1) := by decide +kernel
theorem dX0_holds_18 : decode cX0_holds 18 = .ok (.getfield 48, 3) := by decide +kernel
theorem dX0_holds_21 : decode cX0_holds 21 = .ok (.iload_n 2, 1) := by decide +kernel
theorem dX0_holds_22 : decode cX0_holds 22 = .ok (.isub, 1) := by decide +kernel
theorem dX0_holds_23 : decode cX0_holds 23 = .ok (.if_icmp .gt 7, 3) := by decide +kernel
theorem dX0_holds_26 : decode cX0_holds 26 = .ok (.iconst 1, 1) := by decide +kernel
theorem dX0_holds_27 : decode cX0_holds 27 = .ok (.goto 4, 3) := by decide +kernel
theorem dX0_holds_30 : decode cX0_holds 30 = .ok (.iconst 0, 1) := by decide +kernel
theorem dX0_holds_31 : decode cX0_holds 31 = .ok (.ireturn, 1) := by decide +kernel
theorem dX0_exchange_0 : decode cX0_exchange 0 = .ok (.iload_n 1, 1) := by decide +kernel
theorem dX0_exchange_1 : decode cX0_exchange 1 = .ok (.ifCond .lt 12, 3) := by decide +kernel
theorem dX0_exchange_4 : decode cX0_exchange 4 = .ok (.iload_n 1, 1) := by decide +kernel
theorem dX0_exchange_5 : decode cX0_exchange 5 = .ok (.aload_n 0, 1) := by decide +kernel
theorem dX0_exchange_6 : decode cX0_exchange 6 = .ok (.getfield 9, 3) := by decide +kernel
theorem dX0_exchange_9 : decode cX0_exchange 9 = .ok (.arraylength, 1) := by decide +kernel
theorem dX0_exchange_10 : decode cX0_exchange 10 = .ok (.if_icmp .lt 5, 3) := by decide +kernel
theorem dX0_exchange_13 : decode cX0_exchange 13 = .ok (.iconst 0, 1) := by decide +kernel
theorem dX0_exchange_14 : decode cX0_exchange 14 = .ok (.ireturn, 1) := by decide +kernel
theorem dX0_exchange_15 : decode cX0_exchange 15 = .ok (.aload_n 0, 1) := by decide +kernel
theorem dX0_exchange_16 : decode cX0_exchange 16 = .ok (.getfield 9, 3) := by decide +kernel
theorem dX0_exchange_19 : decode cX0_exchange 19 = .ok (.iload_n 1, 1) := by decide +kernel
theorem dX0_exchange_20 : decode cX0_exchange 20 = .ok (.iaload, 1) := by decide +kernel
theorem dX0_exchange_21 : decode cX0_exchange 21 = .ok (.istore_n 3, 1) := by decide +kernel
theorem dX0_exchange_22 : decode cX0_exchange 22 = .ok (.aload_n 0, 1) := by decide +kernel
theorem dX0_exchange_23 : decode cX0_exchange 23 = .ok (.getfield 9, 3) := by decide +kernel
theorem dX0_exchange_26 : decode cX0_exchange 26 = .ok (.iload_n 1, 1) := by decide +kernel
theorem dX0_exchange_27 : decode cX0_exchange 27 = .ok (.iload_n 2, 1) := by decide +kernel
theorem dX0_exchange_28 : decode cX0_exchange 28 = .ok (.iastore, 1) := by decide +kernel
theorem dX0_exchange_29 : decode cX0_exchange 29 = .ok (.aload_n 0, 1) := by decide +kernel
theorem dX0_exchange_30 : decode cX0_exchange 30 = .ok (.invokevirtual 56, 3) := by decide +kernel
theorem dX0_exchange_33 : decode cX0_exchange 33 = .ok (.iload_n 3, 1) := by decide +kernel
theorem dX0_exchange_34 : decode cX0_exchange 34 = .ok (.ireturn, 1) := by decide +kernel
theorem dX0_take_0 : decode cX0_take 0 = .ok (.aload_n 1, 1) := by decide +kernel
theorem dX0_take_1 : decode cX0_take 1 = .ok (.ifnull 23, 3) := by decide +kernel
theorem dX0_take_4 : decode cX0_take 4 = .ok (.aload_n 1, 1) := by decide +kernel
theorem dX0_take_5 : decode cX0_take 5 = .ok (.iload_n 2, 1) := by decide +kernel
theorem dX0_take_6 : decode cX0_take 6 = .ok (.iload 4, 2) := by decide +kernel
theorem dX0_take_8 : decode cX0_take 8 = .ok (.invokevirtual 59, 3) := by decide +kernel
theorem dX0_take_11 : decode cX0_take 11 = .ok (.ifCond .eq 13, 3) := by decide +kernel
theorem dX0_take_14 : decode cX0_take 14 = .ok (.aload_n 0, 1) := by decide +kernel
theorem dX0_take_15 : decode cX0_take 15 = .ok (.iload_n 3, 1) := by decide +kernel
theorem dX0_take_16 : decode cX0_take 16 = .ok (.iload 4, 2) := by decide +kernel
theorem dX0_take_18 : decode cX0_take 18 = .ok (.invokevirtual 59, 3) := by decide +kernel
theorem dX0_take_21 : decode cX0_take 21 = .ok (.ifCond .ne 4, 3) := by decide +kernel
theorem dX0_take_24 : decode cX0_take 24 = .ok (.return_, 1) := by decide +kernel
theorem dX0_take_25 : decode cX0_take 25 = .ok (.aload_n 1, 1) := by decide +kernel
theorem dX0_take_26 : decode cX0_take 26 = .ok (.getfield 9, 3) := by decide +kernel
theorem dX0_take_29 : decode cX0_take 29 = .ok (.iload_n 2, 1) := by decide +kernel
theorem dX0_take_30 : decode cX0_take 30 = .ok (.aload_n 0, 1) := by decide +kernel
theorem dX0_take_31 : decode cX0_take 31 = .ok (.getfield 9, 3) := by decide +kernel
theorem dX0_take_34 : decode cX0_take 34 = .ok (.iload_n 3, 1) := by decide +kernel
theorem dX0_take_35 : decode cX0_take 35 = .ok (.iload 4, 2) := by decide +kernel
theorem dX0_take_37 : decode cX0_take 37 = .ok (.invokestatic 63, 3) := by decide +kernel
theorem dX0_take_40 : decode cX0_take 40 = .ok (.aload_n 0, 1) := by decide +kernel
theorem dX0_take_41 : decode cX0_take 41 = .ok (.invokevirtual 56, 3) := by decide +kernel
theorem dX0_take_44 : decode cX0_take 44 = .ok (.return_, 1) := by decide +kernel
theorem dX0_allLetters_0 : decode cX0_allLetters 0 = .ok (.iconst 0, 1) := by decide +kernel
theorem dX0_allLetters_1 : decode cX0_allLetters 1 = .ok (.istore_n 1, 1) := by decide +kernel
theorem dX0_allLetters_2 : decode cX0_allLetters 2 = .ok (.iconst 0, 1) := by decide +kernel
theorem dX0_allLetters_3 : decode cX0_allLetters 3 = .ok (.istore_n 2, 1) := by decide +kernel
theorem dX0_allLetters_4 : decode cX0_allLetters 4 = .ok (.iload_n 2, 1) := by decide +kernel
theorem dX0_allLetters_5 : decode cX0_allLetters 5 = .ok (.aload_n 0, 1) := by decide +kernel
theorem dX0_allLetters_6 : decode cX0_allLetters 6 = .ok (.getfield 48, 3) := by decide +kernel
theorem dX0_allLetters_9 : decode cX0_allLetters 9 = .ok (.if_icmp .ge 27, 3) := by decide +kernel
theorem dX0_allLetters_12 : decode cX0_allLetters 12 = .ok (.iload_n 2, 1) := by decide +kernel
theorem dX0_allLetters_13 : decode cX0_allLetters 13 = .ok (.aload_n 0, 1) := by decide +kernel
theorem dX0_allLetters_14 : decode cX0_allLetters 14 = .ok (.getfield 9, 3) := by decide +kernel
theorem dX0_allLetters_17 : decode cX0_allLetters 17 = .ok (.arraylength, 1) := by decide +kernel
theorem dX0_allLetters_18 : decode cX0_allLetters 18 = .ok (.if_icmp .ge 18, 3) := by decide +kernel
theorem dX0_allLetters_21 : decode cX0_allLetters 21 = .ok (.iload_n 1, 1) := by decide +kernel
theorem dX0_allLetters_22 : decode cX0_allLetters 22 = .ok (.aload_n 0, 1) := by decide +kernel
theorem dX0_allLetters_23 : decode cX0_allLetters 23 = .ok (.getfield 9, 3) := by decide +kernel
theorem dX0_allLetters_26 : decode cX0_allLetters 26 = .ok (.iload_n 2, 1) := by decide +kernel
theorem dX0_allLetters_27 : decode cX0_allLetters 27 = .ok (.iaload, 1) := by decide +kernel
theorem dX0_allLetters_28 : decode cX0_allLetters 28 = .ok (.iadd, 1) := by decide +kernel
theorem dX0_allLetters_29 : decode cX0_allLetters 29 = .ok (.istore_n 1, 1) := by decide +kernel
theorem dX0_allLetters_30 : decode cX0_allLetters 30 = .ok (.iinc 2 1, 3) := by decide +kernel
theorem dX0_allLetters_33 : decode cX0_allLetters 33 = .ok (.goto (-29), 3) := by decide +kernel
theorem dX0_allLetters_36 : decode cX0_allLetters 36 = .ok (.iload_n 1, 1) := by decide +kernel
theorem dX0_allLetters_37 : decode cX0_allLetters 37 = .ok (.ireturn, 1) := by decide +kernel
theorem dX0_wanted_0 : decode cX0_wanted 0 = .ok (.aload_n 0, 1) := by decide +kernel
theorem dX0_wanted_1 : decode cX0_wanted 1 = .ok (.getfield 18, 3) := by decide +kernel
theorem dX0_wanted_4 : decode cX0_wanted 4 = .ok (.iconst 2, 1) := by decide +kernel
theorem dX0_wanted_5 : decode cX0_wanted 5 = .ok (.if_icmp .ne 8, 3) := by decide +kernel
theorem dX0_wanted_8 : decode cX0_wanted 8 = .ok (.aload_n 0, 1) := by decide +kernel
theorem dX0_wanted_9 : decode cX0_wanted 9 = .ok (.getfield 37, 3) := by decide +kernel
theorem dX0_wanted_12 : decode cX0_wanted 12 = .ok (.ireturn, 1) := by decide +kernel
theorem dX0_wanted_13 : decode cX0_wanted 13 = .ok (.aload_n 0, 1) := by decide +kernel
theorem dX0_wanted_14 : decode cX0_wanted 14 = .ok (.getfield 48, 3) := by decide +kernel
theorem dX0_wanted_17 : decode cX0_wanted 17 = .ok (.iconst 1, 1) := by decide +kernel
theorem dX0_wanted_18 : decode cX0_wanted 18 = .ok (.if_icmp .ge 5, 3) := by decide +kernel
theorem dX0_wanted_21 : decode cX0_wanted 21 = .ok (.iconst 0, 1) := by decide +kernel
theorem dX0_wanted_22 : decode cX0_wanted 22 = .ok (.ireturn, 1) := by decide +kernel
theorem dX0_wanted_23 : decode cX0_wanted 23 = .ok (.iload_n 1, 1) := by decide +kernel
theorem dX0_wanted_24 : decode cX0_wanted 24 = .ok (.ifCond .ne 10, 3) := by decide +kernel
theorem dX0_wanted_27 : decode cX0_wanted 27 = .ok (.aload_n 0, 1) := by decide +kernel
theorem dX0_wanted_28 : decode cX0_wanted 28 = .ok (.invokevirtual 69, 3) := by decide +kernel
theorem dX0_wanted_31 : decode cX0_wanted 31 = .ok (.goto 14, 3) := by decide +kernel
theorem dX0_wanted_34 : decode cX0_wanted 34 = .ok (.aload_n 0, 1) := by decide +kernel
theorem dX0_wanted_35 : decode cX0_wanted 35 = .ok (.invokevirtual 73, 3) := by decide +kernel
theorem dX0_wanted_38 : decode cX0_wanted 38 = .ok (.aload_n 0, 1) := by decide +kernel
theorem dX0_wanted_39 : decode cX0_wanted 39 = .ok (.getfield 48, 3) := by decide +kernel
theorem dX0_wanted_42 : decode cX0_wanted 42 = .ok (.iadd, 1) := by decide +kernel
theorem dX0_wanted_43 : decode cX0_wanted 43 = .ok (.iconst 1, 1) := by decide +kernel
theorem dX0_wanted_44 : decode cX0_wanted 44 = .ok (.isub, 1) := by decide +kernel
theorem dX0_wanted_45 : decode cX0_wanted 45 = .ok (.ireturn, 1) := by decide +kernel
theorem dX0_longestPiece_0 : decode cX0_longestPiece 0 = .ok (.iconst 0, 1) := by decide +kernel
theorem dX0_longestPiece_1 : decode cX0_longestPiece 1 = .ok (.istore_n 1, 1) := by decide +kernel
theorem dX0_longestPiece_2 : decode cX0_longestPiece 2 = .ok (.iconst 0, 1) := by decide +kernel
theorem dX0_longestPiece_3 : decode cX0_longestPiece 3 = .ok (.istore_n 2, 1) := by decide +kernel
theorem dX0_longestPiece_4 : decode cX0_longestPiece 4 = .ok (.iload_n 2, 1) := by decide +kernel
theorem dX0_longestPiece_5 : decode cX0_longestPiece 5 = .ok (.aload_n 0, 1) := by decide +kernel
theorem dX0_longestPiece_6 : decode cX0_longestPiece 6 = .ok (.getfield 48, 3) := by decide +kernel
theorem dX0_longestPiece_9 : decode cX0_longestPiece 9 = .ok (.if_icmp .ge 29, 3) := by decide +kernel
theorem dX0_longestPiece_12 : decode cX0_longestPiece 12 = .ok (.iload_n 2, 1) := by decide +kernel
theorem dX0_longestPiece_13 : decode cX0_longestPiece 13 = .ok (.aload_n 0, 1) := by decide +kernel
theorem dX0_longestPiece_14 : decode cX0_longestPiece 14 = .ok (.getfield 9, 3) := by decide +kernel
theorem dX0_longestPiece_17 : decode cX0_longestPiece 17 = .ok (.arraylength, 1) := by decide +kernel
theorem dX0_longestPiece_18 : decode cX0_longestPiece 18 = .ok (.if_icmp .ge 20, 3) := by decide +kernel
theorem dX0_longestPiece_21 : decode cX0_longestPiece 21 = .ok (.iload_n 1, 1) := by decide +kernel
theorem dX0_longestPiece_22 : decode cX0_longestPiece 22 = .ok (.aload_n 0, 1) := by decide +kernel
theorem dX0_longestPiece_23 : decode cX0_longestPiece 23 = .ok (.getfield 9, 3) := by decide +kernel
theorem dX0_longestPiece_26 : decode cX0_longestPiece 26 = .ok (.iload_n 2, 1) := by decide +kernel
theorem dX0_longestPiece_27 : decode cX0_longestPiece 27 = .ok (.iaload, 1) := by decide +kernel
theorem dX0_longestPiece_28 : decode cX0_longestPiece 28 = .ok (.invokestatic 76, 3) := by decide +kernel
theorem dX0_longestPiece_31 : decode cX0_longestPiece 31 = .ok (.istore_n 1, 1) := by decide +kernel
theorem dX0_longestPiece_32 : decode cX0_longestPiece 32 = .ok (.iinc 2 1, 3) := by decide +kernel
theorem dX0_longestPiece_35 : decode cX0_longestPiece 35 = .ok (.goto (-31), 3) := by decide +kernel
theorem dX0_longestPiece_38 : decode cX0_longestPiece 38 = .ok (.iload_n 1, 1) := by decide +kernel
theorem dX0_longestPiece_39 : decode cX0_longestPiece 39 = .ok (.ireturn, 1) := by decide +kernel
theorem dX0_linesIn_0 : decode cX0_linesIn 0 = .ok (.iload_n 1, 1) := by decide +kernel
theorem dX0_linesIn_1 : decode cX0_linesIn 1 = .ok (.iconst 1, 1) := by decide +kernel
theorem dX0_linesIn_2 : decode cX0_linesIn 2 = .ok (.invokestatic 76, 3) := by decide +kernel
theorem dX0_linesIn_5 : decode cX0_linesIn 5 = .ok (.istore_n 2, 1) := by decide +kernel
theorem dX0_linesIn_6 : decode cX0_linesIn 6 = .ok (.iload_n 2, 1) := by decide +kernel
theorem dX0_linesIn_7 : decode cX0_linesIn 7 = .ok (.sipush 252, 3) := by decide +kernel
theorem dX0_linesIn_10 : decode cX0_linesIn 10 = .ok (.if_icmp .lt 9, 3) := by decide +kernel
theorem dX0_linesIn_13 : decode cX0_linesIn 13 = .ok (.aload_n 0, 1) := by decide +kernel
theorem dX0_linesIn_14 : decode cX0_linesIn 14 = .ok (.iload_n 2, 1) := by decide +kernel
theorem dX0_linesIn_15 : decode cX0_linesIn 15 = .ok (.invokevirtual 82, 3) := by decide +kernel
theorem dX0_linesIn_18 : decode cX0_linesIn 18 = .ok (.ireturn, 1) := by decide +kernel
theorem dX0_linesIn_19 : decode cX0_linesIn 19 = .ok (.aload_n 0, 1) := by decide +kernel
theorem dX0_linesIn_20 : decode cX0_linesIn 20 = .ok (.getfield 15, 3) := by decide +kernel
theorem dX0_linesIn_23 : decode cX0_linesIn 23 = .ok (.iload_n 2, 1) := by decide +kernel
theorem dX0_linesIn_24 : decode cX0_linesIn 24 = .ok (.iaload, 1) := by decide +kernel
theorem dX0_linesIn_25 : decode cX0_linesIn 25 = .ok (.iconst (-1), 1) := by decide +kernel
theorem dX0_linesIn_26 : decode cX0_linesIn 26 = .ok (.if_icmp .ne 14, 3) := by decide +kernel
theorem dX0_linesIn_29 : decode cX0_linesIn 29 = .ok (.aload_n 0, 1) := by decide +kernel
theorem dX0_linesIn_30 : decode cX0_linesIn 30 = .ok (.getfield 15, 3) := by decide +kernel
theorem dX0_linesIn_33 : decode cX0_linesIn 33 = .ok (.iload_n 2, 1) := by decide +kernel
theorem dX0_linesIn_34 : decode cX0_linesIn 34 = .ok (.aload_n 0, 1) := by decide +kernel
theorem dX0_linesIn_35 : decode cX0_linesIn 35 = .ok (.iload_n 2, 1) := by decide +kernel
theorem dX0_linesIn_36 : decode cX0_linesIn 36 = .ok (.invokevirtual 82, 3) := by decide +kernel
theorem dX0_linesIn_39 : decode cX0_linesIn 39 = .ok (.iastore, 1) := by decide +kernel
theorem dX0_linesIn_40 : decode cX0_linesIn 40 = .ok (.aload_n 0, 1) := by decide +kernel
theorem dX0_linesIn_41 : decode cX0_linesIn 41 = .ok (.getfield 15, 3) := by decide +kernel
theorem dX0_linesIn_44 : decode cX0_linesIn 44 = .ok (.iload_n 2, 1) := by decide +kernel
theorem dX0_linesIn_45 : decode cX0_linesIn 45 = .ok (.iaload, 1) := by decide +kernel
theorem dX0_linesIn_46 : decode cX0_linesIn 46 = .ok (.ireturn, 1) := by decide +kernel
theorem dX0_countLines_0 : decode cX0_countLines 0 = .ok (.iload_n 1, 1) := by decide +kernel
theorem dX0_countLines_1 : decode cX0_countLines 1 = .ok (.iconst 1, 1) := by decide +kernel
theorem dX0_countLines_2 : decode cX0_countLines 2 = .ok (.if_icmp .ge 5, 3) := by decide +kernel
theorem dX0_countLines_5 : decode cX0_countLines 5 = .ok (.iconst 0, 1) := by decide +kernel
theorem dX0_countLines_6 : decode cX0_countLines 6 = .ok (.ireturn, 1) := by decide +kernel
theorem dX0_countLines_7 : decode cX0_countLines 7 = .ok (.iconst 0, 1) := by decide +kernel
theorem dX0_countLines_8 : decode cX0_countLines 8 = .ok (.istore_n 2, 1) := by decide +kernel
theorem dX0_countLines_9 : decode cX0_countLines 9 = .ok (.iconst 0, 1) := by decide +kernel
theorem dX0_countLines_10 : decode cX0_countLines 10 = .ok (.istore_n 3, 1) := by decide +kernel
theorem dX0_countLines_11 : decode cX0_countLines 11 = .ok (.iconst 0, 1) := by decide +kernel
theorem dX0_countLines_12 : decode cX0_countLines 12 = .ok (.istore 4, 2) := by decide +kernel
theorem dX0_countLines_14 : decode cX0_countLines 14 = .ok (.iload 4, 2) := by decide +kernel
theorem dX0_countLines_16 : decode cX0_countLines 16 = .ok (.aload_n 0, 1) := by decide +kernel
theorem dX0_countLines_17 : decode cX0_countLines 17 = .ok (.getfield 48, 3) := by decide +kernel
theorem dX0_countLines_20 : decode cX0_countLines 20 = .ok (.if_icmp .ge 75, 3) := by decide +kernel
theorem dX0_countLines_23 : decode cX0_countLines 23 = .ok (.iload 4, 2) := by decide +kernel
theorem dX0_countLines_25 : decode cX0_countLines 25 = .ok (.aload_n 0, 1) := by decide +kernel
theorem dX0_countLines_26 : decode cX0_countLines 26 = .ok (.getfield 9, 3) := by decide +kernel
theorem dX0_countLines_29 : decode cX0_countLines 29 = .ok (.arraylength, 1) := by decide +kernel
theorem dX0_countLines_30 : decode cX0_countLines 30 = .ok (.if_icmp .ge 65, 3) := by decide +kernel
theorem dX0_countLines_33 : decode cX0_countLines 33 = .ok (.aload_n 0, 1) := by decide +kernel
theorem dX0_countLines_34 : decode cX0_countLines 34 = .ok (.getfield 9, 3) := by decide +kernel
theorem dX0_countLines_37 : decode cX0_countLines 37 = .ok (.iload 4, 2) := by decide +kernel
theorem dX0_countLines_39 : decode cX0_countLines 39 = .ok (.iaload, 1) := by decide +kernel
theorem dX0_countLines_40 : decode cX0_countLines 40 = .ok (.istore 5, 2) := by decide +kernel
theorem dX0_countLines_42 : decode cX0_countLines 42 = .ok (.iload_n 2, 1) := by decide +kernel
theorem dX0_countLines_43 : decode cX0_countLines 43 = .ok (.ifCond .le 23, 3) := by decide +kernel
theorem dX0_countLines_46 : decode cX0_countLines 46 = .ok (.iload_n 3, 1) := by decide +kernel
theorem dX0_countLines_47 : decode cX0_countLines 47 = .ok (.iconst 1, 1) := by decide +kernel
theorem dX0_countLines_48 : decode cX0_countLines 48 = .ok (.iadd, 1) := by decide +kernel
theorem dX0_countLines_49 : decode cX0_countLines 49 = .ok (.iload 5, 2) := by decide +kernel
theorem dX0_countLines_51 : decode cX0_countLines 51 = .ok (.iadd, 1) := by decide +kernel
theorem dX0_countLines_52 : decode cX0_countLines 52 = .ok (.iload_n 1, 1) := by decide +kernel
theorem dX0_countLines_53 : decode cX0_countLines 53 = .ok (.if_icmp .gt 13, 3) := by decide +kernel
theorem dX0_countLines_56 : decode cX0_countLines 56 = .ok (.iload_n 3, 1) := by decide +kernel
theorem dX0_countLines_57 : decode cX0_countLines 57 = .ok (.iconst 1, 1) := by decide +kernel
theorem dX0_countLines_58 : decode cX0_countLines 58 = .ok (.iload 5, 2) := by decide +kernel
theorem dX0_countLines_60 : decode cX0_countLines 60 = .ok (.iadd, 1) := by decide +kernel
theorem dX0_countLines_61 : decode cX0_countLines 61 = .ok (.iadd, 1) := by decide +kernel
theorem dX0_countLines_62 : decode cX0_countLines 62 = .ok (.istore_n 3, 1) := by decide +kernel
theorem dX0_countLines_63 : decode cX0_countLines 63 = .ok (.goto 26, 3) := by decide +kernel
theorem dX0_countLines_66 : decode cX0_countLines 66 = .ok (.iload 5, 2) := by decide +kernel
theorem dX0_countLines_68 : decode cX0_countLines 68 = .ok (.iconst 1, 1) := by decide +kernel
theorem dX0_countLines_69 : decode cX0_countLines 69 = .ok (.isub, 1) := by decide +kernel
theorem dX0_countLines_70 : decode cX0_countLines 70 = .ok (.iload_n 1, 1) := by decide +kernel
theorem dX0_countLines_71 : decode cX0_countLines 71 = .ok (.idiv, 1) := by decide +kernel
theorem dX0_countLines_72 : decode cX0_countLines 72 = .ok (.istore 6, 2) := by decide +kernel
theorem dX0_countLines_74 : decode cX0_countLines 74 = .ok (.iload_n 2, 1) := by decide +kernel
theorem dX0_countLines_75 : decode cX0_countLines 75 = .ok (.iload 6, 2) := by decide +kernel
theorem dX0_countLines_77 : decode cX0_countLines 77 = .ok (.iconst 1, 1) := by decide +kernel
theorem dX0_countLines_78 : decode cX0_countLines 78 = .ok (.iadd, 1) := by decide +kernel
theorem dX0_countLines_79 : decode cX0_countLines 79 = .ok (.iadd, 1) := by decide +kernel
theorem dX0_countLines_80 : decode cX0_countLines 80 = .ok (.istore_n 2, 1) := by decide +kernel
theorem dX0_countLines_81 : decode cX0_countLines 81 = .ok (.iload 5, 2) := by decide +kernel
theorem dX0_countLines_83 : decode cX0_countLines 83 = .ok (.iload 6, 2) := by decide +kernel
theorem dX0_countLines_85 : decode cX0_countLines 85 = .ok (.iload_n 1, 1) := by decide +kernel
theorem dX0_countLines_86 : decode cX0_countLines 86 = .ok (.imul, 1) := by decide +kernel
theorem dX0_countLines_87 : decode cX0_countLines 87 = .ok (.isub, 1) := by decide +kernel
theorem dX0_countLines_88 : decode cX0_countLines 88 = .ok (.istore_n 3, 1) := by decide +kernel
theorem dX0_countLines_89 : decode cX0_countLines 89 = .ok (.iinc 4 1, 3) := by decide +kernel
theorem dX0_countLines_92 : decode cX0_countLines 92 = .ok (.goto (-78), 3) := by decide +kernel
theorem dX0_countLines_95 : decode cX0_countLines 95 = .ok (.iload_n 2, 1) := by decide +kernel
theorem dX0_countLines_96 : decode cX0_countLines 96 = .ok (.ireturn, 1) := by decide +kernel
theorem dX0_forgetLines_0 : decode cX0_forgetLines 0 = .ok (.aload_n 0, 1) := by decide +kernel
theorem dX0_forgetLines_1 : decode cX0_forgetLines 1 = .ok (.getfield 15, 3) := by decide +kernel
theorem dX0_forgetLines_4 : decode cX0_forgetLines 4 = .ok (.iconst (-1), 1) := by decide +kernel
theorem dX0_forgetLines_5 : decode cX0_forgetLines 5 = .ok (.invokestatic 51, 3) := by decide +kernel
theorem dX0_forgetLines_8 : decode cX0_forgetLines 8 = .ok (.return_, 1) := by decide +kernel
theorem dX1_init_0 : decode cX1_init 0 = .ok (.aload_n 0, 1) := by decide +kernel
theorem dX1_init_1 : decode cX1_init 1 = .ok (.invokespecial 3, 3) := by decide +kernel
theorem dX1_init_4 : decode cX1_init 4 = .ok (.aload_n 0, 1) := by decide +kernel
theorem dX1_init_5 : decode cX1_init 5 = .ok (.bipush 6, 2) := by decide +kernel
theorem dX1_init_7 : decode cX1_init 7 = .ok (.newarray .int, 2) := by decide +kernel
theorem dX1_init_9 : decode cX1_init 9 = .ok (.putfield 9, 3) := by decide +kernel
theorem dX1_init_12 : decode cX1_init 12 = .ok (.aload_n 0, 1) := by decide +kernel
theorem dX1_init_13 : decode cX1_init 13 = .ok (.bipush 10, 2) := by decide +kernel
theorem dX1_init_15 : decode cX1_init 15 = .ok (.newarray .int, 2) := by decide +kernel
theorem dX1_init_17 : decode cX1_init 17 = .ok (.putfield 15, 3) := by decide +kernel
theorem dX1_init_20 : decode cX1_init 20 = .ok (.aload_n 0, 1) := by decide +kernel
theorem dX1_init_21 : decode cX1_init 21 = .ok (.bipush 40, 2) := by decide +kernel
theorem dX1_init_23 : decode cX1_init 23 = .ok (.anewarray 18, 3) := by decide +kernel
theorem dX1_init_26 : decode cX1_init 26 = .ok (.putfield 20, 3) := by decide +kernel
theorem dX1_init_29 : decode cX1_init 29 = .ok (.iconst 0, 1) := by decide +kernel
theorem dX1_init_30 : decode cX1_init 30 = .ok (.istore_n 1, 1) := by decide +kernel
theorem dX1_init_31 : decode cX1_init 31 = .ok (.iload_n 1, 1) := by decide +kernel
theorem dX1_init_32 : decode cX1_init 32 = .ok (.bipush 40, 2) := by decide +kernel
theorem dX1_init_34 : decode cX1_init 34 = .ok (.if_icmp .ge 22, 3) := by decide +kernel
theorem dX1_init_37 : decode cX1_init 37 = .ok (.aload_n 0, 1) := by decide +kernel
theorem dX1_init_38 : decode cX1_init 38 = .ok (.getfield 20, 3) := by decide +kernel
theorem dX1_init_41 : decode cX1_init 41 = .ok (.iload_n 1, 1) := by decide +kernel
theorem dX1_init_42 : decode cX1_init 42 = .ok (.new 18, 3) := by decide +kernel
theorem dX1_init_45 : decode cX1_init 45 = .ok (.dup, 1) := by decide +kernel
theorem dX1_init_46 : decode cX1_init 46 = .ok (.invokespecial 24, 3) := by decide +kernel
theorem dX1_init_49 : decode cX1_init 49 = .ok (.aastore, 1) := by decide +kernel
theorem dX1_init_50 : decode cX1_init 50 = .ok (.iinc 1 1, 3) := by decide +kernel
theorem dX1_init_53 : decode cX1_init 53 = .ok (.goto (-22), 3) := by decide +kernel
theorem dX1_init_56 : decode cX1_init 56 = .ok (.aload_n 0, 1) := by decide +kernel
theorem dX1_init_57 : decode cX1_init 57 = .ok (.getfield 15, 3) := by decide +kernel
theorem dX1_init_60 : decode cX1_init 60 = .ok (.iconst 1, 1) := by decide +kernel
theorem dX1_init_61 : decode cX1_init 61 = .ok (.invokestatic 25, 3) := by decide +kernel
theorem dX1_init_64 : decode cX1_init 64 = .ok (.aload_n 0, 1) := by decide +kernel
theorem dX1_init_65 : decode cX1_init 65 = .ok (.iconst 1, 1) := by decide +kernel
theorem dX1_init_66 : decode cX1_init 66 = .ok (.iconst 1, 1) := by decide +kernel
theorem dX1_init_67 : decode cX1_init 67 = .ok (.iconst 0, 1) := by decide +kernel
theorem dX1_init_68 : decode cX1_init 68 = .ok (.invokevirtual 31, 3) := by decide +kernel
theorem dX1_init_71 : decode cX1_init 71 = .ok (.return_, 1) := by decide +kernel
theorem dX1_begin_0 : decode cX1_begin 0 = .ok (.aload_n 0, 1) := by decide +kernel
theorem dX1_begin_1 : decode cX1_begin 1 = .ok (.iload_n 1, 1) := by decide +kernel
theorem dX1_begin_2 : decode cX1_begin 2 = .ok (.putfield 35, 3) := by decide +kernel
theorem dX1_begin_5 : decode cX1_begin 5 = .ok (.aload_n 0, 1) := by decide +kernel
theorem dX1_begin_6 : decode cX1_begin 6 = .ok (.iload_n 2, 1) := by decide +kernel
theorem dX1_begin_7 : decode cX1_begin 7 = .ok (.putfield 39, 3) := by decide +kernel
theorem dX1_begin_10 : decode cX1_begin 10 = .ok (.aload_n 0, 1) := by decide +kernel
theorem dX1_begin_11 : decode cX1_begin 11 = .ok (.iload_n 3, 1) := by decide +kernel
theorem dX1_begin_12 : decode cX1_begin 12 = .ok (.putfield 42, 3) := by decide +kernel
theorem dX1_begin_15 : decode cX1_begin 15 = .ok (.aload_n 0, 1) := by decide +kernel
theorem dX1_begin_16 : decode cX1_begin 16 = .ok (.iconst 0, 1) := by decide +kernel
theorem dX1_begin_17 : decode cX1_begin 17 = .ok (.putfield 45, 3) := by decide +kernel
theorem dX1_begin_20 : decode cX1_begin 20 = .ok (.aload_n 0, 1) := by decide +kernel
theorem dX1_begin_21 : decode cX1_begin 21 = .ok (.getfield 9, 3) := by decide +kernel
theorem dX1_begin_24 : decode cX1_begin 24 = .ok (.iconst 1, 1) := by decide +kernel
theorem dX1_begin_25 : decode cX1_begin 25 = .ok (.invokestatic 25, 3) := by decide +kernel
theorem dX1_begin_28 : decode cX1_begin 28 = .ok (.return_, 1) := by decide +kernel
theorem dX1_numbered_0 : decode cX1_numbered 0 = .ok (.iload_n 1, 1) := by decide +kernel
theorem dX1_numbered_1 : decode cX1_numbered 1 = .ok (.ifCond .lt 29, 3) := by decide +kernel
theorem dX1_numbered_4 : decode cX1_numbered 4 = .ok (.iload_n 1, 1) := by decide +kernel
theorem dX1_numbered_5 : decode cX1_numbered 5 = .ok (.aload_n 0, 1) := by decide +kernel
theorem dX1_numbered_6 : decode cX1_numbered 6 = .ok (.getfield 45, 3) := by decide +kernel
theorem dX1_numbered_9 : decode cX1_numbered 9 = .ok (.if_icmp .ge 21, 3) := by decide +kernel
theorem dX1_numbered_12 : decode cX1_numbered 12 = .ok (.iload_n 1, 1) := by decide +kernel
theorem dX1_numbered_13 : decode cX1_numbered 13 = .ok (.aload_n 0, 1) := by decide +kernel
theorem dX1_numbered_14 : decode cX1_numbered 14 = .ok (.getfield 20, 3) := by decide +kernel
theorem dX1_numbered_17 : decode cX1_numbered 17 = .ok (.arraylength, 1) := by decide +kernel
theorem dX1_numbered_18 : decode cX1_numbered 18 = .ok (.if_icmp .ge 12, 3) := by decide +kernel
theorem dX1_numbered_21 : decode cX1_numbered 21 = .ok (.aload_n 0, 1) := by decide +kernel
theorem dX1_numbered_22 : decode cX1_numbered 22 = .ok (.getfield 20, 3) := by decide +kernel
theorem dX1_numbered_25 : decode cX1_numbered 25 = .ok (.iload_n 1, 1) := by decide +kernel
theorem dX1_numbered_26 : decode cX1_numbered 26 = .ok (.aaload, 1) := by decide +kernel
theorem dX1_numbered_27 : decode cX1_numbered 27 = .ok (.goto 4, 3) := by decide +kernel
theorem dX1_numbered_30 : decode cX1_numbered 30 = .ok (.aconst_null, 1) := by decide +kernel
theorem dX1_numbered_31 : decode cX1_numbered 31 = .ok (.areturn, 1) := by decide +kernel
theorem dX1_present_0 : decode cX1_present 0 = .ok (.aload_n 0, 1) := by decide +kernel
theorem dX1_present_1 : decode cX1_present 1 = .ok (.iload_n 1, 1) := by decide +kernel
theorem dX1_present_2 : decode cX1_present 2 = .ok (.invokevirtual 48, 3) := by decide +kernel
theorem dX1_present_5 : decode cX1_present 5 = .ok (.astore_n 2, 1) := by decide +kernel
theorem dX1_present_6 : decode cX1_present 6 = .ok (.aload_n 2, 1) := by decide +kernel
theorem dX1_present_7 : decode cX1_present 7 = .ok (.ifnull 10, 3) := by decide +kernel
theorem dX1_present_10 : decode cX1_present 10 = .ok (.aload_n 2, 1) := by decide +kernel
theorem dX1_present_11 : decode cX1_present 11 = .ok (.getfield 52, 3) := by decide +kernel
theorem dX1_present_14 : decode cX1_present 14 = .ok (.ifCond .eq 7, 3) := by decide +kernel
theorem dX1_present_17 : decode cX1_present 17 = .ok (.aconst_null, 1) := by decide +kernel
theorem dX1_present_18 : decode cX1_present 18 = .ok (.goto 4, 3) := by decide +kernel
theorem dX1_present_21 : decode cX1_present 21 = .ok (.aload_n 2, 1) := by decide +kernel
theorem dX1_present_22 : decode cX1_present 22 = .ok (.areturn, 1) := by decide +kernel
theorem dX1_add_0 : decode cX1_add 0 = .ok (.aload_n 0, 1) := by decide +kernel
theorem dX1_add_1 : decode cX1_add 1 = .ok (.getfield 45, 3) := by decide +kernel
theorem dX1_add_4 : decode cX1_add 4 = .ok (.aload_n 0, 1) := by decide +kernel
theorem dX1_add_5 : decode cX1_add 5 = .ok (.getfield 20, 3) := by decide +kernel
theorem dX1_add_8 : decode cX1_add 8 = .ok (.arraylength, 1) := by decide +kernel
theorem dX1_add_9 : decode cX1_add 9 = .ok (.if_icmp .ge 15, 3) := by decide +kernel
theorem dX1_add_12 : decode cX1_add 12 = .ok (.aload_n 0, 1) := by decide +kernel
theorem dX1_add_13 : decode cX1_add 13 = .ok (.getfield 20, 3) := by decide +kernel
theorem dX1_add_16 : decode cX1_add 16 = .ok (.aload_n 0, 1) := by decide +kernel
theorem dX1_add_17 : decode cX1_add 17 = .ok (.getfield 45, 3) := by decide +kernel
theorem dX1_add_20 : decode cX1_add 20 = .ok (.aaload, 1) := by decide +kernel
theorem dX1_add_21 : decode cX1_add 21 = .ok (.ifnonnull 6, 3) := by decide +kernel
theorem dX1_add_24 : decode cX1_add 24 = .ok (.bipush (-2), 2) := by decide +kernel
theorem dX1_add_26 : decode cX1_add 26 = .ok (.ireturn, 1) := by decide +kernel
theorem dX1_add_27 : decode cX1_add 27 = .ok (.aload_n 0, 1) := by decide +kernel
theorem dX1_add_28 : decode cX1_add 28 = .ok (.getfield 20, 3) := by decide +kernel
theorem dX1_add_31 : decode cX1_add 31 = .ok (.aload_n 0, 1) := by decide +kernel
theorem dX1_add_32 : decode cX1_add 32 = .ok (.getfield 45, 3) := by decide +kernel
theorem dX1_add_35 : decode cX1_add 35 = .ok (.aaload, 1) := by decide +kernel
theorem dX1_add_36 : decode cX1_add 36 = .ok (.iload_n 1, 1) := by decide +kernel
theorem dX1_add_37 : decode cX1_add 37 = .ok (.iload_n 2, 1) := by decide +kernel
theorem dX1_add_38 : decode cX1_add 38 = .ok (.iload_n 3, 1) := by decide +kernel
theorem dX1_add_39 : decode cX1_add 39 = .ok (.iload 4, 2) := by decide +kernel
theorem dX1_add_41 : decode cX1_add 41 = .ok (.iload 5, 2) := by decide +kernel
theorem dX1_add_43 : decode cX1_add 43 = .ok (.invokevirtual 56, 3) := by decide +kernel
theorem dX1_add_46 : decode cX1_add 46 = .ok (.aload_n 0, 1) := by decide +kernel
theorem dX1_add_47 : decode cX1_add 47 = .ok (.dup, 1) := by decide +kernel
theorem dX1_add_48 : decode cX1_add 48 = .ok (.getfield 45, 3) := by decide +kernel
theorem dX1_add_51 : decode cX1_add 51 = .ok (.iconst 1, 1) := by decide +kernel
theorem dX1_add_52 : decode cX1_add 52 = .ok (.iadd, 1) := by decide +kernel
theorem dX1_add_53 : decode cX1_add 53 = .ok (.putfield 45, 3) := by decide +kernel
theorem dX1_add_56 : decode cX1_add 56 = .ok (.aload_n 0, 1) := by decide +kernel
theorem dX1_add_57 : decode cX1_add 57 = .ok (.getfield 45, 3) := by decide +kernel
theorem dX1_add_60 : decode cX1_add 60 = .ok (.iconst 1, 1) := by decide +kernel
theorem dX1_add_61 : decode cX1_add 61 = .ok (.isub, 1) := by decide +kernel
theorem dX1_add_62 : decode cX1_add 62 = .ok (.ireturn, 1) := by decide +kernel
theorem dX1_firstOn_0 : decode cX1_firstOn 0 = .ok (.iconst 0, 1) := by decide +kernel
theorem dX1_firstOn_1 : decode cX1_firstOn 1 = .ok (.istore 5, 2) := by decide +kernel
theorem dX1_firstOn_3 : decode cX1_firstOn 3 = .ok (.iload 5, 2) := by decide +kernel
theorem dX1_firstOn_5 : decode cX1_firstOn 5 = .ok (.aload_n 0, 1) := by decide +kernel
theorem dX1_firstOn_6 : decode cX1_firstOn 6 = .ok (.getfield 45, 3) := by decide +kernel
theorem dX1_firstOn_9 : decode cX1_firstOn 9 = .ok (.if_icmp .ge 38, 3) := by decide +kernel
theorem dX1_firstOn_12 : decode cX1_firstOn 12 = .ok (.aload_n 0, 1) := by decide +kernel
theorem dX1_firstOn_13 : decode cX1_firstOn 13 = .ok (.iload 5, 2) := by decide +kernel
theorem dX1_firstOn_15 : decode cX1_firstOn 15 = .ok (.invokevirtual 59, 3) := by decide +kernel
theorem dX1_firstOn_18 : decode cX1_firstOn 18 = .ok (.astore 6, 2) := by decide +kernel
theorem dX1_firstOn_20 : decode cX1_firstOn 20 = .ok (.aload 6, 2) := by decide +kernel
theorem dX1_firstOn_22 : decode cX1_firstOn 22 = .ok (.ifnull 19, 3) := by decide +kernel
theorem dX1_firstOn_25 : decode cX1_firstOn 25 = .ok (.aload 6, 2) := by decide +kernel
theorem dX1_firstOn_27 : decode cX1_firstOn 27 = .ok (.iload_n 1, 1) := by decide +kernel
theorem dX1_firstOn_28 : decode cX1_firstOn 28 = .ok (.iload_n 2, 1) := by decide +kernel
theorem dX1_firstOn_29 : decode cX1_firstOn 29 = .ok (.iload_n 3, 1) := by decide +kernel
theorem dX1_firstOn_30 : decode cX1_firstOn 30 = .ok (.iload 4, 2) := by decide +kernel
theorem dX1_firstOn_32 : decode cX1_firstOn 32 = .ok (.invokevirtual 62, 3) := by decide +kernel
theorem dX1_firstOn_35 : decode cX1_firstOn 35 = .ok (.ifCond .eq 6, 3) := by decide +kernel
theorem dX1_firstOn_38 : decode cX1_firstOn 38 = .ok (.iload 5, 2) := by decide +kernel
theorem dX1_firstOn_40 : decode cX1_firstOn 40 = .ok (.ireturn, 1) := by decide +kernel
theorem dX1_firstOn_41 : decode cX1_firstOn 41 = .ok (.iinc 5 1, 3) := by decide +kernel
theorem dX1_firstOn_44 : decode cX1_firstOn 44 = .ok (.goto (-41), 3) := by decide +kernel
theorem dX1_firstOn_47 : decode cX1_firstOn 47 = .ok (.bipush (-9), 2) := by decide +kernel
theorem dX1_firstOn_49 : decode cX1_firstOn 49 = .ok (.ireturn, 1) := by decide +kernel
theorem dX1_presentCells_0 : decode cX1_presentCells 0 = .ok (.iconst 0, 1) := by decide +kernel
theorem dX1_presentCells_1 : decode cX1_presentCells 1 = .ok (.istore_n 1, 1) := by decide +kernel
theorem dX1_presentCells_2 : decode cX1_presentCells 2 = .ok (.iconst 0, 1) := by decide +kernel
theorem dX1_presentCells_3 : decode cX1_presentCells 3 = .ok (.istore_n 2, 1) := by decide +kernel
theorem dX1_presentCells_4 : decode cX1_presentCells 4 = .ok (.iload_n 2, 1) := by decide +kernel
theorem dX1_presentCells_5 : decode cX1_presentCells 5 = .ok (.aload_n 0, 1) := by decide +kernel
theorem dX1_presentCells_6 : decode cX1_presentCells 6 = .ok (.getfield 45, 3) := by decide +kernel
theorem dX1_presentCells_9 : decode cX1_presentCells 9 = .ok (.if_icmp .ge 20, 3) := by decide +kernel
theorem dX1_presentCells_12 : decode cX1_presentCells 12 = .ok (.aload_n 0, 1) := by decide +kernel
theorem dX1_presentCells_13 : decode cX1_presentCells 13 = .ok (.iload_n 2, 1) := by decide +kernel
theorem dX1_presentCells_14 : decode cX1_presentCells 14 = .ok (.invokevirtual 59, 3) := by decide +kernel
theorem dX1_presentCells_17 : decode cX1_presentCells 17 = .ok (.ifnull 6, 3) := by decide +kernel
theorem dX1_presentCells_20 : decode cX1_presentCells 20 = .ok (.iinc 1 1, 3) := by decide +kernel
theorem dX1_presentCells_23 : decode cX1_presentCells 23 = .ok (.iinc 2 1, 3) := by decide +kernel
theorem dX1_presentCells_26 : decode cX1_presentCells 26 = .ok (.goto (-22), 3) := by decide +kernel
theorem dX1_presentCells_29 : decode cX1_presentCells 29 = .ok (.iload_n 1, 1) := by decide +kernel
theorem dX1_presentCells_30 : decode cX1_presentCells 30 = .ok (.ireturn, 1) := by decide +kernel
theorem dX1_headRows_0 : decode cX1_headRows 0 = .ok (.iconst 0, 1) := by decide +kernel
theorem dX1_headRows_1 : decode cX1_headRows 1 = .ok (.istore_n 1, 1) := by decide +kernel
theorem dX1_headRows_2 : decode cX1_headRows 2 = .ok (.iload_n 1, 1) := by decide +kernel
theorem dX1_headRows_3 : decode cX1_headRows 3 = .ok (.aload_n 0, 1) := by decide +kernel
theorem dX1_headRows_4 : decode cX1_headRows 4 = .ok (.getfield 35, 3) := by decide +kernel
theorem dX1_headRows_7 : decode cX1_headRows 7 = .ok (.if_icmp .ge 17, 3) := by decide +kernel
theorem dX1_headRows_10 : decode cX1_headRows 10 = .ok (.aload_n 0, 1) := by decide +kernel
theorem dX1_headRows_11 : decode cX1_headRows 11 = .ok (.iload_n 1, 1) := by decide +kernel
theorem dX1_headRows_12 : decode cX1_headRows 12 = .ok (.invokevirtual 66, 3) := by decide +kernel
theorem dX1_headRows_15 : decode cX1_headRows 15 = .ok (.ifCond .eq 9, 3) := by decide +kernel
theorem dX1_headRows_18 : decode cX1_headRows 18 = .ok (.iinc 1 1, 3) := by decide +kernel
theorem dX1_headRows_21 : decode cX1_headRows 21 = .ok (.goto (-19), 3) := by decide +kernel
theorem dX1_headRows_24 : decode cX1_headRows 24 = .ok (.iload_n 1, 1) := by decide +kernel
theorem dX1_headRows_25 : decode cX1_headRows 25 = .ok (.ireturn, 1) := by decide +kernel
theorem dX1_hasHead_0 : decode cX1_hasHead 0 = .ok (.iconst 0, 1) := by decide +kernel
theorem dX1_hasHead_1 : decode cX1_hasHead 1 = .ok (.istore_n 2, 1) := by decide +kernel
theorem dX1_hasHead_2 : decode cX1_hasHead 2 = .ok (.iload_n 2, 1) := by decide +kernel
theorem dX1_hasHead_3 : decode cX1_hasHead 3 = .ok (.aload_n 0, 1) := by decide +kernel
theorem dX1_hasHead_4 : decode cX1_hasHead 4 = .ok (.getfield 45, 3) := by decide +kernel
theorem dX1_hasHead_7 : decode cX1_hasHead 7 = .ok (.if_icmp .ge 37, 3) := by decide +kernel
theorem dX1_hasHead_10 : decode cX1_hasHead 10 = .ok (.aload_n 0, 1) := by decide +kernel
theorem dX1_hasHead_11 : decode cX1_hasHead 11 = .ok (.iload_n 2, 1) := by decide +kernel
theorem dX1_hasHead_12 : decode cX1_hasHead 12 = .ok (.invokevirtual 59, 3) := by decide +kernel
theorem dX1_hasHead_15 : decode cX1_hasHead 15 = .ok (.astore_n 3, 1) := by decide +kernel
theorem dX1_hasHead_16 : decode cX1_hasHead 16 = .ok (.aload_n 3, 1) := by decide +kernel
theorem dX1_hasHead_17 : decode cX1_hasHead 17 = .ok (.ifnull 21, 3) := by decide +kernel
theorem dX1_hasHead_20 : decode cX1_hasHead 20 = .ok (.aload_n 3, 1) := by decide +kernel
theorem dX1_hasHead_21 : decode cX1_hasHead 21 = .ok (.getfield 70, 3) := by decide +kernel
theorem dX1_hasHead_24 : decode cX1_hasHead 24 = .ok (.iconst 1, 1) := by decide +kernel
theorem dX1_hasHead_25 : decode cX1_hasHead 25 = .ok (.if_icmp .ne 13, 3) := by decide +kernel
theorem dX1_hasHead_28 : decode cX1_hasHead 28 = .ok (.aload_n 3, 1) := by decide +kernel
theorem dX1_hasHead_29 : decode cX1_hasHead 29 = .ok (.iload_n 1, 1) := by decide +kernel
theorem dX1_hasHead_30 : decode cX1_hasHead 30 = .ok (.invokevirtual 73, 3) := by decide +kernel
theorem dX1_hasHead_33 : decode cX1_hasHead 33 = .ok (.ifCond .eq 5, 3) := by decide +kernel
theorem dX1_hasHead_36 : decode cX1_hasHead 36 = .ok (.iconst 1, 1) := by decide +kernel
theorem dX1_hasHead_37 : decode cX1_hasHead 37 = .ok (.ireturn, 1) := by decide +kernel
theorem dX1_hasHead_38 : decode cX1_hasHead 38 = .ok (.iinc 2 1, 3) := by decide +kernel
theorem dX1_hasHead_41 : decode cX1_hasHead 41 = .ok (.goto (-39), 3) := by decide +kernel
theorem dX1_hasHead_44 : decode cX1_hasHead 44 = .ok (.iconst 0, 1) := by decide +kernel
theorem dX1_hasHead_45 : decode cX1_hasHead 45 = .ok (.ireturn, 1) := by decide +kernel
theorem dX1_breaksAhead_0 : decode cX1_breaksAhead 0 = .ok (.iload_n 1, 1) := by decide +kernel
theorem dX1_breaksAhead_1 : decode cX1_breaksAhead 1 = .ok (.iload_n 2, 1) := by decide +kernel
theorem dX1_breaksAhead_2 : decode cX1_breaksAhead 2 = .ok (.if_icmp .gt 5, 3) := by decide +kernel
theorem dX1_breaksAhead_5 : decode cX1_breaksAhead 5 = .ok (.iconst 0, 1) := by decide +kernel
theorem dX1_breaksAhead_6 : decode cX1_breaksAhead 6 = .ok (.ireturn, 1) := by decide +kernel
theorem dX1_breaksAhead_7 : decode cX1_breaksAhead 7 = .ok (.iconst 0, 1) := by decide +kernel
theorem dX1_breaksAhead_8 : decode cX1_breaksAhead 8 = .ok (.istore_n 3, 1) := by decide +kernel
theorem dX1_breaksAhead_9 : decode cX1_breaksAhead 9 = .ok (.iload_n 3, 1) := by decide +kernel
theorem dX1_breaksAhead_10 : decode cX1_breaksAhead 10 = .ok (.aload_n 0, 1) := by decide +kernel
theorem dX1_breaksAhead_11 : decode cX1_breaksAhead 11 = .ok (.getfield 45, 3) := by decide +kernel
theorem dX1_breaksAhead_14 : decode cX1_breaksAhead 14 = .ok (.if_icmp .ge 52, 3) := by decide +kernel
theorem dX1_breaksAhead_17 : decode cX1_breaksAhead 17 = .ok (.aload_n 0, 1) := by decide +kernel
theorem dX1_breaksAhead_18 : decode cX1_breaksAhead 18 = .ok (.iload_n 3, 1) := by decide +kernel
theorem dX1_breaksAhead_19 : decode cX1_breaksAhead 19 = .ok (.invokevirtual 59, 3) := by decide +kernel
theorem dX1_breaksAhead_22 : decode cX1_breaksAhead 22 = .ok (.astore 4, 2) := by decide +kernel
theorem dX1_breaksAhead_24 : decode cX1_breaksAhead 24 = .ok (.aload 4, 2) := by decide +kernel
theorem dX1_breaksAhead_26 : decode cX1_breaksAhead 26 = .ok (.ifnull 34, 3) := by decide +kernel
theorem dX1_breaksAhead_29 : decode cX1_breaksAhead 29 = .ok (.aload 4, 2) := by decide +kernel
theorem dX1_breaksAhead_31 : decode cX1_breaksAhead 31 = .ok (.getfield 70, 3) := by decide +kernel
theorem dX1_breaksAhead_34 : decode cX1_breaksAhead 34 = .ok (.iconst 3, 1) := by decide +kernel
theorem dX1_breaksAhead_35 : decode cX1_breaksAhead 35 = .ok (.if_icmp .eq 25, 3) := by decide +kernel
theorem dX1_breaksAhead_38 : decode cX1_breaksAhead 38 = .ok (.aload 4, 2) := by decide +kernel
theorem dX1_breaksAhead_40 : decode cX1_breaksAhead 40 = .ok (.iload_n 1, 1) := by decide +kernel
theorem dX1_breaksAhead_41 : decode cX1_breaksAhead 41 = .ok (.invokevirtual 73, 3) := by decide +kernel
theorem dX1_breaksAhead_44 : decode cX1_breaksAhead 44 = .ok (.ifCond .eq 16, 3) := by decide +kernel
theorem dX1_breaksAhead_47 : decode cX1_breaksAhead 47 = .ok (.aload 4, 2) := by decide +kernel
theorem dX1_breaksAhead_49 : decode cX1_breaksAhead 49 = .ok (.iload_n 1, 1) := by decide +kernel
theorem dX1_breaksAhead_50 : decode cX1_breaksAhead 50 = .ok (.iconst 1, 1) := by decide +kernel
theorem dX1_breaksAhead_51 : decode cX1_breaksAhead 51 = .ok (.isub, 1) := by decide +kernel
theorem dX1_breaksAhead_52 : decode cX1_breaksAhead 52 = .ok (.invokevirtual 73, 3) := by decide +kernel
theorem dX1_breaksAhead_55 : decode cX1_breaksAhead 55 = .ok (.ifCond .eq 5, 3) := by decide +kernel
theorem dX1_breaksAhead_58 : decode cX1_breaksAhead 58 = .ok (.iconst 0, 1) := by decide +kernel
theorem dX1_breaksAhead_59 : decode cX1_breaksAhead 59 = .ok (.ireturn, 1) := by decide +kernel
theorem dX1_breaksAhead_60 : decode cX1_breaksAhead 60 = .ok (.iinc 3 1, 3) := by decide +kernel
theorem dX1_breaksAhead_63 : decode cX1_breaksAhead 63 = .ok (.goto (-54), 3) := by decide +kernel
theorem dX1_breaksAhead_66 : decode cX1_breaksAhead 66 = .ok (.iconst 1, 1) := by decide +kernel
theorem dX1_breaksAhead_67 : decode cX1_breaksAhead 67 = .ok (.ireturn, 1) := by decide +kernel
theorem dX1_firstCall_0 : decode cX1_firstCall 0 = .ok (.bipush (-9), 2) := by decide +kernel
theorem dX1_firstCall_2 : decode cX1_firstCall 2 = .ok (.istore_n 2, 1) := by decide +kernel
theorem dX1_firstCall_3 : decode cX1_firstCall 3 = .ok (.iconst 0, 1) := by decide +kernel
theorem dX1_firstCall_4 : decode cX1_firstCall 4 = .ok (.istore_n 3, 1) := by decide +kernel
theorem dX1_firstCall_5 : decode cX1_firstCall 5 = .ok (.iload_n 3, 1) := by decide +kernel
theorem dX1_firstCall_6 : decode cX1_firstCall 6 = .ok (.aload_n 0, 1) := by decide +kernel
theorem dX1_firstCall_7 : decode cX1_firstCall 7 = .ok (.getfield 45, 3) := by decide +kernel
theorem dX1_firstCall_10 : decode cX1_firstCall 10 = .ok (.if_icmp .ge 55, 3) := by decide +kernel
theorem dX1_firstCall_13 : decode cX1_firstCall 13 = .ok (.aload_n 0, 1) := by decide +kernel
theorem dX1_firstCall_14 : decode cX1_firstCall 14 = .ok (.iload_n 3, 1) := by decide +kernel
theorem dX1_firstCall_15 : decode cX1_firstCall 15 = .ok (.invokevirtual 59, 3) := by decide +kernel
theorem dX1_firstCall_18 : decode cX1_firstCall 18 = .ok (.astore 4, 2) := by decide +kernel
theorem dX1_firstCall_20 : decode cX1_firstCall 20 = .ok (.aload 4, 2) := by decide +kernel
theorem dX1_firstCall_22 : decode cX1_firstCall 22 = .ok (.ifnull 37, 3) := by decide +kernel
theorem dX1_firstCall_25 : decode cX1_firstCall 25 = .ok (.aload 4, 2) := by decide +kernel
theorem dX1_firstCall_27 : decode cX1_firstCall 27 = .ok (.getfield 76, 3) := by decide +kernel
theorem dX1_firstCall_30 : decode cX1_firstCall 30 = .ok (.iload_n 1, 1) := by decide +kernel
theorem dX1_firstCall_31 : decode cX1_firstCall 31 = .ok (.ishr, 1) := by decide +kernel
theorem dX1_firstCall_32 : decode cX1_firstCall 32 = .ok (.iconst 1, 1) := by decide +kernel
theorem dX1_firstCall_33 : decode cX1_firstCall 33 = .ok (.iand, 1) := by decide +kernel
theorem dX1_firstCall_34 : decode cX1_firstCall 34 = .ok (.iconst 1, 1) := by decide +kernel
theorem dX1_firstCall_35 : decode cX1_firstCall 35 = .ok (.if_icmp .ne 24, 3) := by decide +kernel
theorem dX1_firstCall_38 : decode cX1_firstCall 38 = .ok (.iload_n 2, 1) := by decide +kernel
theorem dX1_firstCall_39 : decode cX1_firstCall 39 = .ok (.bipush (-9), 2) := by decide +kernel
theorem dX1_firstCall_41 : decode cX1_firstCall 41 = .ok (.if_icmp .eq 12, 3) := by decide +kernel
theorem dX1_firstCall_44 : decode cX1_firstCall 44 = .ok (.aload 4, 2) := by decide +kernel
theorem dX1_firstCall_46 : decode cX1_firstCall 46 = .ok (.getfield 79, 3) := by decide +kernel
theorem dX1_firstCall_49 : decode cX1_firstCall 49 = .ok (.iload_n 2, 1) := by decide +kernel
theorem dX1_firstCall_50 : decode cX1_firstCall 50 = .ok (.if_icmp .ge 9, 3) := by decide +kernel
theorem dX1_firstCall_53 : decode cX1_firstCall 53 = .ok (.aload 4, 2) := by decide +kernel
theorem dX1_firstCall_55 : decode cX1_firstCall 55 = .ok (.getfield 79, 3) := by decide +kernel
theorem dX1_firstCall_58 : decode cX1_firstCall 58 = .ok (.istore_n 2, 1) := by decide +kernel
theorem dX1_firstCall_59 : decode cX1_firstCall 59 = .ok (.iinc 3 1, 3) := by decide +kernel
theorem dX1_firstCall_62 : decode cX1_firstCall 62 = .ok (.goto (-57), 3) := by decide +kernel
theorem dX1_firstCall_65 : decode cX1_firstCall 65 = .ok (.iload_n 2, 1) := by decide +kernel
theorem dX1_firstCall_66 : decode cX1_firstCall 66 = .ok (.ireturn, 1) := by decide +kernel
theorem dX1_gaps_0 : decode cX1_gaps 0 = .ok (.aload_n 0, 1) := by decide +kernel
theorem dX1_gaps_1 : decode cX1_gaps 1 = .ok (.getfield 39, 3) := by decide +kernel
theorem dX1_gaps_4 : decode cX1_gaps 4 = .ok (.iconst 1, 1) := by decide +kernel
theorem dX1_gaps_5 : decode cX1_gaps 5 = .ok (.isub, 1) := by decide +kernel
theorem dX1_gaps_6 : decode cX1_gaps 6 = .ok (.aload_n 0, 1) := by decide +kernel
theorem dX1_gaps_7 : decode cX1_gaps 7 = .ok (.getfield 42, 3) := by decide +kernel
theorem dX1_gaps_10 : decode cX1_gaps 10 = .ok (.imul, 1) := by decide +kernel
theorem dX1_gaps_11 : decode cX1_gaps 11 = .ok (.ireturn, 1) := by decide +kernel
theorem dX1_spanOf_0 : decode cX1_spanOf 0 = .ok (.aload_n 1, 1) := by decide +kernel
theorem dX1_spanOf_1 : decode cX1_spanOf 1 = .ok (.getfield 82, 3) := by decide +kernel
theorem dX1_spanOf_4 : decode cX1_spanOf 4 = .ok (.aload_n 1, 1) := by decide +kernel
theorem dX1_spanOf_5 : decode cX1_spanOf 5 = .ok (.getfield 85, 3) := by decide +kernel
theorem dX1_spanOf_8 : decode cX1_spanOf 8 = .ok (.iadd, 1) := by decide +kernel
theorem dX1_spanOf_9 : decode cX1_spanOf 9 = .ok (.aload_n 2, 1) := by decide +kernel
theorem dX1_spanOf_10 : decode cX1_spanOf 10 = .ok (.arraylength, 1) := by decide +kernel
theorem dX1_spanOf_11 : decode cX1_spanOf 11 = .ok (.invokestatic 88, 3) := by decide +kernel
theorem dX1_spanOf_14 : decode cX1_spanOf 14 = .ok (.istore_n 3, 1) := by decide +kernel
theorem dX1_spanOf_15 : decode cX1_spanOf 15 = .ok (.aload_n 1, 1) := by decide +kernel
theorem dX1_spanOf_16 : decode cX1_spanOf 16 = .ok (.getfield 85, 3) := by decide +kernel
theorem dX1_spanOf_19 : decode cX1_spanOf 19 = .ok (.iconst 1, 1) := by decide +kernel
theorem dX1_spanOf_20 : decode cX1_spanOf 20 = .ok (.isub, 1) := by decide +kernel
theorem dX1_spanOf_21 : decode cX1_spanOf 21 = .ok (.aload_n 0, 1) := by decide +kernel
theorem dX1_spanOf_22 : decode cX1_spanOf 22 = .ok (.getfield 42, 3) := by decide +kernel
theorem dX1_spanOf_25 : decode cX1_spanOf 25 = .ok (.imul, 1) := by decide +kernel
theorem dX1_spanOf_26 : decode cX1_spanOf 26 = .ok (.istore 4, 2) := by decide +kernel
theorem dX1_spanOf_28 : decode cX1_spanOf 28 = .ok (.aload_n 1, 1) := by decide +kernel
theorem dX1_spanOf_29 : decode cX1_spanOf 29 = .ok (.getfield 82, 3) := by decide +kernel
theorem dX1_spanOf_32 : decode cX1_spanOf 32 = .ok (.istore 5, 2) := by decide +kernel
theorem dX1_spanOf_34 : decode cX1_spanOf 34 = .ok (.iload 5, 2) := by decide +kernel
theorem dX1_spanOf_36 : decode cX1_spanOf 36 = .ok (.iload_n 3, 1) := by decide +kernel
theorem dX1_spanOf_37 : decode cX1_spanOf 37 = .ok (.if_icmp .ge 18, 3) := by decide +kernel
theorem dX1_spanOf_40 : decode cX1_spanOf 40 = .ok (.iload 4, 2) := by decide +kernel
theorem dX1_spanOf_42 : decode cX1_spanOf 42 = .ok (.aload_n 2, 1) := by decide +kernel
theorem dX1_spanOf_43 : decode cX1_spanOf 43 = .ok (.iload 5, 2) := by decide +kernel
theorem dX1_spanOf_45 : decode cX1_spanOf 45 = .ok (.iaload, 1) := by decide +kernel
theorem dX1_spanOf_46 : decode cX1_spanOf 46 = .ok (.iadd, 1) := by decide +kernel
theorem dX1_spanOf_47 : decode cX1_spanOf 47 = .ok (.istore 4, 2) := by decide +kernel
theorem dX1_spanOf_49 : decode cX1_spanOf 49 = .ok (.iinc 5 1, 3) := by decide +kernel
theorem dX1_spanOf_52 : decode cX1_spanOf 52 = .ok (.goto (-18), 3) := by decide +kernel
theorem dX1_spanOf_55 : decode cX1_spanOf 55 = .ok (.iload 4, 2) := by decide +kernel
theorem dX1_spanOf_57 : decode cX1_spanOf 57 = .ok (.ireturn, 1) := by decide +kernel
theorem dJ7_fill_53178_0 : decode cJ7_fill_53178 0 = .ok (.iconst 0, 1) := by decide +kernel
theorem dJ7_fill_53178_1 : decode cJ7_fill_53178 1 = .ok (.istore_n 2, 1) := by decide +kernel
theorem dJ7_fill_53178_2 : decode cJ7_fill_53178 2 = .ok (.aload_n 0, 1) := by decide +kernel
theorem dJ7_fill_53178_3 : decode cJ7_fill_53178 3 = .ok (.arraylength, 1) := by decide +kernel
theorem dJ7_fill_53178_4 : decode cJ7_fill_53178 4 = .ok (.istore_n 3, 1) := by decide +kernel
theorem dJ7_fill_53178_5 : decode cJ7_fill_53178 5 = .ok (.iload_n 2, 1) := by decide +kernel
theorem dJ7_fill_53178_6 : decode cJ7_fill_53178 6 = .ok (.iload_n 3, 1) := by decide +kernel
theorem dJ7_fill_53178_7 : decode cJ7_fill_53178 7 = .ok (.if_icmp .ge 13, 3) := by decide +kernel
theorem dJ7_fill_53178_10 : decode cJ7_fill_53178 10 = .ok (.aload_n 0, 1) := by decide +kernel
theorem dJ7_fill_53178_11 : decode cJ7_fill_53178 11 = .ok (.iload_n 2, 1) := by decide +kernel
theorem dJ7_fill_53178_12 : decode cJ7_fill_53178 12 = .ok (.iload_n 1, 1) := by decide +kernel
theorem dJ7_fill_53178_13 : decode cJ7_fill_53178 13 = .ok (.iastore, 1) := by decide +kernel
theorem dJ7_fill_53178_14 : decode cJ7_fill_53178 14 = .ok (.iinc 2 1, 3) := by decide +kernel
theorem dJ7_fill_53178_17 : decode cJ7_fill_53178 17 = .ok (.goto (-12), 3) := by decide +kernel
theorem dJ7_fill_53178_20 : decode cJ7_fill_53178 20 = .ok (.return_, 1) := by decide +kernel
end
section
theorem dX2_init_0 : decode cX2_init 0 = .ok (.aload_n 0, 1) := by decide +kernel
theorem dX2_init_1 : decode cX2_init 1 = .ok (.invokespecial 3, 3) := by decide +kernel
theorem dX2_init_4 : decode cX2_init 4 = .ok (.aload_n 0, 1) := by decide +kernel
theorem dX2_init_5 : decode cX2_init 5 = .ok (.bipush 16, 2) := by decide +kernel
theorem dX2_init_7 : decode cX2_init 7 = .ok (.newarray .int, 2) := by decide +kernel
theorem dX2_init_9 : decode cX2_init 9 = .ok (.putfield 9, 3) := by decide +kernel
theorem dX2_init_12 : decode cX2_init 12 = .ok (.aload_n 0, 1) := by decide +kernel
theorem dX2_init_13 : decode cX2_init 13 = .ok (.bipush 16, 2) := by decide +kernel
theorem dX2_init_15 : decode cX2_init 15 = .ok (.newarray .int, 2) := by decide +kernel
theorem dX2_init_17 : decode cX2_init 17 = .ok (.putfield 15, 3) := by decide +kernel
theorem dX2_init_20 : decode cX2_init 20 = .ok (.aload_n 0, 1) := by decide +kernel
theorem dX2_init_21 : decode cX2_init 21 = .ok (.bipush 40, 2) := by decide +kernel
theorem dX2_init_23 : decode cX2_init 23 = .ok (.anewarray 18, 3) := by decide +kernel
theorem dX2_init_26 : decode cX2_init 26 = .ok (.putfield 20, 3) := by decide +kernel
theorem dX2_init_29 : decode cX2_init 29 = .ok (.aload_n 0, 1) := by decide +kernel
theorem dX2_init_30 : decode cX2_init 30 = .ok (.iconst 0, 1) := by decide +kernel
theorem dX2_init_31 : decode cX2_init 31 = .ok (.putfield 24, 3) := by decide +kernel
theorem dX2_init_34 : decode cX2_init 34 = .ok (.aload_n 0, 1) := by decide +kernel
theorem dX2_init_35 : decode cX2_init 35 = .ok (.aload_n 1, 1) := by decide +kernel
theorem dX2_init_36 : decode cX2_init 36 = .ok (.putfield 28, 3) := by decide +kernel
theorem dX2_init_39 : decode cX2_init 39 = .ok (.return_, 1) := by decide +kernel
theorem dX2_sortCells_0 : decode cX2_sortCells 0 = .ok (.aload_n 0, 1) := by decide +kernel
theorem dX2_sortCells_1 : decode cX2_sortCells 1 = .ok (.iconst 0, 1) := by decide +kernel
theorem dX2_sortCells_2 : decode cX2_sortCells 2 = .ok (.putfield 24, 3) := by decide +kernel
theorem dX2_sortCells_5 : decode cX2_sortCells 5 = .ok (.iconst 1, 1) := by decide +kernel
theorem dX2_sortCells_6 : decode cX2_sortCells 6 = .ok (.istore_n 1, 1) := by decide +kernel
theorem dX2_sortCells_7 : decode cX2_sortCells 7 = .ok (.iload_n 1, 1) := by decide +kernel
theorem dX2_sortCells_8 : decode cX2_sortCells 8 = .ok (.aload_n 0, 1) := by decide +kernel
theorem dX2_sortCells_9 : decode cX2_sortCells 9 = .ok (.getfield 28, 3) := by decide +kernel
theorem dX2_sortCells_12 : decode cX2_sortCells 12 = .ok (.getfield 32, 3) := by decide +kernel
theorem dX2_sortCells_15 : decode cX2_sortCells 15 = .ok (.if_icmp .gt 88, 3) := by decide +kernel
theorem dX2_sortCells_18 : decode cX2_sortCells 18 = .ok (.iconst 0, 1) := by decide +kernel
theorem dX2_sortCells_19 : decode cX2_sortCells 19 = .ok (.istore_n 2, 1) := by decide +kernel
theorem dX2_sortCells_20 : decode cX2_sortCells 20 = .ok (.iload_n 2, 1) := by decide +kernel
theorem dX2_sortCells_21 : decode cX2_sortCells 21 = .ok (.aload_n 0, 1) := by decide +kernel
theorem dX2_sortCells_22 : decode cX2_sortCells 22 = .ok (.getfield 28, 3) := by decide +kernel
theorem dX2_sortCells_25 : decode cX2_sortCells 25 = .ok (.getfield 37, 3) := by decide +kernel
theorem dX2_sortCells_28 : decode cX2_sortCells 28 = .ok (.if_icmp .ge 69, 3) := by decide +kernel
theorem dX2_sortCells_31 : decode cX2_sortCells 31 = .ok (.aload_n 0, 1) := by decide +kernel
theorem dX2_sortCells_32 : decode cX2_sortCells 32 = .ok (.getfield 28, 3) := by decide +kernel
theorem dX2_sortCells_35 : decode cX2_sortCells 35 = .ok (.iload_n 2, 1) := by decide +kernel
theorem dX2_sortCells_36 : decode cX2_sortCells 36 = .ok (.invokevirtual 40, 3) := by decide +kernel
theorem dX2_sortCells_39 : decode cX2_sortCells 39 = .ok (.astore_n 3, 1) := by decide +kernel
theorem dX2_sortCells_40 : decode cX2_sortCells 40 = .ok (.aload_n 3, 1) := by decide +kernel
theorem dX2_sortCells_41 : decode cX2_sortCells 41 = .ok (.ifnull 50, 3) := by decide +kernel
theorem dX2_sortCells_44 : decode cX2_sortCells 44 = .ok (.aload_n 3, 1) := by decide +kernel
theorem dX2_sortCells_45 : decode cX2_sortCells 45 = .ok (.getfield 44, 3) := by decide +kernel
theorem dX2_sortCells_48 : decode cX2_sortCells 48 = .ok (.iload_n 1, 1) := by decide +kernel
theorem dX2_sortCells_49 : decode cX2_sortCells 49 = .ok (.if_icmp .ne 42, 3) := by decide +kernel
theorem dX2_sortCells_52 : decode cX2_sortCells 52 = .ok (.aload_n 3, 1) := by decide +kernel
theorem dX2_sortCells_53 : decode cX2_sortCells 53 = .ok (.getfield 45, 3) := by decide +kernel
theorem dX2_sortCells_56 : decode cX2_sortCells 56 = .ok (.ifCond .le 35, 3) := by decide +kernel
theorem dX2_sortCells_59 : decode cX2_sortCells 59 = .ok (.aload_n 0, 1) := by decide +kernel
theorem dX2_sortCells_60 : decode cX2_sortCells 60 = .ok (.getfield 24, 3) := by decide +kernel
theorem dX2_sortCells_63 : decode cX2_sortCells 63 = .ok (.aload_n 0, 1) := by decide +kernel
theorem dX2_sortCells_64 : decode cX2_sortCells 64 = .ok (.getfield 20, 3) := by decide +kernel
theorem dX2_sortCells_67 : decode cX2_sortCells 67 = .ok (.arraylength, 1) := by decide +kernel
theorem dX2_sortCells_68 : decode cX2_sortCells 68 = .ok (.if_icmp .ge 23, 3) := by decide +kernel
theorem dX2_sortCells_71 : decode cX2_sortCells 71 = .ok (.aload_n 0, 1) := by decide +kernel
theorem dX2_sortCells_72 : decode cX2_sortCells 72 = .ok (.getfield 20, 3) := by decide +kernel
theorem dX2_sortCells_75 : decode cX2_sortCells 75 = .ok (.aload_n 0, 1) := by decide +kernel
theorem dX2_sortCells_76 : decode cX2_sortCells 76 = .ok (.getfield 24, 3) := by decide +kernel
theorem dX2_sortCells_79 : decode cX2_sortCells 79 = .ok (.aload_n 3, 1) := by decide +kernel
theorem dX2_sortCells_80 : decode cX2_sortCells 80 = .ok (.aastore, 1) := by decide +kernel
theorem dX2_sortCells_81 : decode cX2_sortCells 81 = .ok (.aload_n 0, 1) := by decide +kernel
theorem dX2_sortCells_82 : decode cX2_sortCells 82 = .ok (.dup, 1) := by decide +kernel
theorem dX2_sortCells_83 : decode cX2_sortCells 83 = .ok (.getfield 24, 3) := by decide +kernel
theorem dX2_sortCells_86 : decode cX2_sortCells 86 = .ok (.iconst 1, 1) := by decide +kernel
theorem dX2_sortCells_87 : decode cX2_sortCells 87 = .ok (.iadd, 1) := by decide +kernel
theorem dX2_sortCells_88 : decode cX2_sortCells 88 = .ok (.putfield 24, 3) := by decide +kernel
theorem dX2_sortCells_91 : decode cX2_sortCells 91 = .ok (.iinc 2 1, 3) := by decide +kernel
theorem dX2_sortCells_94 : decode cX2_sortCells 94 = .ok (.goto (-74), 3) := by decide +kernel
theorem dX2_sortCells_97 : decode cX2_sortCells 97 = .ok (.iinc 1 1, 3) := by decide +kernel
theorem dX2_sortCells_100 : decode cX2_sortCells 100 = .ok (.goto (-93), 3) := by decide +kernel
theorem dX2_sortCells_103 : decode cX2_sortCells 103 = .ok (.return_, 1) := by decide +kernel
theorem dX2_measure_0 : decode cX2_measure 0 = .ok (.aload_n 0, 1) := by decide +kernel
theorem dX2_measure_1 : decode cX2_measure 1 = .ok (.getfield 9, 3) := by decide +kernel
theorem dX2_measure_4 : decode cX2_measure 4 = .ok (.iconst 1, 1) := by decide +kernel
theorem dX2_measure_5 : decode cX2_measure 5 = .ok (.invokestatic 48, 3) := by decide +kernel
theorem dX2_measure_8 : decode cX2_measure 8 = .ok (.aload_n 0, 1) := by decide +kernel
theorem dX2_measure_9 : decode cX2_measure 9 = .ok (.getfield 15, 3) := by decide +kernel
theorem dX2_measure_12 : decode cX2_measure 12 = .ok (.iconst 0, 1) := by decide +kernel
theorem dX2_measure_13 : decode cX2_measure 13 = .ok (.invokestatic 48, 3) := by decide +kernel
theorem dX2_measure_16 : decode cX2_measure 16 = .ok (.iconst 1, 1) := by decide +kernel
theorem dX2_measure_17 : decode cX2_measure 17 = .ok (.istore_n 2, 1) := by decide +kernel
theorem dX2_measure_18 : decode cX2_measure 18 = .ok (.iconst 0, 1) := by decide +kernel
theorem dX2_measure_19 : decode cX2_measure 19 = .ok (.istore_n 3, 1) := by decide +kernel
theorem dX2_measure_20 : decode cX2_measure 20 = .ok (.iload_n 3, 1) := by decide +kernel
theorem dX2_measure_21 : decode cX2_measure 21 = .ok (.aload_n 0, 1) := by decide +kernel
theorem dX2_measure_22 : decode cX2_measure 22 = .ok (.getfield 24, 3) := by decide +kernel
theorem dX2_measure_25 : decode cX2_measure 25 = .ok (.if_icmp .ge 74, 3) := by decide +kernel
theorem dX2_measure_28 : decode cX2_measure 28 = .ok (.iload_n 3, 1) := by decide +kernel
theorem dX2_measure_29 : decode cX2_measure 29 = .ok (.aload_n 0, 1) := by decide +kernel
theorem dX2_measure_30 : decode cX2_measure 30 = .ok (.getfield 20, 3) := by decide +kernel
theorem dX2_measure_33 : decode cX2_measure 33 = .ok (.arraylength, 1) := by decide +kernel
theorem dX2_measure_34 : decode cX2_measure 34 = .ok (.if_icmp .ge 65, 3) := by decide +kernel
theorem dX2_measure_37 : decode cX2_measure 37 = .ok (.aload_n 0, 1) := by decide +kernel
theorem dX2_measure_38 : decode cX2_measure 38 = .ok (.getfield 20, 3) := by decide +kernel
theorem dX2_measure_41 : decode cX2_measure 41 = .ok (.iload_n 3, 1) := by decide +kernel
theorem dX2_measure_42 : decode cX2_measure 42 = .ok (.aaload, 1) := by decide +kernel
theorem dX2_measure_43 : decode cX2_measure 43 = .ok (.astore 4, 2) := by decide +kernel
theorem dX2_measure_45 : decode cX2_measure 45 = .ok (.aload 4, 2) := by decide +kernel
theorem dX2_measure_47 : decode cX2_measure 47 = .ok (.ifnonnull 6, 3) := by decide +kernel
theorem dX2_measure_50 : decode cX2_measure 50 = .ok (.goto 43, 3) := by decide +kernel
theorem dX2_measure_53 : decode cX2_measure 53 = .ok (.aload 4, 2) := by decide +kernel
theorem dX2_measure_55 : decode cX2_measure 55 = .ok (.getfield 44, 3) := by decide +kernel
theorem dX2_measure_58 : decode cX2_measure 58 = .ok (.iload_n 2, 1) := by decide +kernel
theorem dX2_measure_59 : decode cX2_measure 59 = .ok (.if_icmp .eq 13, 3) := by decide +kernel
theorem dX2_measure_62 : decode cX2_measure 62 = .ok (.aload_n 0, 1) := by decide +kernel
theorem dX2_measure_63 : decode cX2_measure 63 = .ok (.invokevirtual 54, 3) := by decide +kernel
theorem dX2_measure_66 : decode cX2_measure 66 = .ok (.aload 4, 2) := by decide +kernel
theorem dX2_measure_68 : decode cX2_measure 68 = .ok (.getfield 44, 3) := by decide +kernel
theorem dX2_measure_71 : decode cX2_measure 71 = .ok (.istore_n 2, 1) := by decide +kernel
theorem dX2_measure_72 : decode cX2_measure 72 = .ok (.aload_n 0, 1) := by decide +kernel
theorem dX2_measure_73 : decode cX2_measure 73 = .ok (.aload 4, 2) := by decide +kernel
theorem dX2_measure_75 : decode cX2_measure 75 = .ok (.aload 4, 2) := by decide +kernel
theorem dX2_measure_77 : decode cX2_measure 77 = .ok (.aload_n 0, 1) := by decide +kernel
theorem dX2_measure_78 : decode cX2_measure 78 = .ok (.getfield 28, 3) := by decide +kernel
theorem dX2_measure_81 : decode cX2_measure 81 = .ok (.aload 4, 2) := by decide +kernel
theorem dX2_measure_83 : decode cX2_measure 83 = .ok (.aload_n 1, 1) := by decide +kernel
theorem dX2_measure_84 : decode cX2_measure 84 = .ok (.invokevirtual 57, 3) := by decide +kernel
theorem dX2_measure_87 : decode cX2_measure 87 = .ok (.invokevirtual 61, 3) := by decide +kernel
theorem dX2_measure_90 : decode cX2_measure 90 = .ok (.invokevirtual 65, 3) := by decide +kernel
theorem dX2_measure_93 : decode cX2_measure 93 = .ok (.iinc 3 1, 3) := by decide +kernel
theorem dX2_measure_96 : decode cX2_measure 96 = .ok (.goto (-76), 3) := by decide +kernel
theorem dX2_measure_99 : decode cX2_measure 99 = .ok (.aload_n 0, 1) := by decide +kernel
theorem dX2_measure_100 : decode cX2_measure 100 = .ok (.invokevirtual 54, 3) := by decide +kernel
theorem dX2_measure_103 : decode cX2_measure 103 = .ok (.aload_n 0, 1) := by decide +kernel
theorem dX2_measure_104 : decode cX2_measure 104 = .ok (.invokevirtual 69, 3) := by decide +kernel
theorem dX2_measure_107 : decode cX2_measure 107 = .ok (.ireturn, 1) := by decide +kernel
theorem dX2_noteLack_0 : decode cX2_noteLack 0 = .ok (.aload_n 1, 1) := by decide +kernel
theorem dX2_noteLack_1 : decode cX2_noteLack 1 = .ok (.getfield 73, 3) := by decide +kernel
theorem dX2_noteLack_4 : decode cX2_noteLack 4 = .ok (.aload_n 1, 1) := by decide +kernel
theorem dX2_noteLack_5 : decode cX2_noteLack 5 = .ok (.getfield 44, 3) := by decide +kernel
theorem dX2_noteLack_8 : decode cX2_noteLack 8 = .ok (.iadd, 1) := by decide +kernel
theorem dX2_noteLack_9 : decode cX2_noteLack 9 = .ok (.aload_n 0, 1) := by decide +kernel
theorem dX2_noteLack_10 : decode cX2_noteLack 10 = .ok (.getfield 9, 3) := by decide +kernel
theorem dX2_noteLack_13 : decode cX2_noteLack 13 = .ok (.arraylength, 1) := by decide +kernel
theorem dX2_noteLack_14 : decode cX2_noteLack 14 = .ok (.invokestatic 76, 3) := by decide +kernel
theorem dX2_noteLack_17 : decode cX2_noteLack 17 = .ok (.istore_n 3, 1) := by decide +kernel
theorem dX2_noteLack_18 : decode cX2_noteLack 18 = .ok (.iload_n 2, 1) := by decide +kernel
theorem dX2_noteLack_19 : decode cX2_noteLack 19 = .ok (.istore 4, 2) := by decide +kernel
theorem dX2_noteLack_21 : decode cX2_noteLack 21 = .ok (.aload_n 1, 1) := by decide +kernel
theorem dX2_noteLack_22 : decode cX2_noteLack 22 = .ok (.getfield 73, 3) := by decide +kernel
theorem dX2_noteLack_25 : decode cX2_noteLack 25 = .ok (.istore 5, 2) := by decide +kernel
theorem dX2_noteLack_27 : decode cX2_noteLack 27 = .ok (.iload 5, 2) := by decide +kernel
theorem dX2_noteLack_29 : decode cX2_noteLack 29 = .ok (.iload_n 3, 1) := by decide +kernel
theorem dX2_noteLack_30 : decode cX2_noteLack 30 = .ok (.if_icmp .ge 21, 3) := by decide +kernel
theorem dX2_noteLack_33 : decode cX2_noteLack 33 = .ok (.iload 4, 2) := by decide +kernel
theorem dX2_noteLack_35 : decode cX2_noteLack 35 = .ok (.aload_n 0, 1) := by decide +kernel
theorem dX2_noteLack_36 : decode cX2_noteLack 36 = .ok (.getfield 9, 3) := by decide +kernel
theorem dX2_noteLack_39 : decode cX2_noteLack 39 = .ok (.iload 5, 2) := by decide +kernel
theorem dX2_noteLack_41 : decode cX2_noteLack 41 = .ok (.iaload, 1) := by decide +kernel
theorem dX2_noteLack_42 : decode cX2_noteLack 42 = .ok (.isub, 1) := by decide +kernel
theorem dX2_noteLack_43 : decode cX2_noteLack 43 = .ok (.istore 4, 2) := by decide +kernel
theorem dX2_noteLack_45 : decode cX2_noteLack 45 = .ok (.iinc 5 1, 3) := by decide +kernel
theorem dX2_noteLack_48 : decode cX2_noteLack 48 = .ok (.goto (-21), 3) := by decide +kernel
theorem dX2_noteLack_51 : decode cX2_noteLack 51 = .ok (.iload_n 3, 1) := by decide +kernel
theorem dX2_noteLack_52 : decode cX2_noteLack 52 = .ok (.ifCond .le 24, 3) := by decide +kernel
theorem dX2_noteLack_55 : decode cX2_noteLack 55 = .ok (.aload_n 0, 1) := by decide +kernel
theorem dX2_noteLack_56 : decode cX2_noteLack 56 = .ok (.getfield 15, 3) := by decide +kernel
theorem dX2_noteLack_59 : decode cX2_noteLack 59 = .ok (.iload_n 3, 1) := by decide +kernel
theorem dX2_noteLack_60 : decode cX2_noteLack 60 = .ok (.iconst 1, 1) := by decide +kernel
theorem dX2_noteLack_61 : decode cX2_noteLack 61 = .ok (.isub, 1) := by decide +kernel
theorem dX2_noteLack_62 : decode cX2_noteLack 62 = .ok (.aload_n 0, 1) := by decide +kernel
theorem dX2_noteLack_63 : decode cX2_noteLack 63 = .ok (.getfield 15, 3) := by decide +kernel
theorem dX2_noteLack_66 : decode cX2_noteLack 66 = .ok (.iload_n 3, 1) := by decide +kernel
theorem dX2_noteLack_67 : decode cX2_noteLack 67 = .ok (.iconst 1, 1) := by decide +kernel
theorem dX2_noteLack_68 : decode cX2_noteLack 68 = .ok (.isub, 1) := by decide +kernel
theorem dX2_noteLack_69 : decode cX2_noteLack 69 = .ok (.iaload, 1) := by decide +kernel
theorem dX2_noteLack_70 : decode cX2_noteLack 70 = .ok (.iload 4, 2) := by decide +kernel
theorem dX2_noteLack_72 : decode cX2_noteLack 72 = .ok (.invokestatic 82, 3) := by decide +kernel
theorem dX2_noteLack_75 : decode cX2_noteLack 75 = .ok (.iastore, 1) := by decide +kernel
theorem dX2_noteLack_76 : decode cX2_noteLack 76 = .ok (.return_, 1) := by decide +kernel
theorem dX2_grow_0 : decode cX2_grow 0 = .ok (.iconst 0, 1) := by decide +kernel
theorem dX2_grow_1 : decode cX2_grow 1 = .ok (.istore_n 1, 1) := by decide +kernel
theorem dX2_grow_2 : decode cX2_grow 2 = .ok (.iload_n 1, 1) := by decide +kernel
theorem dX2_grow_3 : decode cX2_grow 3 = .ok (.aload_n 0, 1) := by decide +kernel
theorem dX2_grow_4 : decode cX2_grow 4 = .ok (.getfield 9, 3) := by decide +kernel
theorem dX2_grow_7 : decode cX2_grow 7 = .ok (.arraylength, 1) := by decide +kernel
theorem dX2_grow_8 : decode cX2_grow 8 = .ok (.if_icmp .ge 31, 3) := by decide +kernel
theorem dX2_grow_11 : decode cX2_grow 11 = .ok (.aload_n 0, 1) := by decide +kernel
theorem dX2_grow_12 : decode cX2_grow 12 = .ok (.getfield 9, 3) := by decide +kernel
theorem dX2_grow_15 : decode cX2_grow 15 = .ok (.iload_n 1, 1) := by decide +kernel
theorem dX2_grow_16 : decode cX2_grow 16 = .ok (.dup2, 1) := by decide +kernel
theorem dX2_grow_17 : decode cX2_grow 17 = .ok (.iaload, 1) := by decide +kernel
theorem dX2_grow_18 : decode cX2_grow 18 = .ok (.aload_n 0, 1) := by decide +kernel
theorem dX2_grow_19 : decode cX2_grow 19 = .ok (.getfield 15, 3) := by decide +kernel
theorem dX2_grow_22 : decode cX2_grow 22 = .ok (.iload_n 1, 1) := by decide +kernel
theorem dX2_grow_23 : decode cX2_grow 23 = .ok (.iaload, 1) := by decide +kernel
theorem dX2_grow_24 : decode cX2_grow 24 = .ok (.iadd, 1) := by decide +kernel
theorem dX2_grow_25 : decode cX2_grow 25 = .ok (.iastore, 1) := by decide +kernel
theorem dX2_grow_26 : decode cX2_grow 26 = .ok (.aload_n 0, 1) := by decide +kernel
theorem dX2_grow_27 : decode cX2_grow 27 = .ok (.getfield 15, 3) := by decide +kernel
theorem dX2_grow_30 : decode cX2_grow 30 = .ok (.iload_n 1, 1) := by decide +kernel
theorem dX2_grow_31 : decode cX2_grow 31 = .ok (.iconst 0, 1) := by decide +kernel
theorem dX2_grow_32 : decode cX2_grow 32 = .ok (.iastore, 1) := by decide +kernel
theorem dX2_grow_33 : decode cX2_grow 33 = .ok (.iinc 1 1, 3) := by decide +kernel
theorem dX2_grow_36 : decode cX2_grow 36 = .ok (.goto (-34), 3) := by decide +kernel
theorem dX2_grow_39 : decode cX2_grow 39 = .ok (.return_, 1) := by decide +kernel
theorem dX2_sum_0 : decode cX2_sum 0 = .ok (.iconst 0, 1) := by decide +kernel
theorem dX2_sum_1 : decode cX2_sum 1 = .ok (.istore_n 1, 1) := by decide +kernel
theorem dX2_sum_2 : decode cX2_sum 2 = .ok (.iconst 0, 1) := by decide +kernel
theorem dX2_sum_3 : decode cX2_sum 3 = .ok (.istore_n 2, 1) := by decide +kernel
theorem dX2_sum_4 : decode cX2_sum 4 = .ok (.iload_n 2, 1) := by decide +kernel
theorem dX2_sum_5 : decode cX2_sum 5 = .ok (.aload_n 0, 1) := by decide +kernel
theorem dX2_sum_6 : decode cX2_sum 6 = .ok (.getfield 28, 3) := by decide +kernel
theorem dX2_sum_9 : decode cX2_sum 9 = .ok (.getfield 32, 3) := by decide +kernel
theorem dX2_sum_12 : decode cX2_sum 12 = .ok (.if_icmp .ge 27, 3) := by decide +kernel
theorem dX2_sum_15 : decode cX2_sum 15 = .ok (.iload_n 2, 1) := by decide +kernel
theorem dX2_sum_16 : decode cX2_sum 16 = .ok (.aload_n 0, 1) := by decide +kernel
theorem dX2_sum_17 : decode cX2_sum 17 = .ok (.getfield 9, 3) := by decide +kernel
theorem dX2_sum_20 : decode cX2_sum 20 = .ok (.arraylength, 1) := by decide +kernel
theorem dX2_sum_21 : decode cX2_sum 21 = .ok (.if_icmp .ge 18, 3) := by decide +kernel
theorem dX2_sum_24 : decode cX2_sum 24 = .ok (.iload_n 1, 1) := by decide +kernel
theorem dX2_sum_25 : decode cX2_sum 25 = .ok (.aload_n 0, 1) := by decide +kernel
theorem dX2_sum_26 : decode cX2_sum 26 = .ok (.getfield 9, 3) := by decide +kernel
theorem dX2_sum_29 : decode cX2_sum 29 = .ok (.iload_n 2, 1) := by decide +kernel
theorem dX2_sum_30 : decode cX2_sum 30 = .ok (.iaload, 1) := by decide +kernel
theorem dX2_sum_31 : decode cX2_sum 31 = .ok (.iadd, 1) := by decide +kernel
theorem dX2_sum_32 : decode cX2_sum 32 = .ok (.istore_n 1, 1) := by decide +kernel
theorem dX2_sum_33 : decode cX2_sum 33 = .ok (.iinc 2 1, 3) := by decide +kernel
theorem dX2_sum_36 : decode cX2_sum 36 = .ok (.goto (-32), 3) := by decide +kernel
theorem dX2_sum_39 : decode cX2_sum 39 = .ok (.iload_n 1, 1) := by decide +kernel
theorem dX2_sum_40 : decode cX2_sum 40 = .ok (.ireturn, 1) := by decide +kernel
theorem dX3_init_0 : decode cX3_init 0 = .ok (.aload_n 0, 1) := by decide +kernel
theorem dX3_init_1 : decode cX3_init 1 = .ok (.invokespecial 3, 3) := by decide +kernel
theorem dX3_init_4 : decode cX3_init 4 = .ok (.aload_n 0, 1) := by decide +kernel
theorem dX3_init_5 : decode cX3_init 5 = .ok (.iconst 0, 1) := by decide +kernel
theorem dX3_init_6 : decode cX3_init 6 = .ok (.putfield 9, 3) := by decide +kernel
theorem dX3_init_9 : decode cX3_init 9 = .ok (.aload_n 0, 1) := by decide +kernel
theorem dX3_init_10 : decode cX3_init 10 = .ok (.bipush 16, 2) := by decide +kernel
theorem dX3_init_12 : decode cX3_init 12 = .ok (.iconst 4, 1) := by decide +kernel
theorem dX3_init_13 : decode cX3_init 13 = .ok (.multianewarray 15 2, 4) := by decide +kernel
theorem dX3_init_17 : decode cX3_init 17 = .ok (.putfield 17, 3) := by decide +kernel
theorem dX3_init_20 : decode cX3_init 20 = .ok (.aload_n 0, 1) := by decide +kernel
theorem dX3_init_21 : decode cX3_init 21 = .ok (.bipush 16, 2) := by decide +kernel
theorem dX3_init_23 : decode cX3_init 23 = .ok (.newarray .int, 2) := by decide +kernel
theorem dX3_init_25 : decode cX3_init 25 = .ok (.putfield 20, 3) := by decide +kernel
theorem dX3_init_28 : decode cX3_init 28 = .ok (.aload_n 0, 1) := by decide +kernel
theorem dX3_init_29 : decode cX3_init 29 = .ok (.bipush 16, 2) := by decide +kernel
theorem dX3_init_31 : decode cX3_init 31 = .ok (.newarray .int, 2) := by decide +kernel
theorem dX3_init_33 : decode cX3_init 33 = .ok (.putfield 24, 3) := by decide +kernel
theorem dX3_init_36 : decode cX3_init 36 = .ok (.aload_n 0, 1) := by decide +kernel
theorem dX3_init_37 : decode cX3_init 37 = .ok (.bipush 17, 2) := by decide +kernel
theorem dX3_init_39 : decode cX3_init 39 = .ok (.newarray .int, 2) := by decide +kernel
theorem dX3_init_41 : decode cX3_init 41 = .ok (.putfield 27, 3) := by decide +kernel
theorem dX3_init_44 : decode cX3_init 44 = .ok (.aload_n 0, 1) := by decide +kernel
theorem dX3_init_45 : decode cX3_init 45 = .ok (.bipush 17, 2) := by decide +kernel
theorem dX3_init_47 : decode cX3_init 47 = .ok (.newarray .int, 2) := by decide +kernel
theorem dX3_init_49 : decode cX3_init 49 = .ok (.putfield 30, 3) := by decide +kernel
theorem dX3_init_52 : decode cX3_init 52 = .ok (.aload_n 0, 1) := by decide +kernel
theorem dX3_init_53 : decode cX3_init 53 = .ok (.bipush 17, 2) := by decide +kernel
theorem dX3_init_55 : decode cX3_init 55 = .ok (.newarray .int, 2) := by decide +kernel
theorem dX3_init_57 : decode cX3_init 57 = .ok (.putfield 33, 3) := by decide +kernel
theorem dX3_init_60 : decode cX3_init 60 = .ok (.aload_n 0, 1) := by decide +kernel
theorem dX3_init_61 : decode cX3_init 61 = .ok (.aload_n 1, 1) := by decide +kernel
theorem dX3_init_62 : decode cX3_init 62 = .ok (.putfield 36, 3) := by decide +kernel
theorem dX3_init_65 : decode cX3_init 65 = .ok (.aload_n 0, 1) := by decide +kernel
theorem dX3_init_66 : decode cX3_init 66 = .ok (.aload_n 2, 1) := by decide +kernel
theorem dX3_init_67 : decode cX3_init 67 = .ok (.putfield 40, 3) := by decide +kernel
theorem dX3_init_70 : decode cX3_init 70 = .ok (.return_, 1) := by decide +kernel
theorem dX3_forget_0 : decode cX3_forget 0 = .ok (.aload_n 0, 1) := by decide +kernel
theorem dX3_forget_1 : decode cX3_forget 1 = .ok (.iconst 0, 1) := by decide +kernel
theorem dX3_forget_2 : decode cX3_forget 2 = .ok (.putfield 9, 3) := by decide +kernel
theorem dX3_forget_5 : decode cX3_forget 5 = .ok (.return_, 1) := by decide +kernel
theorem dX3_make_0 : decode cX3_make 0 = .ok (.aload_n 0, 1) := by decide +kernel
theorem dX3_make_1 : decode cX3_make 1 = .ok (.iconst 0, 1) := by decide +kernel
theorem dX3_make_2 : decode cX3_make 2 = .ok (.putfield 9, 3) := by decide +kernel
theorem dX3_make_5 : decode cX3_make 5 = .ok (.aload_n 0, 1) := by decide +kernel
theorem dX3_make_6 : decode cX3_make 6 = .ok (.aload_n 0, 1) := by decide +kernel
theorem dX3_make_7 : decode cX3_make 7 = .ok (.getfield 36, 3) := by decide +kernel
theorem dX3_make_10 : decode cX3_make 10 = .ok (.invokevirtual 44, 3) := by decide +kernel
theorem dX3_make_13 : decode cX3_make 13 = .ok (.putfield 50, 3) := by decide +kernel
theorem dX3_make_16 : decode cX3_make 16 = .ok (.aload_n 0, 1) := by decide +kernel
theorem dX3_make_17 : decode cX3_make 17 = .ok (.aload_n 0, 1) := by decide +kernel
theorem dX3_make_18 : decode cX3_make 18 = .ok (.getfield 36, 3) := by decide +kernel
theorem dX3_make_21 : decode cX3_make 21 = .ok (.getfield 53, 3) := by decide +kernel
theorem dX3_make_24 : decode cX3_make 24 = .ok (.bipush 16, 2) := by decide +kernel
theorem dX3_make_26 : decode cX3_make 26 = .ok (.invokestatic 56, 3) := by decide +kernel
theorem dX3_make_29 : decode cX3_make 29 = .ok (.putfield 62, 3) := by decide +kernel
theorem dX3_make_32 : decode cX3_make 32 = .ok (.aload_n 0, 1) := by decide +kernel
theorem dX3_make_33 : decode cX3_make 33 = .ok (.getfield 50, 3) := by decide +kernel
theorem dX3_make_36 : decode cX3_make 36 = .ok (.aload_n 0, 1) := by decide +kernel
theorem dX3_make_37 : decode cX3_make 37 = .ok (.getfield 62, 3) := by decide +kernel
theorem dX3_make_40 : decode cX3_make 40 = .ok (.if_icmp .lt 5, 3) := by decide +kernel
theorem dX3_make_43 : decode cX3_make 43 = .ok (.iconst 0, 1) := by decide +kernel
theorem dX3_make_44 : decode cX3_make 44 = .ok (.ireturn, 1) := by decide +kernel
theorem dX3_make_45 : decode cX3_make 45 = .ok (.aload_n 0, 1) := by decide +kernel
theorem dX3_make_46 : decode cX3_make 46 = .ok (.iload_n 1, 1) := by decide +kernel
theorem dX3_make_47 : decode cX3_make 47 = .ok (.putfield 65, 3) := by decide +kernel
theorem dX3_make_50 : decode cX3_make 50 = .ok (.iconst 0, 1) := by decide +kernel
theorem dX3_make_51 : decode cX3_make 51 = .ok (.istore_n 2, 1) := by decide +kernel
theorem dX3_make_52 : decode cX3_make 52 = .ok (.iload_n 2, 1) := by decide +kernel
theorem dX3_make_53 : decode cX3_make 53 = .ok (.aload_n 0, 1) := by decide +kernel
theorem dX3_make_54 : decode cX3_make 54 = .ok (.getfield 50, 3) := by decide +kernel
theorem dX3_make_57 : decode cX3_make 57 = .ok (.if_icmp .ge 27, 3) := by decide +kernel
theorem dX3_make_60 : decode cX3_make 60 = .ok (.aload_n 0, 1) := by decide +kernel
theorem dX3_make_61 : decode cX3_make 61 = .ok (.dup, 1) := by decide +kernel
theorem dX3_make_62 : decode cX3_make 62 = .ok (.getfield 65, 3) := by decide +kernel
theorem dX3_make_65 : decode cX3_make 65 = .ok (.aload_n 0, 1) := by decide +kernel
theorem dX3_make_66 : decode cX3_make 66 = .ok (.getfield 40, 3) := by decide +kernel
theorem dX3_make_69 : decode cX3_make 69 = .ok (.getfield 68, 3) := by decide +kernel
theorem dX3_make_72 : decode cX3_make 72 = .ok (.iload_n 2, 1) := by decide +kernel
theorem dX3_make_73 : decode cX3_make 73 = .ok (.iaload, 1) := by decide +kernel
theorem dX3_make_74 : decode cX3_make 74 = .ok (.isub, 1) := by decide +kernel
theorem dX3_make_75 : decode cX3_make 75 = .ok (.putfield 65, 3) := by decide +kernel
theorem dX3_make_78 : decode cX3_make 78 = .ok (.iinc 2 1, 3) := by decide +kernel
theorem dX3_make_81 : decode cX3_make 81 = .ok (.goto (-29), 3) := by decide +kernel
theorem dX3_make_84 : decode cX3_make 84 = .ok (.aload_n 0, 1) := by decide +kernel
theorem dX3_make_85 : decode cX3_make 85 = .ok (.invokevirtual 73, 3) := by decide +kernel
theorem dX3_make_88 : decode cX3_make 88 = .ok (.aload_n 0, 1) := by decide +kernel
theorem dX3_make_89 : decode cX3_make 89 = .ok (.getfield 27, 3) := by decide +kernel
theorem dX3_make_92 : decode cX3_make 92 = .ok (.iconst 0, 1) := by decide +kernel
theorem dX3_make_93 : decode cX3_make 93 = .ok (.invokestatic 76, 3) := by decide +kernel
theorem dX3_make_96 : decode cX3_make 96 = .ok (.aload_n 0, 1) := by decide +kernel
theorem dX3_make_97 : decode cX3_make 97 = .ok (.getfield 30, 3) := by decide +kernel
theorem dX3_make_100 : decode cX3_make 100 = .ok (.iconst 0, 1) := by decide +kernel
theorem dX3_make_101 : decode cX3_make 101 = .ok (.invokestatic 76, 3) := by decide +kernel
theorem dX3_make_104 : decode cX3_make 104 = .ok (.aload_n 0, 1) := by decide +kernel
theorem dX3_make_105 : decode cX3_make 105 = .ok (.getfield 62, 3) := by decide +kernel
theorem dX3_make_108 : decode cX3_make 108 = .ok (.iconst 1, 1) := by decide +kernel
theorem dX3_make_109 : decode cX3_make 109 = .ok (.isub, 1) := by decide +kernel
theorem dX3_make_110 : decode cX3_make 110 = .ok (.istore_n 2, 1) := by decide +kernel
theorem dX3_make_111 : decode cX3_make 111 = .ok (.iload_n 2, 1) := by decide +kernel
theorem dX3_make_112 : decode cX3_make 112 = .ok (.aload_n 0, 1) := by decide +kernel
theorem dX3_make_113 : decode cX3_make 113 = .ok (.getfield 50, 3) := by decide +kernel
theorem dX3_make_116 : decode cX3_make 116 = .ok (.if_icmp .lt 37, 3) := by decide +kernel
theorem dX3_make_119 : decode cX3_make 119 = .ok (.iload_n 2, 1) := by decide +kernel
theorem dX3_make_120 : decode cX3_make 120 = .ok (.aload_n 0, 1) := by decide +kernel
theorem dX3_make_121 : decode cX3_make 121 = .ok (.getfield 50, 3) := by decide +kernel
theorem dX3_make_124 : decode cX3_make 124 = .ok (.if_icmp .eq 18, 3) := by decide +kernel
theorem dX3_make_127 : decode cX3_make 127 = .ok (.aload_n 0, 1) := by decide +kernel
theorem dX3_make_128 : decode cX3_make 128 = .ok (.getfield 36, 3) := by decide +kernel
theorem dX3_make_131 : decode cX3_make 131 = .ok (.iload_n 2, 1) := by decide +kernel
theorem dX3_make_132 : decode cX3_make 132 = .ok (.aload_n 0, 1) := by decide +kernel
theorem dX3_make_133 : decode cX3_make 133 = .ok (.getfield 50, 3) := by decide +kernel
theorem dX3_make_136 : decode cX3_make 136 = .ok (.invokevirtual 82, 3) := by decide +kernel
theorem dX3_make_139 : decode cX3_make 139 = .ok (.ifCond .eq 8, 3) := by decide +kernel
theorem dX3_make_142 : decode cX3_make 142 = .ok (.aload_n 0, 1) := by decide +kernel
theorem dX3_make_143 : decode cX3_make 143 = .ok (.iload_n 2, 1) := by decide +kernel
theorem dX3_make_144 : decode cX3_make 144 = .ok (.invokevirtual 86, 3) := by decide +kernel
theorem dX3_make_147 : decode cX3_make 147 = .ok (.iinc 2 (-1), 3) := by decide +kernel
theorem dX3_make_150 : decode cX3_make 150 = .ok (.goto (-39), 3) := by decide +kernel
theorem dX3_make_153 : decode cX3_make 153 = .ok (.aload_n 0, 1) := by decide +kernel
theorem dX3_make_154 : decode cX3_make 154 = .ok (.getfield 27, 3) := by decide +kernel
theorem dX3_make_157 : decode cX3_make 157 = .ok (.aload_n 0, 1) := by decide +kernel
theorem dX3_make_158 : decode cX3_make 158 = .ok (.getfield 50, 3) := by decide +kernel
theorem dX3_make_161 : decode cX3_make 161 = .ok (.iaload, 1) := by decide +kernel
theorem dX3_make_162 : decode cX3_make 162 = .ok (.ifCond .ne 6, 3) := by decide +kernel
theorem dX3_make_165 : decode cX3_make 165 = .ok (.bipush (-9), 2) := by decide +kernel
theorem dX3_make_167 : decode cX3_make 167 = .ok (.ireturn, 1) := by decide +kernel
theorem dX3_make_168 : decode cX3_make 168 = .ok (.aload_n 0, 1) := by decide +kernel
theorem dX3_make_169 : decode cX3_make 169 = .ok (.invokevirtual 90, 3) := by decide +kernel
theorem dX3_make_172 : decode cX3_make 172 = .ok (.aload_n 0, 1) := by decide +kernel
theorem dX3_make_173 : decode cX3_make 173 = .ok (.getfield 9, 3) := by decide +kernel
theorem dX3_make_176 : decode cX3_make 176 = .ok (.ireturn, 1) := by decide +kernel
theorem dX3_findHomes_0 : decode cX3_findHomes 0 = .ok (.aload_n 0, 1) := by decide +kernel
theorem dX3_findHomes_1 : decode cX3_findHomes 1 = .ok (.getfield 20, 3) := by decide +kernel
theorem dX3_findHomes_4 : decode cX3_findHomes 4 = .ok (.iconst 0, 1) := by decide +kernel
theorem dX3_findHomes_5 : decode cX3_findHomes 5 = .ok (.invokestatic 76, 3) := by decide +kernel
theorem dX3_findHomes_8 : decode cX3_findHomes 8 = .ok (.aload_n 0, 1) := by decide +kernel
theorem dX3_findHomes_9 : decode cX3_findHomes 9 = .ok (.getfield 24, 3) := by decide +kernel
theorem dX3_findHomes_12 : decode cX3_findHomes 12 = .ok (.iconst 0, 1) := by decide +kernel
theorem dX3_findHomes_13 : decode cX3_findHomes 13 = .ok (.invokestatic 76, 3) := by decide +kernel
theorem dX3_findHomes_16 : decode cX3_findHomes 16 = .ok (.iconst 0, 1) := by decide +kernel
theorem dX3_findHomes_17 : decode cX3_findHomes 17 = .ok (.istore_n 1, 1) := by decide +kernel
theorem dX3_findHomes_18 : decode cX3_findHomes 18 = .ok (.iload_n 1, 1) := by decide +kernel
theorem dX3_findHomes_19 : decode cX3_findHomes 19 = .ok (.bipush 10, 2) := by decide +kernel
theorem dX3_findHomes_21 : decode cX3_findHomes 21 = .ok (.if_icmp .ge 71, 3) := by decide +kernel
theorem dX3_findHomes_24 : decode cX3_findHomes 24 = .ok (.aload_n 0, 1) := by decide +kernel
theorem dX3_findHomes_25 : decode cX3_findHomes 25 = .ok (.getfield 36, 3) := by decide +kernel
theorem dX3_findHomes_28 : decode cX3_findHomes 28 = .ok (.iload_n 1, 1) := by decide +kernel
theorem dX3_findHomes_29 : decode cX3_findHomes 29 = .ok (.invokevirtual 93, 3) := by decide +kernel
theorem dX3_findHomes_32 : decode cX3_findHomes 32 = .ok (.istore_n 2, 1) := by decide +kernel
theorem dX3_findHomes_33 : decode cX3_findHomes 33 = .ok (.iload_n 2, 1) := by decide +kernel
theorem dX3_findHomes_34 : decode cX3_findHomes 34 = .ok (.aload_n 0, 1) := by decide +kernel
theorem dX3_findHomes_35 : decode cX3_findHomes 35 = .ok (.getfield 50, 3) := by decide +kernel
theorem dX3_findHomes_38 : decode cX3_findHomes 38 = .ok (.invokestatic 97, 3) := by decide +kernel
theorem dX3_findHomes_41 : decode cX3_findHomes 41 = .ok (.istore_n 3, 1) := by decide +kernel
theorem dX3_findHomes_42 : decode cX3_findHomes 42 = .ok (.iload_n 2, 1) := by decide +kernel
theorem dX3_findHomes_43 : decode cX3_findHomes 43 = .ok (.bipush (-9), 2) := by decide +kernel
theorem dX3_findHomes_45 : decode cX3_findHomes 45 = .ok (.if_icmp .eq 41, 3) := by decide +kernel
theorem dX3_findHomes_48 : decode cX3_findHomes 48 = .ok (.iload_n 3, 1) := by decide +kernel
theorem dX3_findHomes_49 : decode cX3_findHomes 49 = .ok (.aload_n 0, 1) := by decide +kernel
theorem dX3_findHomes_50 : decode cX3_findHomes 50 = .ok (.getfield 62, 3) := by decide +kernel
theorem dX3_findHomes_53 : decode cX3_findHomes 53 = .ok (.if_icmp .ge 33, 3) := by decide +kernel
theorem dX3_findHomes_56 : decode cX3_findHomes 56 = .ok (.aload_n 0, 1) := by decide +kernel
theorem dX3_findHomes_57 : decode cX3_findHomes 57 = .ok (.getfield 20, 3) := by decide +kernel
theorem dX3_findHomes_60 : decode cX3_findHomes 60 = .ok (.iload_n 3, 1) := by decide +kernel
theorem dX3_findHomes_61 : decode cX3_findHomes 61 = .ok (.dup2, 1) := by decide +kernel
theorem dX3_findHomes_62 : decode cX3_findHomes 62 = .ok (.iaload, 1) := by decide +kernel
theorem dX3_findHomes_63 : decode cX3_findHomes 63 = .ok (.iconst 1, 1) := by decide +kernel
theorem dX3_findHomes_64 : decode cX3_findHomes 64 = .ok (.iload_n 1, 1) := by decide +kernel
theorem dX3_findHomes_65 : decode cX3_findHomes 65 = .ok (.ishl, 1) := by decide +kernel
theorem dX3_findHomes_66 : decode cX3_findHomes 66 = .ok (.ior, 1) := by decide +kernel
theorem dX3_findHomes_67 : decode cX3_findHomes 67 = .ok (.iastore, 1) := by decide +kernel
theorem dX3_findHomes_68 : decode cX3_findHomes 68 = .ok (.aload_n 0, 1) := by decide +kernel
theorem dX3_findHomes_69 : decode cX3_findHomes 69 = .ok (.getfield 24, 3) := by decide +kernel
theorem dX3_findHomes_72 : decode cX3_findHomes 72 = .ok (.iload_n 3, 1) := by decide +kernel
theorem dX3_findHomes_73 : decode cX3_findHomes 73 = .ok (.dup2, 1) := by decide +kernel
theorem dX3_findHomes_74 : decode cX3_findHomes 74 = .ok (.iaload, 1) := by decide +kernel
theorem dX3_findHomes_75 : decode cX3_findHomes 75 = .ok (.aload_n 0, 1) := by decide +kernel
theorem dX3_findHomes_76 : decode cX3_findHomes 76 = .ok (.getfield 36, 3) := by decide +kernel
theorem dX3_findHomes_79 : decode cX3_findHomes 79 = .ok (.getfield 100, 3) := by decide +kernel
theorem dX3_findHomes_82 : decode cX3_findHomes 82 = .ok (.iload_n 1, 1) := by decide +kernel
theorem dX3_findHomes_83 : decode cX3_findHomes 83 = .ok (.iaload, 1) := by decide +kernel
theorem dX3_findHomes_84 : decode cX3_findHomes 84 = .ok (.iadd, 1) := by decide +kernel
theorem dX3_findHomes_85 : decode cX3_findHomes 85 = .ok (.iastore, 1) := by decide +kernel
theorem dX3_findHomes_86 : decode cX3_findHomes 86 = .ok (.iinc 1 1, 3) := by decide +kernel
theorem dX3_findHomes_89 : decode cX3_findHomes 89 = .ok (.goto (-71), 3) := by decide +kernel
theorem dX3_findHomes_92 : decode cX3_findHomes 92 = .ok (.return_, 1) := by decide +kernel
theorem dX3_planFrom_0 : decode cX3_planFrom 0 = .ok (.aload_n 0, 1) := by decide +kernel
theorem dX3_planFrom_1 : decode cX3_planFrom 1 = .ok (.getfield 65, 3) := by decide +kernel
theorem dX3_planFrom_4 : decode cX3_planFrom 4 = .ok (.istore_n 2, 1) := by decide +kernel
theorem dX3_planFrom_5 : decode cX3_planFrom 5 = .ok (.iload_n 1, 1) := by decide +kernel
theorem dX3_planFrom_6 : decode cX3_planFrom 6 = .ok (.iconst 1, 1) := by decide +kernel
theorem dX3_planFrom_7 : decode cX3_planFrom 7 = .ok (.iadd, 1) := by decide +kernel
theorem dX3_planFrom_8 : decode cX3_planFrom 8 = .ok (.istore_n 3, 1) := by decide +kernel
theorem dX3_planFrom_9 : decode cX3_planFrom 9 = .ok (.iload_n 3, 1) := by decide +kernel
theorem dX3_planFrom_10 : decode cX3_planFrom 10 = .ok (.aload_n 0, 1) := by decide +kernel
theorem dX3_planFrom_11 : decode cX3_planFrom 11 = .ok (.getfield 62, 3) := by decide +kernel
theorem dX3_planFrom_14 : decode cX3_planFrom 14 = .ok (.if_icmp .gt 81, 3) := by decide +kernel
theorem dX3_planFrom_17 : decode cX3_planFrom 17 = .ok (.iload_n 2, 1) := by decide +kernel
theorem dX3_planFrom_18 : decode cX3_planFrom 18 = .ok (.aload_n 0, 1) := by decide +kernel
theorem dX3_planFrom_19 : decode cX3_planFrom 19 = .ok (.getfield 40, 3) := by decide +kernel
theorem dX3_planFrom_22 : decode cX3_planFrom 22 = .ok (.getfield 68, 3) := by decide +kernel
theorem dX3_planFrom_25 : decode cX3_planFrom 25 = .ok (.iload_n 3, 1) := by decide +kernel
theorem dX3_planFrom_26 : decode cX3_planFrom 26 = .ok (.iconst 1, 1) := by decide +kernel
theorem dX3_planFrom_27 : decode cX3_planFrom 27 = .ok (.isub, 1) := by decide +kernel
theorem dX3_planFrom_28 : decode cX3_planFrom 28 = .ok (.iaload, 1) := by decide +kernel
theorem dX3_planFrom_29 : decode cX3_planFrom 29 = .ok (.aload_n 0, 1) := by decide +kernel
theorem dX3_planFrom_30 : decode cX3_planFrom 30 = .ok (.getfield 24, 3) := by decide +kernel
theorem dX3_planFrom_33 : decode cX3_planFrom 33 = .ok (.iload_n 3, 1) := by decide +kernel
theorem dX3_planFrom_34 : decode cX3_planFrom 34 = .ok (.iconst 1, 1) := by decide +kernel
theorem dX3_planFrom_35 : decode cX3_planFrom 35 = .ok (.isub, 1) := by decide +kernel
theorem dX3_planFrom_36 : decode cX3_planFrom 36 = .ok (.iaload, 1) := by decide +kernel
theorem dX3_planFrom_37 : decode cX3_planFrom 37 = .ok (.iadd, 1) := by decide +kernel
theorem dX3_planFrom_38 : decode cX3_planFrom 38 = .ok (.isub, 1) := by decide +kernel
theorem dX3_planFrom_39 : decode cX3_planFrom 39 = .ok (.istore_n 2, 1) := by decide +kernel
theorem dX3_planFrom_40 : decode cX3_planFrom 40 = .ok (.iload_n 3, 1) := by decide +kernel
theorem dX3_planFrom_41 : decode cX3_planFrom 41 = .ok (.aload_n 0, 1) := by decide +kernel
theorem dX3_planFrom_42 : decode cX3_planFrom 42 = .ok (.getfield 62, 3) := by decide +kernel
theorem dX3_planFrom_45 : decode cX3_planFrom 45 = .ok (.if_icmp .eq 12, 3) := by decide +kernel
theorem dX3_planFrom_48 : decode cX3_planFrom 48 = .ok (.aload_n 0, 1) := by decide +kernel
theorem dX3_planFrom_49 : decode cX3_planFrom 49 = .ok (.getfield 27, 3) := by decide +kernel
theorem dX3_planFrom_52 : decode cX3_planFrom 52 = .ok (.iload_n 3, 1) := by decide +kernel
theorem dX3_planFrom_53 : decode cX3_planFrom 53 = .ok (.iaload, 1) := by decide +kernel
theorem dX3_planFrom_54 : decode cX3_planFrom 54 = .ok (.ifCond .le 7, 3) := by decide +kernel
theorem dX3_planFrom_57 : decode cX3_planFrom 57 = .ok (.iconst 1, 1) := by decide +kernel
theorem dX3_planFrom_58 : decode cX3_planFrom 58 = .ok (.goto 4, 3) := by decide +kernel
theorem dX3_planFrom_61 : decode cX3_planFrom 61 = .ok (.iconst 0, 1) := by decide +kernel
theorem dX3_planFrom_62 : decode cX3_planFrom 62 = .ok (.istore 4, 2) := by decide +kernel
theorem dX3_planFrom_64 : decode cX3_planFrom 64 = .ok (.iload_n 2, 1) := by decide +kernel
theorem dX3_planFrom_65 : decode cX3_planFrom 65 = .ok (.ifCond .lt 24, 3) := by decide +kernel
theorem dX3_planFrom_68 : decode cX3_planFrom 68 = .ok (.iload 4, 2) := by decide +kernel
theorem dX3_planFrom_70 : decode cX3_planFrom 70 = .ok (.ifCond .eq 19, 3) := by decide +kernel
theorem dX3_planFrom_73 : decode cX3_planFrom 73 = .ok (.aload_n 0, 1) := by decide +kernel
theorem dX3_planFrom_74 : decode cX3_planFrom 74 = .ok (.iload_n 1, 1) := by decide +kernel
theorem dX3_planFrom_75 : decode cX3_planFrom 75 = .ok (.iload_n 3, 1) := by decide +kernel
theorem dX3_planFrom_76 : decode cX3_planFrom 76 = .ok (.invokevirtual 103, 3) := by decide +kernel
theorem dX3_planFrom_79 : decode cX3_planFrom 79 = .ok (.ifCond .ne 10, 3) := by decide +kernel
theorem dX3_planFrom_82 : decode cX3_planFrom 82 = .ok (.aload_n 0, 1) := by decide +kernel
theorem dX3_planFrom_83 : decode cX3_planFrom 83 = .ok (.iload_n 1, 1) := by decide +kernel
theorem dX3_planFrom_84 : decode cX3_planFrom 84 = .ok (.iload_n 3, 1) := by decide +kernel
theorem dX3_planFrom_85 : decode cX3_planFrom 85 = .ok (.iload_n 2, 1) := by decide +kernel
theorem dX3_planFrom_86 : decode cX3_planFrom 86 = .ok (.invokevirtual 106, 3) := by decide +kernel
theorem dX3_planFrom_89 : decode cX3_planFrom 89 = .ok (.iinc 3 1, 3) := by decide +kernel
theorem dX3_planFrom_92 : decode cX3_planFrom 92 = .ok (.goto (-83), 3) := by decide +kernel
theorem dX3_planFrom_95 : decode cX3_planFrom 95 = .ok (.return_, 1) := by decide +kernel
theorem dX3_isAlone_0 : decode cX3_isAlone 0 = .ok (.iload_n 2, 1) := by decide +kernel
theorem dX3_isAlone_1 : decode cX3_isAlone 1 = .ok (.iload_n 1, 1) := by decide +kernel
theorem dX3_isAlone_2 : decode cX3_isAlone 2 = .ok (.isub, 1) := by decide +kernel
theorem dX3_isAlone_3 : decode cX3_isAlone 3 = .ok (.iconst 1, 1) := by decide +kernel
theorem dX3_isAlone_4 : decode cX3_isAlone 4 = .ok (.if_icmp .ne 33, 3) := by decide +kernel
theorem dX3_isAlone_7 : decode cX3_isAlone 7 = .ok (.aload_n 0, 1) := by decide +kernel
theorem dX3_isAlone_8 : decode cX3_isAlone 8 = .ok (.getfield 40, 3) := by decide +kernel
theorem dX3_isAlone_11 : decode cX3_isAlone 11 = .ok (.getfield 68, 3) := by decide +kernel
theorem dX3_isAlone_14 : decode cX3_isAlone 14 = .ok (.iload_n 1, 1) := by decide +kernel
theorem dX3_isAlone_15 : decode cX3_isAlone 15 = .ok (.iaload, 1) := by decide +kernel
theorem dX3_isAlone_16 : decode cX3_isAlone 16 = .ok (.iconst 1, 1) := by decide +kernel
theorem dX3_isAlone_17 : decode cX3_isAlone 17 = .ok (.if_icmp .ne 20, 3) := by decide +kernel
theorem dX3_isAlone_20 : decode cX3_isAlone 20 = .ok (.aload_n 0, 1) := by decide +kernel
theorem dX3_isAlone_21 : decode cX3_isAlone 21 = .ok (.getfield 62, 3) := by decide +kernel
theorem dX3_isAlone_24 : decode cX3_isAlone 24 = .ok (.aload_n 0, 1) := by decide +kernel
theorem dX3_isAlone_25 : decode cX3_isAlone 25 = .ok (.getfield 50, 3) := by decide +kernel
theorem dX3_isAlone_28 : decode cX3_isAlone 28 = .ok (.isub, 1) := by decide +kernel
theorem dX3_isAlone_29 : decode cX3_isAlone 29 = .ok (.iconst 1, 1) := by decide +kernel
theorem dX3_isAlone_30 : decode cX3_isAlone 30 = .ok (.if_icmp .le 7, 3) := by decide +kernel
theorem dX3_isAlone_33 : decode cX3_isAlone 33 = .ok (.iconst 1, 1) := by decide +kernel
theorem dX3_isAlone_34 : decode cX3_isAlone 34 = .ok (.goto 4, 3) := by decide +kernel
theorem dX3_isAlone_37 : decode cX3_isAlone 37 = .ok (.iconst 0, 1) := by decide +kernel
theorem dX3_isAlone_38 : decode cX3_isAlone 38 = .ok (.ireturn, 1) := by decide +kernel
theorem dX3_weigh_0 : decode cX3_weigh 0 = .ok (.iconst 1, 1) := by decide +kernel
theorem dX3_weigh_1 : decode cX3_weigh 1 = .ok (.aload_n 0, 1) := by decide +kernel
theorem dX3_weigh_2 : decode cX3_weigh 2 = .ok (.getfield 27, 3) := by decide +kernel
theorem dX3_weigh_5 : decode cX3_weigh 5 = .ok (.iload_n 2, 1) := by decide +kernel
theorem dX3_weigh_6 : decode cX3_weigh 6 = .ok (.iaload, 1) := by decide +kernel
theorem dX3_weigh_7 : decode cX3_weigh 7 = .ok (.iadd, 1) := by decide +kernel
theorem dX3_weigh_8 : decode cX3_weigh 8 = .ok (.istore 4, 2) := by decide +kernel
theorem dX3_weigh_10 : decode cX3_weigh 10 = .ok (.iload_n 2, 1) := by decide +kernel
theorem dX3_weigh_11 : decode cX3_weigh 11 = .ok (.aload_n 0, 1) := by decide +kernel
theorem dX3_weigh_12 : decode cX3_weigh 12 = .ok (.getfield 62, 3) := by decide +kernel
theorem dX3_weigh_15 : decode cX3_weigh 15 = .ok (.if_icmp .ne 7, 3) := by decide +kernel
theorem dX3_weigh_18 : decode cX3_weigh 18 = .ok (.iconst 0, 1) := by decide +kernel
theorem dX3_weigh_19 : decode cX3_weigh 19 = .ok (.goto 13, 3) := by decide +kernel
theorem dX3_weigh_22 : decode cX3_weigh 22 = .ok (.aload_n 0, 1) := by decide +kernel
theorem dX3_weigh_23 : decode cX3_weigh 23 = .ok (.getfield 30, 3) := by decide +kernel
theorem dX3_weigh_26 : decode cX3_weigh 26 = .ok (.iload_n 2, 1) := by decide +kernel
theorem dX3_weigh_27 : decode cX3_weigh 27 = .ok (.iaload, 1) := by decide +kernel
theorem dX3_weigh_28 : decode cX3_weigh 28 = .ok (.iload_n 3, 1) := by decide +kernel
theorem dX3_weigh_29 : decode cX3_weigh 29 = .ok (.iload_n 3, 1) := by decide +kernel
theorem dX3_weigh_30 : decode cX3_weigh 30 = .ok (.imul, 1) := by decide +kernel
theorem dX3_weigh_31 : decode cX3_weigh 31 = .ok (.iadd, 1) := by decide +kernel
theorem dX3_weigh_32 : decode cX3_weigh 32 = .ok (.istore 5, 2) := by decide +kernel
theorem dX3_weigh_34 : decode cX3_weigh 34 = .ok (.aload_n 0, 1) := by decide +kernel
theorem dX3_weigh_35 : decode cX3_weigh 35 = .ok (.getfield 27, 3) := by decide +kernel
theorem dX3_weigh_38 : decode cX3_weigh 38 = .ok (.iload_n 1, 1) := by decide +kernel
theorem dX3_weigh_39 : decode cX3_weigh 39 = .ok (.iaload, 1) := by decide +kernel
theorem dX3_weigh_40 : decode cX3_weigh 40 = .ok (.ifCond .ne 7, 3) := by decide +kernel
theorem dX3_weigh_43 : decode cX3_weigh 43 = .ok (.iconst 1, 1) := by decide +kernel
theorem dX3_weigh_44 : decode cX3_weigh 44 = .ok (.goto 4, 3) := by decide +kernel
theorem dX3_weigh_47 : decode cX3_weigh 47 = .ok (.iconst 0, 1) := by decide +kernel
theorem dX3_weigh_48 : decode cX3_weigh 48 = .ok (.istore 6, 2) := by decide +kernel
theorem dX3_weigh_50 : decode cX3_weigh 50 = .ok (.iload 6, 2) := by decide +kernel
theorem dX3_weigh_52 : decode cX3_weigh 52 = .ok (.ifCond .ne 36, 3) := by decide +kernel
theorem dX3_weigh_55 : decode cX3_weigh 55 = .ok (.iload 4, 2) := by decide +kernel
theorem dX3_weigh_57 : decode cX3_weigh 57 = .ok (.aload_n 0, 1) := by decide +kernel
theorem dX3_weigh_58 : decode cX3_weigh 58 = .ok (.getfield 27, 3) := by decide +kernel
theorem dX3_weigh_61 : decode cX3_weigh 61 = .ok (.iload_n 1, 1) := by decide +kernel
theorem dX3_weigh_62 : decode cX3_weigh 62 = .ok (.iaload, 1) := by decide +kernel
theorem dX3_weigh_63 : decode cX3_weigh 63 = .ok (.if_icmp .lt 25, 3) := by decide +kernel
theorem dX3_weigh_66 : decode cX3_weigh 66 = .ok (.iload 4, 2) := by decide +kernel
theorem dX3_weigh_68 : decode cX3_weigh 68 = .ok (.aload_n 0, 1) := by decide +kernel
theorem dX3_weigh_69 : decode cX3_weigh 69 = .ok (.getfield 27, 3) := by decide +kernel
theorem dX3_weigh_72 : decode cX3_weigh 72 = .ok (.iload_n 1, 1) := by decide +kernel
theorem dX3_weigh_73 : decode cX3_weigh 73 = .ok (.iaload, 1) := by decide +kernel
theorem dX3_weigh_74 : decode cX3_weigh 74 = .ok (.if_icmp .ne 37, 3) := by decide +kernel
theorem dX3_weigh_77 : decode cX3_weigh 77 = .ok (.iload 5, 2) := by decide +kernel
theorem dX3_weigh_79 : decode cX3_weigh 79 = .ok (.aload_n 0, 1) := by decide +kernel
theorem dX3_weigh_80 : decode cX3_weigh 80 = .ok (.getfield 30, 3) := by decide +kernel
theorem dX3_weigh_83 : decode cX3_weigh 83 = .ok (.iload_n 1, 1) := by decide +kernel
theorem dX3_weigh_84 : decode cX3_weigh 84 = .ok (.iaload, 1) := by decide +kernel
theorem dX3_weigh_85 : decode cX3_weigh 85 = .ok (.if_icmp .gt 26, 3) := by decide +kernel
theorem dX3_weigh_88 : decode cX3_weigh 88 = .ok (.aload_n 0, 1) := by decide +kernel
theorem dX3_weigh_89 : decode cX3_weigh 89 = .ok (.getfield 27, 3) := by decide +kernel
theorem dX3_weigh_92 : decode cX3_weigh 92 = .ok (.iload_n 1, 1) := by decide +kernel
theorem dX3_weigh_93 : decode cX3_weigh 93 = .ok (.iload 4, 2) := by decide +kernel
theorem dX3_weigh_95 : decode cX3_weigh 95 = .ok (.iastore, 1) := by decide +kernel
theorem dX3_weigh_96 : decode cX3_weigh 96 = .ok (.aload_n 0, 1) := by decide +kernel
theorem dX3_weigh_97 : decode cX3_weigh 97 = .ok (.getfield 30, 3) := by decide +kernel
theorem dX3_weigh_100 : decode cX3_weigh 100 = .ok (.iload_n 1, 1) := by decide +kernel
theorem dX3_weigh_101 : decode cX3_weigh 101 = .ok (.iload 5, 2) := by decide +kernel
theorem dX3_weigh_103 : decode cX3_weigh 103 = .ok (.iastore, 1) := by decide +kernel
theorem dX3_weigh_104 : decode cX3_weigh 104 = .ok (.aload_n 0, 1) := by decide +kernel
theorem dX3_weigh_105 : decode cX3_weigh 105 = .ok (.getfield 33, 3) := by decide +kernel
theorem dX3_weigh_108 : decode cX3_weigh 108 = .ok (.iload_n 1, 1) := by decide +kernel
theorem dX3_weigh_109 : decode cX3_weigh 109 = .ok (.iload_n 2, 1) := by decide +kernel
theorem dX3_weigh_110 : decode cX3_weigh 110 = .ok (.iastore, 1) := by decide +kernel
theorem dX3_weigh_111 : decode cX3_weigh 111 = .ok (.return_, 1) := by decide +kernel
theorem dX3_layOut_0 : decode cX3_layOut 0 = .ok (.aload_n 0, 1) := by decide +kernel
theorem dX3_layOut_1 : decode cX3_layOut 1 = .ok (.getfield 50, 3) := by decide +kernel
theorem dX3_layOut_4 : decode cX3_layOut 4 = .ok (.istore_n 1, 1) := by decide +kernel
theorem dX3_layOut_5 : decode cX3_layOut 5 = .ok (.iload_n 1, 1) := by decide +kernel
theorem dX3_layOut_6 : decode cX3_layOut 6 = .ok (.aload_n 0, 1) := by decide +kernel
theorem dX3_layOut_7 : decode cX3_layOut 7 = .ok (.getfield 62, 3) := by decide +kernel
theorem dX3_layOut_10 : decode cX3_layOut 10 = .ok (.if_icmp .ge 130, 3) := by decide +kernel
theorem dX3_layOut_13 : decode cX3_layOut 13 = .ok (.aload_n 0, 1) := by decide +kernel
theorem dX3_layOut_14 : decode cX3_layOut 14 = .ok (.getfield 9, 3) := by decide +kernel
theorem dX3_layOut_17 : decode cX3_layOut 17 = .ok (.bipush 16, 2) := by decide +kernel
theorem dX3_layOut_19 : decode cX3_layOut 19 = .ok (.if_icmp .ge 121, 3) := by decide +kernel
theorem dX3_layOut_22 : decode cX3_layOut 22 = .ok (.aload_n 0, 1) := by decide +kernel
theorem dX3_layOut_23 : decode cX3_layOut 23 = .ok (.getfield 33, 3) := by decide +kernel
theorem dX3_layOut_26 : decode cX3_layOut 26 = .ok (.iload_n 1, 1) := by decide +kernel
theorem dX3_layOut_27 : decode cX3_layOut 27 = .ok (.iaload, 1) := by decide +kernel
theorem dX3_layOut_28 : decode cX3_layOut 28 = .ok (.iload_n 1, 1) := by decide +kernel
theorem dX3_layOut_29 : decode cX3_layOut 29 = .ok (.iconst 1, 1) := by decide +kernel
theorem dX3_layOut_30 : decode cX3_layOut 30 = .ok (.iadd, 1) := by decide +kernel
theorem dX3_layOut_31 : decode cX3_layOut 31 = .ok (.invokestatic 97, 3) := by decide +kernel
theorem dX3_layOut_34 : decode cX3_layOut 34 = .ok (.aload_n 0, 1) := by decide +kernel
theorem dX3_layOut_35 : decode cX3_layOut 35 = .ok (.getfield 62, 3) := by decide +kernel
theorem dX3_layOut_38 : decode cX3_layOut 38 = .ok (.invokestatic 56, 3) := by decide +kernel
theorem dX3_layOut_41 : decode cX3_layOut 41 = .ok (.istore_n 2, 1) := by decide +kernel
theorem dX3_layOut_42 : decode cX3_layOut 42 = .ok (.aload_n 0, 1) := by decide +kernel
theorem dX3_layOut_43 : decode cX3_layOut 43 = .ok (.getfield 17, 3) := by decide +kernel
theorem dX3_layOut_46 : decode cX3_layOut 46 = .ok (.aload_n 0, 1) := by decide +kernel
theorem dX3_layOut_47 : decode cX3_layOut 47 = .ok (.getfield 9, 3) := by decide +kernel
theorem dX3_layOut_50 : decode cX3_layOut 50 = .ok (.aaload, 1) := by decide +kernel
theorem dX3_layOut_51 : decode cX3_layOut 51 = .ok (.astore_n 3, 1) := by decide +kernel
theorem dX3_layOut_52 : decode cX3_layOut 52 = .ok (.aload_n 3, 1) := by decide +kernel
theorem dX3_layOut_53 : decode cX3_layOut 53 = .ok (.iconst 0, 1) := by decide +kernel
theorem dX3_layOut_54 : decode cX3_layOut 54 = .ok (.iload_n 1, 1) := by decide +kernel
theorem dX3_layOut_55 : decode cX3_layOut 55 = .ok (.iastore, 1) := by decide +kernel
theorem dX3_layOut_56 : decode cX3_layOut 56 = .ok (.aload_n 3, 1) := by decide +kernel
theorem dX3_layOut_57 : decode cX3_layOut 57 = .ok (.iconst 1, 1) := by decide +kernel
theorem dX3_layOut_58 : decode cX3_layOut 58 = .ok (.iload_n 2, 1) := by decide +kernel
theorem dX3_layOut_59 : decode cX3_layOut 59 = .ok (.iload_n 1, 1) := by decide +kernel
theorem dX3_layOut_60 : decode cX3_layOut 60 = .ok (.isub, 1) := by decide +kernel
theorem dX3_layOut_61 : decode cX3_layOut 61 = .ok (.iastore, 1) := by decide +kernel
theorem dX3_layOut_62 : decode cX3_layOut 62 = .ok (.aload_n 3, 1) := by decide +kernel
theorem dX3_layOut_63 : decode cX3_layOut 63 = .ok (.iconst 2, 1) := by decide +kernel
theorem dX3_layOut_64 : decode cX3_layOut 64 = .ok (.aload_n 0, 1) := by decide +kernel
theorem dX3_layOut_65 : decode cX3_layOut 65 = .ok (.getfield 65, 3) := by decide +kernel
theorem dX3_layOut_68 : decode cX3_layOut 68 = .ok (.iastore, 1) := by decide +kernel
theorem dX3_layOut_69 : decode cX3_layOut 69 = .ok (.aload_n 3, 1) := by decide +kernel
theorem dX3_layOut_70 : decode cX3_layOut 70 = .ok (.iconst 3, 1) := by decide +kernel
theorem dX3_layOut_71 : decode cX3_layOut 71 = .ok (.iconst 0, 1) := by decide +kernel
theorem dX3_layOut_72 : decode cX3_layOut 72 = .ok (.iastore, 1) := by decide +kernel
theorem dX3_layOut_73 : decode cX3_layOut 73 = .ok (.iload_n 1, 1) := by decide +kernel
theorem dX3_layOut_74 : decode cX3_layOut 74 = .ok (.istore 4, 2) := by decide +kernel
theorem dX3_layOut_76 : decode cX3_layOut 76 = .ok (.iload 4, 2) := by decide +kernel
theorem dX3_layOut_78 : decode cX3_layOut 78 = .ok (.iload_n 2, 1) := by decide +kernel
theorem dX3_layOut_79 : decode cX3_layOut 79 = .ok (.if_icmp .ge 46, 3) := by decide +kernel
theorem dX3_layOut_82 : decode cX3_layOut 82 = .ok (.aload_n 3, 1) := by decide +kernel
theorem dX3_layOut_83 : decode cX3_layOut 83 = .ok (.iconst 2, 1) := by decide +kernel
theorem dX3_layOut_84 : decode cX3_layOut 84 = .ok (.dup2, 1) := by decide +kernel
theorem dX3_layOut_85 : decode cX3_layOut 85 = .ok (.iaload, 1) := by decide +kernel
theorem dX3_layOut_86 : decode cX3_layOut 86 = .ok (.aload_n 0, 1) := by decide +kernel
theorem dX3_layOut_87 : decode cX3_layOut 87 = .ok (.getfield 40, 3) := by decide +kernel
theorem dX3_layOut_90 : decode cX3_layOut 90 = .ok (.getfield 68, 3) := by decide +kernel
theorem dX3_layOut_93 : decode cX3_layOut 93 = .ok (.iload 4, 2) := by decide +kernel
theorem dX3_layOut_95 : decode cX3_layOut 95 = .ok (.iaload, 1) := by decide +kernel
theorem dX3_layOut_96 : decode cX3_layOut 96 = .ok (.aload_n 0, 1) := by decide +kernel
theorem dX3_layOut_97 : decode cX3_layOut 97 = .ok (.getfield 24, 3) := by decide +kernel
theorem dX3_layOut_100 : decode cX3_layOut 100 = .ok (.iload 4, 2) := by decide +kernel
theorem dX3_layOut_102 : decode cX3_layOut 102 = .ok (.iaload, 1) := by decide +kernel
theorem dX3_layOut_103 : decode cX3_layOut 103 = .ok (.iadd, 1) := by decide +kernel
theorem dX3_layOut_104 : decode cX3_layOut 104 = .ok (.isub, 1) := by decide +kernel
theorem dX3_layOut_105 : decode cX3_layOut 105 = .ok (.iastore, 1) := by decide +kernel
theorem dX3_layOut_106 : decode cX3_layOut 106 = .ok (.aload_n 3, 1) := by decide +kernel
theorem dX3_layOut_107 : decode cX3_layOut 107 = .ok (.iconst 3, 1) := by decide +kernel
theorem dX3_layOut_108 : decode cX3_layOut 108 = .ok (.dup2, 1) := by decide +kernel
theorem dX3_layOut_109 : decode cX3_layOut 109 = .ok (.iaload, 1) := by decide +kernel
theorem dX3_layOut_110 : decode cX3_layOut 110 = .ok (.aload_n 0, 1) := by decide +kernel
theorem dX3_layOut_111 : decode cX3_layOut 111 = .ok (.getfield 20, 3) := by decide +kernel
theorem dX3_layOut_114 : decode cX3_layOut 114 = .ok (.iload 4, 2) := by decide +kernel
theorem dX3_layOut_116 : decode cX3_layOut 116 = .ok (.iaload, 1) := by decide +kernel
theorem dX3_layOut_117 : decode cX3_layOut 117 = .ok (.ior, 1) := by decide +kernel
theorem dX3_layOut_118 : decode cX3_layOut 118 = .ok (.iastore, 1) := by decide +kernel
theorem dX3_layOut_119 : decode cX3_layOut 119 = .ok (.iinc 4 1, 3) := by decide +kernel
theorem dX3_layOut_122 : decode cX3_layOut 122 = .ok (.goto (-46), 3) := by decide +kernel
theorem dX3_layOut_125 : decode cX3_layOut 125 = .ok (.aload_n 0, 1) := by decide +kernel
theorem dX3_layOut_126 : decode cX3_layOut 126 = .ok (.dup, 1) := by decide +kernel
theorem dX3_layOut_127 : decode cX3_layOut 127 = .ok (.getfield 9, 3) := by decide +kernel
theorem dX3_layOut_130 : decode cX3_layOut 130 = .ok (.iconst 1, 1) := by decide +kernel
theorem dX3_layOut_131 : decode cX3_layOut 131 = .ok (.iadd, 1) := by decide +kernel
theorem dX3_layOut_132 : decode cX3_layOut 132 = .ok (.putfield 9, 3) := by decide +kernel
theorem dX3_layOut_135 : decode cX3_layOut 135 = .ok (.iload_n 2, 1) := by decide +kernel
theorem dX3_layOut_136 : decode cX3_layOut 136 = .ok (.istore_n 1, 1) := by decide +kernel
theorem dX3_layOut_137 : decode cX3_layOut 137 = .ok (.goto (-132), 3) := by decide +kernel
theorem dX3_layOut_140 : decode cX3_layOut 140 = .ok (.return_, 1) := by decide +kernel
theorem dX3_holding_0 : decode cX3_holding 0 = .ok (.iconst 0, 1) := by decide +kernel
theorem dX3_holding_1 : decode cX3_holding 1 = .ok (.istore_n 2, 1) := by decide +kernel
theorem dX3_holding_2 : decode cX3_holding 2 = .ok (.iload_n 2, 1) := by decide +kernel
theorem dX3_holding_3 : decode cX3_holding 3 = .ok (.aload_n 0, 1) := by decide +kernel
theorem dX3_holding_4 : decode cX3_holding 4 = .ok (.getfield 9, 3) := by decide +kernel
theorem dX3_holding_7 : decode cX3_holding 7 = .ok (.if_icmp .ge 38, 3) := by decide +kernel
theorem dX3_holding_10 : decode cX3_holding 10 = .ok (.iload_n 2, 1) := by decide +kernel
theorem dX3_holding_11 : decode cX3_holding 11 = .ok (.bipush 16, 2) := by decide +kernel
theorem dX3_holding_13 : decode cX3_holding 13 = .ok (.if_icmp .ge 32, 3) := by decide +kernel
theorem dX3_holding_16 : decode cX3_holding 16 = .ok (.iload_n 1, 1) := by decide +kernel
theorem dX3_holding_17 : decode cX3_holding 17 = .ok (.aload_n 0, 1) := by decide +kernel
theorem dX3_holding_18 : decode cX3_holding 18 = .ok (.getfield 17, 3) := by decide +kernel
theorem dX3_holding_21 : decode cX3_holding 21 = .ok (.iload_n 2, 1) := by decide +kernel
theorem dX3_holding_22 : decode cX3_holding 22 = .ok (.aaload, 1) := by decide +kernel
theorem dX3_holding_23 : decode cX3_holding 23 = .ok (.iconst 0, 1) := by decide +kernel
theorem dX3_holding_24 : decode cX3_holding 24 = .ok (.iaload, 1) := by decide +kernel
theorem dX3_holding_25 : decode cX3_holding 25 = .ok (.aload_n 0, 1) := by decide +kernel
theorem dX3_holding_26 : decode cX3_holding 26 = .ok (.getfield 17, 3) := by decide +kernel
theorem dX3_holding_29 : decode cX3_holding 29 = .ok (.iload_n 2, 1) := by decide +kernel
theorem dX3_holding_30 : decode cX3_holding 30 = .ok (.aaload, 1) := by decide +kernel
theorem dX3_holding_31 : decode cX3_holding 31 = .ok (.iconst 1, 1) := by decide +kernel
theorem dX3_holding_32 : decode cX3_holding 32 = .ok (.iaload, 1) := by decide +kernel
theorem dX3_holding_33 : decode cX3_holding 33 = .ok (.iadd, 1) := by decide +kernel
theorem dX3_holding_34 : decode cX3_holding 34 = .ok (.if_icmp .ge 5, 3) := by decide +kernel
theorem dX3_holding_37 : decode cX3_holding 37 = .ok (.iload_n 2, 1) := by decide +kernel
theorem dX3_holding_38 : decode cX3_holding 38 = .ok (.ireturn, 1) := by decide +kernel
theorem dX3_holding_39 : decode cX3_holding 39 = .ok (.iinc 2 1, 3) := by decide +kernel
theorem dX3_holding_42 : decode cX3_holding 42 = .ok (.goto (-40), 3) := by decide +kernel
theorem dX3_holding_45 : decode cX3_holding 45 = .ok (.bipush (-9), 2) := by decide +kernel
theorem dX3_holding_47 : decode cX3_holding 47 = .ok (.ireturn, 1) := by decide +kernel
theorem dX4_init_0 : decode cX4_init 0 = .ok (.aload_n 0, 1) := by decide +kernel
theorem dX4_init_1 : decode cX4_init 1 = .ok (.invokespecial 3, 3) := by decide +kernel
theorem dX4_init_4 : decode cX4_init 4 = .ok (.aload_n 0, 1) := by decide +kernel
theorem dX4_init_5 : decode cX4_init 5 = .ok (.bipush 6, 2) := by decide +kernel
theorem dX4_init_7 : decode cX4_init 7 = .ok (.newarray .int, 2) := by decide +kernel
theorem dX4_init_9 : decode cX4_init 9 = .ok (.putfield 9, 3) := by decide +kernel
theorem dX4_init_12 : decode cX4_init 12 = .ok (.aload_n 0, 1) := by decide +kernel
theorem dX4_init_13 : decode cX4_init 13 = .ok (.bipush 6, 2) := by decide +kernel
theorem dX4_init_15 : decode cX4_init 15 = .ok (.newarray .int, 2) := by decide +kernel
theorem dX4_init_17 : decode cX4_init 17 = .ok (.putfield 15, 3) := by decide +kernel
theorem dX4_init_20 : decode cX4_init 20 = .ok (.return_, 1) := by decide +kernel
theorem dX4_divide_0 : decode cX4_divide 0 = .ok (.aload_n 0, 1) := by decide +kernel
theorem dX4_divide_1 : decode cX4_divide 1 = .ok (.getfield 9, 3) := by decide +kernel
theorem dX4_divide_4 : decode cX4_divide 4 = .ok (.iconst 0, 1) := by decide +kernel
theorem dX4_divide_5 : decode cX4_divide 5 = .ok (.invokestatic 18, 3) := by decide +kernel
theorem dX4_divide_8 : decode cX4_divide 8 = .ok (.iload 4, 2) := by decide +kernel
theorem dX4_divide_10 : decode cX4_divide 10 = .ok (.aload_n 0, 1) := by decide +kernel
theorem dX4_divide_11 : decode cX4_divide 11 = .ok (.getfield 9, 3) := by decide +kernel
theorem dX4_divide_14 : decode cX4_divide 14 = .ok (.arraylength, 1) := by decide +kernel
theorem dX4_divide_15 : decode cX4_divide 15 = .ok (.aload_n 2, 1) := by decide +kernel
theorem dX4_divide_16 : decode cX4_divide 16 = .ok (.arraylength, 1) := by decide +kernel
theorem dX4_divide_17 : decode cX4_divide 17 = .ok (.invokestatic 24, 3) := by decide +kernel
theorem dX4_divide_20 : decode cX4_divide 20 = .ok (.invokestatic 24, 3) := by decide +kernel
theorem dX4_divide_23 : decode cX4_divide 23 = .ok (.istore 5, 2) := by decide +kernel
theorem dX4_divide_25 : decode cX4_divide 25 = .ok (.iconst 0, 1) := by decide +kernel
theorem dX4_divide_26 : decode cX4_divide 26 = .ok (.istore 6, 2) := by decide +kernel
theorem dX4_divide_28 : decode cX4_divide 28 = .ok (.iload_n 3, 1) := by decide +kernel
theorem dX4_divide_29 : decode cX4_divide 29 = .ok (.istore 7, 2) := by decide +kernel
theorem dX4_divide_31 : decode cX4_divide 31 = .ok (.iload 7, 2) := by decide +kernel
theorem dX4_divide_33 : decode cX4_divide 33 = .ok (.iload 5, 2) := by decide +kernel
theorem dX4_divide_35 : decode cX4_divide 35 = .ok (.if_icmp .ge 18, 3) := by decide +kernel
theorem dX4_divide_38 : decode cX4_divide 38 = .ok (.iload 6, 2) := by decide +kernel
theorem dX4_divide_40 : decode cX4_divide 40 = .ok (.aload_n 2, 1) := by decide +kernel
theorem dX4_divide_41 : decode cX4_divide 41 = .ok (.iload 7, 2) := by decide +kernel
theorem dX4_divide_43 : decode cX4_divide 43 = .ok (.iaload, 1) := by decide +kernel
theorem dX4_divide_44 : decode cX4_divide 44 = .ok (.iadd, 1) := by decide +kernel
theorem dX4_divide_45 : decode cX4_divide 45 = .ok (.istore 6, 2) := by decide +kernel
theorem dX4_divide_47 : decode cX4_divide 47 = .ok (.iinc 7 1, 3) := by decide +kernel
theorem dX4_divide_50 : decode cX4_divide 50 = .ok (.goto (-19), 3) := by decide +kernel
theorem dX4_divide_53 : decode cX4_divide 53 = .ok (.iload 6, 2) := by decide +kernel
theorem dX4_divide_55 : decode cX4_divide 55 = .ok (.iconst 1, 1) := by decide +kernel
theorem dX4_divide_56 : decode cX4_divide 56 = .ok (.if_icmp .lt 7, 3) := by decide +kernel
theorem dX4_divide_59 : decode cX4_divide 59 = .ok (.iload_n 3, 1) := by decide +kernel
theorem dX4_divide_60 : decode cX4_divide 60 = .ok (.ifCond .ge 4, 3) := by decide +kernel
theorem dX4_divide_63 : decode cX4_divide 63 = .ok (.return_, 1) := by decide +kernel
theorem dX4_divide_64 : decode cX4_divide 64 = .ok (.iload_n 1, 1) := by decide +kernel
theorem dX4_divide_65 : decode cX4_divide 65 = .ok (.istore 7, 2) := by decide +kernel
theorem dX4_divide_67 : decode cX4_divide 67 = .ok (.iload_n 3, 1) := by decide +kernel
theorem dX4_divide_68 : decode cX4_divide 68 = .ok (.istore 8, 2) := by decide +kernel
theorem dX4_divide_70 : decode cX4_divide 70 = .ok (.iload 8, 2) := by decide +kernel
theorem dX4_divide_72 : decode cX4_divide 72 = .ok (.iload 5, 2) := by decide +kernel
theorem dX4_divide_74 : decode cX4_divide 74 = .ok (.if_icmp .ge 53, 3) := by decide +kernel
theorem dX4_divide_77 : decode cX4_divide 77 = .ok (.aload_n 0, 1) := by decide +kernel
theorem dX4_divide_78 : decode cX4_divide 78 = .ok (.getfield 9, 3) := by decide +kernel
theorem dX4_divide_81 : decode cX4_divide 81 = .ok (.iload 8, 2) := by decide +kernel
theorem dX4_divide_83 : decode cX4_divide 83 = .ok (.iload_n 1, 1) := by decide +kernel
theorem dX4_divide_84 : decode cX4_divide 84 = .ok (.aload_n 2, 1) := by decide +kernel
theorem dX4_divide_85 : decode cX4_divide 85 = .ok (.iload 8, 2) := by decide +kernel
theorem dX4_divide_87 : decode cX4_divide 87 = .ok (.iaload, 1) := by decide +kernel
theorem dX4_divide_88 : decode cX4_divide 88 = .ok (.imul, 1) := by decide +kernel
theorem dX4_divide_89 : decode cX4_divide 89 = .ok (.iload 6, 2) := by decide +kernel
theorem dX4_divide_91 : decode cX4_divide 91 = .ok (.idiv, 1) := by decide +kernel
theorem dX4_divide_92 : decode cX4_divide 92 = .ok (.iastore, 1) := by decide +kernel
theorem dX4_divide_93 : decode cX4_divide 93 = .ok (.aload_n 0, 1) := by decide +kernel
theorem dX4_divide_94 : decode cX4_divide 94 = .ok (.getfield 15, 3) := by decide +kernel
theorem dX4_divide_97 : decode cX4_divide 97 = .ok (.iload 8, 2) := by decide +kernel
theorem dX4_divide_99 : decode cX4_divide 99 = .ok (.iload_n 1, 1) := by decide +kernel
theorem dX4_divide_100 : decode cX4_divide 100 = .ok (.aload_n 2, 1) := by decide +kernel
theorem dX4_divide_101 : decode cX4_divide 101 = .ok (.iload 8, 2) := by decide +kernel
theorem dX4_divide_103 : decode cX4_divide 103 = .ok (.iaload, 1) := by decide +kernel
theorem dX4_divide_104 : decode cX4_divide 104 = .ok (.imul, 1) := by decide +kernel
theorem dX4_divide_105 : decode cX4_divide 105 = .ok (.iload 6, 2) := by decide +kernel
theorem dX4_divide_107 : decode cX4_divide 107 = .ok (.irem, 1) := by decide +kernel
theorem dX4_divide_108 : decode cX4_divide 108 = .ok (.iastore, 1) := by decide +kernel
theorem dX4_divide_109 : decode cX4_divide 109 = .ok (.iload 7, 2) := by decide +kernel
theorem dX4_divide_111 : decode cX4_divide 111 = .ok (.aload_n 0, 1) := by decide +kernel
theorem dX4_divide_112 : decode cX4_divide 112 = .ok (.getfield 9, 3) := by decide +kernel
theorem dX4_divide_115 : decode cX4_divide 115 = .ok (.iload 8, 2) := by decide +kernel
theorem dX4_divide_117 : decode cX4_divide 117 = .ok (.iaload, 1) := by decide +kernel
theorem dX4_divide_118 : decode cX4_divide 118 = .ok (.isub, 1) := by decide +kernel
theorem dX4_divide_119 : decode cX4_divide 119 = .ok (.istore 7, 2) := by decide +kernel
theorem dX4_divide_121 : decode cX4_divide 121 = .ok (.iinc 8 1, 3) := by decide +kernel
theorem dX4_divide_124 : decode cX4_divide 124 = .ok (.goto (-54), 3) := by decide +kernel
theorem dX4_divide_127 : decode cX4_divide 127 = .ok (.iconst 0, 1) := by decide +kernel
theorem dX4_divide_128 : decode cX4_divide 128 = .ok (.istore 8, 2) := by decide +kernel
theorem dX4_divide_130 : decode cX4_divide 130 = .ok (.iload 8, 2) := by decide +kernel
theorem dX4_divide_132 : decode cX4_divide 132 = .ok (.iload 7, 2) := by decide +kernel
theorem dX4_divide_134 : decode cX4_divide 134 = .ok (.if_icmp .ge 23, 3) := by decide +kernel
theorem dX4_divide_137 : decode cX4_divide 137 = .ok (.iload 8, 2) := by decide +kernel
theorem dX4_divide_139 : decode cX4_divide 139 = .ok (.bipush 6, 2) := by decide +kernel
theorem dX4_divide_141 : decode cX4_divide 141 = .ok (.if_icmp .ge 16, 3) := by decide +kernel
theorem dX4_divide_144 : decode cX4_divide 144 = .ok (.aload_n 0, 1) := by decide +kernel
theorem dX4_divide_145 : decode cX4_divide 145 = .ok (.iload_n 3, 1) := by decide +kernel
theorem dX4_divide_146 : decode cX4_divide 146 = .ok (.iload 5, 2) := by decide +kernel
theorem dX4_divide_148 : decode cX4_divide 148 = .ok (.invokevirtual 30, 3) := by decide +kernel
theorem dX4_divide_151 : decode cX4_divide 151 = .ok (.iinc 8 1, 3) := by decide +kernel
theorem dX4_divide_154 : decode cX4_divide 154 = .ok (.goto (-24), 3) := by decide +kernel
theorem dX4_divide_157 : decode cX4_divide 157 = .ok (.return_, 1) := by decide +kernel
theorem dX4_giveOne_0 : decode cX4_giveOne 0 = .ok (.iload_n 1, 1) := by decide +kernel
theorem dX4_giveOne_1 : decode cX4_giveOne 1 = .ok (.istore_n 3, 1) := by decide +kernel
theorem dX4_giveOne_2 : decode cX4_giveOne 2 = .ok (.iload_n 1, 1) := by decide +kernel
theorem dX4_giveOne_3 : decode cX4_giveOne 3 = .ok (.istore 4, 2) := by decide +kernel
theorem dX4_giveOne_5 : decode cX4_giveOne 5 = .ok (.iload 4, 2) := by decide +kernel
theorem dX4_giveOne_7 : decode cX4_giveOne 7 = .ok (.iload_n 2, 1) := by decide +kernel
theorem dX4_giveOne_8 : decode cX4_giveOne 8 = .ok (.if_icmp .ge 28, 3) := by decide +kernel
theorem dX4_giveOne_11 : decode cX4_giveOne 11 = .ok (.aload_n 0, 1) := by decide +kernel
theorem dX4_giveOne_12 : decode cX4_giveOne 12 = .ok (.getfield 15, 3) := by decide +kernel
theorem dX4_giveOne_15 : decode cX4_giveOne 15 = .ok (.iload 4, 2) := by decide +kernel
theorem dX4_giveOne_17 : decode cX4_giveOne 17 = .ok (.iaload, 1) := by decide +kernel
theorem dX4_giveOne_18 : decode cX4_giveOne 18 = .ok (.aload_n 0, 1) := by decide +kernel
theorem dX4_giveOne_19 : decode cX4_giveOne 19 = .ok (.getfield 15, 3) := by decide +kernel
theorem dX4_giveOne_22 : decode cX4_giveOne 22 = .ok (.iload_n 3, 1) := by decide +kernel
theorem dX4_giveOne_23 : decode cX4_giveOne 23 = .ok (.iaload, 1) := by decide +kernel
theorem dX4_giveOne_24 : decode cX4_giveOne 24 = .ok (.if_icmp .le 6, 3) := by decide +kernel
theorem dX4_giveOne_27 : decode cX4_giveOne 27 = .ok (.iload 4, 2) := by decide +kernel
theorem dX4_giveOne_29 : decode cX4_giveOne 29 = .ok (.istore_n 3, 1) := by decide +kernel
theorem dX4_giveOne_30 : decode cX4_giveOne 30 = .ok (.iinc 4 1, 3) := by decide +kernel
theorem dX4_giveOne_33 : decode cX4_giveOne 33 = .ok (.goto (-28), 3) := by decide +kernel
theorem dX4_giveOne_36 : decode cX4_giveOne 36 = .ok (.aload_n 0, 1) := by decide +kernel
theorem dX4_giveOne_37 : decode cX4_giveOne 37 = .ok (.getfield 9, 3) := by decide +kernel
theorem dX4_giveOne_40 : decode cX4_giveOne 40 = .ok (.iload_n 3, 1) := by decide +kernel
theorem dX4_giveOne_41 : decode cX4_giveOne 41 = .ok (.dup2, 1) := by decide +kernel
theorem dX4_giveOne_42 : decode cX4_giveOne 42 = .ok (.iaload, 1) := by decide +kernel
theorem dX4_giveOne_43 : decode cX4_giveOne 43 = .ok (.iconst 1, 1) := by decide +kernel
theorem dX4_giveOne_44 : decode cX4_giveOne 44 = .ok (.iadd, 1) := by decide +kernel
theorem dX4_giveOne_45 : decode cX4_giveOne 45 = .ok (.iastore, 1) := by decide +kernel
theorem dX4_giveOne_46 : decode cX4_giveOne 46 = .ok (.aload_n 0, 1) := by decide +kernel
theorem dX4_giveOne_47 : decode cX4_giveOne 47 = .ok (.getfield 15, 3) := by decide +kernel
theorem dX4_giveOne_50 : decode cX4_giveOne 50 = .ok (.iload_n 3, 1) := by decide +kernel
theorem dX4_giveOne_51 : decode cX4_giveOne 51 = .ok (.iconst (-1), 1) := by decide +kernel
theorem dX4_giveOne_52 : decode cX4_giveOne 52 = .ok (.iastore, 1) := by decide +kernel
theorem dX4_giveOne_53 : decode cX4_giveOne 53 = .ok (.return_, 1) := by decide +kernel
theorem dX5_init_0 : decode cX5_init 0 = .ok (.aload_n 0, 1) := by decide +kernel
theorem dX5_init_1 : decode cX5_init 1 = .ok (.invokespecial 3, 3) := by decide +kernel
theorem dX5_init_4 : decode cX5_init 4 = .ok (.aload_n 0, 1) := by decide +kernel
theorem dX5_init_5 : decode cX5_init 5 = .ok (.bipush 6, 2) := by decide +kernel
theorem dX5_init_7 : decode cX5_init 7 = .ok (.newarray .int, 2) := by decide +kernel
theorem dX5_init_9 : decode cX5_init 9 = .ok (.putfield 9, 3) := by decide +kernel
theorem dX5_init_12 : decode cX5_init 12 = .ok (.aload_n 0, 1) := by decide +kernel
theorem dX5_init_13 : decode cX5_init 13 = .ok (.bipush 6, 2) := by decide +kernel
theorem dX5_init_15 : decode cX5_init 15 = .ok (.newarray .int, 2) := by decide +kernel
theorem dX5_init_17 : decode cX5_init 17 = .ok (.putfield 15, 3) := by decide +kernel
theorem dX5_init_20 : decode cX5_init 20 = .ok (.aload_n 0, 1) := by decide +kernel
theorem dX5_init_21 : decode cX5_init 21 = .ok (.bipush 6, 2) := by decide +kernel
theorem dX5_init_23 : decode cX5_init 23 = .ok (.newarray .int, 2) := by decide +kernel
theorem dX5_init_25 : decode cX5_init 25 = .ok (.putfield 18, 3) := by decide +kernel
theorem dX5_init_28 : decode cX5_init 28 = .ok (.aload_n 0, 1) := by decide +kernel
theorem dX5_init_29 : decode cX5_init 29 = .ok (.new 21, 3) := by decide +kernel
theorem dX5_init_32 : decode cX5_init 32 = .ok (.dup, 1) := by decide +kernel
theorem dX5_init_33 : decode cX5_init 33 = .ok (.invokespecial 23, 3) := by decide +kernel
theorem dX5_init_36 : decode cX5_init 36 = .ok (.putfield 24, 3) := by decide +kernel
theorem dX5_init_39 : decode cX5_init 39 = .ok (.aload_n 0, 1) := by decide +kernel
theorem dX5_init_40 : decode cX5_init 40 = .ok (.bipush 6, 2) := by decide +kernel
theorem dX5_init_42 : decode cX5_init 42 = .ok (.newarray .int, 2) := by decide +kernel
theorem dX5_init_44 : decode cX5_init 44 = .ok (.putfield 28, 3) := by decide +kernel
theorem dX5_init_47 : decode cX5_init 47 = .ok (.aload_n 0, 1) := by decide +kernel
theorem dX5_init_48 : decode cX5_init 48 = .ok (.bipush 6, 2) := by decide +kernel
theorem dX5_init_50 : decode cX5_init 50 = .ok (.newarray .int, 2) := by decide +kernel
theorem dX5_init_52 : decode cX5_init 52 = .ok (.putfield 31, 3) := by decide +kernel
theorem dX5_init_55 : decode cX5_init 55 = .ok (.aload_n 0, 1) := by decide +kernel
theorem dX5_init_56 : decode cX5_init 56 = .ok (.bipush 6, 2) := by decide +kernel
theorem dX5_init_58 : decode cX5_init 58 = .ok (.newarray .int, 2) := by decide +kernel
theorem dX5_init_60 : decode cX5_init 60 = .ok (.putfield 34, 3) := by decide +kernel
theorem dX5_init_63 : decode cX5_init 63 = .ok (.aload_n 0, 1) := by decide +kernel
theorem dX5_init_64 : decode cX5_init 64 = .ok (.aload_n 1, 1) := by decide +kernel
theorem dX5_init_65 : decode cX5_init 65 = .ok (.putfield 37, 3) := by decide +kernel
theorem dX5_init_68 : decode cX5_init 68 = .ok (.aload_n 0, 1) := by decide +kernel
theorem dX5_init_69 : decode cX5_init 69 = .ok (.aload_n 2, 1) := by decide +kernel
theorem dX5_init_70 : decode cX5_init 70 = .ok (.putfield 41, 3) := by decide +kernel
theorem dX5_init_73 : decode cX5_init 73 = .ok (.return_, 1) := by decide +kernel
theorem dX5_forget_0 : decode cX5_forget 0 = .ok (.aload_n 0, 1) := by decide +kernel
theorem dX5_forget_1 : decode cX5_forget 1 = .ok (.getfield 9, 3) := by decide +kernel
theorem dX5_forget_4 : decode cX5_forget 4 = .ok (.iconst 0, 1) := by decide +kernel
theorem dX5_forget_5 : decode cX5_forget 5 = .ok (.invokestatic 45, 3) := by decide +kernel
theorem dX5_forget_8 : decode cX5_forget 8 = .ok (.return_, 1) := by decide +kernel
theorem dX5_measure_0 : decode cX5_measure 0 = .ok (.aload_n 0, 1) := by decide +kernel
theorem dX5_measure_1 : decode cX5_measure 1 = .ok (.iconst 0, 1) := by decide +kernel
theorem dX5_measure_2 : decode cX5_measure 2 = .ok (.aload_n 0, 1) := by decide +kernel
theorem dX5_measure_3 : decode cX5_measure 3 = .ok (.getfield 15, 3) := by decide +kernel
theorem dX5_measure_6 : decode cX5_measure 6 = .ok (.invokevirtual 51, 3) := by decide +kernel
theorem dX5_measure_9 : decode cX5_measure 9 = .ok (.aload_n 0, 1) := by decide +kernel
theorem dX5_measure_10 : decode cX5_measure 10 = .ok (.iconst 1, 1) := by decide +kernel
theorem dX5_measure_11 : decode cX5_measure 11 = .ok (.aload_n 0, 1) := by decide +kernel
theorem dX5_measure_12 : decode cX5_measure 12 = .ok (.getfield 18, 3) := by decide +kernel
theorem dX5_measure_15 : decode cX5_measure 15 = .ok (.invokevirtual 51, 3) := by decide +kernel
theorem dX5_measure_18 : decode cX5_measure 18 = .ok (.iconst 0, 1) := by decide +kernel
theorem dX5_measure_19 : decode cX5_measure 19 = .ok (.istore_n 1, 1) := by decide +kernel
theorem dX5_measure_20 : decode cX5_measure 20 = .ok (.iload_n 1, 1) := by decide +kernel
theorem dX5_measure_21 : decode cX5_measure 21 = .ok (.bipush 6, 2) := by decide +kernel
theorem dX5_measure_23 : decode cX5_measure 23 = .ok (.if_icmp .ge 30, 3) := by decide +kernel
theorem dX5_measure_26 : decode cX5_measure 26 = .ok (.aload_n 0, 1) := by decide +kernel
theorem dX5_measure_27 : decode cX5_measure 27 = .ok (.getfield 18, 3) := by decide +kernel
theorem dX5_measure_30 : decode cX5_measure 30 = .ok (.iload_n 1, 1) := by decide +kernel
theorem dX5_measure_31 : decode cX5_measure 31 = .ok (.aload_n 0, 1) := by decide +kernel
theorem dX5_measure_32 : decode cX5_measure 32 = .ok (.getfield 18, 3) := by decide +kernel
theorem dX5_measure_35 : decode cX5_measure 35 = .ok (.iload_n 1, 1) := by decide +kernel
theorem dX5_measure_36 : decode cX5_measure 36 = .ok (.iaload, 1) := by decide +kernel
theorem dX5_measure_37 : decode cX5_measure 37 = .ok (.aload_n 0, 1) := by decide +kernel
theorem dX5_measure_38 : decode cX5_measure 38 = .ok (.getfield 15, 3) := by decide +kernel
theorem dX5_measure_41 : decode cX5_measure 41 = .ok (.iload_n 1, 1) := by decide +kernel
theorem dX5_measure_42 : decode cX5_measure 42 = .ok (.iaload, 1) := by decide +kernel
theorem dX5_measure_43 : decode cX5_measure 43 = .ok (.invokestatic 55, 3) := by decide +kernel
theorem dX5_measure_46 : decode cX5_measure 46 = .ok (.iastore, 1) := by decide +kernel
theorem dX5_measure_47 : decode cX5_measure 47 = .ok (.iinc 1 1, 3) := by decide +kernel
theorem dX5_measure_50 : decode cX5_measure 50 = .ok (.goto (-30), 3) := by decide +kernel
theorem dX5_measure_53 : decode cX5_measure 53 = .ok (.return_, 1) := by decide +kernel
theorem dX5_measureFor_0 : decode cX5_measureFor 0 = .ok (.aload_n 2, 1) := by decide +kernel
theorem dX5_measureFor_1 : decode cX5_measureFor 1 = .ok (.iconst 0, 1) := by decide +kernel
theorem dX5_measureFor_2 : decode cX5_measureFor 2 = .ok (.invokestatic 45, 3) := by decide +kernel
theorem dX5_measureFor_5 : decode cX5_measureFor 5 = .ok (.iconst 1, 1) := by decide +kernel
theorem dX5_measureFor_6 : decode cX5_measureFor 6 = .ok (.istore_n 3, 1) := by decide +kernel
theorem dX5_measureFor_7 : decode cX5_measureFor 7 = .ok (.iload_n 3, 1) := by decide +kernel
theorem dX5_measureFor_8 : decode cX5_measureFor 8 = .ok (.aload_n 0, 1) := by decide +kernel
theorem dX5_measureFor_9 : decode cX5_measureFor 9 = .ok (.getfield 37, 3) := by decide +kernel
theorem dX5_measureFor_12 : decode cX5_measureFor 12 = .ok (.getfield 61, 3) := by decide +kernel
theorem dX5_measureFor_15 : decode cX5_measureFor 15 = .ok (.if_icmp .gt 95, 3) := by decide +kernel
theorem dX5_measureFor_18 : decode cX5_measureFor 18 = .ok (.aload_n 0, 1) := by decide +kernel
theorem dX5_measureFor_19 : decode cX5_measureFor 19 = .ok (.getfield 28, 3) := by decide +kernel
theorem dX5_measureFor_22 : decode cX5_measureFor 22 = .ok (.iconst 0, 1) := by decide +kernel
theorem dX5_measureFor_23 : decode cX5_measureFor 23 = .ok (.invokestatic 45, 3) := by decide +kernel
theorem dX5_measureFor_26 : decode cX5_measureFor 26 = .ok (.iconst 0, 1) := by decide +kernel
theorem dX5_measureFor_27 : decode cX5_measureFor 27 = .ok (.istore 4, 2) := by decide +kernel
theorem dX5_measureFor_29 : decode cX5_measureFor 29 = .ok (.iload 4, 2) := by decide +kernel
theorem dX5_measureFor_31 : decode cX5_measureFor 31 = .ok (.aload_n 0, 1) := by decide +kernel
theorem dX5_measureFor_32 : decode cX5_measureFor 32 = .ok (.getfield 37, 3) := by decide +kernel
theorem dX5_measureFor_35 : decode cX5_measureFor 35 = .ok (.getfield 67, 3) := by decide +kernel
theorem dX5_measureFor_38 : decode cX5_measureFor 38 = .ok (.if_icmp .ge 57, 3) := by decide +kernel
theorem dX5_measureFor_41 : decode cX5_measureFor 41 = .ok (.aload_n 0, 1) := by decide +kernel
theorem dX5_measureFor_42 : decode cX5_measureFor 42 = .ok (.getfield 37, 3) := by decide +kernel
theorem dX5_measureFor_45 : decode cX5_measureFor 45 = .ok (.iload 4, 2) := by decide +kernel
theorem dX5_measureFor_47 : decode cX5_measureFor 47 = .ok (.invokevirtual 70, 3) := by decide +kernel
theorem dX5_measureFor_50 : decode cX5_measureFor 50 = .ok (.astore 5, 2) := by decide +kernel
theorem dX5_measureFor_52 : decode cX5_measureFor 52 = .ok (.aload 5, 2) := by decide +kernel
theorem dX5_measureFor_54 : decode cX5_measureFor 54 = .ok (.ifnull 35, 3) := by decide +kernel
theorem dX5_measureFor_57 : decode cX5_measureFor 57 = .ok (.aload 5, 2) := by decide +kernel
theorem dX5_measureFor_59 : decode cX5_measureFor 59 = .ok (.getfield 74, 3) := by decide +kernel
theorem dX5_measureFor_62 : decode cX5_measureFor 62 = .ok (.iload_n 3, 1) := by decide +kernel
theorem dX5_measureFor_63 : decode cX5_measureFor 63 = .ok (.if_icmp .ne 26, 3) := by decide +kernel
theorem dX5_measureFor_66 : decode cX5_measureFor 66 = .ok (.aload_n 0, 1) := by decide +kernel
theorem dX5_measureFor_67 : decode cX5_measureFor 67 = .ok (.aload 5, 2) := by decide +kernel
theorem dX5_measureFor_69 : decode cX5_measureFor 69 = .ok (.aload 5, 2) := by decide +kernel
theorem dX5_measureFor_71 : decode cX5_measureFor 71 = .ok (.iload_n 1, 1) := by decide +kernel
theorem dX5_measureFor_72 : decode cX5_measureFor 72 = .ok (.invokevirtual 79, 3) := by decide +kernel
theorem dX5_measureFor_75 : decode cX5_measureFor 75 = .ok (.aload_n 0, 1) := by decide +kernel
theorem dX5_measureFor_76 : decode cX5_measureFor 76 = .ok (.getfield 37, 3) := by decide +kernel
theorem dX5_measureFor_79 : decode cX5_measureFor 79 = .ok (.aload 5, 2) := by decide +kernel
theorem dX5_measureFor_81 : decode cX5_measureFor 81 = .ok (.aload_n 2, 1) := by decide +kernel
theorem dX5_measureFor_82 : decode cX5_measureFor 82 = .ok (.invokevirtual 83, 3) := by decide +kernel
theorem dX5_measureFor_85 : decode cX5_measureFor 85 = .ok (.isub, 1) := by decide +kernel
theorem dX5_measureFor_86 : decode cX5_measureFor 86 = .ok (.invokevirtual 87, 3) := by decide +kernel
theorem dX5_measureFor_89 : decode cX5_measureFor 89 = .ok (.iinc 4 1, 3) := by decide +kernel
theorem dX5_measureFor_92 : decode cX5_measureFor 92 = .ok (.goto (-63), 3) := by decide +kernel
theorem dX5_measureFor_95 : decode cX5_measureFor 95 = .ok (.aload_n 0, 1) := by decide +kernel
theorem dX5_measureFor_96 : decode cX5_measureFor 96 = .ok (.aload_n 2, 1) := by decide +kernel
theorem dX5_measureFor_97 : decode cX5_measureFor 97 = .ok (.aload_n 0, 1) := by decide +kernel
theorem dX5_measureFor_98 : decode cX5_measureFor 98 = .ok (.getfield 28, 3) := by decide +kernel
theorem dX5_measureFor_101 : decode cX5_measureFor 101 = .ok (.invokevirtual 91, 3) := by decide +kernel
theorem dX5_measureFor_104 : decode cX5_measureFor 104 = .ok (.iinc 3 1, 3) := by decide +kernel
theorem dX5_measureFor_107 : decode cX5_measureFor 107 = .ok (.goto (-100), 3) := by decide +kernel
theorem dX5_measureFor_110 : decode cX5_measureFor 110 = .ok (.return_, 1) := by decide +kernel
theorem dX5_noteLack_0 : decode cX5_noteLack 0 = .ok (.iload_n 2, 1) := by decide +kernel
theorem dX5_noteLack_1 : decode cX5_noteLack 1 = .ok (.ifCond .gt 4, 3) := by decide +kernel
theorem dX5_noteLack_4 : decode cX5_noteLack 4 = .ok (.return_, 1) := by decide +kernel
theorem dX5_noteLack_5 : decode cX5_noteLack 5 = .ok (.aload_n 0, 1) := by decide +kernel
theorem dX5_noteLack_6 : decode cX5_noteLack 6 = .ok (.getfield 24, 3) := by decide +kernel
theorem dX5_noteLack_9 : decode cX5_noteLack 9 = .ok (.iload_n 2, 1) := by decide +kernel
theorem dX5_noteLack_10 : decode cX5_noteLack 10 = .ok (.aload_n 0, 1) := by decide +kernel
theorem dX5_noteLack_11 : decode cX5_noteLack 11 = .ok (.getfield 37, 3) := by decide +kernel
theorem dX5_noteLack_14 : decode cX5_noteLack 14 = .ok (.getfield 95, 3) := by decide +kernel
theorem dX5_noteLack_17 : decode cX5_noteLack 17 = .ok (.aload_n 1, 1) := by decide +kernel
theorem dX5_noteLack_18 : decode cX5_noteLack 18 = .ok (.getfield 98, 3) := by decide +kernel
theorem dX5_noteLack_21 : decode cX5_noteLack 21 = .ok (.aload_n 1, 1) := by decide +kernel
theorem dX5_noteLack_22 : decode cX5_noteLack 22 = .ok (.getfield 98, 3) := by decide +kernel
theorem dX5_noteLack_25 : decode cX5_noteLack 25 = .ok (.aload_n 1, 1) := by decide +kernel
theorem dX5_noteLack_26 : decode cX5_noteLack 26 = .ok (.getfield 74, 3) := by decide +kernel
theorem dX5_noteLack_29 : decode cX5_noteLack 29 = .ok (.iadd, 1) := by decide +kernel
theorem dX5_noteLack_30 : decode cX5_noteLack 30 = .ok (.invokevirtual 101, 3) := by decide +kernel
theorem dX5_noteLack_33 : decode cX5_noteLack 33 = .ok (.iconst 0, 1) := by decide +kernel
theorem dX5_noteLack_34 : decode cX5_noteLack 34 = .ok (.istore_n 3, 1) := by decide +kernel
theorem dX5_noteLack_35 : decode cX5_noteLack 35 = .ok (.iload_n 3, 1) := by decide +kernel
theorem dX5_noteLack_36 : decode cX5_noteLack 36 = .ok (.bipush 6, 2) := by decide +kernel
theorem dX5_noteLack_38 : decode cX5_noteLack 38 = .ok (.if_icmp .ge 33, 3) := by decide +kernel
theorem dX5_noteLack_41 : decode cX5_noteLack 41 = .ok (.aload_n 0, 1) := by decide +kernel
theorem dX5_noteLack_42 : decode cX5_noteLack 42 = .ok (.getfield 28, 3) := by decide +kernel
theorem dX5_noteLack_45 : decode cX5_noteLack 45 = .ok (.iload_n 3, 1) := by decide +kernel
theorem dX5_noteLack_46 : decode cX5_noteLack 46 = .ok (.aload_n 0, 1) := by decide +kernel
theorem dX5_noteLack_47 : decode cX5_noteLack 47 = .ok (.getfield 28, 3) := by decide +kernel
theorem dX5_noteLack_50 : decode cX5_noteLack 50 = .ok (.iload_n 3, 1) := by decide +kernel
theorem dX5_noteLack_51 : decode cX5_noteLack 51 = .ok (.iaload, 1) := by decide +kernel
theorem dX5_noteLack_52 : decode cX5_noteLack 52 = .ok (.aload_n 0, 1) := by decide +kernel
theorem dX5_noteLack_53 : decode cX5_noteLack 53 = .ok (.getfield 24, 3) := by decide +kernel
theorem dX5_noteLack_56 : decode cX5_noteLack 56 = .ok (.getfield 105, 3) := by decide +kernel
theorem dX5_noteLack_59 : decode cX5_noteLack 59 = .ok (.iload_n 3, 1) := by decide +kernel
theorem dX5_noteLack_60 : decode cX5_noteLack 60 = .ok (.iaload, 1) := by decide +kernel
theorem dX5_noteLack_61 : decode cX5_noteLack 61 = .ok (.invokestatic 55, 3) := by decide +kernel
theorem dX5_noteLack_64 : decode cX5_noteLack 64 = .ok (.iastore, 1) := by decide +kernel
theorem dX5_noteLack_65 : decode cX5_noteLack 65 = .ok (.iinc 3 1, 3) := by decide +kernel
theorem dX5_noteLack_68 : decode cX5_noteLack 68 = .ok (.goto (-33), 3) := by decide +kernel
theorem dX5_noteLack_71 : decode cX5_noteLack 71 = .ok (.return_, 1) := by decide +kernel
theorem dX5_addTo_0 : decode cX5_addTo 0 = .ok (.iconst 0, 1) := by decide +kernel
theorem dX5_addTo_1 : decode cX5_addTo 1 = .ok (.istore_n 3, 1) := by decide +kernel
theorem dX5_addTo_2 : decode cX5_addTo 2 = .ok (.iload_n 3, 1) := by decide +kernel
theorem dX5_addTo_3 : decode cX5_addTo 3 = .ok (.aload_n 0, 1) := by decide +kernel
theorem dX5_addTo_4 : decode cX5_addTo 4 = .ok (.getfield 37, 3) := by decide +kernel
theorem dX5_addTo_7 : decode cX5_addTo 7 = .ok (.getfield 61, 3) := by decide +kernel
theorem dX5_addTo_10 : decode cX5_addTo 10 = .ok (.if_icmp .ge 30, 3) := by decide +kernel
theorem dX5_addTo_13 : decode cX5_addTo 13 = .ok (.iload_n 3, 1) := by decide +kernel
theorem dX5_addTo_14 : decode cX5_addTo 14 = .ok (.aload_n 1, 1) := by decide +kernel
theorem dX5_addTo_15 : decode cX5_addTo 15 = .ok (.arraylength, 1) := by decide +kernel
theorem dX5_addTo_16 : decode cX5_addTo 16 = .ok (.if_icmp .ge 24, 3) := by decide +kernel
theorem dX5_addTo_19 : decode cX5_addTo 19 = .ok (.iload_n 3, 1) := by decide +kernel
theorem dX5_addTo_20 : decode cX5_addTo 20 = .ok (.aload_n 2, 1) := by decide +kernel
theorem dX5_addTo_21 : decode cX5_addTo 21 = .ok (.arraylength, 1) := by decide +kernel
theorem dX5_addTo_22 : decode cX5_addTo 22 = .ok (.if_icmp .ge 18, 3) := by decide +kernel
theorem dX5_addTo_25 : decode cX5_addTo 25 = .ok (.aload_n 1, 1) := by decide +kernel
theorem dX5_addTo_26 : decode cX5_addTo 26 = .ok (.iload_n 3, 1) := by decide +kernel
theorem dX5_addTo_27 : decode cX5_addTo 27 = .ok (.dup2, 1) := by decide +kernel
theorem dX5_addTo_28 : decode cX5_addTo 28 = .ok (.iaload, 1) := by decide +kernel
theorem dX5_addTo_29 : decode cX5_addTo 29 = .ok (.aload_n 2, 1) := by decide +kernel
theorem dX5_addTo_30 : decode cX5_addTo 30 = .ok (.iload_n 3, 1) := by decide +kernel
theorem dX5_addTo_31 : decode cX5_addTo 31 = .ok (.iaload, 1) := by decide +kernel
theorem dX5_addTo_32 : decode cX5_addTo 32 = .ok (.iadd, 1) := by decide +kernel
theorem dX5_addTo_33 : decode cX5_addTo 33 = .ok (.iastore, 1) := by decide +kernel
theorem dX5_addTo_34 : decode cX5_addTo 34 = .ok (.iinc 3 1, 3) := by decide +kernel
theorem dX5_addTo_37 : decode cX5_addTo 37 = .ok (.goto (-35), 3) := by decide +kernel
theorem dX5_addTo_40 : decode cX5_addTo 40 = .ok (.return_, 1) := by decide +kernel
theorem dX5_spareOf_0 : decode cX5_spareOf 0 = .ok (.iload_n 1, 1) := by decide +kernel
theorem dX5_spareOf_1 : decode cX5_spareOf 1 = .ok (.aload_n 0, 1) := by decide +kernel
theorem dX5_spareOf_2 : decode cX5_spareOf 2 = .ok (.getfield 37, 3) := by decide +kernel
theorem dX5_spareOf_5 : decode cX5_spareOf 5 = .ok (.invokevirtual 108, 3) := by decide +kernel
theorem dX5_spareOf_8 : decode cX5_spareOf 8 = .ok (.isub, 1) := by decide +kernel
theorem dX5_spareOf_9 : decode cX5_spareOf 9 = .ok (.aload_n 0, 1) := by decide +kernel
theorem dX5_spareOf_10 : decode cX5_spareOf 10 = .ok (.aload_n 0, 1) := by decide +kernel
theorem dX5_spareOf_11 : decode cX5_spareOf 11 = .ok (.getfield 15, 3) := by decide +kernel
theorem dX5_spareOf_14 : decode cX5_spareOf 14 = .ok (.invokevirtual 112, 3) := by decide +kernel
theorem dX5_spareOf_17 : decode cX5_spareOf 17 = .ok (.isub, 1) := by decide +kernel
theorem dX5_spareOf_18 : decode cX5_spareOf 18 = .ok (.ireturn, 1) := by decide +kernel
theorem dX5_sumOf_0 : decode cX5_sumOf 0 = .ok (.iconst 0, 1) := by decide +kernel
theorem dX5_sumOf_1 : decode cX5_sumOf 1 = .ok (.istore_n 2, 1) := by decide +kernel
theorem dX5_sumOf_2 : decode cX5_sumOf 2 = .ok (.iconst 0, 1) := by decide +kernel
theorem dX5_sumOf_3 : decode cX5_sumOf 3 = .ok (.istore_n 3, 1) := by decide +kernel
theorem dX5_sumOf_4 : decode cX5_sumOf 4 = .ok (.iload_n 3, 1) := by decide +kernel
theorem dX5_sumOf_5 : decode cX5_sumOf 5 = .ok (.aload_n 0, 1) := by decide +kernel
theorem dX5_sumOf_6 : decode cX5_sumOf 6 = .ok (.getfield 37, 3) := by decide +kernel
theorem dX5_sumOf_9 : decode cX5_sumOf 9 = .ok (.getfield 61, 3) := by decide +kernel
theorem dX5_sumOf_12 : decode cX5_sumOf 12 = .ok (.if_icmp .ge 21, 3) := by decide +kernel
theorem dX5_sumOf_15 : decode cX5_sumOf 15 = .ok (.iload_n 3, 1) := by decide +kernel
theorem dX5_sumOf_16 : decode cX5_sumOf 16 = .ok (.aload_n 1, 1) := by decide +kernel
theorem dX5_sumOf_17 : decode cX5_sumOf 17 = .ok (.arraylength, 1) := by decide +kernel
theorem dX5_sumOf_18 : decode cX5_sumOf 18 = .ok (.if_icmp .ge 15, 3) := by decide +kernel
theorem dX5_sumOf_21 : decode cX5_sumOf 21 = .ok (.iload_n 2, 1) := by decide +kernel
theorem dX5_sumOf_22 : decode cX5_sumOf 22 = .ok (.aload_n 1, 1) := by decide +kernel
theorem dX5_sumOf_23 : decode cX5_sumOf 23 = .ok (.iload_n 3, 1) := by decide +kernel
theorem dX5_sumOf_24 : decode cX5_sumOf 24 = .ok (.iaload, 1) := by decide +kernel
theorem dX5_sumOf_25 : decode cX5_sumOf 25 = .ok (.iadd, 1) := by decide +kernel
theorem dX5_sumOf_26 : decode cX5_sumOf 26 = .ok (.istore_n 2, 1) := by decide +kernel
theorem dX5_sumOf_27 : decode cX5_sumOf 27 = .ok (.iinc 3 1, 3) := by decide +kernel
theorem dX5_sumOf_30 : decode cX5_sumOf 30 = .ok (.goto (-26), 3) := by decide +kernel
theorem dX5_sumOf_33 : decode cX5_sumOf 33 = .ok (.iload_n 2, 1) := by decide +kernel
theorem dX5_sumOf_34 : decode cX5_sumOf 34 = .ok (.ireturn, 1) := by decide +kernel
theorem dX5_spread_0 : decode cX5_spread 0 = .ok (.iload_n 1, 1) := by decide +kernel
theorem dX5_spread_1 : decode cX5_spread 1 = .ok (.aload_n 0, 1) := by decide +kernel
theorem dX5_spread_2 : decode cX5_spread 2 = .ok (.aload_n 0, 1) := by decide +kernel
theorem dX5_spread_3 : decode cX5_spread 3 = .ok (.getfield 18, 3) := by decide +kernel
theorem dX5_spread_6 : decode cX5_spread 6 = .ok (.invokevirtual 112, 3) := by decide +kernel
theorem dX5_spread_9 : decode cX5_spread 9 = .ok (.aload_n 0, 1) := by decide +kernel
theorem dX5_spread_10 : decode cX5_spread 10 = .ok (.aload_n 0, 1) := by decide +kernel
theorem dX5_spread_11 : decode cX5_spread 11 = .ok (.getfield 15, 3) := by decide +kernel
theorem dX5_spread_14 : decode cX5_spread 14 = .ok (.invokevirtual 112, 3) := by decide +kernel
theorem dX5_spread_17 : decode cX5_spread 17 = .ok (.isub, 1) := by decide +kernel
theorem dX5_spread_18 : decode cX5_spread 18 = .ok (.isub, 1) := by decide +kernel
theorem dX5_spread_19 : decode cX5_spread 19 = .ok (.istore_n 2, 1) := by decide +kernel
theorem dX5_spread_20 : decode cX5_spread 20 = .ok (.iload_n 2, 1) := by decide +kernel
theorem dX5_spread_21 : decode cX5_spread 21 = .ok (.ifCond .le 44, 3) := by decide +kernel
theorem dX5_spread_24 : decode cX5_spread 24 = .ok (.aload_n 0, 1) := by decide +kernel
theorem dX5_spread_25 : decode cX5_spread 25 = .ok (.getfield 24, 3) := by decide +kernel
theorem dX5_spread_28 : decode cX5_spread 28 = .ok (.iload_n 2, 1) := by decide +kernel
theorem dX5_spread_29 : decode cX5_spread 29 = .ok (.aload_n 0, 1) := by decide +kernel
theorem dX5_spread_30 : decode cX5_spread 30 = .ok (.getfield 37, 3) := by decide +kernel
theorem dX5_spread_33 : decode cX5_spread 33 = .ok (.getfield 95, 3) := by decide +kernel
theorem dX5_spread_36 : decode cX5_spread 36 = .ok (.iconst 0, 1) := by decide +kernel
theorem dX5_spread_37 : decode cX5_spread 37 = .ok (.aload_n 0, 1) := by decide +kernel
theorem dX5_spread_38 : decode cX5_spread 38 = .ok (.getfield 37, 3) := by decide +kernel
theorem dX5_spread_41 : decode cX5_spread 41 = .ok (.getfield 61, 3) := by decide +kernel
theorem dX5_spread_44 : decode cX5_spread 44 = .ok (.invokevirtual 101, 3) := by decide +kernel
theorem dX5_spread_47 : decode cX5_spread 47 = .ok (.aload_n 0, 1) := by decide +kernel
theorem dX5_spread_48 : decode cX5_spread 48 = .ok (.getfield 18, 3) := by decide +kernel
theorem dX5_spread_51 : decode cX5_spread 51 = .ok (.iconst 0, 1) := by decide +kernel
theorem dX5_spread_52 : decode cX5_spread 52 = .ok (.aload_n 0, 1) := by decide +kernel
theorem dX5_spread_53 : decode cX5_spread 53 = .ok (.getfield 9, 3) := by decide +kernel
theorem dX5_spread_56 : decode cX5_spread 56 = .ok (.iconst 0, 1) := by decide +kernel
theorem dX5_spread_57 : decode cX5_spread 57 = .ok (.bipush 6, 2) := by decide +kernel
theorem dX5_spread_59 : decode cX5_spread 59 = .ok (.invokestatic 116, 3) := by decide +kernel
theorem dX5_spread_62 : decode cX5_spread 62 = .ok (.goto 92, 3) := by decide +kernel
theorem dX5_spread_65 : decode cX5_spread 65 = .ok (.iconst 0, 1) := by decide +kernel
theorem dX5_spread_66 : decode cX5_spread 66 = .ok (.istore_n 3, 1) := by decide +kernel
theorem dX5_spread_67 : decode cX5_spread 67 = .ok (.iload_n 3, 1) := by decide +kernel
theorem dX5_spread_68 : decode cX5_spread 68 = .ok (.bipush 6, 2) := by decide +kernel
theorem dX5_spread_70 : decode cX5_spread 70 = .ok (.if_icmp .ge 28, 3) := by decide +kernel
theorem dX5_spread_73 : decode cX5_spread 73 = .ok (.aload_n 0, 1) := by decide +kernel
theorem dX5_spread_74 : decode cX5_spread 74 = .ok (.getfield 31, 3) := by decide +kernel
theorem dX5_spread_77 : decode cX5_spread 77 = .ok (.iload_n 3, 1) := by decide +kernel
theorem dX5_spread_78 : decode cX5_spread 78 = .ok (.aload_n 0, 1) := by decide +kernel
theorem dX5_spread_79 : decode cX5_spread 79 = .ok (.getfield 18, 3) := by decide +kernel
theorem dX5_spread_82 : decode cX5_spread 82 = .ok (.iload_n 3, 1) := by decide +kernel
theorem dX5_spread_83 : decode cX5_spread 83 = .ok (.iaload, 1) := by decide +kernel
theorem dX5_spread_84 : decode cX5_spread 84 = .ok (.aload_n 0, 1) := by decide +kernel
theorem dX5_spread_85 : decode cX5_spread 85 = .ok (.getfield 15, 3) := by decide +kernel
theorem dX5_spread_88 : decode cX5_spread 88 = .ok (.iload_n 3, 1) := by decide +kernel
theorem dX5_spread_89 : decode cX5_spread 89 = .ok (.iaload, 1) := by decide +kernel
theorem dX5_spread_90 : decode cX5_spread 90 = .ok (.isub, 1) := by decide +kernel
theorem dX5_spread_91 : decode cX5_spread 91 = .ok (.iastore, 1) := by decide +kernel
theorem dX5_spread_92 : decode cX5_spread 92 = .ok (.iinc 3 1, 3) := by decide +kernel
theorem dX5_spread_95 : decode cX5_spread 95 = .ok (.goto (-28), 3) := by decide +kernel
theorem dX5_spread_98 : decode cX5_spread 98 = .ok (.aload_n 0, 1) := by decide +kernel
theorem dX5_spread_99 : decode cX5_spread 99 = .ok (.getfield 24, 3) := by decide +kernel
theorem dX5_spread_102 : decode cX5_spread 102 = .ok (.iload_n 1, 1) := by decide +kernel
theorem dX5_spread_103 : decode cX5_spread 103 = .ok (.aload_n 0, 1) := by decide +kernel
theorem dX5_spread_104 : decode cX5_spread 104 = .ok (.aload_n 0, 1) := by decide +kernel
theorem dX5_spread_105 : decode cX5_spread 105 = .ok (.getfield 31, 3) := by decide +kernel
theorem dX5_spread_108 : decode cX5_spread 108 = .ok (.invokevirtual 112, 3) := by decide +kernel
theorem dX5_spread_111 : decode cX5_spread 111 = .ok (.ifCond .le 10, 3) := by decide +kernel
theorem dX5_spread_114 : decode cX5_spread 114 = .ok (.aload_n 0, 1) := by decide +kernel
theorem dX5_spread_115 : decode cX5_spread 115 = .ok (.getfield 31, 3) := by decide +kernel
theorem dX5_spread_118 : decode cX5_spread 118 = .ok (.goto 10, 3) := by decide +kernel
theorem dX5_spread_121 : decode cX5_spread 121 = .ok (.aload_n 0, 1) := by decide +kernel
theorem dX5_spread_122 : decode cX5_spread 122 = .ok (.getfield 37, 3) := by decide +kernel
theorem dX5_spread_125 : decode cX5_spread 125 = .ok (.getfield 95, 3) := by decide +kernel
theorem dX5_spread_128 : decode cX5_spread 128 = .ok (.iconst 0, 1) := by decide +kernel
theorem dX5_spread_129 : decode cX5_spread 129 = .ok (.aload_n 0, 1) := by decide +kernel
theorem dX5_spread_130 : decode cX5_spread 130 = .ok (.getfield 37, 3) := by decide +kernel
theorem dX5_spread_133 : decode cX5_spread 133 = .ok (.getfield 61, 3) := by decide +kernel
theorem dX5_spread_136 : decode cX5_spread 136 = .ok (.invokevirtual 101, 3) := by decide +kernel
theorem dX5_spread_139 : decode cX5_spread 139 = .ok (.aload_n 0, 1) := by decide +kernel
theorem dX5_spread_140 : decode cX5_spread 140 = .ok (.getfield 15, 3) := by decide +kernel
theorem dX5_spread_143 : decode cX5_spread 143 = .ok (.iconst 0, 1) := by decide +kernel
theorem dX5_spread_144 : decode cX5_spread 144 = .ok (.aload_n 0, 1) := by decide +kernel
theorem dX5_spread_145 : decode cX5_spread 145 = .ok (.getfield 9, 3) := by decide +kernel
theorem dX5_spread_148 : decode cX5_spread 148 = .ok (.iconst 0, 1) := by decide +kernel
theorem dX5_spread_149 : decode cX5_spread 149 = .ok (.bipush 6, 2) := by decide +kernel
theorem dX5_spread_151 : decode cX5_spread 151 = .ok (.invokestatic 116, 3) := by decide +kernel
theorem dX5_spread_154 : decode cX5_spread 154 = .ok (.aload_n 0, 1) := by decide +kernel
theorem dX5_spread_155 : decode cX5_spread 155 = .ok (.aload_n 0, 1) := by decide +kernel
theorem dX5_spread_156 : decode cX5_spread 156 = .ok (.getfield 9, 3) := by decide +kernel
theorem dX5_spread_159 : decode cX5_spread 159 = .ok (.aload_n 0, 1) := by decide +kernel
theorem dX5_spread_160 : decode cX5_spread 160 = .ok (.getfield 24, 3) := by decide +kernel
theorem dX5_spread_163 : decode cX5_spread 163 = .ok (.getfield 105, 3) := by decide +kernel
theorem dX5_spread_166 : decode cX5_spread 166 = .ok (.invokevirtual 91, 3) := by decide +kernel
theorem dX5_spread_169 : decode cX5_spread 169 = .ok (.return_, 1) := by decide +kernel
theorem dX5_waysToSpread_0 : decode cX5_waysToSpread 0 = .ok (.lconst 1, 1) := by decide +kernel
theorem dX5_waysToSpread_1 : decode cX5_waysToSpread 1 = .ok (.lstore_n 2, 1) := by decide +kernel
theorem dX5_waysToSpread_2 : decode cX5_waysToSpread 2 = .ok (.iconst 1, 1) := by decide +kernel
theorem dX5_waysToSpread_3 : decode cX5_waysToSpread 3 = .ok (.istore 4, 2) := by decide +kernel
theorem dX5_waysToSpread_5 : decode cX5_waysToSpread 5 = .ok (.iload 4, 2) := by decide +kernel
theorem dX5_waysToSpread_7 : decode cX5_waysToSpread 7 = .ok (.aload_n 0, 1) := by decide +kernel
theorem dX5_waysToSpread_8 : decode cX5_waysToSpread 8 = .ok (.getfield 37, 3) := by decide +kernel
theorem dX5_waysToSpread_11 : decode cX5_waysToSpread 11 = .ok (.getfield 61, 3) := by decide +kernel
theorem dX5_waysToSpread_14 : decode cX5_waysToSpread 14 = .ok (.if_icmp .ge 21, 3) := by decide +kernel
theorem dX5_waysToSpread_17 : decode cX5_waysToSpread 17 = .ok (.lload_n 2, 1) := by decide +kernel
theorem dX5_waysToSpread_18 : decode cX5_waysToSpread 18 = .ok (.iload_n 1, 1) := by decide +kernel
theorem dX5_waysToSpread_19 : decode cX5_waysToSpread 19 = .ok (.iload 4, 2) := by decide +kernel
theorem dX5_waysToSpread_21 : decode cX5_waysToSpread 21 = .ok (.iadd, 1) := by decide +kernel
theorem dX5_waysToSpread_22 : decode cX5_waysToSpread 22 = .ok (.i2l, 1) := by decide +kernel
theorem dX5_waysToSpread_23 : decode cX5_waysToSpread 23 = .ok (.lmul, 1) := by decide +kernel
theorem dX5_waysToSpread_24 : decode cX5_waysToSpread 24 = .ok (.iload 4, 2) := by decide +kernel
theorem dX5_waysToSpread_26 : decode cX5_waysToSpread 26 = .ok (.i2l, 1) := by decide +kernel
theorem dX5_waysToSpread_27 : decode cX5_waysToSpread 27 = .ok (.ldiv, 1) := by decide +kernel
theorem dX5_waysToSpread_28 : decode cX5_waysToSpread 28 = .ok (.lstore_n 2, 1) := by decide +kernel
theorem dX5_waysToSpread_29 : decode cX5_waysToSpread 29 = .ok (.iinc 4 1, 3) := by decide +kernel
theorem dX5_waysToSpread_32 : decode cX5_waysToSpread 32 = .ok (.goto (-27), 3) := by decide +kernel
theorem dX5_waysToSpread_35 : decode cX5_waysToSpread 35 = .ok (.lload_n 2, 1) := by decide +kernel
theorem dX5_waysToSpread_36 : decode cX5_waysToSpread 36 = .ok (.lreturn, 1) := by decide +kernel
theorem dX5_tighten_0 : decode cX5_tighten 0 = .ok (.aload_n 0, 1) := by decide +kernel
theorem dX5_tighten_1 : decode cX5_tighten 1 = .ok (.getfield 15, 3) := by decide +kernel
theorem dX5_tighten_4 : decode cX5_tighten 4 = .ok (.iconst 0, 1) := by decide +kernel
theorem dX5_tighten_5 : decode cX5_tighten 5 = .ok (.aload_n 0, 1) := by decide +kernel
theorem dX5_tighten_6 : decode cX5_tighten 6 = .ok (.getfield 34, 3) := by decide +kernel
theorem dX5_tighten_9 : decode cX5_tighten 9 = .ok (.iconst 0, 1) := by decide +kernel
theorem dX5_tighten_10 : decode cX5_tighten 10 = .ok (.bipush 6, 2) := by decide +kernel
theorem dX5_tighten_12 : decode cX5_tighten 12 = .ok (.invokestatic 116, 3) := by decide +kernel
theorem dX5_tighten_15 : decode cX5_tighten 15 = .ok (.aload_n 0, 1) := by decide +kernel
theorem dX5_tighten_16 : decode cX5_tighten 16 = .ok (.iload_n 1, 1) := by decide +kernel
theorem dX5_tighten_17 : decode cX5_tighten 17 = .ok (.invokevirtual 122, 3) := by decide +kernel
theorem dX5_tighten_20 : decode cX5_tighten 20 = .ok (.aload_n 0, 1) := by decide +kernel
theorem dX5_tighten_21 : decode cX5_tighten 21 = .ok (.getfield 41, 3) := by decide +kernel
theorem dX5_tighten_24 : decode cX5_tighten 24 = .ok (.invokevirtual 126, 3) := by decide +kernel
theorem dX5_tighten_27 : decode cX5_tighten 27 = .ok (.iconst 0, 1) := by decide +kernel
theorem dX5_tighten_28 : decode cX5_tighten 28 = .ok (.istore_n 3, 1) := by decide +kernel
theorem dX5_tighten_29 : decode cX5_tighten 29 = .ok (.iconst 0, 1) := by decide +kernel
theorem dX5_tighten_30 : decode cX5_tighten 30 = .ok (.istore 4, 2) := by decide +kernel
theorem dX5_tighten_32 : decode cX5_tighten 32 = .ok (.iload 4, 2) := by decide +kernel
theorem dX5_tighten_34 : decode cX5_tighten 34 = .ok (.iload_n 2, 1) := by decide +kernel
theorem dX5_tighten_35 : decode cX5_tighten 35 = .ok (.if_icmp .ge 55, 3) := by decide +kernel
theorem dX5_tighten_38 : decode cX5_tighten 38 = .ok (.aload_n 0, 1) := by decide +kernel
theorem dX5_tighten_39 : decode cX5_tighten 39 = .ok (.getfield 41, 3) := by decide +kernel
theorem dX5_tighten_42 : decode cX5_tighten 42 = .ok (.aload_n 0, 1) := by decide +kernel
theorem dX5_tighten_43 : decode cX5_tighten 43 = .ok (.getfield 34, 3) := by decide +kernel
theorem dX5_tighten_46 : decode cX5_tighten 46 = .ok (.invokevirtual 131, 3) := by decide +kernel
theorem dX5_tighten_49 : decode cX5_tighten 49 = .ok (.istore 5, 2) := by decide +kernel
theorem dX5_tighten_51 : decode cX5_tighten 51 = .ok (.iload 4, 2) := by decide +kernel
theorem dX5_tighten_53 : decode cX5_tighten 53 = .ok (.ifCond .eq 9, 3) := by decide +kernel
theorem dX5_tighten_56 : decode cX5_tighten 56 = .ok (.iload 5, 2) := by decide +kernel
theorem dX5_tighten_58 : decode cX5_tighten 58 = .ok (.iload_n 3, 1) := by decide +kernel
theorem dX5_tighten_59 : decode cX5_tighten 59 = .ok (.if_icmp .ge 21, 3) := by decide +kernel
theorem dX5_tighten_62 : decode cX5_tighten 62 = .ok (.iload 5, 2) := by decide +kernel
theorem dX5_tighten_64 : decode cX5_tighten 64 = .ok (.istore_n 3, 1) := by decide +kernel
theorem dX5_tighten_65 : decode cX5_tighten 65 = .ok (.aload_n 0, 1) := by decide +kernel
theorem dX5_tighten_66 : decode cX5_tighten 66 = .ok (.getfield 34, 3) := by decide +kernel
theorem dX5_tighten_69 : decode cX5_tighten 69 = .ok (.iconst 0, 1) := by decide +kernel
theorem dX5_tighten_70 : decode cX5_tighten 70 = .ok (.aload_n 0, 1) := by decide +kernel
theorem dX5_tighten_71 : decode cX5_tighten 71 = .ok (.getfield 9, 3) := by decide +kernel
theorem dX5_tighten_74 : decode cX5_tighten 74 = .ok (.iconst 0, 1) := by decide +kernel
theorem dX5_tighten_75 : decode cX5_tighten 75 = .ok (.bipush 6, 2) := by decide +kernel
theorem dX5_tighten_77 : decode cX5_tighten 77 = .ok (.invokestatic 116, 3) := by decide +kernel
theorem dX5_tighten_80 : decode cX5_tighten 80 = .ok (.aload_n 0, 1) := by decide +kernel
theorem dX5_tighten_81 : decode cX5_tighten 81 = .ok (.invokevirtual 134, 3) := by decide +kernel
theorem dX5_tighten_84 : decode cX5_tighten 84 = .ok (.iinc 4 1, 3) := by decide +kernel
theorem dX5_tighten_87 : decode cX5_tighten 87 = .ok (.goto (-55), 3) := by decide +kernel
theorem dX5_tighten_90 : decode cX5_tighten 90 = .ok (.iload_n 3, 1) := by decide +kernel
theorem dX5_tighten_91 : decode cX5_tighten 91 = .ok (.ireturn, 1) := by decide +kernel
theorem dX5_tryNext_0 : decode cX5_tryNext 0 = .ok (.aload_n 0, 1) := by decide +kernel
theorem dX5_tryNext_1 : decode cX5_tryNext 1 = .ok (.getfield 37, 3) := by decide +kernel
theorem dX5_tryNext_4 : decode cX5_tryNext 4 = .ok (.getfield 61, 3) := by decide +kernel
theorem dX5_tryNext_7 : decode cX5_tryNext 7 = .ok (.bipush 6, 2) := by decide +kernel
theorem dX5_tryNext_9 : decode cX5_tryNext 9 = .ok (.invokestatic 137, 3) := by decide +kernel
theorem dX5_tryNext_12 : decode cX5_tryNext 12 = .ok (.iconst 1, 1) := by decide +kernel
theorem dX5_tryNext_13 : decode cX5_tryNext 13 = .ok (.isub, 1) := by decide +kernel
theorem dX5_tryNext_14 : decode cX5_tryNext 14 = .ok (.istore_n 1, 1) := by decide +kernel
theorem dX5_tryNext_15 : decode cX5_tryNext 15 = .ok (.iload_n 1, 1) := by decide +kernel
theorem dX5_tryNext_16 : decode cX5_tryNext 16 = .ok (.ifCond .le 24, 3) := by decide +kernel
theorem dX5_tryNext_19 : decode cX5_tryNext 19 = .ok (.aload_n 0, 1) := by decide +kernel
theorem dX5_tryNext_20 : decode cX5_tryNext 20 = .ok (.getfield 34, 3) := by decide +kernel
theorem dX5_tryNext_23 : decode cX5_tryNext 23 = .ok (.iload_n 1, 1) := by decide +kernel
theorem dX5_tryNext_24 : decode cX5_tryNext 24 = .ok (.iaload, 1) := by decide +kernel
theorem dX5_tryNext_25 : decode cX5_tryNext 25 = .ok (.aload_n 0, 1) := by decide +kernel
theorem dX5_tryNext_26 : decode cX5_tryNext 26 = .ok (.getfield 15, 3) := by decide +kernel
theorem dX5_tryNext_29 : decode cX5_tryNext 29 = .ok (.iload_n 1, 1) := by decide +kernel
theorem dX5_tryNext_30 : decode cX5_tryNext 30 = .ok (.iaload, 1) := by decide +kernel
theorem dX5_tryNext_31 : decode cX5_tryNext 31 = .ok (.if_icmp .ne 9, 3) := by decide +kernel
theorem dX5_tryNext_34 : decode cX5_tryNext 34 = .ok (.iinc 1 (-1), 3) := by decide +kernel
theorem dX5_tryNext_37 : decode cX5_tryNext 37 = .ok (.goto (-22), 3) := by decide +kernel
theorem dX5_tryNext_40 : decode cX5_tryNext 40 = .ok (.iload_n 1, 1) := by decide +kernel
theorem dX5_tryNext_41 : decode cX5_tryNext 41 = .ok (.iconst 1, 1) := by decide +kernel
theorem dX5_tryNext_42 : decode cX5_tryNext 42 = .ok (.if_icmp .ge 4, 3) := by decide +kernel
theorem dX5_tryNext_45 : decode cX5_tryNext 45 = .ok (.return_, 1) := by decide +kernel
theorem dX5_tryNext_46 : decode cX5_tryNext 46 = .ok (.aload_n 0, 1) := by decide +kernel
theorem dX5_tryNext_47 : decode cX5_tryNext 47 = .ok (.getfield 34, 3) := by decide +kernel
theorem dX5_tryNext_50 : decode cX5_tryNext 50 = .ok (.iload_n 1, 1) := by decide +kernel
theorem dX5_tryNext_51 : decode cX5_tryNext 51 = .ok (.iaload, 1) := by decide +kernel
theorem dX5_tryNext_52 : decode cX5_tryNext 52 = .ok (.aload_n 0, 1) := by decide +kernel
theorem dX5_tryNext_53 : decode cX5_tryNext 53 = .ok (.getfield 15, 3) := by decide +kernel
theorem dX5_tryNext_56 : decode cX5_tryNext 56 = .ok (.iload_n 1, 1) := by decide +kernel
theorem dX5_tryNext_57 : decode cX5_tryNext 57 = .ok (.iaload, 1) := by decide +kernel
theorem dX5_tryNext_58 : decode cX5_tryNext 58 = .ok (.isub, 1) := by decide +kernel
theorem dX5_tryNext_59 : decode cX5_tryNext 59 = .ok (.istore_n 2, 1) := by decide +kernel
theorem dX5_tryNext_60 : decode cX5_tryNext 60 = .ok (.aload_n 0, 1) := by decide +kernel
theorem dX5_tryNext_61 : decode cX5_tryNext 61 = .ok (.getfield 34, 3) := by decide +kernel
theorem dX5_tryNext_64 : decode cX5_tryNext 64 = .ok (.iload_n 1, 1) := by decide +kernel
theorem dX5_tryNext_65 : decode cX5_tryNext 65 = .ok (.aload_n 0, 1) := by decide +kernel
theorem dX5_tryNext_66 : decode cX5_tryNext 66 = .ok (.getfield 15, 3) := by decide +kernel
theorem dX5_tryNext_69 : decode cX5_tryNext 69 = .ok (.iload_n 1, 1) := by decide +kernel
theorem dX5_tryNext_70 : decode cX5_tryNext 70 = .ok (.iaload, 1) := by decide +kernel
theorem dX5_tryNext_71 : decode cX5_tryNext 71 = .ok (.iastore, 1) := by decide +kernel
theorem dX5_tryNext_72 : decode cX5_tryNext 72 = .ok (.aload_n 0, 1) := by decide +kernel
theorem dX5_tryNext_73 : decode cX5_tryNext 73 = .ok (.getfield 34, 3) := by decide +kernel
theorem dX5_tryNext_76 : decode cX5_tryNext 76 = .ok (.iload_n 1, 1) := by decide +kernel
theorem dX5_tryNext_77 : decode cX5_tryNext 77 = .ok (.iconst 1, 1) := by decide +kernel
theorem dX5_tryNext_78 : decode cX5_tryNext 78 = .ok (.isub, 1) := by decide +kernel
theorem dX5_tryNext_79 : decode cX5_tryNext 79 = .ok (.dup2, 1) := by decide +kernel
theorem dX5_tryNext_80 : decode cX5_tryNext 80 = .ok (.iaload, 1) := by decide +kernel
theorem dX5_tryNext_81 : decode cX5_tryNext 81 = .ok (.iconst 1, 1) := by decide +kernel
theorem dX5_tryNext_82 : decode cX5_tryNext 82 = .ok (.iadd, 1) := by decide +kernel
theorem dX5_tryNext_83 : decode cX5_tryNext 83 = .ok (.iastore, 1) := by decide +kernel
theorem dX5_tryNext_84 : decode cX5_tryNext 84 = .ok (.aload_n 0, 1) := by decide +kernel
theorem dX5_tryNext_85 : decode cX5_tryNext 85 = .ok (.iload_n 2, 1) := by decide +kernel
theorem dX5_tryNext_86 : decode cX5_tryNext 86 = .ok (.iconst 1, 1) := by decide +kernel
theorem dX5_tryNext_87 : decode cX5_tryNext 87 = .ok (.isub, 1) := by decide +kernel
theorem dX5_tryNext_88 : decode cX5_tryNext 88 = .ok (.invokevirtual 122, 3) := by decide +kernel
theorem dX5_tryNext_91 : decode cX5_tryNext 91 = .ok (.return_, 1) := by decide +kernel
theorem dX5_addToLast_0 : decode cX5_addToLast 0 = .ok (.aload_n 0, 1) := by decide +kernel
theorem dX5_addToLast_1 : decode cX5_addToLast 1 = .ok (.getfield 37, 3) := by decide +kernel
theorem dX5_addToLast_4 : decode cX5_addToLast 4 = .ok (.getfield 61, 3) := by decide +kernel
theorem dX5_addToLast_7 : decode cX5_addToLast 7 = .ok (.iconst 1, 1) := by decide +kernel
theorem dX5_addToLast_8 : decode cX5_addToLast 8 = .ok (.isub, 1) := by decide +kernel
theorem dX5_addToLast_9 : decode cX5_addToLast 9 = .ok (.istore_n 2, 1) := by decide +kernel
theorem dX5_addToLast_10 : decode cX5_addToLast 10 = .ok (.iload_n 2, 1) := by decide +kernel
theorem dX5_addToLast_11 : decode cX5_addToLast 11 = .ok (.ifCond .lt 22, 3) := by decide +kernel
theorem dX5_addToLast_14 : decode cX5_addToLast 14 = .ok (.iload_n 2, 1) := by decide +kernel
theorem dX5_addToLast_15 : decode cX5_addToLast 15 = .ok (.aload_n 0, 1) := by decide +kernel
theorem dX5_addToLast_16 : decode cX5_addToLast 16 = .ok (.getfield 34, 3) := by decide +kernel
theorem dX5_addToLast_19 : decode cX5_addToLast 19 = .ok (.arraylength, 1) := by decide +kernel
theorem dX5_addToLast_20 : decode cX5_addToLast 20 = .ok (.if_icmp .ge 13, 3) := by decide +kernel
theorem dX5_addToLast_23 : decode cX5_addToLast 23 = .ok (.aload_n 0, 1) := by decide +kernel
theorem dX5_addToLast_24 : decode cX5_addToLast 24 = .ok (.getfield 34, 3) := by decide +kernel
theorem dX5_addToLast_27 : decode cX5_addToLast 27 = .ok (.iload_n 2, 1) := by decide +kernel
theorem dX5_addToLast_28 : decode cX5_addToLast 28 = .ok (.dup2, 1) := by decide +kernel
theorem dX5_addToLast_29 : decode cX5_addToLast 29 = .ok (.iaload, 1) := by decide +kernel
theorem dX5_addToLast_30 : decode cX5_addToLast 30 = .ok (.iload_n 1, 1) := by decide +kernel
theorem dX5_addToLast_31 : decode cX5_addToLast 31 = .ok (.iadd, 1) := by decide +kernel
theorem dX5_addToLast_32 : decode cX5_addToLast 32 = .ok (.iastore, 1) := by decide +kernel
theorem dX5_addToLast_33 : decode cX5_addToLast 33 = .ok (.return_, 1) := by decide +kernel
end
section
theorem dX6_init_0 : decode cX6_init 0 = .ok (.aload_n 0, 1) := by decide +kernel
theorem dX6_init_1 : decode cX6_init 1 = .ok (.invokespecial 1, 3) := by decide +kernel
theorem dX6_init_4 : decode cX6_init 4 = .ok (.aload_n 0, 1) := by decide +kernel
theorem dX6_init_5 : decode cX6_init 5 = .ok (.new 7, 3) := by decide +kernel
theorem dX6_init_8 : decode cX6_init 8 = .ok (.dup, 1) := by decide +kernel
theorem dX6_init_9 : decode cX6_init 9 = .ok (.invokespecial 9, 3) := by decide +kernel
theorem dX6_init_12 : decode cX6_init 12 = .ok (.putfield 10, 3) := by decide +kernel
theorem dX6_init_15 : decode cX6_init 15 = .ok (.aload_n 0, 1) := by decide +kernel
theorem dX6_init_16 : decode cX6_init 16 = .ok (.new 16, 3) := by decide +kernel
theorem dX6_init_19 : decode cX6_init 19 = .ok (.dup, 1) := by decide +kernel
theorem dX6_init_20 : decode cX6_init 20 = .ok (.aload_n 0, 1) := by decide +kernel
theorem dX6_init_21 : decode cX6_init 21 = .ok (.getfield 10, 3) := by decide +kernel
theorem dX6_init_24 : decode cX6_init 24 = .ok (.invokespecial 18, 3) := by decide +kernel
theorem dX6_init_27 : decode cX6_init 27 = .ok (.putfield 21, 3) := by decide +kernel
theorem dX6_init_30 : decode cX6_init 30 = .ok (.aload_n 0, 1) := by decide +kernel
theorem dX6_init_31 : decode cX6_init 31 = .ok (.new 25, 3) := by decide +kernel
theorem dX6_init_34 : decode cX6_init 34 = .ok (.dup, 1) := by decide +kernel
theorem dX6_init_35 : decode cX6_init 35 = .ok (.aload_n 0, 1) := by decide +kernel
theorem dX6_init_36 : decode cX6_init 36 = .ok (.getfield 10, 3) := by decide +kernel
theorem dX6_init_39 : decode cX6_init 39 = .ok (.aload_n 0, 1) := by decide +kernel
theorem dX6_init_40 : decode cX6_init 40 = .ok (.getfield 21, 3) := by decide +kernel
theorem dX6_init_43 : decode cX6_init 43 = .ok (.invokespecial 27, 3) := by decide +kernel
theorem dX6_init_46 : decode cX6_init 46 = .ok (.putfield 30, 3) := by decide +kernel
theorem dX6_init_49 : decode cX6_init 49 = .ok (.aload_n 0, 1) := by decide +kernel
theorem dX6_init_50 : decode cX6_init 50 = .ok (.new 34, 3) := by decide +kernel
theorem dX6_init_53 : decode cX6_init 53 = .ok (.dup, 1) := by decide +kernel
theorem dX6_init_54 : decode cX6_init 54 = .ok (.aload_n 0, 1) := by decide +kernel
theorem dX6_init_55 : decode cX6_init 55 = .ok (.getfield 10, 3) := by decide +kernel
theorem dX6_init_58 : decode cX6_init 58 = .ok (.aload_n 0, 1) := by decide +kernel
theorem dX6_init_59 : decode cX6_init 59 = .ok (.getfield 21, 3) := by decide +kernel
theorem dX6_init_62 : decode cX6_init 62 = .ok (.invokespecial 36, 3) := by decide +kernel
theorem dX6_init_65 : decode cX6_init 65 = .ok (.putfield 37, 3) := by decide +kernel
theorem dX6_init_68 : decode cX6_init 68 = .ok (.aload_n 0, 1) := by decide +kernel
theorem dX6_init_69 : decode cX6_init 69 = .ok (.bipush 7, 2) := by decide +kernel
theorem dX6_init_71 : decode cX6_init 71 = .ok (.newarray .int, 2) := by decide +kernel
theorem dX6_init_73 : decode cX6_init 73 = .ok (.putfield 41, 3) := by decide +kernel
theorem dX6_init_76 : decode cX6_init 76 = .ok (.aload_n 0, 1) := by decide +kernel
theorem dX6_init_77 : decode cX6_init 77 = .ok (.iconst 0, 1) := by decide +kernel
theorem dX6_init_78 : decode cX6_init 78 = .ok (.putfield 45, 3) := by decide +kernel
theorem dX6_init_81 : decode cX6_init 81 = .ok (.aload_n 0, 1) := by decide +kernel
theorem dX6_init_82 : decode cX6_init 82 = .ok (.bipush (-9), 2) := by decide +kernel
theorem dX6_init_84 : decode cX6_init 84 = .ok (.putfield 49, 3) := by decide +kernel
theorem dX6_init_87 : decode cX6_init 87 = .ok (.aload_n 0, 1) := by decide +kernel
theorem dX6_init_88 : decode cX6_init 88 = .ok (.iconst 0, 1) := by decide +kernel
theorem dX6_init_89 : decode cX6_init 89 = .ok (.putfield 52, 3) := by decide +kernel
theorem dX6_init_92 : decode cX6_init 92 = .ok (.return_, 1) := by decide +kernel
theorem dX6_table_0 : decode cX6_table 0 = .ok (.iload_n 1, 1) := by decide +kernel
theorem dX6_table_1 : decode cX6_table 1 = .ok (.iconst 1, 1) := by decide +kernel
theorem dX6_table_2 : decode cX6_table 2 = .ok (.bipush 16, 2) := by decide +kernel
theorem dX6_table_4 : decode cX6_table 4 = .ok (.invokestatic 55, 3) := by decide +kernel
theorem dX6_table_7 : decode cX6_table 7 = .ok (.ifCond .eq 22, 3) := by decide +kernel
theorem dX6_table_10 : decode cX6_table 10 = .ok (.iload_n 2, 1) := by decide +kernel
theorem dX6_table_11 : decode cX6_table 11 = .ok (.iconst 1, 1) := by decide +kernel
theorem dX6_table_12 : decode cX6_table 12 = .ok (.bipush 6, 2) := by decide +kernel
theorem dX6_table_14 : decode cX6_table 14 = .ok (.invokestatic 55, 3) := by decide +kernel
theorem dX6_table_17 : decode cX6_table 17 = .ok (.ifCond .eq 12, 3) := by decide +kernel
theorem dX6_table_20 : decode cX6_table 20 = .ok (.iload_n 3, 1) := by decide +kernel
theorem dX6_table_21 : decode cX6_table 21 = .ok (.iconst 0, 1) := by decide +kernel
theorem dX6_table_22 : decode cX6_table 22 = .ok (.iconst 3, 1) := by decide +kernel
theorem dX6_table_23 : decode cX6_table 23 = .ok (.invokestatic 55, 3) := by decide +kernel
theorem dX6_table_26 : decode cX6_table 26 = .ok (.ifCond .ne 5, 3) := by decide +kernel
theorem dX6_table_29 : decode cX6_table 29 = .ok (.iconst (-1), 1) := by decide +kernel
theorem dX6_table_30 : decode cX6_table 30 = .ok (.ireturn, 1) := by decide +kernel
theorem dX6_table_31 : decode cX6_table 31 = .ok (.aload_n 0, 1) := by decide +kernel
theorem dX6_table_32 : decode cX6_table 32 = .ok (.getfield 10, 3) := by decide +kernel
theorem dX6_table_35 : decode cX6_table 35 = .ok (.iload_n 1, 1) := by decide +kernel
theorem dX6_table_36 : decode cX6_table 36 = .ok (.iload_n 2, 1) := by decide +kernel
theorem dX6_table_37 : decode cX6_table 37 = .ok (.iload_n 3, 1) := by decide +kernel
theorem dX6_table_38 : decode cX6_table 38 = .ok (.invokevirtual 59, 3) := by decide +kernel
theorem dX6_table_41 : decode cX6_table 41 = .ok (.aload_n 0, 1) := by decide +kernel
theorem dX6_table_42 : decode cX6_table 42 = .ok (.getfield 30, 3) := by decide +kernel
theorem dX6_table_45 : decode cX6_table 45 = .ok (.invokevirtual 63, 3) := by decide +kernel
theorem dX6_table_48 : decode cX6_table 48 = .ok (.aload_n 0, 1) := by decide +kernel
theorem dX6_table_49 : decode cX6_table 49 = .ok (.getfield 37, 3) := by decide +kernel
theorem dX6_table_52 : decode cX6_table 52 = .ok (.invokevirtual 66, 3) := by decide +kernel
theorem dX6_table_55 : decode cX6_table 55 = .ok (.aload_n 0, 1) := by decide +kernel
theorem dX6_table_56 : decode cX6_table 56 = .ok (.bipush (-9), 2) := by decide +kernel
theorem dX6_table_58 : decode cX6_table 58 = .ok (.putfield 49, 3) := by decide +kernel
theorem dX6_table_61 : decode cX6_table 61 = .ok (.iload_n 1, 1) := by decide +kernel
theorem dX6_table_62 : decode cX6_table 62 = .ok (.iload_n 2, 1) := by decide +kernel
theorem dX6_table_63 : decode cX6_table 63 = .ok (.imul, 1) := by decide +kernel
theorem dX6_table_64 : decode cX6_table 64 = .ok (.ireturn, 1) := by decide +kernel
theorem dX6_weight_0 : decode cX6_weight 0 = .ok (.iload_n 1, 1) := by decide +kernel
theorem dX6_weight_1 : decode cX6_weight 1 = .ok (.iconst 0, 1) := by decide +kernel
theorem dX6_weight_2 : decode cX6_weight 2 = .ok (.aload_n 0, 1) := by decide +kernel
theorem dX6_weight_3 : decode cX6_weight 3 = .ok (.getfield 10, 3) := by decide +kernel
theorem dX6_weight_6 : decode cX6_weight 6 = .ok (.getfield 67, 3) := by decide +kernel
theorem dX6_weight_9 : decode cX6_weight 9 = .ok (.iconst 1, 1) := by decide +kernel
theorem dX6_weight_10 : decode cX6_weight 10 = .ok (.isub, 1) := by decide +kernel
theorem dX6_weight_11 : decode cX6_weight 11 = .ok (.invokestatic 55, 3) := by decide +kernel
theorem dX6_weight_14 : decode cX6_weight 14 = .ok (.ifCond .eq 13, 3) := by decide +kernel
theorem dX6_weight_17 : decode cX6_weight 17 = .ok (.iload_n 2, 1) := by decide +kernel
theorem dX6_weight_18 : decode cX6_weight 18 = .ok (.iconst 1, 1) := by decide +kernel
theorem dX6_weight_19 : decode cX6_weight 19 = .ok (.bipush 9, 2) := by decide +kernel
theorem dX6_weight_21 : decode cX6_weight 21 = .ok (.invokestatic 55, 3) := by decide +kernel
theorem dX6_weight_24 : decode cX6_weight 24 = .ok (.ifCond .ne 5, 3) := by decide +kernel
theorem dX6_weight_27 : decode cX6_weight 27 = .ok (.iconst (-1), 1) := by decide +kernel
theorem dX6_weight_28 : decode cX6_weight 28 = .ok (.ireturn, 1) := by decide +kernel
theorem dX6_weight_29 : decode cX6_weight 29 = .ok (.aload_n 0, 1) := by decide +kernel
theorem dX6_weight_30 : decode cX6_weight 30 = .ok (.getfield 10, 3) := by decide +kernel
theorem dX6_weight_33 : decode cX6_weight 33 = .ok (.getfield 70, 3) := by decide +kernel
theorem dX6_weight_36 : decode cX6_weight 36 = .ok (.iload_n 1, 1) := by decide +kernel
theorem dX6_weight_37 : decode cX6_weight 37 = .ok (.iaload, 1) := by decide +kernel
theorem dX6_weight_38 : decode cX6_weight 38 = .ok (.istore_n 3, 1) := by decide +kernel
theorem dX6_weight_39 : decode cX6_weight 39 = .ok (.aload_n 0, 1) := by decide +kernel
theorem dX6_weight_40 : decode cX6_weight 40 = .ok (.getfield 10, 3) := by decide +kernel
theorem dX6_weight_43 : decode cX6_weight 43 = .ok (.getfield 70, 3) := by decide +kernel
theorem dX6_weight_46 : decode cX6_weight 46 = .ok (.iload_n 1, 1) := by decide +kernel
theorem dX6_weight_47 : decode cX6_weight 47 = .ok (.iload_n 2, 1) := by decide +kernel
theorem dX6_weight_48 : decode cX6_weight 48 = .ok (.iastore, 1) := by decide +kernel
theorem dX6_weight_49 : decode cX6_weight 49 = .ok (.iload_n 3, 1) := by decide +kernel
theorem dX6_weight_50 : decode cX6_weight 50 = .ok (.ireturn, 1) := by decide +kernel
theorem dX6_note_0 : decode cX6_note 0 = .ok (.iload_n 1, 1) := by decide +kernel
theorem dX6_note_1 : decode cX6_note 1 = .ok (.iconst 0, 1) := by decide +kernel
theorem dX6_note_2 : decode cX6_note 2 = .ok (.bipush 9, 2) := by decide +kernel
theorem dX6_note_4 : decode cX6_note 4 = .ok (.invokestatic 55, 3) := by decide +kernel
theorem dX6_note_7 : decode cX6_note 7 = .ok (.ifCond .eq 13, 3) := by decide +kernel
theorem dX6_note_10 : decode cX6_note 10 = .ok (.iload_n 2, 1) := by decide +kernel
theorem dX6_note_11 : decode cX6_note 11 = .ok (.iconst 1, 1) := by decide +kernel
theorem dX6_note_12 : decode cX6_note 12 = .ok (.bipush 6, 2) := by decide +kernel
theorem dX6_note_14 : decode cX6_note 14 = .ok (.invokestatic 55, 3) := by decide +kernel
theorem dX6_note_17 : decode cX6_note 17 = .ok (.ifCond .ne 5, 3) := by decide +kernel
theorem dX6_note_20 : decode cX6_note 20 = .ok (.iconst (-1), 1) := by decide +kernel
theorem dX6_note_21 : decode cX6_note 21 = .ok (.ireturn, 1) := by decide +kernel
theorem dX6_note_22 : decode cX6_note 22 = .ok (.aload_n 0, 1) := by decide +kernel
theorem dX6_note_23 : decode cX6_note 23 = .ok (.getfield 10, 3) := by decide +kernel
theorem dX6_note_26 : decode cX6_note 26 = .ok (.getfield 73, 3) := by decide +kernel
theorem dX6_note_29 : decode cX6_note 29 = .ok (.iload_n 1, 1) := by decide +kernel
theorem dX6_note_30 : decode cX6_note 30 = .ok (.iaload, 1) := by decide +kernel
theorem dX6_note_31 : decode cX6_note 31 = .ok (.istore_n 3, 1) := by decide +kernel
theorem dX6_note_32 : decode cX6_note 32 = .ok (.aload_n 0, 1) := by decide +kernel
theorem dX6_note_33 : decode cX6_note 33 = .ok (.getfield 10, 3) := by decide +kernel
theorem dX6_note_36 : decode cX6_note 36 = .ok (.getfield 73, 3) := by decide +kernel
theorem dX6_note_39 : decode cX6_note 39 = .ok (.iload_n 1, 1) := by decide +kernel
theorem dX6_note_40 : decode cX6_note 40 = .ok (.iload_n 2, 1) := by decide +kernel
theorem dX6_note_41 : decode cX6_note 41 = .ok (.iastore, 1) := by decide +kernel
theorem dX6_note_42 : decode cX6_note 42 = .ok (.iload_n 3, 1) := by decide +kernel
theorem dX6_note_43 : decode cX6_note 43 = .ok (.ireturn, 1) := by decide +kernel
theorem dX6_cell_0 : decode cX6_cell 0 = .ok (.iload_n 1, 1) := by decide +kernel
theorem dX6_cell_1 : decode cX6_cell 1 = .ok (.iconst 0, 1) := by decide +kernel
theorem dX6_cell_2 : decode cX6_cell 2 = .ok (.iconst 3, 1) := by decide +kernel
theorem dX6_cell_3 : decode cX6_cell 3 = .ok (.invokestatic 55, 3) := by decide +kernel
theorem dX6_cell_6 : decode cX6_cell 6 = .ok (.ifCond .eq 24, 3) := by decide +kernel
theorem dX6_cell_9 : decode cX6_cell 9 = .ok (.aload_n 0, 1) := by decide +kernel
theorem dX6_cell_10 : decode cX6_cell 10 = .ok (.iload_n 2, 1) := by decide +kernel
theorem dX6_cell_11 : decode cX6_cell 11 = .ok (.iload_n 3, 1) := by decide +kernel
theorem dX6_cell_12 : decode cX6_cell 12 = .ok (.invokevirtual 76, 3) := by decide +kernel
theorem dX6_cell_15 : decode cX6_cell 15 = .ok (.ifCond .eq 15, 3) := by decide +kernel
theorem dX6_cell_18 : decode cX6_cell 18 = .ok (.iload 4, 2) := by decide +kernel
theorem dX6_cell_20 : decode cX6_cell 20 = .ok (.iconst 1, 1) := by decide +kernel
theorem dX6_cell_21 : decode cX6_cell 21 = .ok (.if_icmp .lt 9, 3) := by decide +kernel
theorem dX6_cell_24 : decode cX6_cell 24 = .ok (.iload 5, 2) := by decide +kernel
theorem dX6_cell_26 : decode cX6_cell 26 = .ok (.iconst 1, 1) := by decide +kernel
theorem dX6_cell_27 : decode cX6_cell 27 = .ok (.if_icmp .ge 5, 3) := by decide +kernel
theorem dX6_cell_30 : decode cX6_cell 30 = .ok (.iconst (-1), 1) := by decide +kernel
theorem dX6_cell_31 : decode cX6_cell 31 = .ok (.ireturn, 1) := by decide +kernel
theorem dX6_cell_32 : decode cX6_cell 32 = .ok (.aload_n 0, 1) := by decide +kernel
theorem dX6_cell_33 : decode cX6_cell 33 = .ok (.getfield 10, 3) := by decide +kernel
theorem dX6_cell_36 : decode cX6_cell 36 = .ok (.getfield 80, 3) := by decide +kernel
theorem dX6_cell_39 : decode cX6_cell 39 = .ok (.bipush 40, 2) := by decide +kernel
theorem dX6_cell_41 : decode cX6_cell 41 = .ok (.if_icmp .lt 6, 3) := by decide +kernel
theorem dX6_cell_44 : decode cX6_cell 44 = .ok (.bipush (-2), 2) := by decide +kernel
theorem dX6_cell_46 : decode cX6_cell 46 = .ok (.ireturn, 1) := by decide +kernel
theorem dX6_cell_47 : decode cX6_cell 47 = .ok (.iload 4, 2) := by decide +kernel
theorem dX6_cell_49 : decode cX6_cell 49 = .ok (.aload_n 0, 1) := by decide +kernel
theorem dX6_cell_50 : decode cX6_cell 50 = .ok (.getfield 10, 3) := by decide +kernel
theorem dX6_cell_53 : decode cX6_cell 53 = .ok (.getfield 83, 3) := by decide +kernel
theorem dX6_cell_56 : decode cX6_cell 56 = .ok (.iload_n 2, 1) := by decide +kernel
theorem dX6_cell_57 : decode cX6_cell 57 = .ok (.isub, 1) := by decide +kernel
theorem dX6_cell_58 : decode cX6_cell 58 = .ok (.if_icmp .gt 17, 3) := by decide +kernel
theorem dX6_cell_61 : decode cX6_cell 61 = .ok (.iload 5, 2) := by decide +kernel
theorem dX6_cell_63 : decode cX6_cell 63 = .ok (.aload_n 0, 1) := by decide +kernel
theorem dX6_cell_64 : decode cX6_cell 64 = .ok (.getfield 10, 3) := by decide +kernel
theorem dX6_cell_67 : decode cX6_cell 67 = .ok (.getfield 67, 3) := by decide +kernel
theorem dX6_cell_70 : decode cX6_cell 70 = .ok (.iload_n 3, 1) := by decide +kernel
theorem dX6_cell_71 : decode cX6_cell 71 = .ok (.isub, 1) := by decide +kernel
theorem dX6_cell_72 : decode cX6_cell 72 = .ok (.if_icmp .le 9, 3) := by decide +kernel
theorem dX6_cell_75 : decode cX6_cell 75 = .ok (.aload_n 0, 1) := by decide +kernel
theorem dX6_cell_76 : decode cX6_cell 76 = .ok (.iconst 2, 1) := by decide +kernel
theorem dX6_cell_77 : decode cX6_cell 77 = .ok (.invokevirtual 86, 3) := by decide +kernel
theorem dX6_cell_80 : decode cX6_cell 80 = .ok (.ireturn, 1) := by decide +kernel
theorem dX6_cell_81 : decode cX6_cell 81 = .ok (.aload_n 0, 1) := by decide +kernel
theorem dX6_cell_82 : decode cX6_cell 82 = .ok (.getfield 10, 3) := by decide +kernel
theorem dX6_cell_85 : decode cX6_cell 85 = .ok (.iload_n 2, 1) := by decide +kernel
theorem dX6_cell_86 : decode cX6_cell 86 = .ok (.iload_n 3, 1) := by decide +kernel
theorem dX6_cell_87 : decode cX6_cell 87 = .ok (.iload 4, 2) := by decide +kernel
theorem dX6_cell_89 : decode cX6_cell 89 = .ok (.iload 5, 2) := by decide +kernel
theorem dX6_cell_91 : decode cX6_cell 91 = .ok (.invokevirtual 90, 3) := by decide +kernel
theorem dX6_cell_94 : decode cX6_cell 94 = .ok (.istore 6, 2) := by decide +kernel
theorem dX6_cell_96 : decode cX6_cell 96 = .ok (.iload 6, 2) := by decide +kernel
theorem dX6_cell_98 : decode cX6_cell 98 = .ok (.bipush (-9), 2) := by decide +kernel
theorem dX6_cell_100 : decode cX6_cell 100 = .ok (.if_icmp .eq 16, 3) := by decide +kernel
theorem dX6_cell_103 : decode cX6_cell 103 = .ok (.aload_n 0, 1) := by decide +kernel
theorem dX6_cell_104 : decode cX6_cell 104 = .ok (.iload 6, 2) := by decide +kernel
theorem dX6_cell_106 : decode cX6_cell 106 = .ok (.putfield 49, 3) := by decide +kernel
theorem dX6_cell_109 : decode cX6_cell 109 = .ok (.aload_n 0, 1) := by decide +kernel
theorem dX6_cell_110 : decode cX6_cell 110 = .ok (.bipush 6, 2) := by decide +kernel
theorem dX6_cell_112 : decode cX6_cell 112 = .ok (.invokevirtual 86, 3) := by decide +kernel
theorem dX6_cell_115 : decode cX6_cell 115 = .ok (.ireturn, 1) := by decide +kernel
theorem dX6_cell_116 : decode cX6_cell 116 = .ok (.aload_n 0, 1) := by decide +kernel
theorem dX6_cell_117 : decode cX6_cell 117 = .ok (.getfield 10, 3) := by decide +kernel
theorem dX6_cell_120 : decode cX6_cell 120 = .ok (.iload_n 1, 1) := by decide +kernel
theorem dX6_cell_121 : decode cX6_cell 121 = .ok (.iload_n 2, 1) := by decide +kernel
theorem dX6_cell_122 : decode cX6_cell 122 = .ok (.iload_n 3, 1) := by decide +kernel
theorem dX6_cell_123 : decode cX6_cell 123 = .ok (.iload 4, 2) := by decide +kernel
theorem dX6_cell_125 : decode cX6_cell 125 = .ok (.iload 5, 2) := by decide +kernel
theorem dX6_cell_127 : decode cX6_cell 127 = .ok (.invokevirtual 94, 3) := by decide +kernel
theorem dX6_cell_130 : decode cX6_cell 130 = .ok (.ireturn, 1) := by decide +kernel
theorem dX6_clash_0 : decode cX6_clash 0 = .ok (.aload_n 0, 1) := by decide +kernel
theorem dX6_clash_1 : decode cX6_clash 1 = .ok (.getfield 49, 3) := by decide +kernel
theorem dX6_clash_4 : decode cX6_clash 4 = .ok (.ireturn, 1) := by decide +kernel
theorem dX6_drop_0 : decode cX6_drop 0 = .ok (.aload_n 0, 1) := by decide +kernel
theorem dX6_drop_1 : decode cX6_drop 1 = .ok (.getfield 10, 3) := by decide +kernel
theorem dX6_drop_4 : decode cX6_drop 4 = .ok (.iload_n 1, 1) := by decide +kernel
theorem dX6_drop_5 : decode cX6_drop 5 = .ok (.invokevirtual 98, 3) := by decide +kernel
theorem dX6_drop_8 : decode cX6_drop 8 = .ok (.astore_n 2, 1) := by decide +kernel
theorem dX6_drop_9 : decode cX6_drop 9 = .ok (.aload_n 2, 1) := by decide +kernel
theorem dX6_drop_10 : decode cX6_drop 10 = .ok (.ifnonnull 5, 3) := by decide +kernel
theorem dX6_drop_13 : decode cX6_drop 13 = .ok (.iconst (-1), 1) := by decide +kernel
theorem dX6_drop_14 : decode cX6_drop 14 = .ok (.ireturn, 1) := by decide +kernel
theorem dX6_drop_15 : decode cX6_drop 15 = .ok (.aload_n 2, 1) := by decide +kernel
theorem dX6_drop_16 : decode cX6_drop 16 = .ok (.getfield 102, 3) := by decide +kernel
theorem dX6_drop_19 : decode cX6_drop 19 = .ok (.ifCond .eq 9, 3) := by decide +kernel
theorem dX6_drop_22 : decode cX6_drop 22 = .ok (.aload_n 0, 1) := by decide +kernel
theorem dX6_drop_23 : decode cX6_drop 23 = .ok (.iconst 1, 1) := by decide +kernel
theorem dX6_drop_24 : decode cX6_drop 24 = .ok (.invokevirtual 86, 3) := by decide +kernel
theorem dX6_drop_27 : decode cX6_drop 27 = .ok (.ireturn, 1) := by decide +kernel
theorem dX6_drop_28 : decode cX6_drop 28 = .ok (.aload_n 2, 1) := by decide +kernel
theorem dX6_drop_29 : decode cX6_drop 29 = .ok (.iconst 1, 1) := by decide +kernel
theorem dX6_drop_30 : decode cX6_drop 30 = .ok (.putfield 102, 3) := by decide +kernel
theorem dX6_drop_33 : decode cX6_drop 33 = .ok (.iconst 1, 1) := by decide +kernel
theorem dX6_drop_34 : decode cX6_drop 34 = .ok (.ireturn, 1) := by decide +kernel
theorem dX6_told_0 : decode cX6_told 0 = .ok (.aload_n 0, 1) := by decide +kernel
theorem dX6_told_1 : decode cX6_told 1 = .ok (.getfield 10, 3) := by decide +kernel
theorem dX6_told_4 : decode cX6_told 4 = .ok (.iload_n 1, 1) := by decide +kernel
theorem dX6_told_5 : decode cX6_told 5 = .ok (.invokevirtual 98, 3) := by decide +kernel
theorem dX6_told_8 : decode cX6_told 8 = .ok (.astore_n 3, 1) := by decide +kernel
theorem dX6_told_9 : decode cX6_told 9 = .ok (.aload_n 3, 1) := by decide +kernel
theorem dX6_told_10 : decode cX6_told 10 = .ok (.ifnull 13, 3) := by decide +kernel
theorem dX6_told_13 : decode cX6_told 13 = .ok (.iload_n 2, 1) := by decide +kernel
theorem dX6_told_14 : decode cX6_told 14 = .ok (.iconst 0, 1) := by decide +kernel
theorem dX6_told_15 : decode cX6_told 15 = .ok (.bipush 6, 2) := by decide +kernel
theorem dX6_told_17 : decode cX6_told 17 = .ok (.invokestatic 55, 3) := by decide +kernel
theorem dX6_told_20 : decode cX6_told 20 = .ok (.ifCond .ne 5, 3) := by decide +kernel
theorem dX6_told_23 : decode cX6_told 23 = .ok (.iconst (-1), 1) := by decide +kernel
theorem dX6_told_24 : decode cX6_told 24 = .ok (.ireturn, 1) := by decide +kernel
theorem dX6_told_25 : decode cX6_told 25 = .ok (.aload_n 3, 1) := by decide +kernel
theorem dX6_told_26 : decode cX6_told 26 = .ok (.getfield 102, 3) := by decide +kernel
theorem dX6_told_29 : decode cX6_told 29 = .ok (.ifCond .eq 9, 3) := by decide +kernel
theorem dX6_told_32 : decode cX6_told 32 = .ok (.aload_n 0, 1) := by decide +kernel
theorem dX6_told_33 : decode cX6_told 33 = .ok (.iconst 1, 1) := by decide +kernel
theorem dX6_told_34 : decode cX6_told 34 = .ok (.invokevirtual 86, 3) := by decide +kernel
theorem dX6_told_37 : decode cX6_told 37 = .ok (.ireturn, 1) := by decide +kernel
theorem dX6_told_38 : decode cX6_told 38 = .ok (.aload_n 3, 1) := by decide +kernel
theorem dX6_told_39 : decode cX6_told 39 = .ok (.iload_n 2, 1) := by decide +kernel
theorem dX6_told_40 : decode cX6_told 40 = .ok (.invokevirtual 108, 3) := by decide +kernel
theorem dX6_told_43 : decode cX6_told 43 = .ok (.ireturn, 1) := by decide +kernel
theorem dX6_is_0 : decode cX6_is 0 = .ok (.aload_n 0, 1) := by decide +kernel
theorem dX6_is_1 : decode cX6_is 1 = .ok (.getfield 10, 3) := by decide +kernel
theorem dX6_is_4 : decode cX6_is 4 = .ok (.iload_n 1, 1) := by decide +kernel
theorem dX6_is_5 : decode cX6_is 5 = .ok (.invokevirtual 98, 3) := by decide +kernel
theorem dX6_is_8 : decode cX6_is 8 = .ok (.astore_n 3, 1) := by decide +kernel
theorem dX6_is_9 : decode cX6_is 9 = .ok (.aload_n 3, 1) := by decide +kernel
theorem dX6_is_10 : decode cX6_is 10 = .ok (.ifnull 12, 3) := by decide +kernel
theorem dX6_is_13 : decode cX6_is 13 = .ok (.iload_n 2, 1) := by decide +kernel
theorem dX6_is_14 : decode cX6_is 14 = .ok (.iconst 0, 1) := by decide +kernel
theorem dX6_is_15 : decode cX6_is 15 = .ok (.iconst 3, 1) := by decide +kernel
theorem dX6_is_16 : decode cX6_is 16 = .ok (.invokestatic 55, 3) := by decide +kernel
theorem dX6_is_19 : decode cX6_is 19 = .ok (.ifCond .ne 5, 3) := by decide +kernel
theorem dX6_is_22 : decode cX6_is 22 = .ok (.iconst (-1), 1) := by decide +kernel
theorem dX6_is_23 : decode cX6_is 23 = .ok (.ireturn, 1) := by decide +kernel
theorem dX6_is_24 : decode cX6_is 24 = .ok (.aload_n 3, 1) := by decide +kernel
theorem dX6_is_25 : decode cX6_is 25 = .ok (.getfield 102, 3) := by decide +kernel
theorem dX6_is_28 : decode cX6_is 28 = .ok (.ifCond .eq 9, 3) := by decide +kernel
theorem dX6_is_31 : decode cX6_is 31 = .ok (.aload_n 0, 1) := by decide +kernel
theorem dX6_is_32 : decode cX6_is 32 = .ok (.iconst 1, 1) := by decide +kernel
theorem dX6_is_33 : decode cX6_is 33 = .ok (.invokevirtual 86, 3) := by decide +kernel
theorem dX6_is_36 : decode cX6_is 36 = .ok (.ireturn, 1) := by decide +kernel
theorem dX6_is_37 : decode cX6_is 37 = .ok (.iload_n 2, 1) := by decide +kernel
theorem dX6_is_38 : decode cX6_is 38 = .ok (.ifCond .eq 11, 3) := by decide +kernel
theorem dX6_is_41 : decode cX6_is 41 = .ok (.aload_n 3, 1) := by decide +kernel
theorem dX6_is_42 : decode cX6_is 42 = .ok (.getfield 111, 3) := by decide +kernel
theorem dX6_is_45 : decode cX6_is 45 = .ok (.iload_n 2, 1) := by decide +kernel
theorem dX6_is_46 : decode cX6_is 46 = .ok (.if_icmp .ne 7, 3) := by decide +kernel
theorem dX6_is_49 : decode cX6_is 49 = .ok (.iconst 1, 1) := by decide +kernel
theorem dX6_is_50 : decode cX6_is 50 = .ok (.goto 4, 3) := by decide +kernel
theorem dX6_is_53 : decode cX6_is 53 = .ok (.iconst 0, 1) := by decide +kernel
theorem dX6_is_54 : decode cX6_is 54 = .ok (.ireturn, 1) := by decide +kernel
theorem dX6_on_0 : decode cX6_on 0 = .ok (.aload_n 0, 1) := by decide +kernel
theorem dX6_on_1 : decode cX6_on 1 = .ok (.iload_n 1, 1) := by decide +kernel
theorem dX6_on_2 : decode cX6_on 2 = .ok (.iload_n 2, 1) := by decide +kernel
theorem dX6_on_3 : decode cX6_on 3 = .ok (.invokevirtual 76, 3) := by decide +kernel
theorem dX6_on_6 : decode cX6_on 6 = .ok (.ifCond .ne 5, 3) := by decide +kernel
theorem dX6_on_9 : decode cX6_on 9 = .ok (.iconst (-1), 1) := by decide +kernel
theorem dX6_on_10 : decode cX6_on 10 = .ok (.ireturn, 1) := by decide +kernel
theorem dX6_on_11 : decode cX6_on 11 = .ok (.aload_n 0, 1) := by decide +kernel
theorem dX6_on_12 : decode cX6_on 12 = .ok (.getfield 10, 3) := by decide +kernel
theorem dX6_on_15 : decode cX6_on 15 = .ok (.iload_n 1, 1) := by decide +kernel
theorem dX6_on_16 : decode cX6_on 16 = .ok (.iload_n 2, 1) := by decide +kernel
theorem dX6_on_17 : decode cX6_on 17 = .ok (.iconst 1, 1) := by decide +kernel
theorem dX6_on_18 : decode cX6_on 18 = .ok (.iconst 1, 1) := by decide +kernel
theorem dX6_on_19 : decode cX6_on 19 = .ok (.invokevirtual 90, 3) := by decide +kernel
theorem dX6_on_22 : decode cX6_on 22 = .ok (.ireturn, 1) := by decide +kernel
theorem dX6_words_0 : decode cX6_words 0 = .ok (.aload_n 0, 1) := by decide +kernel
theorem dX6_words_1 : decode cX6_words 1 = .ok (.getfield 10, 3) := by decide +kernel
theorem dX6_words_4 : decode cX6_words 4 = .ok (.iload_n 1, 1) := by decide +kernel
theorem dX6_words_5 : decode cX6_words 5 = .ok (.invokevirtual 98, 3) := by decide +kernel
theorem dX6_words_8 : decode cX6_words 8 = .ok (.astore_n 3, 1) := by decide +kernel
theorem dX6_words_9 : decode cX6_words 9 = .ok (.aload_n 3, 1) := by decide +kernel
theorem dX6_words_10 : decode cX6_words 10 = .ok (.ifnull 9, 3) := by decide +kernel
theorem dX6_words_13 : decode cX6_words 13 = .ok (.iload_n 2, 1) := by decide +kernel
theorem dX6_words_14 : decode cX6_words 14 = .ok (.bipush 12, 2) := by decide +kernel
theorem dX6_words_16 : decode cX6_words 16 = .ok (.if_icmp .le 5, 3) := by decide +kernel
theorem dX6_words_19 : decode cX6_words 19 = .ok (.iconst (-1), 1) := by decide +kernel
theorem dX6_words_20 : decode cX6_words 20 = .ok (.ireturn, 1) := by decide +kernel
theorem dX6_words_21 : decode cX6_words 21 = .ok (.aload_n 3, 1) := by decide +kernel
theorem dX6_words_22 : decode cX6_words 22 = .ok (.getfield 102, 3) := by decide +kernel
theorem dX6_words_25 : decode cX6_words 25 = .ok (.ifCond .eq 9, 3) := by decide +kernel
theorem dX6_words_28 : decode cX6_words 28 = .ok (.aload_n 0, 1) := by decide +kernel
theorem dX6_words_29 : decode cX6_words 29 = .ok (.iconst 1, 1) := by decide +kernel
theorem dX6_words_30 : decode cX6_words 30 = .ok (.invokevirtual 86, 3) := by decide +kernel
theorem dX6_words_33 : decode cX6_words 33 = .ok (.ireturn, 1) := by decide +kernel
theorem dX6_words_34 : decode cX6_words 34 = .ok (.iload_n 2, 1) := by decide +kernel
theorem dX6_words_35 : decode cX6_words 35 = .ok (.ifCond .ge 9, 3) := by decide +kernel
theorem dX6_words_38 : decode cX6_words 38 = .ok (.aload_n 0, 1) := by decide +kernel
theorem dX6_words_39 : decode cX6_words 39 = .ok (.iconst 5, 1) := by decide +kernel
theorem dX6_words_40 : decode cX6_words 40 = .ok (.invokevirtual 86, 3) := by decide +kernel
theorem dX6_words_43 : decode cX6_words 43 = .ok (.ireturn, 1) := by decide +kernel
theorem dX6_words_44 : decode cX6_words 44 = .ok (.aload_n 3, 1) := by decide +kernel
theorem dX6_words_45 : decode cX6_words 45 = .ok (.iload_n 2, 1) := by decide +kernel
theorem dX6_words_46 : decode cX6_words 46 = .ok (.invokevirtual 114, 3) := by decide +kernel
theorem dX6_words_49 : decode cX6_words 49 = .ok (.iload_n 2, 1) := by decide +kernel
theorem dX6_words_50 : decode cX6_words 50 = .ok (.ireturn, 1) := by decide +kernel
theorem dX6_word_0 : decode cX6_word 0 = .ok (.aload_n 0, 1) := by decide +kernel
theorem dX6_word_1 : decode cX6_word 1 = .ok (.getfield 10, 3) := by decide +kernel
theorem dX6_word_4 : decode cX6_word 4 = .ok (.iload_n 1, 1) := by decide +kernel
theorem dX6_word_5 : decode cX6_word 5 = .ok (.invokevirtual 98, 3) := by decide +kernel
theorem dX6_word_8 : decode cX6_word 8 = .ok (.astore 4, 2) := by decide +kernel
theorem dX6_word_10 : decode cX6_word 10 = .ok (.aload 4, 2) := by decide +kernel
theorem dX6_word_12 : decode cX6_word 12 = .ok (.ifnull 13, 3) := by decide +kernel
theorem dX6_word_15 : decode cX6_word 15 = .ok (.iload_n 3, 1) := by decide +kernel
theorem dX6_word_16 : decode cX6_word 16 = .ok (.iconst 1, 1) := by decide +kernel
theorem dX6_word_17 : decode cX6_word 17 = .ok (.bipush 20, 2) := by decide +kernel
theorem dX6_word_19 : decode cX6_word 19 = .ok (.invokestatic 55, 3) := by decide +kernel
theorem dX6_word_22 : decode cX6_word 22 = .ok (.ifCond .ne 5, 3) := by decide +kernel
theorem dX6_word_25 : decode cX6_word 25 = .ok (.iconst (-1), 1) := by decide +kernel
theorem dX6_word_26 : decode cX6_word 26 = .ok (.ireturn, 1) := by decide +kernel
theorem dX6_word_27 : decode cX6_word 27 = .ok (.aload 4, 2) := by decide +kernel
theorem dX6_word_29 : decode cX6_word 29 = .ok (.getfield 102, 3) := by decide +kernel
theorem dX6_word_32 : decode cX6_word 32 = .ok (.ifCond .eq 9, 3) := by decide +kernel
theorem dX6_word_35 : decode cX6_word 35 = .ok (.aload_n 0, 1) := by decide +kernel
theorem dX6_word_36 : decode cX6_word 36 = .ok (.iconst 1, 1) := by decide +kernel
theorem dX6_word_37 : decode cX6_word 37 = .ok (.invokevirtual 86, 3) := by decide +kernel
theorem dX6_word_40 : decode cX6_word 40 = .ok (.ireturn, 1) := by decide +kernel
theorem dX6_word_41 : decode cX6_word 41 = .ok (.aload 4, 2) := by decide +kernel
theorem dX6_word_43 : decode cX6_word 43 = .ok (.iload_n 2, 1) := by decide +kernel
theorem dX6_word_44 : decode cX6_word 44 = .ok (.iconst 1, 1) := by decide +kernel
theorem dX6_word_45 : decode cX6_word 45 = .ok (.invokevirtual 118, 3) := by decide +kernel
theorem dX6_word_48 : decode cX6_word 48 = .ok (.ifCond .ne 9, 3) := by decide +kernel
theorem dX6_word_51 : decode cX6_word 51 = .ok (.aload_n 0, 1) := by decide +kernel
theorem dX6_word_52 : decode cX6_word 52 = .ok (.iconst 2, 1) := by decide +kernel
theorem dX6_word_53 : decode cX6_word 53 = .ok (.invokevirtual 86, 3) := by decide +kernel
theorem dX6_word_56 : decode cX6_word 56 = .ok (.ireturn, 1) := by decide +kernel
theorem dX6_word_57 : decode cX6_word 57 = .ok (.aload 4, 2) := by decide +kernel
theorem dX6_word_59 : decode cX6_word 59 = .ok (.iload_n 2, 1) := by decide +kernel
theorem dX6_word_60 : decode cX6_word 60 = .ok (.iload_n 3, 1) := by decide +kernel
theorem dX6_word_61 : decode cX6_word 61 = .ok (.invokevirtual 121, 3) := by decide +kernel
theorem dX6_word_64 : decode cX6_word 64 = .ok (.ireturn, 1) := by decide +kernel
theorem dX6_copy_0 : decode cX6_copy 0 = .ok (.aload_n 0, 1) := by decide +kernel
theorem dX6_copy_1 : decode cX6_copy 1 = .ok (.getfield 10, 3) := by decide +kernel
theorem dX6_copy_4 : decode cX6_copy 4 = .ok (.iload_n 1, 1) := by decide +kernel
theorem dX6_copy_5 : decode cX6_copy 5 = .ok (.invokevirtual 98, 3) := by decide +kernel
theorem dX6_copy_8 : decode cX6_copy 8 = .ok (.astore 6, 2) := by decide +kernel
theorem dX6_copy_10 : decode cX6_copy 10 = .ok (.aload_n 0, 1) := by decide +kernel
theorem dX6_copy_11 : decode cX6_copy 11 = .ok (.getfield 10, 3) := by decide +kernel
theorem dX6_copy_14 : decode cX6_copy 14 = .ok (.iload_n 3, 1) := by decide +kernel
theorem dX6_copy_15 : decode cX6_copy 15 = .ok (.invokevirtual 98, 3) := by decide +kernel
theorem dX6_copy_18 : decode cX6_copy 18 = .ok (.astore 7, 2) := by decide +kernel
theorem dX6_copy_20 : decode cX6_copy 20 = .ok (.aload 6, 2) := by decide +kernel
theorem dX6_copy_22 : decode cX6_copy 22 = .ok (.ifnull 8, 3) := by decide +kernel
theorem dX6_copy_25 : decode cX6_copy 25 = .ok (.aload 7, 2) := by decide +kernel
theorem dX6_copy_27 : decode cX6_copy 27 = .ok (.ifnonnull 5, 3) := by decide +kernel
theorem dX6_copy_30 : decode cX6_copy 30 = .ok (.iconst (-1), 1) := by decide +kernel
theorem dX6_copy_31 : decode cX6_copy 31 = .ok (.ireturn, 1) := by decide +kernel
theorem dX6_copy_32 : decode cX6_copy 32 = .ok (.aload 6, 2) := by decide +kernel
theorem dX6_copy_34 : decode cX6_copy 34 = .ok (.getfield 102, 3) := by decide +kernel
theorem dX6_copy_37 : decode cX6_copy 37 = .ok (.ifCond .ne 11, 3) := by decide +kernel
theorem dX6_copy_40 : decode cX6_copy 40 = .ok (.aload 7, 2) := by decide +kernel
theorem dX6_copy_42 : decode cX6_copy 42 = .ok (.getfield 102, 3) := by decide +kernel
theorem dX6_copy_45 : decode cX6_copy 45 = .ok (.ifCond .eq 9, 3) := by decide +kernel
theorem dX6_copy_48 : decode cX6_copy 48 = .ok (.aload_n 0, 1) := by decide +kernel
theorem dX6_copy_49 : decode cX6_copy 49 = .ok (.iconst 1, 1) := by decide +kernel
theorem dX6_copy_50 : decode cX6_copy 50 = .ok (.invokevirtual 86, 3) := by decide +kernel
theorem dX6_copy_53 : decode cX6_copy 53 = .ok (.ireturn, 1) := by decide +kernel
theorem dX6_copy_54 : decode cX6_copy 54 = .ok (.aload 6, 2) := by decide +kernel
theorem dX6_copy_56 : decode cX6_copy 56 = .ok (.iload_n 2, 1) := by decide +kernel
theorem dX6_copy_57 : decode cX6_copy 57 = .ok (.iload 5, 2) := by decide +kernel
theorem dX6_copy_59 : decode cX6_copy 59 = .ok (.invokevirtual 118, 3) := by decide +kernel
theorem dX6_copy_62 : decode cX6_copy 62 = .ok (.ifCond .eq 15, 3) := by decide +kernel
theorem dX6_copy_65 : decode cX6_copy 65 = .ok (.aload 7, 2) := by decide +kernel
theorem dX6_copy_67 : decode cX6_copy 67 = .ok (.iload 4, 2) := by decide +kernel
theorem dX6_copy_69 : decode cX6_copy 69 = .ok (.iload 5, 2) := by decide +kernel
theorem dX6_copy_71 : decode cX6_copy 71 = .ok (.invokevirtual 118, 3) := by decide +kernel
theorem dX6_copy_74 : decode cX6_copy 74 = .ok (.ifCond .ne 9, 3) := by decide +kernel
theorem dX6_copy_77 : decode cX6_copy 77 = .ok (.aload_n 0, 1) := by decide +kernel
theorem dX6_copy_78 : decode cX6_copy 78 = .ok (.iconst 2, 1) := by decide +kernel
theorem dX6_copy_79 : decode cX6_copy 79 = .ok (.invokevirtual 86, 3) := by decide +kernel
theorem dX6_copy_82 : decode cX6_copy 82 = .ok (.ireturn, 1) := by decide +kernel
theorem dX6_copy_83 : decode cX6_copy 83 = .ok (.aload 7, 2) := by decide +kernel
theorem dX6_copy_85 : decode cX6_copy 85 = .ok (.aload 6, 2) := by decide +kernel
theorem dX6_copy_87 : decode cX6_copy 87 = .ok (.iload_n 2, 1) := by decide +kernel
theorem dX6_copy_88 : decode cX6_copy 88 = .ok (.iload 4, 2) := by decide +kernel
theorem dX6_copy_90 : decode cX6_copy 90 = .ok (.iload 5, 2) := by decide +kernel
theorem dX6_copy_92 : decode cX6_copy 92 = .ok (.invokevirtual 125, 3) := by decide +kernel
theorem dX6_copy_95 : decode cX6_copy 95 = .ok (.iconst 1, 1) := by decide +kernel
theorem dX6_copy_96 : decode cX6_copy 96 = .ok (.ireturn, 1) := by decide +kernel
theorem dX6_mean_0 : decode cX6_mean 0 = .ok (.aload_n 0, 1) := by decide +kernel
theorem dX6_mean_1 : decode cX6_mean 1 = .ok (.getfield 10, 3) := by decide +kernel
theorem dX6_mean_4 : decode cX6_mean 4 = .ok (.iload_n 1, 1) := by decide +kernel
theorem dX6_mean_5 : decode cX6_mean 5 = .ok (.invokevirtual 98, 3) := by decide +kernel
theorem dX6_mean_8 : decode cX6_mean 8 = .ok (.astore_n 2, 1) := by decide +kernel
theorem dX6_mean_9 : decode cX6_mean 9 = .ok (.aload_n 2, 1) := by decide +kernel
theorem dX6_mean_10 : decode cX6_mean 10 = .ok (.ifnonnull 5, 3) := by decide +kernel
theorem dX6_mean_13 : decode cX6_mean 13 = .ok (.iconst (-1), 1) := by decide +kernel
theorem dX6_mean_14 : decode cX6_mean 14 = .ok (.ireturn, 1) := by decide +kernel
theorem dX6_mean_15 : decode cX6_mean 15 = .ok (.aload_n 2, 1) := by decide +kernel
theorem dX6_mean_16 : decode cX6_mean 16 = .ok (.getfield 102, 3) := by decide +kernel
theorem dX6_mean_19 : decode cX6_mean 19 = .ok (.ifCond .eq 9, 3) := by decide +kernel
theorem dX6_mean_22 : decode cX6_mean 22 = .ok (.aload_n 0, 1) := by decide +kernel
theorem dX6_mean_23 : decode cX6_mean 23 = .ok (.iconst 1, 1) := by decide +kernel
theorem dX6_mean_24 : decode cX6_mean 24 = .ok (.invokevirtual 86, 3) := by decide +kernel
theorem dX6_mean_27 : decode cX6_mean 27 = .ok (.ireturn, 1) := by decide +kernel
theorem dX6_mean_28 : decode cX6_mean 28 = .ok (.aload_n 2, 1) := by decide +kernel
theorem dX6_mean_29 : decode cX6_mean 29 = .ok (.getfield 129, 3) := by decide +kernel
theorem dX6_mean_32 : decode cX6_mean 32 = .ok (.iconst 1, 1) := by decide +kernel
theorem dX6_mean_33 : decode cX6_mean 33 = .ok (.if_icmp .ge 9, 3) := by decide +kernel
theorem dX6_mean_36 : decode cX6_mean 36 = .ok (.aload_n 0, 1) := by decide +kernel
theorem dX6_mean_37 : decode cX6_mean 37 = .ok (.iconst 4, 1) := by decide +kernel
theorem dX6_mean_38 : decode cX6_mean 38 = .ok (.invokevirtual 86, 3) := by decide +kernel
theorem dX6_mean_41 : decode cX6_mean 41 = .ok (.ireturn, 1) := by decide +kernel
theorem dX6_mean_42 : decode cX6_mean 42 = .ok (.aload_n 2, 1) := by decide +kernel
theorem dX6_mean_43 : decode cX6_mean 43 = .ok (.invokevirtual 132, 3) := by decide +kernel
theorem dX6_mean_46 : decode cX6_mean 46 = .ok (.aload_n 2, 1) := by decide +kernel
theorem dX6_mean_47 : decode cX6_mean 47 = .ok (.getfield 129, 3) := by decide +kernel
theorem dX6_mean_50 : decode cX6_mean 50 = .ok (.idiv, 1) := by decide +kernel
theorem dX6_mean_51 : decode cX6_mean 51 = .ok (.ireturn, 1) := by decide +kernel
theorem dX6_calls_0 : decode cX6_calls 0 = .ok (.aload_n 0, 1) := by decide +kernel
theorem dX6_calls_1 : decode cX6_calls 1 = .ok (.getfield 10, 3) := by decide +kernel
theorem dX6_calls_4 : decode cX6_calls 4 = .ok (.iload_n 1, 1) := by decide +kernel
theorem dX6_calls_5 : decode cX6_calls 5 = .ok (.invokevirtual 98, 3) := by decide +kernel
theorem dX6_calls_8 : decode cX6_calls 8 = .ok (.astore_n 3, 1) := by decide +kernel
theorem dX6_calls_9 : decode cX6_calls 9 = .ok (.aload_n 3, 1) := by decide +kernel
theorem dX6_calls_10 : decode cX6_calls 10 = .ok (.ifnull 14, 3) := by decide +kernel
theorem dX6_calls_13 : decode cX6_calls 13 = .ok (.iload_n 2, 1) := by decide +kernel
theorem dX6_calls_14 : decode cX6_calls 14 = .ok (.iconst 0, 1) := by decide +kernel
theorem dX6_calls_15 : decode cX6_calls 15 = .ok (.sipush 1023, 3) := by decide +kernel
theorem dX6_calls_18 : decode cX6_calls 18 = .ok (.invokestatic 55, 3) := by decide +kernel
theorem dX6_calls_21 : decode cX6_calls 21 = .ok (.ifCond .ne 5, 3) := by decide +kernel
theorem dX6_calls_24 : decode cX6_calls 24 = .ok (.iconst (-1), 1) := by decide +kernel
theorem dX6_calls_25 : decode cX6_calls 25 = .ok (.ireturn, 1) := by decide +kernel
theorem dX6_calls_26 : decode cX6_calls 26 = .ok (.aload_n 3, 1) := by decide +kernel
theorem dX6_calls_27 : decode cX6_calls 27 = .ok (.getfield 102, 3) := by decide +kernel
theorem dX6_calls_30 : decode cX6_calls 30 = .ok (.ifCond .eq 9, 3) := by decide +kernel
theorem dX6_calls_33 : decode cX6_calls 33 = .ok (.aload_n 0, 1) := by decide +kernel
theorem dX6_calls_34 : decode cX6_calls 34 = .ok (.iconst 1, 1) := by decide +kernel
theorem dX6_calls_35 : decode cX6_calls 35 = .ok (.invokevirtual 86, 3) := by decide +kernel
theorem dX6_calls_38 : decode cX6_calls 38 = .ok (.ireturn, 1) := by decide +kernel
theorem dX6_calls_39 : decode cX6_calls 39 = .ok (.aload_n 3, 1) := by decide +kernel
theorem dX6_calls_40 : decode cX6_calls 40 = .ok (.getfield 136, 3) := by decide +kernel
theorem dX6_calls_43 : decode cX6_calls 43 = .ok (.istore 4, 2) := by decide +kernel
theorem dX6_calls_45 : decode cX6_calls 45 = .ok (.aload_n 3, 1) := by decide +kernel
theorem dX6_calls_46 : decode cX6_calls 46 = .ok (.iload_n 2, 1) := by decide +kernel
theorem dX6_calls_47 : decode cX6_calls 47 = .ok (.putfield 136, 3) := by decide +kernel
theorem dX6_calls_50 : decode cX6_calls 50 = .ok (.iload 4, 2) := by decide +kernel
theorem dX6_calls_52 : decode cX6_calls 52 = .ok (.ireturn, 1) := by decide +kernel
theorem dX6_fix_0 : decode cX6_fix 0 = .ok (.aload_n 0, 1) := by decide +kernel
theorem dX6_fix_1 : decode cX6_fix 1 = .ok (.getfield 10, 3) := by decide +kernel
theorem dX6_fix_4 : decode cX6_fix 4 = .ok (.iload_n 1, 1) := by decide +kernel
theorem dX6_fix_5 : decode cX6_fix 5 = .ok (.invokevirtual 98, 3) := by decide +kernel
theorem dX6_fix_8 : decode cX6_fix 8 = .ok (.astore_n 3, 1) := by decide +kernel
theorem dX6_fix_9 : decode cX6_fix 9 = .ok (.aload_n 3, 1) := by decide +kernel
theorem dX6_fix_10 : decode cX6_fix 10 = .ok (.ifnull 13, 3) := by decide +kernel
theorem dX6_fix_13 : decode cX6_fix 13 = .ok (.iload_n 2, 1) := by decide +kernel
theorem dX6_fix_14 : decode cX6_fix 14 = .ok (.iconst 1, 1) := by decide +kernel
theorem dX6_fix_15 : decode cX6_fix 15 = .ok (.bipush 60, 2) := by decide +kernel
theorem dX6_fix_17 : decode cX6_fix 17 = .ok (.invokestatic 55, 3) := by decide +kernel
theorem dX6_fix_20 : decode cX6_fix 20 = .ok (.ifCond .ne 5, 3) := by decide +kernel
theorem dX6_fix_23 : decode cX6_fix 23 = .ok (.iconst (-1), 1) := by decide +kernel
theorem dX6_fix_24 : decode cX6_fix 24 = .ok (.ireturn, 1) := by decide +kernel
theorem dX6_fix_25 : decode cX6_fix 25 = .ok (.aload_n 3, 1) := by decide +kernel
theorem dX6_fix_26 : decode cX6_fix 26 = .ok (.getfield 102, 3) := by decide +kernel
theorem dX6_fix_29 : decode cX6_fix 29 = .ok (.ifCond .eq 9, 3) := by decide +kernel
theorem dX6_fix_32 : decode cX6_fix 32 = .ok (.aload_n 0, 1) := by decide +kernel
theorem dX6_fix_33 : decode cX6_fix 33 = .ok (.iconst 1, 1) := by decide +kernel
theorem dX6_fix_34 : decode cX6_fix 34 = .ok (.invokevirtual 86, 3) := by decide +kernel
theorem dX6_fix_37 : decode cX6_fix 37 = .ok (.ireturn, 1) := by decide +kernel
theorem dX6_fix_38 : decode cX6_fix 38 = .ok (.aload_n 3, 1) := by decide +kernel
theorem dX6_fix_39 : decode cX6_fix 39 = .ok (.getfield 111, 3) := by decide +kernel
theorem dX6_fix_42 : decode cX6_fix 42 = .ok (.iconst 2, 1) := by decide +kernel
theorem dX6_fix_43 : decode cX6_fix 43 = .ok (.if_icmp .eq 9, 3) := by decide +kernel
theorem dX6_fix_46 : decode cX6_fix 46 = .ok (.aload_n 0, 1) := by decide +kernel
theorem dX6_fix_47 : decode cX6_fix 47 = .ok (.iconst 3, 1) := by decide +kernel
theorem dX6_fix_48 : decode cX6_fix 48 = .ok (.invokevirtual 86, 3) := by decide +kernel
theorem dX6_fix_51 : decode cX6_fix 51 = .ok (.ireturn, 1) := by decide +kernel
theorem dX6_fix_52 : decode cX6_fix 52 = .ok (.aload_n 3, 1) := by decide +kernel
theorem dX6_fix_53 : decode cX6_fix 53 = .ok (.getfield 139, 3) := by decide +kernel
theorem dX6_fix_56 : decode cX6_fix 56 = .ok (.istore 4, 2) := by decide +kernel
theorem dX6_fix_58 : decode cX6_fix 58 = .ok (.aload_n 3, 1) := by decide +kernel
theorem dX6_fix_59 : decode cX6_fix 59 = .ok (.iload_n 2, 1) := by decide +kernel
theorem dX6_fix_60 : decode cX6_fix 60 = .ok (.putfield 139, 3) := by decide +kernel
theorem dX6_fix_63 : decode cX6_fix 63 = .ok (.iload 4, 2) := by decide +kernel
theorem dX6_fix_65 : decode cX6_fix 65 = .ok (.ireturn, 1) := by decide +kernel
theorem dX6_lines_0 : decode cX6_lines 0 = .ok (.aload_n 0, 1) := by decide +kernel
theorem dX6_lines_1 : decode cX6_lines 1 = .ok (.getfield 10, 3) := by decide +kernel
theorem dX6_lines_4 : decode cX6_lines 4 = .ok (.iload_n 1, 1) := by decide +kernel
theorem dX6_lines_5 : decode cX6_lines 5 = .ok (.invokevirtual 98, 3) := by decide +kernel
theorem dX6_lines_8 : decode cX6_lines 8 = .ok (.astore_n 3, 1) := by decide +kernel
theorem dX6_lines_9 : decode cX6_lines 9 = .ok (.aload_n 3, 1) := by decide +kernel
theorem dX6_lines_10 : decode cX6_lines 10 = .ok (.ifnull 14, 3) := by decide +kernel
theorem dX6_lines_13 : decode cX6_lines 13 = .ok (.iload_n 2, 1) := by decide +kernel
theorem dX6_lines_14 : decode cX6_lines 14 = .ok (.iconst 1, 1) := by decide +kernel
theorem dX6_lines_15 : decode cX6_lines 15 = .ok (.sipush 400, 3) := by decide +kernel
theorem dX6_lines_18 : decode cX6_lines 18 = .ok (.invokestatic 55, 3) := by decide +kernel
theorem dX6_lines_21 : decode cX6_lines 21 = .ok (.ifCond .ne 5, 3) := by decide +kernel
theorem dX6_lines_24 : decode cX6_lines 24 = .ok (.iconst (-1), 1) := by decide +kernel
theorem dX6_lines_25 : decode cX6_lines 25 = .ok (.ireturn, 1) := by decide +kernel
theorem dX6_lines_26 : decode cX6_lines 26 = .ok (.aload_n 3, 1) := by decide +kernel
theorem dX6_lines_27 : decode cX6_lines 27 = .ok (.getfield 102, 3) := by decide +kernel
theorem dX6_lines_30 : decode cX6_lines 30 = .ok (.ifCond .eq 9, 3) := by decide +kernel
theorem dX6_lines_33 : decode cX6_lines 33 = .ok (.aload_n 0, 1) := by decide +kernel
theorem dX6_lines_34 : decode cX6_lines 34 = .ok (.iconst 1, 1) := by decide +kernel
theorem dX6_lines_35 : decode cX6_lines 35 = .ok (.invokevirtual 86, 3) := by decide +kernel
theorem dX6_lines_38 : decode cX6_lines 38 = .ok (.ireturn, 1) := by decide +kernel
theorem dX6_lines_39 : decode cX6_lines 39 = .ok (.aload_n 3, 1) := by decide +kernel
theorem dX6_lines_40 : decode cX6_lines 40 = .ok (.iload_n 2, 1) := by decide +kernel
theorem dX6_lines_41 : decode cX6_lines 41 = .ok (.invokevirtual 142, 3) := by decide +kernel
theorem dX6_lines_44 : decode cX6_lines 44 = .ok (.ireturn, 1) := by decide +kernel
theorem dX6_want_0 : decode cX6_want 0 = .ok (.aload_n 0, 1) := by decide +kernel
theorem dX6_want_1 : decode cX6_want 1 = .ok (.getfield 10, 3) := by decide +kernel
theorem dX6_want_4 : decode cX6_want 4 = .ok (.iload_n 1, 1) := by decide +kernel
theorem dX6_want_5 : decode cX6_want 5 = .ok (.invokevirtual 98, 3) := by decide +kernel
theorem dX6_want_8 : decode cX6_want 8 = .ok (.astore_n 3, 1) := by decide +kernel
theorem dX6_want_9 : decode cX6_want 9 = .ok (.aload_n 3, 1) := by decide +kernel
theorem dX6_want_10 : decode cX6_want 10 = .ok (.ifnull 12, 3) := by decide +kernel
theorem dX6_want_13 : decode cX6_want 13 = .ok (.iload_n 2, 1) := by decide +kernel
theorem dX6_want_14 : decode cX6_want 14 = .ok (.iconst 0, 1) := by decide +kernel
theorem dX6_want_15 : decode cX6_want 15 = .ok (.iconst 1, 1) := by decide +kernel
theorem dX6_want_16 : decode cX6_want 16 = .ok (.invokestatic 55, 3) := by decide +kernel
theorem dX6_want_19 : decode cX6_want 19 = .ok (.ifCond .ne 5, 3) := by decide +kernel
theorem dX6_want_22 : decode cX6_want 22 = .ok (.iconst (-1), 1) := by decide +kernel
theorem dX6_want_23 : decode cX6_want 23 = .ok (.ireturn, 1) := by decide +kernel
theorem dX6_want_24 : decode cX6_want 24 = .ok (.aload_n 3, 1) := by decide +kernel
theorem dX6_want_25 : decode cX6_want 25 = .ok (.getfield 102, 3) := by decide +kernel
theorem dX6_want_28 : decode cX6_want 28 = .ok (.ifCond .eq 9, 3) := by decide +kernel
theorem dX6_want_31 : decode cX6_want 31 = .ok (.aload_n 0, 1) := by decide +kernel
theorem dX6_want_32 : decode cX6_want 32 = .ok (.iconst 1, 1) := by decide +kernel
theorem dX6_want_33 : decode cX6_want 33 = .ok (.invokevirtual 86, 3) := by decide +kernel
theorem dX6_want_36 : decode cX6_want 36 = .ok (.ireturn, 1) := by decide +kernel
theorem dX6_want_37 : decode cX6_want 37 = .ok (.aload_n 3, 1) := by decide +kernel
theorem dX6_want_38 : decode cX6_want 38 = .ok (.iload_n 2, 1) := by decide +kernel
theorem dX6_want_39 : decode cX6_want 39 = .ok (.invokevirtual 145, 3) := by decide +kernel
theorem dX6_want_42 : decode cX6_want 42 = .ok (.ireturn, 1) := by decide +kernel
theorem dX6_natural_0 : decode cX6_natural 0 = .ok (.iload_n 1, 1) := by decide +kernel
theorem dX6_natural_1 : decode cX6_natural 1 = .ok (.iconst 0, 1) := by decide +kernel
theorem dX6_natural_2 : decode cX6_natural 2 = .ok (.aload_n 0, 1) := by decide +kernel
theorem dX6_natural_3 : decode cX6_natural 3 = .ok (.getfield 10, 3) := by decide +kernel
theorem dX6_natural_6 : decode cX6_natural 6 = .ok (.getfield 67, 3) := by decide +kernel
theorem dX6_natural_9 : decode cX6_natural 9 = .ok (.iconst 1, 1) := by decide +kernel
theorem dX6_natural_10 : decode cX6_natural 10 = .ok (.isub, 1) := by decide +kernel
theorem dX6_natural_11 : decode cX6_natural 11 = .ok (.invokestatic 55, 3) := by decide +kernel
theorem dX6_natural_14 : decode cX6_natural 14 = .ok (.ifCond .eq 12, 3) := by decide +kernel
theorem dX6_natural_17 : decode cX6_natural 17 = .ok (.iload_n 2, 1) := by decide +kernel
theorem dX6_natural_18 : decode cX6_natural 18 = .ok (.iconst 0, 1) := by decide +kernel
theorem dX6_natural_19 : decode cX6_natural 19 = .ok (.iconst 1, 1) := by decide +kernel
theorem dX6_natural_20 : decode cX6_natural 20 = .ok (.invokestatic 55, 3) := by decide +kernel
theorem dX6_natural_23 : decode cX6_natural 23 = .ok (.ifCond .ne 5, 3) := by decide +kernel
theorem dX6_natural_26 : decode cX6_natural 26 = .ok (.iconst (-1), 1) := by decide +kernel
theorem dX6_natural_27 : decode cX6_natural 27 = .ok (.ireturn, 1) := by decide +kernel
theorem dX6_natural_28 : decode cX6_natural 28 = .ok (.aload_n 0, 1) := by decide +kernel
theorem dX6_natural_29 : decode cX6_natural 29 = .ok (.getfield 30, 3) := by decide +kernel
theorem dX6_natural_32 : decode cX6_natural 32 = .ok (.invokevirtual 148, 3) := by decide +kernel
theorem dX6_natural_35 : decode cX6_natural 35 = .ok (.iload_n 2, 1) := by decide +kernel
theorem dX6_natural_36 : decode cX6_natural 36 = .ok (.ifCond .ne 15, 3) := by decide +kernel
theorem dX6_natural_39 : decode cX6_natural 39 = .ok (.aload_n 0, 1) := by decide +kernel
theorem dX6_natural_40 : decode cX6_natural 40 = .ok (.getfield 30, 3) := by decide +kernel
theorem dX6_natural_43 : decode cX6_natural 43 = .ok (.getfield 151, 3) := by decide +kernel
theorem dX6_natural_46 : decode cX6_natural 46 = .ok (.iload_n 1, 1) := by decide +kernel
theorem dX6_natural_47 : decode cX6_natural 47 = .ok (.iaload, 1) := by decide +kernel
theorem dX6_natural_48 : decode cX6_natural 48 = .ok (.goto 12, 3) := by decide +kernel
theorem dX6_natural_51 : decode cX6_natural 51 = .ok (.aload_n 0, 1) := by decide +kernel
theorem dX6_natural_52 : decode cX6_natural 52 = .ok (.getfield 30, 3) := by decide +kernel
theorem dX6_natural_55 : decode cX6_natural 55 = .ok (.getfield 154, 3) := by decide +kernel
theorem dX6_natural_58 : decode cX6_natural 58 = .ok (.iload_n 1, 1) := by decide +kernel
theorem dX6_natural_59 : decode cX6_natural 59 = .ok (.iaload, 1) := by decide +kernel
theorem dX6_natural_60 : decode cX6_natural 60 = .ok (.ireturn, 1) := by decide +kernel
theorem dX6_set_0 : decode cX6_set 0 = .ok (.iload_n 1, 1) := by decide +kernel
theorem dX6_set_1 : decode cX6_set 1 = .ok (.iconst 0, 1) := by decide +kernel
theorem dX6_set_2 : decode cX6_set 2 = .ok (.sipush 400, 3) := by decide +kernel
theorem dX6_set_5 : decode cX6_set 5 = .ok (.invokestatic 55, 3) := by decide +kernel
theorem dX6_set_8 : decode cX6_set 8 = .ok (.ifCond .ne 5, 3) := by decide +kernel
theorem dX6_set_11 : decode cX6_set 11 = .ok (.iconst (-1), 1) := by decide +kernel
theorem dX6_set_12 : decode cX6_set 12 = .ok (.ireturn, 1) := by decide +kernel
theorem dX6_set_13 : decode cX6_set 13 = .ok (.aload_n 0, 1) := by decide +kernel
theorem dX6_set_14 : decode cX6_set 14 = .ok (.getfield 30, 3) := by decide +kernel
theorem dX6_set_17 : decode cX6_set 17 = .ok (.invokevirtual 148, 3) := by decide +kernel
theorem dX6_set_20 : decode cX6_set 20 = .ok (.aload_n 0, 1) := by decide +kernel
theorem dX6_set_21 : decode cX6_set 21 = .ok (.getfield 30, 3) := by decide +kernel
theorem dX6_set_24 : decode cX6_set 24 = .ok (.iload_n 1, 1) := by decide +kernel
theorem dX6_set_25 : decode cX6_set 25 = .ok (.invokevirtual 157, 3) := by decide +kernel
theorem dX6_set_28 : decode cX6_set 28 = .ok (.istore_n 2, 1) := by decide +kernel
theorem dX6_set_29 : decode cX6_set 29 = .ok (.iload_n 2, 1) := by decide +kernel
theorem dX6_set_30 : decode cX6_set 30 = .ok (.ifCond .ge 6, 3) := by decide +kernel
theorem dX6_set_33 : decode cX6_set 33 = .ok (.bipush (-4), 2) := by decide +kernel
theorem dX6_set_35 : decode cX6_set 35 = .ok (.ireturn, 1) := by decide +kernel
theorem dX6_set_36 : decode cX6_set 36 = .ok (.aload_n 0, 1) := by decide +kernel
theorem dX6_set_37 : decode cX6_set 37 = .ok (.getfield 30, 3) := by decide +kernel
theorem dX6_set_40 : decode cX6_set 40 = .ok (.iload_n 2, 1) := by decide +kernel
theorem dX6_set_41 : decode cX6_set 41 = .ok (.invokevirtual 160, 3) := by decide +kernel
theorem dX6_set_44 : decode cX6_set 44 = .ok (.aload_n 0, 1) := by decide +kernel
theorem dX6_set_45 : decode cX6_set 45 = .ok (.invokevirtual 163, 3) := by decide +kernel
theorem dX6_set_48 : decode cX6_set 48 = .ok (.ireturn, 1) := by decide +kernel
theorem dX6_tight_0 : decode cX6_tight 0 = .ok (.iload_n 1, 1) := by decide +kernel
theorem dX6_tight_1 : decode cX6_tight 1 = .ok (.iconst 0, 1) := by decide +kernel
theorem dX6_tight_2 : decode cX6_tight 2 = .ok (.sipush 400, 3) := by decide +kernel
theorem dX6_tight_5 : decode cX6_tight 5 = .ok (.invokestatic 55, 3) := by decide +kernel
theorem dX6_tight_8 : decode cX6_tight 8 = .ok (.ifCond .eq 14, 3) := by decide +kernel
theorem dX6_tight_11 : decode cX6_tight 11 = .ok (.iload_n 2, 1) := by decide +kernel
theorem dX6_tight_12 : decode cX6_tight 12 = .ok (.iconst 1, 1) := by decide +kernel
theorem dX6_tight_13 : decode cX6_tight 13 = .ok (.sipush 20000, 3) := by decide +kernel
theorem dX6_tight_16 : decode cX6_tight 16 = .ok (.invokestatic 55, 3) := by decide +kernel
theorem dX6_tight_19 : decode cX6_tight 19 = .ok (.ifCond .ne 5, 3) := by decide +kernel
theorem dX6_tight_22 : decode cX6_tight 22 = .ok (.iconst (-1), 1) := by decide +kernel
theorem dX6_tight_23 : decode cX6_tight 23 = .ok (.ireturn, 1) := by decide +kernel
theorem dX6_tight_24 : decode cX6_tight 24 = .ok (.aload_n 0, 1) := by decide +kernel
theorem dX6_tight_25 : decode cX6_tight 25 = .ok (.getfield 30, 3) := by decide +kernel
theorem dX6_tight_28 : decode cX6_tight 28 = .ok (.invokevirtual 148, 3) := by decide +kernel
theorem dX6_tight_31 : decode cX6_tight 31 = .ok (.aload_n 0, 1) := by decide +kernel
theorem dX6_tight_32 : decode cX6_tight 32 = .ok (.getfield 30, 3) := by decide +kernel
theorem dX6_tight_35 : decode cX6_tight 35 = .ok (.iload_n 1, 1) := by decide +kernel
theorem dX6_tight_36 : decode cX6_tight 36 = .ok (.invokevirtual 157, 3) := by decide +kernel
theorem dX6_tight_39 : decode cX6_tight 39 = .ok (.istore_n 3, 1) := by decide +kernel
theorem dX6_tight_40 : decode cX6_tight 40 = .ok (.iload_n 3, 1) := by decide +kernel
theorem dX6_tight_41 : decode cX6_tight 41 = .ok (.ifCond .ge 6, 3) := by decide +kernel
theorem dX6_tight_44 : decode cX6_tight 44 = .ok (.bipush (-4), 2) := by decide +kernel
theorem dX6_tight_46 : decode cX6_tight 46 = .ok (.ireturn, 1) := by decide +kernel
theorem dX6_tight_47 : decode cX6_tight 47 = .ok (.aload_n 0, 1) := by decide +kernel
theorem dX6_tight_48 : decode cX6_tight 48 = .ok (.getfield 30, 3) := by decide +kernel
theorem dX6_tight_51 : decode cX6_tight 51 = .ok (.iload_n 3, 1) := by decide +kernel
theorem dX6_tight_52 : decode cX6_tight 52 = .ok (.invokevirtual 166, 3) := by decide +kernel
theorem dX6_tight_55 : decode cX6_tight 55 = .ok (.lstore 4, 2) := by decide +kernel
theorem dX6_tight_57 : decode cX6_tight 57 = .ok (.lload 4, 2) := by decide +kernel
theorem dX6_tight_59 : decode cX6_tight 59 = .ok (.iload_n 2, 1) := by decide +kernel
theorem dX6_tight_60 : decode cX6_tight 60 = .ok (.i2l, 1) := by decide +kernel
theorem dX6_tight_61 : decode cX6_tight 61 = .ok (.lcmp, 1) := by decide +kernel
theorem dX6_tight_62 : decode cX6_tight 62 = .ok (.ifCond .le 11, 3) := by decide +kernel
theorem dX6_tight_65 : decode cX6_tight 65 = .ok (.aload_n 0, 1) := by decide +kernel
theorem dX6_tight_66 : decode cX6_tight 66 = .ok (.iload_n 2, 1) := by decide +kernel
theorem dX6_tight_67 : decode cX6_tight 67 = .ok (.putfield 52, 3) := by decide +kernel
theorem dX6_tight_70 : decode cX6_tight 70 = .ok (.bipush (-6), 2) := by decide +kernel
theorem dX6_tight_72 : decode cX6_tight 72 = .ok (.ireturn, 1) := by decide +kernel
theorem dX6_tight_73 : decode cX6_tight 73 = .ok (.aload_n 0, 1) := by decide +kernel
theorem dX6_tight_74 : decode cX6_tight 74 = .ok (.lload 4, 2) := by decide +kernel
theorem dX6_tight_76 : decode cX6_tight 76 = .ok (.l2i, 1) := by decide +kernel
theorem dX6_tight_77 : decode cX6_tight 77 = .ok (.putfield 52, 3) := by decide +kernel
theorem dX6_tight_80 : decode cX6_tight 80 = .ok (.aload_n 0, 1) := by decide +kernel
theorem dX6_tight_81 : decode cX6_tight 81 = .ok (.getfield 30, 3) := by decide +kernel
theorem dX6_tight_84 : decode cX6_tight 84 = .ok (.iload_n 3, 1) := by decide +kernel
theorem dX6_tight_85 : decode cX6_tight 85 = .ok (.aload_n 0, 1) := by decide +kernel
theorem dX6_tight_86 : decode cX6_tight 86 = .ok (.getfield 52, 3) := by decide +kernel
theorem dX6_tight_89 : decode cX6_tight 89 = .ok (.invokevirtual 170, 3) := by decide +kernel
theorem dX6_tight_92 : decode cX6_tight 92 = .ok (.ireturn, 1) := by decide +kernel
theorem dX6_tries_0 : decode cX6_tries 0 = .ok (.aload_n 0, 1) := by decide +kernel
theorem dX6_tries_1 : decode cX6_tries 1 = .ok (.getfield 52, 3) := by decide +kernel
theorem dX6_tries_4 : decode cX6_tries 4 = .ok (.ireturn, 1) := by decide +kernel
theorem dX6_width_0 : decode cX6_width 0 = .ok (.iload_n 1, 1) := by decide +kernel
theorem dX6_width_1 : decode cX6_width 1 = .ok (.iconst 0, 1) := by decide +kernel
theorem dX6_width_2 : decode cX6_width 2 = .ok (.aload_n 0, 1) := by decide +kernel
theorem dX6_width_3 : decode cX6_width 3 = .ok (.getfield 10, 3) := by decide +kernel
theorem dX6_width_6 : decode cX6_width 6 = .ok (.getfield 67, 3) := by decide +kernel
theorem dX6_width_9 : decode cX6_width 9 = .ok (.iconst 1, 1) := by decide +kernel
theorem dX6_width_10 : decode cX6_width 10 = .ok (.isub, 1) := by decide +kernel
theorem dX6_width_11 : decode cX6_width 11 = .ok (.invokestatic 55, 3) := by decide +kernel
theorem dX6_width_14 : decode cX6_width 14 = .ok (.ifCond .ne 5, 3) := by decide +kernel
theorem dX6_width_17 : decode cX6_width 17 = .ok (.iconst (-1), 1) := by decide +kernel
theorem dX6_width_18 : decode cX6_width 18 = .ok (.ireturn, 1) := by decide +kernel
theorem dX6_width_19 : decode cX6_width 19 = .ok (.aload_n 0, 1) := by decide +kernel
theorem dX6_width_20 : decode cX6_width 20 = .ok (.getfield 30, 3) := by decide +kernel
theorem dX6_width_23 : decode cX6_width 23 = .ok (.getfield 173, 3) := by decide +kernel
theorem dX6_width_26 : decode cX6_width 26 = .ok (.iload_n 1, 1) := by decide +kernel
theorem dX6_width_27 : decode cX6_width 27 = .ok (.iaload, 1) := by decide +kernel
theorem dX6_width_28 : decode cX6_width 28 = .ok (.ireturn, 1) := by decide +kernel
theorem dX6_height_0 : decode cX6_height 0 = .ok (.iload_n 1, 1) := by decide +kernel
theorem dX6_height_1 : decode cX6_height 1 = .ok (.iconst 0, 1) := by decide +kernel
theorem dX6_height_2 : decode cX6_height 2 = .ok (.aload_n 0, 1) := by decide +kernel
theorem dX6_height_3 : decode cX6_height 3 = .ok (.getfield 10, 3) := by decide +kernel
theorem dX6_height_6 : decode cX6_height 6 = .ok (.getfield 83, 3) := by decide +kernel
theorem dX6_height_9 : decode cX6_height 9 = .ok (.iconst 1, 1) := by decide +kernel
theorem dX6_height_10 : decode cX6_height 10 = .ok (.isub, 1) := by decide +kernel
theorem dX6_height_11 : decode cX6_height 11 = .ok (.invokestatic 55, 3) := by decide +kernel
theorem dX6_height_14 : decode cX6_height 14 = .ok (.ifCond .ne 5, 3) := by decide +kernel
theorem dX6_height_17 : decode cX6_height 17 = .ok (.iconst (-1), 1) := by decide +kernel
theorem dX6_height_18 : decode cX6_height 18 = .ok (.ireturn, 1) := by decide +kernel
theorem dX6_height_19 : decode cX6_height 19 = .ok (.aload_n 0, 1) := by decide +kernel
theorem dX6_height_20 : decode cX6_height 20 = .ok (.invokevirtual 163, 3) := by decide +kernel
theorem dX6_height_23 : decode cX6_height 23 = .ok (.pop, 1) := by decide +kernel
theorem dX6_height_24 : decode cX6_height 24 = .ok (.aload_n 0, 1) := by decide +kernel
theorem dX6_height_25 : decode cX6_height 25 = .ok (.getfield 21, 3) := by decide +kernel
theorem dX6_height_28 : decode cX6_height 28 = .ok (.getfield 176, 3) := by decide +kernel
theorem dX6_height_31 : decode cX6_height 31 = .ok (.iload_n 1, 1) := by decide +kernel
theorem dX6_height_32 : decode cX6_height 32 = .ok (.iaload, 1) := by decide +kernel
theorem dX6_height_33 : decode cX6_height 33 = .ok (.ireturn, 1) := by decide +kernel
theorem dX6_pages_0 : decode cX6_pages 0 = .ok (.iload_n 1, 1) := by decide +kernel
theorem dX6_pages_1 : decode cX6_pages 1 = .ok (.iconst 1, 1) := by decide +kernel
theorem dX6_pages_2 : decode cX6_pages 2 = .ok (.sipush 200, 3) := by decide +kernel
theorem dX6_pages_5 : decode cX6_pages 5 = .ok (.invokestatic 55, 3) := by decide +kernel
theorem dX6_pages_8 : decode cX6_pages 8 = .ok (.ifCond .ne 5, 3) := by decide +kernel
theorem dX6_pages_11 : decode cX6_pages 11 = .ok (.iconst (-1), 1) := by decide +kernel
theorem dX6_pages_12 : decode cX6_pages 12 = .ok (.ireturn, 1) := by decide +kernel
theorem dX6_pages_13 : decode cX6_pages 13 = .ok (.aload_n 0, 1) := by decide +kernel
theorem dX6_pages_14 : decode cX6_pages 14 = .ok (.invokevirtual 163, 3) := by decide +kernel
theorem dX6_pages_17 : decode cX6_pages 17 = .ok (.pop, 1) := by decide +kernel
theorem dX6_pages_18 : decode cX6_pages 18 = .ok (.aload_n 0, 1) := by decide +kernel
theorem dX6_pages_19 : decode cX6_pages 19 = .ok (.getfield 37, 3) := by decide +kernel
theorem dX6_pages_22 : decode cX6_pages 22 = .ok (.iload_n 1, 1) := by decide +kernel
theorem dX6_pages_23 : decode cX6_pages 23 = .ok (.invokevirtual 177, 3) := by decide +kernel
theorem dX6_pages_26 : decode cX6_pages 26 = .ok (.ireturn, 1) := by decide +kernel
theorem dX6_page_0 : decode cX6_page 0 = .ok (.iload_n 2, 1) := by decide +kernel
theorem dX6_page_1 : decode cX6_page 1 = .ok (.iconst 0, 1) := by decide +kernel
theorem dX6_page_2 : decode cX6_page 2 = .ok (.iconst 3, 1) := by decide +kernel
theorem dX6_page_3 : decode cX6_page 3 = .ok (.invokestatic 55, 3) := by decide +kernel
theorem dX6_page_6 : decode cX6_page 6 = .ok (.ifCond .ne 5, 3) := by decide +kernel
theorem dX6_page_9 : decode cX6_page 9 = .ok (.iconst (-1), 1) := by decide +kernel
theorem dX6_page_10 : decode cX6_page 10 = .ok (.ireturn, 1) := by decide +kernel
theorem dX6_page_11 : decode cX6_page 11 = .ok (.iload_n 1, 1) := by decide +kernel
theorem dX6_page_12 : decode cX6_page 12 = .ok (.iconst 0, 1) := by decide +kernel
theorem dX6_page_13 : decode cX6_page 13 = .ok (.aload_n 0, 1) := by decide +kernel
theorem dX6_page_14 : decode cX6_page 14 = .ok (.getfield 37, 3) := by decide +kernel
theorem dX6_page_17 : decode cX6_page 17 = .ok (.getfield 180, 3) := by decide +kernel
theorem dX6_page_20 : decode cX6_page 20 = .ok (.iconst 1, 1) := by decide +kernel
theorem dX6_page_21 : decode cX6_page 21 = .ok (.isub, 1) := by decide +kernel
theorem dX6_page_22 : decode cX6_page 22 = .ok (.invokestatic 55, 3) := by decide +kernel
theorem dX6_page_25 : decode cX6_page 25 = .ok (.ifCond .eq 17, 3) := by decide +kernel
theorem dX6_page_28 : decode cX6_page 28 = .ok (.aload_n 0, 1) := by decide +kernel
theorem dX6_page_29 : decode cX6_page 29 = .ok (.getfield 37, 3) := by decide +kernel
theorem dX6_page_32 : decode cX6_page 32 = .ok (.getfield 183, 3) := by decide +kernel
theorem dX6_page_35 : decode cX6_page 35 = .ok (.iload_n 1, 1) := by decide +kernel
theorem dX6_page_36 : decode cX6_page 36 = .ok (.aaload, 1) := by decide +kernel
theorem dX6_page_37 : decode cX6_page 37 = .ok (.iload_n 2, 1) := by decide +kernel
theorem dX6_page_38 : decode cX6_page 38 = .ok (.iaload, 1) := by decide +kernel
theorem dX6_page_39 : decode cX6_page 39 = .ok (.goto 5, 3) := by decide +kernel
theorem dX6_page_42 : decode cX6_page 42 = .ok (.bipush (-9), 2) := by decide +kernel
theorem dX6_page_44 : decode cX6_page 44 = .ok (.ireturn, 1) := by decide +kernel
theorem dX6_pageOf_0 : decode cX6_pageOf 0 = .ok (.iload_n 1, 1) := by decide +kernel
theorem dX6_pageOf_1 : decode cX6_pageOf 1 = .ok (.iconst 0, 1) := by decide +kernel
theorem dX6_pageOf_2 : decode cX6_pageOf 2 = .ok (.aload_n 0, 1) := by decide +kernel
theorem dX6_pageOf_3 : decode cX6_pageOf 3 = .ok (.getfield 10, 3) := by decide +kernel
theorem dX6_pageOf_6 : decode cX6_pageOf 6 = .ok (.getfield 83, 3) := by decide +kernel
theorem dX6_pageOf_9 : decode cX6_pageOf 9 = .ok (.iconst 1, 1) := by decide +kernel
theorem dX6_pageOf_10 : decode cX6_pageOf 10 = .ok (.isub, 1) := by decide +kernel
theorem dX6_pageOf_11 : decode cX6_pageOf 11 = .ok (.invokestatic 55, 3) := by decide +kernel
theorem dX6_pageOf_14 : decode cX6_pageOf 14 = .ok (.ifCond .ne 5, 3) := by decide +kernel
theorem dX6_pageOf_17 : decode cX6_pageOf 17 = .ok (.iconst (-1), 1) := by decide +kernel
theorem dX6_pageOf_18 : decode cX6_pageOf 18 = .ok (.ireturn, 1) := by decide +kernel
theorem dX6_pageOf_19 : decode cX6_pageOf 19 = .ok (.aload_n 0, 1) := by decide +kernel
theorem dX6_pageOf_20 : decode cX6_pageOf 20 = .ok (.getfield 37, 3) := by decide +kernel
theorem dX6_pageOf_23 : decode cX6_pageOf 23 = .ok (.iload_n 1, 1) := by decide +kernel
theorem dX6_pageOf_24 : decode cX6_pageOf 24 = .ok (.invokevirtual 187, 3) := by decide +kernel
theorem dX6_pageOf_27 : decode cX6_pageOf 27 = .ok (.ireturn, 1) := by decide +kernel
theorem dX6_mayBreak_0 : decode cX6_mayBreak 0 = .ok (.iload_n 1, 1) := by decide +kernel
theorem dX6_mayBreak_1 : decode cX6_mayBreak 1 = .ok (.iconst 0, 1) := by decide +kernel
theorem dX6_mayBreak_2 : decode cX6_mayBreak 2 = .ok (.aload_n 0, 1) := by decide +kernel
theorem dX6_mayBreak_3 : decode cX6_mayBreak 3 = .ok (.getfield 10, 3) := by decide +kernel
theorem dX6_mayBreak_6 : decode cX6_mayBreak 6 = .ok (.getfield 83, 3) := by decide +kernel
theorem dX6_mayBreak_9 : decode cX6_mayBreak 9 = .ok (.iconst 1, 1) := by decide +kernel
theorem dX6_mayBreak_10 : decode cX6_mayBreak 10 = .ok (.isub, 1) := by decide +kernel
theorem dX6_mayBreak_11 : decode cX6_mayBreak 11 = .ok (.invokestatic 55, 3) := by decide +kernel
theorem dX6_mayBreak_14 : decode cX6_mayBreak 14 = .ok (.ifCond .ne 5, 3) := by decide +kernel
theorem dX6_mayBreak_17 : decode cX6_mayBreak 17 = .ok (.iconst (-1), 1) := by decide +kernel
theorem dX6_mayBreak_18 : decode cX6_mayBreak 18 = .ok (.ireturn, 1) := by decide +kernel
theorem dX6_mayBreak_19 : decode cX6_mayBreak 19 = .ok (.aload_n 0, 1) := by decide +kernel
theorem dX6_mayBreak_20 : decode cX6_mayBreak 20 = .ok (.getfield 10, 3) := by decide +kernel
theorem dX6_mayBreak_23 : decode cX6_mayBreak 23 = .ok (.iload_n 1, 1) := by decide +kernel
theorem dX6_mayBreak_24 : decode cX6_mayBreak 24 = .ok (.aload_n 0, 1) := by decide +kernel
theorem dX6_mayBreak_25 : decode cX6_mayBreak 25 = .ok (.getfield 10, 3) := by decide +kernel
theorem dX6_mayBreak_28 : decode cX6_mayBreak 28 = .ok (.invokevirtual 190, 3) := by decide +kernel
theorem dX6_mayBreak_31 : decode cX6_mayBreak 31 = .ok (.invokevirtual 193, 3) := by decide +kernel
theorem dX6_mayBreak_34 : decode cX6_mayBreak 34 = .ok (.ifCond .eq 7, 3) := by decide +kernel
theorem dX6_mayBreak_37 : decode cX6_mayBreak 37 = .ok (.iconst 1, 1) := by decide +kernel
theorem dX6_mayBreak_38 : decode cX6_mayBreak 38 = .ok (.goto 4, 3) := by decide +kernel
theorem dX6_mayBreak_41 : decode cX6_mayBreak 41 = .ok (.iconst 0, 1) := by decide +kernel
theorem dX6_mayBreak_42 : decode cX6_mayBreak 42 = .ok (.ireturn, 1) := by decide +kernel
theorem dX6_count_0 : decode cX6_count 0 = .ok (.iload_n 1, 1) := by decide +kernel
theorem dX6_count_1 : decode cX6_count 1 = .ok (.tableswitch 96 0 6 #[43, 51, 59, 67, 75, 83, 91], 43) := by decide +kernel
theorem dX6_count_44 : decode cX6_count 44 = .ok (.aload_n 0, 1) := by decide +kernel
theorem dX6_count_45 : decode cX6_count 45 = .ok (.getfield 10, 3) := by decide +kernel
theorem dX6_count_48 : decode cX6_count 48 = .ok (.getfield 83, 3) := by decide +kernel
theorem dX6_count_51 : decode cX6_count 51 = .ok (.ireturn, 1) := by decide +kernel
theorem dX6_count_52 : decode cX6_count 52 = .ok (.aload_n 0, 1) := by decide +kernel
theorem dX6_count_53 : decode cX6_count 53 = .ok (.getfield 10, 3) := by decide +kernel
theorem dX6_count_56 : decode cX6_count 56 = .ok (.getfield 67, 3) := by decide +kernel
theorem dX6_count_59 : decode cX6_count 59 = .ok (.ireturn, 1) := by decide +kernel
theorem dX6_count_60 : decode cX6_count 60 = .ok (.aload_n 0, 1) := by decide +kernel
theorem dX6_count_61 : decode cX6_count 61 = .ok (.getfield 10, 3) := by decide +kernel
theorem dX6_count_64 : decode cX6_count 64 = .ok (.getfield 80, 3) := by decide +kernel
theorem dX6_count_67 : decode cX6_count 67 = .ok (.ireturn, 1) := by decide +kernel
theorem dX6_count_68 : decode cX6_count 68 = .ok (.aload_n 0, 1) := by decide +kernel
theorem dX6_count_69 : decode cX6_count 69 = .ok (.getfield 10, 3) := by decide +kernel
theorem dX6_count_72 : decode cX6_count 72 = .ok (.invokevirtual 196, 3) := by decide +kernel
theorem dX6_count_75 : decode cX6_count 75 = .ok (.ireturn, 1) := by decide +kernel
theorem dX6_count_76 : decode cX6_count 76 = .ok (.aload_n 0, 1) := by decide +kernel
theorem dX6_count_77 : decode cX6_count 77 = .ok (.getfield 10, 3) := by decide +kernel
theorem dX6_count_80 : decode cX6_count 80 = .ok (.invokevirtual 190, 3) := by decide +kernel
theorem dX6_count_83 : decode cX6_count 83 = .ok (.ireturn, 1) := by decide +kernel
theorem dX6_count_84 : decode cX6_count 84 = .ok (.aload_n 0, 1) := by decide +kernel
theorem dX6_count_85 : decode cX6_count 85 = .ok (.getfield 37, 3) := by decide +kernel
theorem dX6_count_88 : decode cX6_count 88 = .ok (.getfield 180, 3) := by decide +kernel
theorem dX6_count_91 : decode cX6_count 91 = .ok (.ireturn, 1) := by decide +kernel
theorem dX6_count_92 : decode cX6_count 92 = .ok (.aload_n 0, 1) := by decide +kernel
theorem dX6_count_93 : decode cX6_count 93 = .ok (.invokevirtual 163, 3) := by decide +kernel
theorem dX6_count_96 : decode cX6_count 96 = .ok (.ireturn, 1) := by decide +kernel
theorem dX6_count_97 : decode cX6_count 97 = .ok (.iconst (-1), 1) := by decide +kernel
theorem dX6_count_98 : decode cX6_count 98 = .ok (.ireturn, 1) := by decide +kernel
theorem dX6_finding_0 : decode cX6_finding 0 = .ok (.aload_n 0, 1) := by decide +kernel
theorem dX6_finding_1 : decode cX6_finding 1 = .ok (.getfield 45, 3) := by decide +kernel
theorem dX6_finding_4 : decode cX6_finding 4 = .ok (.ireturn, 1) := by decide +kernel
theorem dX6_findings_0 : decode cX6_findings 0 = .ok (.iload_n 1, 1) := by decide +kernel
theorem dX6_findings_1 : decode cX6_findings 1 = .ok (.iconst 1, 1) := by decide +kernel
theorem dX6_findings_2 : decode cX6_findings 2 = .ok (.bipush 6, 2) := by decide +kernel
theorem dX6_findings_4 : decode cX6_findings 4 = .ok (.invokestatic 55, 3) := by decide +kernel
theorem dX6_findings_7 : decode cX6_findings 7 = .ok (.ifCond .eq 12, 3) := by decide +kernel
theorem dX6_findings_10 : decode cX6_findings 10 = .ok (.aload_n 0, 1) := by decide +kernel
theorem dX6_findings_11 : decode cX6_findings 11 = .ok (.getfield 41, 3) := by decide +kernel
theorem dX6_findings_14 : decode cX6_findings 14 = .ok (.iload_n 1, 1) := by decide +kernel
theorem dX6_findings_15 : decode cX6_findings 15 = .ok (.iaload, 1) := by decide +kernel
theorem dX6_findings_16 : decode cX6_findings 16 = .ok (.goto 4, 3) := by decide +kernel
theorem dX6_findings_19 : decode cX6_findings 19 = .ok (.iconst (-1), 1) := by decide +kernel
theorem dX6_findings_20 : decode cX6_findings 20 = .ok (.ireturn, 1) := by decide +kernel
theorem dX6_digest_0 : decode cX6_digest 0 = .ok (.ldc2_w 199, 3) := by decide +kernel
theorem dX6_digest_3 : decode cX6_digest 3 = .ok (.lstore_n 1, 1) := by decide +kernel
theorem dX6_digest_4 : decode cX6_digest 4 = .ok (.ldc2_w 201, 3) := by decide +kernel
theorem dX6_digest_7 : decode cX6_digest 7 = .ok (.lload_n 1, 1) := by decide +kernel
theorem dX6_digest_8 : decode cX6_digest 8 = .ok (.lmul, 1) := by decide +kernel
theorem dX6_digest_9 : decode cX6_digest 9 = .ok (.aload_n 0, 1) := by decide +kernel
theorem dX6_digest_10 : decode cX6_digest 10 = .ok (.getfield 10, 3) := by decide +kernel
theorem dX6_digest_13 : decode cX6_digest 13 = .ok (.getfield 83, 3) := by decide +kernel
theorem dX6_digest_16 : decode cX6_digest 16 = .ok (.i2l, 1) := by decide +kernel
theorem dX6_digest_17 : decode cX6_digest 17 = .ok (.ladd, 1) := by decide +kernel
theorem dX6_digest_18 : decode cX6_digest 18 = .ok (.lstore_n 1, 1) := by decide +kernel
theorem dX6_digest_19 : decode cX6_digest 19 = .ok (.ldc2_w 201, 3) := by decide +kernel
theorem dX6_digest_22 : decode cX6_digest 22 = .ok (.lload_n 1, 1) := by decide +kernel
theorem dX6_digest_23 : decode cX6_digest 23 = .ok (.lmul, 1) := by decide +kernel
theorem dX6_digest_24 : decode cX6_digest 24 = .ok (.aload_n 0, 1) := by decide +kernel
theorem dX6_digest_25 : decode cX6_digest 25 = .ok (.getfield 10, 3) := by decide +kernel
theorem dX6_digest_28 : decode cX6_digest 28 = .ok (.getfield 67, 3) := by decide +kernel
theorem dX6_digest_31 : decode cX6_digest 31 = .ok (.i2l, 1) := by decide +kernel
theorem dX6_digest_32 : decode cX6_digest 32 = .ok (.ladd, 1) := by decide +kernel
theorem dX6_digest_33 : decode cX6_digest 33 = .ok (.lstore_n 1, 1) := by decide +kernel
theorem dX6_digest_34 : decode cX6_digest 34 = .ok (.ldc2_w 201, 3) := by decide +kernel
theorem dX6_digest_37 : decode cX6_digest 37 = .ok (.lload_n 1, 1) := by decide +kernel
theorem dX6_digest_38 : decode cX6_digest 38 = .ok (.lmul, 1) := by decide +kernel
theorem dX6_digest_39 : decode cX6_digest 39 = .ok (.aload_n 0, 1) := by decide +kernel
theorem dX6_digest_40 : decode cX6_digest 40 = .ok (.getfield 10, 3) := by decide +kernel
theorem dX6_digest_43 : decode cX6_digest 43 = .ok (.getfield 203, 3) := by decide +kernel
theorem dX6_digest_46 : decode cX6_digest 46 = .ok (.i2l, 1) := by decide +kernel
theorem dX6_digest_47 : decode cX6_digest 47 = .ok (.ladd, 1) := by decide +kernel
theorem dX6_digest_48 : decode cX6_digest 48 = .ok (.lstore_n 1, 1) := by decide +kernel
theorem dX6_digest_49 : decode cX6_digest 49 = .ok (.lload_n 1, 1) := by decide +kernel
theorem dX6_digest_50 : decode cX6_digest 50 = .ok (.aload_n 0, 1) := by decide +kernel
theorem dX6_digest_51 : decode cX6_digest 51 = .ok (.getfield 10, 3) := by decide +kernel
theorem dX6_digest_54 : decode cX6_digest 54 = .ok (.getfield 70, 3) := by decide +kernel
theorem dX6_digest_57 : decode cX6_digest 57 = .ok (.aload_n 0, 1) := by decide +kernel
theorem dX6_digest_58 : decode cX6_digest 58 = .ok (.getfield 10, 3) := by decide +kernel
theorem dX6_digest_61 : decode cX6_digest 61 = .ok (.getfield 67, 3) := by decide +kernel
theorem dX6_digest_64 : decode cX6_digest 64 = .ok (.invokestatic 206, 3) := by decide +kernel
theorem dX6_digest_67 : decode cX6_digest 67 = .ok (.lstore_n 1, 1) := by decide +kernel
theorem dX6_digest_68 : decode cX6_digest 68 = .ok (.lload_n 1, 1) := by decide +kernel
theorem dX6_digest_69 : decode cX6_digest 69 = .ok (.aload_n 0, 1) := by decide +kernel
theorem dX6_digest_70 : decode cX6_digest 70 = .ok (.getfield 30, 3) := by decide +kernel
theorem dX6_digest_73 : decode cX6_digest 73 = .ok (.getfield 173, 3) := by decide +kernel
theorem dX6_digest_76 : decode cX6_digest 76 = .ok (.aload_n 0, 1) := by decide +kernel
theorem dX6_digest_77 : decode cX6_digest 77 = .ok (.getfield 10, 3) := by decide +kernel
theorem dX6_digest_80 : decode cX6_digest 80 = .ok (.getfield 67, 3) := by decide +kernel
theorem dX6_digest_83 : decode cX6_digest 83 = .ok (.invokestatic 206, 3) := by decide +kernel
theorem dX6_digest_86 : decode cX6_digest 86 = .ok (.lstore_n 1, 1) := by decide +kernel
theorem dX6_digest_87 : decode cX6_digest 87 = .ok (.lload_n 1, 1) := by decide +kernel
theorem dX6_digest_88 : decode cX6_digest 88 = .ok (.aload_n 0, 1) := by decide +kernel
theorem dX6_digest_89 : decode cX6_digest 89 = .ok (.getfield 10, 3) := by decide +kernel
theorem dX6_digest_92 : decode cX6_digest 92 = .ok (.getfield 73, 3) := by decide +kernel
theorem dX6_digest_95 : decode cX6_digest 95 = .ok (.bipush 10, 2) := by decide +kernel
theorem dX6_digest_97 : decode cX6_digest 97 = .ok (.invokestatic 206, 3) := by decide +kernel
theorem dX6_digest_100 : decode cX6_digest 100 = .ok (.lstore_n 1, 1) := by decide +kernel
theorem dX6_digest_101 : decode cX6_digest 101 = .ok (.iconst 0, 1) := by decide +kernel
theorem dX6_digest_102 : decode cX6_digest 102 = .ok (.istore_n 3, 1) := by decide +kernel
theorem dX6_digest_103 : decode cX6_digest 103 = .ok (.iload_n 3, 1) := by decide +kernel
theorem dX6_digest_104 : decode cX6_digest 104 = .ok (.aload_n 0, 1) := by decide +kernel
theorem dX6_digest_105 : decode cX6_digest 105 = .ok (.getfield 10, 3) := by decide +kernel
theorem dX6_digest_108 : decode cX6_digest 108 = .ok (.getfield 80, 3) := by decide +kernel
theorem dX6_digest_111 : decode cX6_digest 111 = .ok (.if_icmp .ge 41, 3) := by decide +kernel
theorem dX6_digest_114 : decode cX6_digest 114 = .ok (.aload_n 0, 1) := by decide +kernel
theorem dX6_digest_115 : decode cX6_digest 115 = .ok (.getfield 10, 3) := by decide +kernel
theorem dX6_digest_118 : decode cX6_digest 118 = .ok (.iload_n 3, 1) := by decide +kernel
theorem dX6_digest_119 : decode cX6_digest 119 = .ok (.invokevirtual 210, 3) := by decide +kernel
theorem dX6_digest_122 : decode cX6_digest 122 = .ok (.astore 4, 2) := by decide +kernel
theorem dX6_digest_124 : decode cX6_digest 124 = .ok (.aload 4, 2) := by decide +kernel
theorem dX6_digest_126 : decode cX6_digest 126 = .ok (.ifnonnull 13, 3) := by decide +kernel
theorem dX6_digest_129 : decode cX6_digest 129 = .ok (.ldc2_w 201, 3) := by decide +kernel
theorem dX6_digest_132 : decode cX6_digest 132 = .ok (.lload_n 1, 1) := by decide +kernel
theorem dX6_digest_133 : decode cX6_digest 133 = .ok (.lmul, 1) := by decide +kernel
theorem dX6_digest_134 : decode cX6_digest 134 = .ok (.lconst 1, 1) := by decide +kernel
theorem dX6_digest_135 : decode cX6_digest 135 = .ok (.lsub, 1) := by decide +kernel
theorem dX6_digest_136 : decode cX6_digest 136 = .ok (.goto 9, 3) := by decide +kernel
theorem dX6_digest_139 : decode cX6_digest 139 = .ok (.lload_n 1, 1) := by decide +kernel
theorem dX6_digest_140 : decode cX6_digest 140 = .ok (.aload 4, 2) := by decide +kernel
theorem dX6_digest_142 : decode cX6_digest 142 = .ok (.invokestatic 213, 3) := by decide +kernel
theorem dX6_digest_145 : decode cX6_digest 145 = .ok (.lstore_n 1, 1) := by decide +kernel
theorem dX6_digest_146 : decode cX6_digest 146 = .ok (.iinc 3 1, 3) := by decide +kernel
theorem dX6_digest_149 : decode cX6_digest 149 = .ok (.goto (-46), 3) := by decide +kernel
theorem dX6_digest_152 : decode cX6_digest 152 = .ok (.ldc2_w 201, 3) := by decide +kernel
theorem dX6_digest_155 : decode cX6_digest 155 = .ok (.lload_n 1, 1) := by decide +kernel
theorem dX6_digest_156 : decode cX6_digest 156 = .ok (.lmul, 1) := by decide +kernel
theorem dX6_digest_157 : decode cX6_digest 157 = .ok (.aload_n 0, 1) := by decide +kernel
theorem dX6_digest_158 : decode cX6_digest 158 = .ok (.getfield 37, 3) := by decide +kernel
theorem dX6_digest_161 : decode cX6_digest 161 = .ok (.getfield 180, 3) := by decide +kernel
theorem dX6_digest_164 : decode cX6_digest 164 = .ok (.i2l, 1) := by decide +kernel
theorem dX6_digest_165 : decode cX6_digest 165 = .ok (.ladd, 1) := by decide +kernel
theorem dX6_digest_166 : decode cX6_digest 166 = .ok (.lstore_n 1, 1) := by decide +kernel
theorem dX6_digest_167 : decode cX6_digest 167 = .ok (.iconst 0, 1) := by decide +kernel
theorem dX6_digest_168 : decode cX6_digest 168 = .ok (.istore_n 3, 1) := by decide +kernel
theorem dX6_digest_169 : decode cX6_digest 169 = .ok (.iload_n 3, 1) := by decide +kernel
theorem dX6_digest_170 : decode cX6_digest 170 = .ok (.aload_n 0, 1) := by decide +kernel
theorem dX6_digest_171 : decode cX6_digest 171 = .ok (.getfield 37, 3) := by decide +kernel
theorem dX6_digest_174 : decode cX6_digest 174 = .ok (.getfield 180, 3) := by decide +kernel
theorem dX6_digest_177 : decode cX6_digest 177 = .ok (.if_icmp .ge 30, 3) := by decide +kernel
theorem dX6_digest_180 : decode cX6_digest 180 = .ok (.iload_n 3, 1) := by decide +kernel
theorem dX6_digest_181 : decode cX6_digest 181 = .ok (.bipush 16, 2) := by decide +kernel
theorem dX6_digest_183 : decode cX6_digest 183 = .ok (.if_icmp .ge 24, 3) := by decide +kernel
theorem dX6_digest_186 : decode cX6_digest 186 = .ok (.lload_n 1, 1) := by decide +kernel
theorem dX6_digest_187 : decode cX6_digest 187 = .ok (.aload_n 0, 1) := by decide +kernel
theorem dX6_digest_188 : decode cX6_digest 188 = .ok (.getfield 37, 3) := by decide +kernel
theorem dX6_digest_191 : decode cX6_digest 191 = .ok (.getfield 183, 3) := by decide +kernel
theorem dX6_digest_194 : decode cX6_digest 194 = .ok (.iload_n 3, 1) := by decide +kernel
theorem dX6_digest_195 : decode cX6_digest 195 = .ok (.aaload, 1) := by decide +kernel
theorem dX6_digest_196 : decode cX6_digest 196 = .ok (.iconst 4, 1) := by decide +kernel
theorem dX6_digest_197 : decode cX6_digest 197 = .ok (.invokestatic 206, 3) := by decide +kernel
theorem dX6_digest_200 : decode cX6_digest 200 = .ok (.lstore_n 1, 1) := by decide +kernel
theorem dX6_digest_201 : decode cX6_digest 201 = .ok (.iinc 3 1, 3) := by decide +kernel
theorem dX6_digest_204 : decode cX6_digest 204 = .ok (.goto (-35), 3) := by decide +kernel
theorem dX6_digest_207 : decode cX6_digest 207 = .ok (.lload_n 1, 1) := by decide +kernel
theorem dX6_digest_208 : decode cX6_digest 208 = .ok (.lreturn, 1) := by decide +kernel
theorem dX6_mixed_0 : decode cX6_mixed 0 = .ok (.lload_n 0, 1) := by decide +kernel
theorem dX6_mixed_1 : decode cX6_mixed 1 = .ok (.lstore 4, 2) := by decide +kernel
theorem dX6_mixed_3 : decode cX6_mixed 3 = .ok (.iconst 0, 1) := by decide +kernel
theorem dX6_mixed_4 : decode cX6_mixed 4 = .ok (.istore 6, 2) := by decide +kernel
theorem dX6_mixed_6 : decode cX6_mixed 6 = .ok (.iload 6, 2) := by decide +kernel
theorem dX6_mixed_8 : decode cX6_mixed 8 = .ok (.iload_n 3, 1) := by decide +kernel
theorem dX6_mixed_9 : decode cX6_mixed 9 = .ok (.if_icmp .ge 30, 3) := by decide +kernel
theorem dX6_mixed_12 : decode cX6_mixed 12 = .ok (.iload 6, 2) := by decide +kernel
theorem dX6_mixed_14 : decode cX6_mixed 14 = .ok (.aload_n 2, 1) := by decide +kernel
theorem dX6_mixed_15 : decode cX6_mixed 15 = .ok (.arraylength, 1) := by decide +kernel
theorem dX6_mixed_16 : decode cX6_mixed 16 = .ok (.if_icmp .ge 23, 3) := by decide +kernel
theorem dX6_mixed_19 : decode cX6_mixed 19 = .ok (.ldc2_w 201, 3) := by decide +kernel
theorem dX6_mixed_22 : decode cX6_mixed 22 = .ok (.lload 4, 2) := by decide +kernel
theorem dX6_mixed_24 : decode cX6_mixed 24 = .ok (.lmul, 1) := by decide +kernel
theorem dX6_mixed_25 : decode cX6_mixed 25 = .ok (.aload_n 2, 1) := by decide +kernel
theorem dX6_mixed_26 : decode cX6_mixed 26 = .ok (.iload 6, 2) := by decide +kernel
theorem dX6_mixed_28 : decode cX6_mixed 28 = .ok (.iaload, 1) := by decide +kernel
theorem dX6_mixed_29 : decode cX6_mixed 29 = .ok (.i2l, 1) := by decide +kernel
theorem dX6_mixed_30 : decode cX6_mixed 30 = .ok (.ladd, 1) := by decide +kernel
theorem dX6_mixed_31 : decode cX6_mixed 31 = .ok (.lstore 4, 2) := by decide +kernel
theorem dX6_mixed_33 : decode cX6_mixed 33 = .ok (.iinc 6 1, 3) := by decide +kernel
theorem dX6_mixed_36 : decode cX6_mixed 36 = .ok (.goto (-30), 3) := by decide +kernel
theorem dX6_mixed_39 : decode cX6_mixed 39 = .ok (.lload 4, 2) := by decide +kernel
theorem dX6_mixed_41 : decode cX6_mixed 41 = .ok (.lreturn, 1) := by decide +kernel
theorem dX6_mixedCell_0 : decode cX6_mixedCell 0 = .ok (.lload_n 0, 1) := by decide +kernel
theorem dX6_mixedCell_1 : decode cX6_mixedCell 1 = .ok (.lstore_n 3, 1) := by decide +kernel
theorem dX6_mixedCell_2 : decode cX6_mixedCell 2 = .ok (.iconst 0, 1) := by decide +kernel
theorem dX6_mixedCell_3 : decode cX6_mixedCell 3 = .ok (.istore 5, 2) := by decide +kernel
theorem dX6_mixedCell_5 : decode cX6_mixedCell 5 = .ok (.iload 5, 2) := by decide +kernel
theorem dX6_mixedCell_7 : decode cX6_mixedCell 7 = .ok (.bipush 6, 2) := by decide +kernel
theorem dX6_mixedCell_9 : decode cX6_mixedCell 9 = .ok (.if_icmp .gt 23, 3) := by decide +kernel
theorem dX6_mixedCell_12 : decode cX6_mixedCell 12 = .ok (.ldc2_w 201, 3) := by decide +kernel
theorem dX6_mixedCell_15 : decode cX6_mixedCell 15 = .ok (.lload_n 3, 1) := by decide +kernel
theorem dX6_mixedCell_16 : decode cX6_mixedCell 16 = .ok (.lmul, 1) := by decide +kernel
theorem dX6_mixedCell_17 : decode cX6_mixedCell 17 = .ok (.aload_n 2, 1) := by decide +kernel
theorem dX6_mixedCell_18 : decode cX6_mixedCell 18 = .ok (.iload 5, 2) := by decide +kernel
theorem dX6_mixedCell_20 : decode cX6_mixedCell 20 = .ok (.invokevirtual 108, 3) := by decide +kernel
theorem dX6_mixedCell_23 : decode cX6_mixedCell 23 = .ok (.i2l, 1) := by decide +kernel
theorem dX6_mixedCell_24 : decode cX6_mixedCell 24 = .ok (.ladd, 1) := by decide +kernel
theorem dX6_mixedCell_25 : decode cX6_mixedCell 25 = .ok (.lstore_n 3, 1) := by decide +kernel
theorem dX6_mixedCell_26 : decode cX6_mixedCell 26 = .ok (.iinc 5 1, 3) := by decide +kernel
theorem dX6_mixedCell_29 : decode cX6_mixedCell 29 = .ok (.goto (-24), 3) := by decide +kernel
theorem dX6_mixedCell_32 : decode cX6_mixedCell 32 = .ok (.lload_n 3, 1) := by decide +kernel
theorem dX6_mixedCell_33 : decode cX6_mixedCell 33 = .ok (.aload_n 2, 1) := by decide +kernel
theorem dX6_mixedCell_34 : decode cX6_mixedCell 34 = .ok (.getfield 217, 3) := by decide +kernel
theorem dX6_mixedCell_37 : decode cX6_mixedCell 37 = .ok (.aload_n 2, 1) := by decide +kernel
theorem dX6_mixedCell_38 : decode cX6_mixedCell 38 = .ok (.getfield 129, 3) := by decide +kernel
theorem dX6_mixedCell_41 : decode cX6_mixedCell 41 = .ok (.invokestatic 206, 3) := by decide +kernel
theorem dX6_mixedCell_44 : decode cX6_mixedCell 44 = .ok (.lstore_n 3, 1) := by decide +kernel
theorem dX6_mixedCell_45 : decode cX6_mixedCell 45 = .ok (.aload_n 2, 1) := by decide +kernel
theorem dX6_mixedCell_46 : decode cX6_mixedCell 46 = .ok (.getfield 111, 3) := by decide +kernel
theorem dX6_mixedCell_49 : decode cX6_mixedCell 49 = .ok (.iconst 2, 1) := by decide +kernel
theorem dX6_mixedCell_50 : decode cX6_mixedCell 50 = .ok (.if_icmp .ne 17, 3) := by decide +kernel
theorem dX6_mixedCell_53 : decode cX6_mixedCell 53 = .ok (.ldc2_w 201, 3) := by decide +kernel
theorem dX6_mixedCell_56 : decode cX6_mixedCell 56 = .ok (.lload_n 3, 1) := by decide +kernel
theorem dX6_mixedCell_57 : decode cX6_mixedCell 57 = .ok (.lmul, 1) := by decide +kernel
theorem dX6_mixedCell_58 : decode cX6_mixedCell 58 = .ok (.aload_n 2, 1) := by decide +kernel
theorem dX6_mixedCell_59 : decode cX6_mixedCell 59 = .ok (.getfield 139, 3) := by decide +kernel
theorem dX6_mixedCell_62 : decode cX6_mixedCell 62 = .ok (.i2l, 1) := by decide +kernel
theorem dX6_mixedCell_63 : decode cX6_mixedCell 63 = .ok (.ladd, 1) := by decide +kernel
theorem dX6_mixedCell_64 : decode cX6_mixedCell 64 = .ok (.goto 4, 3) := by decide +kernel
theorem dX6_mixedCell_67 : decode cX6_mixedCell 67 = .ok (.lload_n 3, 1) := by decide +kernel
theorem dX6_mixedCell_68 : decode cX6_mixedCell 68 = .ok (.lreturn, 1) := by decide +kernel
theorem dX6_isWithin_0 : decode cX6_isWithin 0 = .ok (.iload_n 0, 1) := by decide +kernel
theorem dX6_isWithin_1 : decode cX6_isWithin 1 = .ok (.iload_n 1, 1) := by decide +kernel
theorem dX6_isWithin_2 : decode cX6_isWithin 2 = .ok (.if_icmp .lt 12, 3) := by decide +kernel
theorem dX6_isWithin_5 : decode cX6_isWithin 5 = .ok (.iload_n 0, 1) := by decide +kernel
theorem dX6_isWithin_6 : decode cX6_isWithin 6 = .ok (.iload_n 2, 1) := by decide +kernel
theorem dX6_isWithin_7 : decode cX6_isWithin 7 = .ok (.if_icmp .gt 7, 3) := by decide +kernel
theorem dX6_isWithin_10 : decode cX6_isWithin 10 = .ok (.iconst 1, 1) := by decide +kernel
theorem dX6_isWithin_11 : decode cX6_isWithin 11 = .ok (.goto 4, 3) := by decide +kernel
theorem dX6_isWithin_14 : decode cX6_isWithin 14 = .ok (.iconst 0, 1) := by decide +kernel
theorem dX6_isWithin_15 : decode cX6_isWithin 15 = .ok (.ireturn, 1) := by decide +kernel
theorem dX6_isPlace_0 : decode cX6_isPlace 0 = .ok (.iload_n 1, 1) := by decide +kernel
theorem dX6_isPlace_1 : decode cX6_isPlace 1 = .ok (.iconst 0, 1) := by decide +kernel
theorem dX6_isPlace_2 : decode cX6_isPlace 2 = .ok (.aload_n 0, 1) := by decide +kernel
theorem dX6_isPlace_3 : decode cX6_isPlace 3 = .ok (.getfield 10, 3) := by decide +kernel
theorem dX6_isPlace_6 : decode cX6_isPlace 6 = .ok (.getfield 83, 3) := by decide +kernel
theorem dX6_isPlace_9 : decode cX6_isPlace 9 = .ok (.iconst 1, 1) := by decide +kernel
theorem dX6_isPlace_10 : decode cX6_isPlace 10 = .ok (.isub, 1) := by decide +kernel
theorem dX6_isPlace_11 : decode cX6_isPlace 11 = .ok (.invokestatic 55, 3) := by decide +kernel
theorem dX6_isPlace_14 : decode cX6_isPlace 14 = .ok (.ifCond .eq 24, 3) := by decide +kernel
theorem dX6_isPlace_17 : decode cX6_isPlace 17 = .ok (.iload_n 2, 1) := by decide +kernel
theorem dX6_isPlace_18 : decode cX6_isPlace 18 = .ok (.iconst 0, 1) := by decide +kernel
theorem dX6_isPlace_19 : decode cX6_isPlace 19 = .ok (.aload_n 0, 1) := by decide +kernel
theorem dX6_isPlace_20 : decode cX6_isPlace 20 = .ok (.getfield 10, 3) := by decide +kernel
theorem dX6_isPlace_23 : decode cX6_isPlace 23 = .ok (.getfield 67, 3) := by decide +kernel
theorem dX6_isPlace_26 : decode cX6_isPlace 26 = .ok (.iconst 1, 1) := by decide +kernel
theorem dX6_isPlace_27 : decode cX6_isPlace 27 = .ok (.isub, 1) := by decide +kernel
theorem dX6_isPlace_28 : decode cX6_isPlace 28 = .ok (.invokestatic 55, 3) := by decide +kernel
theorem dX6_isPlace_31 : decode cX6_isPlace 31 = .ok (.ifCond .eq 7, 3) := by decide +kernel
theorem dX6_isPlace_34 : decode cX6_isPlace 34 = .ok (.iconst 1, 1) := by decide +kernel
theorem dX6_isPlace_35 : decode cX6_isPlace 35 = .ok (.goto 4, 3) := by decide +kernel
theorem dX6_isPlace_38 : decode cX6_isPlace 38 = .ok (.iconst 0, 1) := by decide +kernel
theorem dX6_isPlace_39 : decode cX6_isPlace 39 = .ok (.ireturn, 1) := by decide +kernel
theorem dX6_tell_0 : decode cX6_tell 0 = .ok (.aload_n 0, 1) := by decide +kernel
theorem dX6_tell_1 : decode cX6_tell 1 = .ok (.iload_n 1, 1) := by decide +kernel
theorem dX6_tell_2 : decode cX6_tell 2 = .ok (.putfield 45, 3) := by decide +kernel
theorem dX6_tell_5 : decode cX6_tell 5 = .ok (.iload_n 1, 1) := by decide +kernel
theorem dX6_tell_6 : decode cX6_tell 6 = .ok (.ifCond .lt 22, 3) := by decide +kernel
theorem dX6_tell_9 : decode cX6_tell 9 = .ok (.iload_n 1, 1) := by decide +kernel
theorem dX6_tell_10 : decode cX6_tell 10 = .ok (.aload_n 0, 1) := by decide +kernel
theorem dX6_tell_11 : decode cX6_tell 11 = .ok (.getfield 41, 3) := by decide +kernel
theorem dX6_tell_14 : decode cX6_tell 14 = .ok (.arraylength, 1) := by decide +kernel
theorem dX6_tell_15 : decode cX6_tell 15 = .ok (.if_icmp .ge 13, 3) := by decide +kernel
theorem dX6_tell_18 : decode cX6_tell 18 = .ok (.aload_n 0, 1) := by decide +kernel
theorem dX6_tell_19 : decode cX6_tell 19 = .ok (.getfield 41, 3) := by decide +kernel
theorem dX6_tell_22 : decode cX6_tell 22 = .ok (.iload_n 1, 1) := by decide +kernel
theorem dX6_tell_23 : decode cX6_tell 23 = .ok (.dup2, 1) := by decide +kernel
theorem dX6_tell_24 : decode cX6_tell 24 = .ok (.iaload, 1) := by decide +kernel
theorem dX6_tell_25 : decode cX6_tell 25 = .ok (.iconst 1, 1) := by decide +kernel
theorem dX6_tell_26 : decode cX6_tell 26 = .ok (.iadd, 1) := by decide +kernel
theorem dX6_tell_27 : decode cX6_tell 27 = .ok (.iastore, 1) := by decide +kernel
theorem dX6_tell_28 : decode cX6_tell 28 = .ok (.bipush (-3), 2) := by decide +kernel
theorem dX6_tell_30 : decode cX6_tell 30 = .ok (.ireturn, 1) := by decide +kernel
theorem dX6_heightOfTable_0 : decode cX6_heightOfTable 0 = .ok (.aload_n 0, 1) := by decide +kernel
theorem dX6_heightOfTable_1 : decode cX6_heightOfTable 1 = .ok (.getfield 21, 3) := by decide +kernel
theorem dX6_heightOfTable_4 : decode cX6_heightOfTable 4 = .ok (.invokevirtual 220, 3) := by decide +kernel
theorem dX6_heightOfTable_7 : decode cX6_heightOfTable 7 = .ok (.aload_n 0, 1) := by decide +kernel
theorem dX6_heightOfTable_8 : decode cX6_heightOfTable 8 = .ok (.getfield 21, 3) := by decide +kernel
theorem dX6_heightOfTable_11 : decode cX6_heightOfTable 11 = .ok (.aload_n 0, 1) := by decide +kernel
theorem dX6_heightOfTable_12 : decode cX6_heightOfTable 12 = .ok (.getfield 30, 3) := by decide +kernel
theorem dX6_heightOfTable_15 : decode cX6_heightOfTable 15 = .ok (.getfield 173, 3) := by decide +kernel
theorem dX6_heightOfTable_18 : decode cX6_heightOfTable 18 = .ok (.invokevirtual 223, 3) := by decide +kernel
theorem dX6_heightOfTable_21 : decode cX6_heightOfTable 21 = .ok (.ireturn, 1) := by decide +kernel
end
section
theorem dX7_init_0 : decode cX7_init 0 = .ok (.aload_n 0, 1) := by decide +kernel
theorem dX7_init_1 : decode cX7_init 1 = .ok (.invokespecial 1, 3) := by decide +kernel
theorem dX7_init_4 : decode cX7_init 4 = .ok (.aload_n 0, 1) := by decide +kernel
theorem dX7_init_5 : decode cX7_init 5 = .ok (.bipush 7, 2) := by decide +kernel
theorem dX7_init_7 : decode cX7_init 7 = .ok (.newarray .int, 2) := by decide +kernel
theorem dX7_init_9 : decode cX7_init 9 = .ok (.putfield 7, 3) := by decide +kernel
theorem dX7_init_12 : decode cX7_init 12 = .ok (.aload_n 0, 1) := by decide +kernel
theorem dX7_init_13 : decode cX7_init 13 = .ok (.bipush 6, 2) := by decide +kernel
theorem dX7_init_15 : decode cX7_init 15 = .ok (.newarray .int, 2) := by decide +kernel
theorem dX7_init_17 : decode cX7_init 17 = .ok (.putfield 13, 3) := by decide +kernel
theorem dX7_init_20 : decode cX7_init 20 = .ok (.aload_n 0, 1) := by decide +kernel
theorem dX7_init_21 : decode cX7_init 21 = .ok (.bipush 10, 2) := by decide +kernel
theorem dX7_init_23 : decode cX7_init 23 = .ok (.newarray .int, 2) := by decide +kernel
theorem dX7_init_25 : decode cX7_init 25 = .ok (.putfield 16, 3) := by decide +kernel
theorem dX7_init_28 : decode cX7_init 28 = .ok (.aload_n 0, 1) := by decide +kernel
theorem dX7_init_29 : decode cX7_init 29 = .ok (.bipush 40, 2) := by decide +kernel
theorem dX7_init_31 : decode cX7_init 31 = .ok (.newarray .int, 2) := by decide +kernel
theorem dX7_init_33 : decode cX7_init 33 = .ok (.putfield 19, 3) := by decide +kernel
theorem dX7_init_36 : decode cX7_init 36 = .ok (.aload_n 0, 1) := by decide +kernel
theorem dX7_init_37 : decode cX7_init 37 = .ok (.bipush 40, 2) := by decide +kernel
theorem dX7_init_39 : decode cX7_init 39 = .ok (.newarray .int, 2) := by decide +kernel
theorem dX7_init_41 : decode cX7_init 41 = .ok (.putfield 22, 3) := by decide +kernel
theorem dX7_init_44 : decode cX7_init 44 = .ok (.aload_n 0, 1) := by decide +kernel
theorem dX7_init_45 : decode cX7_init 45 = .ok (.bipush 40, 2) := by decide +kernel
theorem dX7_init_47 : decode cX7_init 47 = .ok (.newarray .int, 2) := by decide +kernel
theorem dX7_init_49 : decode cX7_init 49 = .ok (.putfield 25, 3) := by decide +kernel
theorem dX7_init_52 : decode cX7_init 52 = .ok (.aload_n 0, 1) := by decide +kernel
theorem dX7_init_53 : decode cX7_init 53 = .ok (.bipush 40, 2) := by decide +kernel
theorem dX7_init_55 : decode cX7_init 55 = .ok (.newarray .int, 2) := by decide +kernel
theorem dX7_init_57 : decode cX7_init 57 = .ok (.putfield 28, 3) := by decide +kernel
theorem dX7_init_60 : decode cX7_init 60 = .ok (.aload_n 0, 1) := by decide +kernel
theorem dX7_init_61 : decode cX7_init 61 = .ok (.bipush 40, 2) := by decide +kernel
theorem dX7_init_63 : decode cX7_init 63 = .ok (.newarray .int, 2) := by decide +kernel
theorem dX7_init_65 : decode cX7_init 65 = .ok (.putfield 31, 3) := by decide +kernel
theorem dX7_init_68 : decode cX7_init 68 = .ok (.aload_n 0, 1) := by decide +kernel
theorem dX7_init_69 : decode cX7_init 69 = .ok (.bipush 40, 2) := by decide +kernel
theorem dX7_init_71 : decode cX7_init 71 = .ok (.newarray .boolean, 2) := by decide +kernel
theorem dX7_init_73 : decode cX7_init 73 = .ok (.putfield 34, 3) := by decide +kernel
theorem dX7_init_76 : decode cX7_init 76 = .ok (.aload_n 0, 1) := by decide +kernel
theorem dX7_init_77 : decode cX7_init 77 = .ok (.bipush 40, 2) := by decide +kernel
theorem dX7_init_79 : decode cX7_init 79 = .ok (.newarray .int, 2) := by decide +kernel
theorem dX7_init_81 : decode cX7_init 81 = .ok (.putfield 38, 3) := by decide +kernel
theorem dX7_init_84 : decode cX7_init 84 = .ok (.aload_n 0, 1) := by decide +kernel
theorem dX7_init_85 : decode cX7_init 85 = .ok (.sipush 480, 3) := by decide +kernel
theorem dX7_init_88 : decode cX7_init 88 = .ok (.newarray .int, 2) := by decide +kernel
theorem dX7_init_90 : decode cX7_init 90 = .ok (.putfield 41, 3) := by decide +kernel
theorem dX7_init_93 : decode cX7_init 93 = .ok (.aload_n 0, 1) := by decide +kernel
theorem dX7_init_94 : decode cX7_init 94 = .ok (.bipush 40, 2) := by decide +kernel
theorem dX7_init_96 : decode cX7_init 96 = .ok (.newarray .int, 2) := by decide +kernel
theorem dX7_init_98 : decode cX7_init 98 = .ok (.putfield 44, 3) := by decide +kernel
theorem dX7_init_101 : decode cX7_init 101 = .ok (.aload_n 0, 1) := by decide +kernel
theorem dX7_init_102 : decode cX7_init 102 = .ok (.bipush 40, 2) := by decide +kernel
theorem dX7_init_104 : decode cX7_init 104 = .ok (.newarray .int, 2) := by decide +kernel
theorem dX7_init_106 : decode cX7_init 106 = .ok (.putfield 47, 3) := by decide +kernel
theorem dX7_init_109 : decode cX7_init 109 = .ok (.aload_n 0, 1) := by decide +kernel
theorem dX7_init_110 : decode cX7_init 110 = .ok (.bipush 12, 2) := by decide +kernel
theorem dX7_init_112 : decode cX7_init 112 = .ok (.newarray .int, 2) := by decide +kernel
theorem dX7_init_114 : decode cX7_init 114 = .ok (.putfield 50, 3) := by decide +kernel
theorem dX7_init_117 : decode cX7_init 117 = .ok (.aload_n 0, 1) := by decide +kernel
theorem dX7_init_118 : decode cX7_init 118 = .ok (.bipush 6, 2) := by decide +kernel
theorem dX7_init_120 : decode cX7_init 120 = .ok (.newarray .int, 2) := by decide +kernel
theorem dX7_init_122 : decode cX7_init 122 = .ok (.putfield 53, 3) := by decide +kernel
theorem dX7_init_125 : decode cX7_init 125 = .ok (.aload_n 0, 1) := by decide +kernel
theorem dX7_init_126 : decode cX7_init 126 = .ok (.bipush 6, 2) := by decide +kernel
theorem dX7_init_128 : decode cX7_init 128 = .ok (.newarray .int, 2) := by decide +kernel
theorem dX7_init_130 : decode cX7_init 130 = .ok (.putfield 56, 3) := by decide +kernel
theorem dX7_init_133 : decode cX7_init 133 = .ok (.aload_n 0, 1) := by decide +kernel
theorem dX7_init_134 : decode cX7_init 134 = .ok (.bipush 6, 2) := by decide +kernel
theorem dX7_init_136 : decode cX7_init 136 = .ok (.newarray .int, 2) := by decide +kernel
theorem dX7_init_138 : decode cX7_init 138 = .ok (.putfield 59, 3) := by decide +kernel
theorem dX7_init_141 : decode cX7_init 141 = .ok (.aload_n 0, 1) := by decide +kernel
theorem dX7_init_142 : decode cX7_init 142 = .ok (.bipush 6, 2) := by decide +kernel
theorem dX7_init_144 : decode cX7_init 144 = .ok (.newarray .int, 2) := by decide +kernel
theorem dX7_init_146 : decode cX7_init 146 = .ok (.putfield 62, 3) := by decide +kernel
theorem dX7_init_149 : decode cX7_init 149 = .ok (.aload_n 0, 1) := by decide +kernel
theorem dX7_init_150 : decode cX7_init 150 = .ok (.bipush 6, 2) := by decide +kernel
theorem dX7_init_152 : decode cX7_init 152 = .ok (.newarray .int, 2) := by decide +kernel
theorem dX7_init_154 : decode cX7_init 154 = .ok (.putfield 65, 3) := by decide +kernel
theorem dX7_init_157 : decode cX7_init 157 = .ok (.aload_n 0, 1) := by decide +kernel
theorem dX7_init_158 : decode cX7_init 158 = .ok (.bipush 6, 2) := by decide +kernel
theorem dX7_init_160 : decode cX7_init 160 = .ok (.newarray .int, 2) := by decide +kernel
theorem dX7_init_162 : decode cX7_init 162 = .ok (.putfield 68, 3) := by decide +kernel
theorem dX7_init_165 : decode cX7_init 165 = .ok (.aload_n 0, 1) := by decide +kernel
theorem dX7_init_166 : decode cX7_init 166 = .ok (.bipush 6, 2) := by decide +kernel
theorem dX7_init_168 : decode cX7_init 168 = .ok (.newarray .int, 2) := by decide +kernel
theorem dX7_init_170 : decode cX7_init 170 = .ok (.putfield 71, 3) := by decide +kernel
theorem dX7_init_173 : decode cX7_init 173 = .ok (.aload_n 0, 1) := by decide +kernel
theorem dX7_init_174 : decode cX7_init 174 = .ok (.bipush 16, 2) := by decide +kernel
theorem dX7_init_176 : decode cX7_init 176 = .ok (.newarray .int, 2) := by decide +kernel
theorem dX7_init_178 : decode cX7_init 178 = .ok (.putfield 74, 3) := by decide +kernel
theorem dX7_init_181 : decode cX7_init 181 = .ok (.aload_n 0, 1) := by decide +kernel
theorem dX7_init_182 : decode cX7_init 182 = .ok (.bipush 16, 2) := by decide +kernel
theorem dX7_init_184 : decode cX7_init 184 = .ok (.newarray .int, 2) := by decide +kernel
theorem dX7_init_186 : decode cX7_init 186 = .ok (.putfield 77, 3) := by decide +kernel
theorem dX7_init_189 : decode cX7_init 189 = .ok (.aload_n 0, 1) := by decide +kernel
theorem dX7_init_190 : decode cX7_init 190 = .ok (.bipush 6, 2) := by decide +kernel
theorem dX7_init_192 : decode cX7_init 192 = .ok (.newarray .int, 2) := by decide +kernel
theorem dX7_init_194 : decode cX7_init 194 = .ok (.putfield 80, 3) := by decide +kernel
theorem dX7_init_197 : decode cX7_init 197 = .ok (.aload_n 0, 1) := by decide +kernel
theorem dX7_init_198 : decode cX7_init 198 = .ok (.bipush 6, 2) := by decide +kernel
theorem dX7_init_200 : decode cX7_init 200 = .ok (.newarray .int, 2) := by decide +kernel
theorem dX7_init_202 : decode cX7_init 202 = .ok (.putfield 83, 3) := by decide +kernel
theorem dX7_init_205 : decode cX7_init 205 = .ok (.aload_n 0, 1) := by decide +kernel
theorem dX7_init_206 : decode cX7_init 206 = .ok (.bipush 16, 2) := by decide +kernel
theorem dX7_init_208 : decode cX7_init 208 = .ok (.newarray .int, 2) := by decide +kernel
theorem dX7_init_210 : decode cX7_init 210 = .ok (.putfield 86, 3) := by decide +kernel
theorem dX7_init_213 : decode cX7_init 213 = .ok (.aload_n 0, 1) := by decide +kernel
theorem dX7_init_214 : decode cX7_init 214 = .ok (.bipush 16, 2) := by decide +kernel
theorem dX7_init_216 : decode cX7_init 216 = .ok (.newarray .int, 2) := by decide +kernel
theorem dX7_init_218 : decode cX7_init 218 = .ok (.putfield 89, 3) := by decide +kernel
theorem dX7_init_221 : decode cX7_init 221 = .ok (.aload_n 0, 1) := by decide +kernel
theorem dX7_init_222 : decode cX7_init 222 = .ok (.bipush 16, 2) := by decide +kernel
theorem dX7_init_224 : decode cX7_init 224 = .ok (.newarray .int, 2) := by decide +kernel
theorem dX7_init_226 : decode cX7_init 226 = .ok (.putfield 92, 3) := by decide +kernel
theorem dX7_init_229 : decode cX7_init 229 = .ok (.aload_n 0, 1) := by decide +kernel
theorem dX7_init_230 : decode cX7_init 230 = .ok (.bipush 16, 2) := by decide +kernel
theorem dX7_init_232 : decode cX7_init 232 = .ok (.newarray .int, 2) := by decide +kernel
theorem dX7_init_234 : decode cX7_init 234 = .ok (.putfield 95, 3) := by decide +kernel
theorem dX7_init_237 : decode cX7_init 237 = .ok (.aload_n 0, 1) := by decide +kernel
theorem dX7_init_238 : decode cX7_init 238 = .ok (.bipush 16, 2) := by decide +kernel
theorem dX7_init_240 : decode cX7_init 240 = .ok (.newarray .int, 2) := by decide +kernel
theorem dX7_init_242 : decode cX7_init 242 = .ok (.putfield 98, 3) := by decide +kernel
theorem dX7_init_245 : decode cX7_init 245 = .ok (.aload_n 0, 1) := by decide +kernel
theorem dX7_init_246 : decode cX7_init 246 = .ok (.bipush 17, 2) := by decide +kernel
theorem dX7_init_248 : decode cX7_init 248 = .ok (.newarray .int, 2) := by decide +kernel
theorem dX7_init_250 : decode cX7_init 250 = .ok (.putfield 101, 3) := by decide +kernel
theorem dX7_init_253 : decode cX7_init 253 = .ok (.aload_n 0, 1) := by decide +kernel
theorem dX7_init_254 : decode cX7_init 254 = .ok (.bipush 17, 2) := by decide +kernel
theorem dX7_init_256 : decode cX7_init 256 = .ok (.newarray .long, 2) := by decide +kernel
theorem dX7_init_258 : decode cX7_init 258 = .ok (.putfield 104, 3) := by decide +kernel
theorem dX7_init_261 : decode cX7_init 261 = .ok (.aload_n 0, 1) := by decide +kernel
theorem dX7_init_262 : decode cX7_init 262 = .ok (.bipush 17, 2) := by decide +kernel
theorem dX7_init_264 : decode cX7_init 264 = .ok (.newarray .int, 2) := by decide +kernel
theorem dX7_init_266 : decode cX7_init 266 = .ok (.putfield 108, 3) := by decide +kernel
theorem dX7_init_269 : decode cX7_init 269 = .ok (.iconst 0, 1) := by decide +kernel
theorem dX7_init_270 : decode cX7_init 270 = .ok (.istore_n 1, 1) := by decide +kernel
theorem dX7_init_271 : decode cX7_init 271 = .ok (.iload_n 1, 1) := by decide +kernel
theorem dX7_init_272 : decode cX7_init 272 = .ok (.bipush 10, 2) := by decide +kernel
theorem dX7_init_274 : decode cX7_init 274 = .ok (.if_icmp .ge 16, 3) := by decide +kernel
theorem dX7_init_277 : decode cX7_init 277 = .ok (.aload_n 0, 1) := by decide +kernel
theorem dX7_init_278 : decode cX7_init 278 = .ok (.getfield 16, 3) := by decide +kernel
theorem dX7_init_281 : decode cX7_init 281 = .ok (.iload_n 1, 1) := by decide +kernel
theorem dX7_init_282 : decode cX7_init 282 = .ok (.iconst 1, 1) := by decide +kernel
theorem dX7_init_283 : decode cX7_init 283 = .ok (.iastore, 1) := by decide +kernel
theorem dX7_init_284 : decode cX7_init 284 = .ok (.iinc 1 1, 3) := by decide +kernel
theorem dX7_init_287 : decode cX7_init 287 = .ok (.goto (-16), 3) := by decide +kernel
theorem dX7_init_290 : decode cX7_init 290 = .ok (.aload_n 0, 1) := by decide +kernel
theorem dX7_init_291 : decode cX7_init 291 = .ok (.iconst 1, 1) := by decide +kernel
theorem dX7_init_292 : decode cX7_init 292 = .ok (.iconst 1, 1) := by decide +kernel
theorem dX7_init_293 : decode cX7_init 293 = .ok (.iconst 0, 1) := by decide +kernel
theorem dX7_init_294 : decode cX7_init 294 = .ok (.invokevirtual 111, 3) := by decide +kernel
theorem dX7_init_297 : decode cX7_init 297 = .ok (.return_, 1) := by decide +kernel
theorem dX7_in_0 : decode cX7_in 0 = .ok (.iload_n 0, 1) := by decide +kernel
theorem dX7_in_1 : decode cX7_in 1 = .ok (.iload_n 1, 1) := by decide +kernel
theorem dX7_in_2 : decode cX7_in 2 = .ok (.if_icmp .lt 12, 3) := by decide +kernel
theorem dX7_in_5 : decode cX7_in 5 = .ok (.iload_n 0, 1) := by decide +kernel
theorem dX7_in_6 : decode cX7_in 6 = .ok (.iload_n 2, 1) := by decide +kernel
theorem dX7_in_7 : decode cX7_in 7 = .ok (.if_icmp .gt 7, 3) := by decide +kernel
theorem dX7_in_10 : decode cX7_in 10 = .ok (.iconst 1, 1) := by decide +kernel
theorem dX7_in_11 : decode cX7_in 11 = .ok (.goto 4, 3) := by decide +kernel
theorem dX7_in_14 : decode cX7_in 14 = .ok (.iconst 0, 1) := by decide +kernel
theorem dX7_in_15 : decode cX7_in 15 = .ok (.ireturn, 1) := by decide +kernel
theorem dX7_meets_0 : decode cX7_meets 0 = .ok (.aload_n 0, 1) := by decide +kernel
theorem dX7_meets_1 : decode cX7_meets 1 = .ok (.iload_n 1, 1) := by decide +kernel
theorem dX7_meets_2 : decode cX7_meets 2 = .ok (.putfield 115, 3) := by decide +kernel
theorem dX7_meets_5 : decode cX7_meets 5 = .ok (.aload_n 0, 1) := by decide +kernel
theorem dX7_meets_6 : decode cX7_meets 6 = .ok (.getfield 7, 3) := by decide +kernel
theorem dX7_meets_9 : decode cX7_meets 9 = .ok (.iload_n 1, 1) := by decide +kernel
theorem dX7_meets_10 : decode cX7_meets 10 = .ok (.dup2, 1) := by decide +kernel
theorem dX7_meets_11 : decode cX7_meets 11 = .ok (.iaload, 1) := by decide +kernel
theorem dX7_meets_12 : decode cX7_meets 12 = .ok (.iconst 1, 1) := by decide +kernel
theorem dX7_meets_13 : decode cX7_meets 13 = .ok (.iadd, 1) := by decide +kernel
theorem dX7_meets_14 : decode cX7_meets 14 = .ok (.iastore, 1) := by decide +kernel
theorem dX7_meets_15 : decode cX7_meets 15 = .ok (.bipush (-3), 2) := by decide +kernel
theorem dX7_meets_17 : decode cX7_meets 17 = .ok (.ireturn, 1) := by decide +kernel
theorem dX7_finding_0 : decode cX7_finding 0 = .ok (.aload_n 0, 1) := by decide +kernel
theorem dX7_finding_1 : decode cX7_finding 1 = .ok (.getfield 115, 3) := by decide +kernel
theorem dX7_finding_4 : decode cX7_finding 4 = .ok (.ireturn, 1) := by decide +kernel
theorem dX7_findings_0 : decode cX7_findings 0 = .ok (.iload_n 1, 1) := by decide +kernel
theorem dX7_findings_1 : decode cX7_findings 1 = .ok (.iconst 1, 1) := by decide +kernel
theorem dX7_findings_2 : decode cX7_findings 2 = .ok (.bipush 6, 2) := by decide +kernel
theorem dX7_findings_4 : decode cX7_findings 4 = .ok (.invokestatic 119, 3) := by decide +kernel
theorem dX7_findings_7 : decode cX7_findings 7 = .ok (.ifCond .eq 12, 3) := by decide +kernel
theorem dX7_findings_10 : decode cX7_findings 10 = .ok (.aload_n 0, 1) := by decide +kernel
theorem dX7_findings_11 : decode cX7_findings 11 = .ok (.getfield 7, 3) := by decide +kernel
theorem dX7_findings_14 : decode cX7_findings 14 = .ok (.iload_n 1, 1) := by decide +kernel
theorem dX7_findings_15 : decode cX7_findings 15 = .ok (.iaload, 1) := by decide +kernel
theorem dX7_findings_16 : decode cX7_findings 16 = .ok (.goto 4, 3) := by decide +kernel
theorem dX7_findings_19 : decode cX7_findings 19 = .ok (.iconst (-1), 1) := by decide +kernel
theorem dX7_findings_20 : decode cX7_findings 20 = .ok (.ireturn, 1) := by decide +kernel
theorem dX7_begin_0 : decode cX7_begin 0 = .ok (.aload_n 0, 1) := by decide +kernel
theorem dX7_begin_1 : decode cX7_begin 1 = .ok (.iload_n 1, 1) := by decide +kernel
theorem dX7_begin_2 : decode cX7_begin 2 = .ok (.putfield 123, 3) := by decide +kernel
theorem dX7_begin_5 : decode cX7_begin 5 = .ok (.aload_n 0, 1) := by decide +kernel
theorem dX7_begin_6 : decode cX7_begin 6 = .ok (.iload_n 2, 1) := by decide +kernel
theorem dX7_begin_7 : decode cX7_begin 7 = .ok (.putfield 126, 3) := by decide +kernel
theorem dX7_begin_10 : decode cX7_begin 10 = .ok (.aload_n 0, 1) := by decide +kernel
theorem dX7_begin_11 : decode cX7_begin 11 = .ok (.iload_n 3, 1) := by decide +kernel
theorem dX7_begin_12 : decode cX7_begin 12 = .ok (.putfield 129, 3) := by decide +kernel
theorem dX7_begin_15 : decode cX7_begin 15 = .ok (.aload_n 0, 1) := by decide +kernel
theorem dX7_begin_16 : decode cX7_begin 16 = .ok (.iconst 0, 1) := by decide +kernel
theorem dX7_begin_17 : decode cX7_begin 17 = .ok (.putfield 132, 3) := by decide +kernel
theorem dX7_begin_20 : decode cX7_begin 20 = .ok (.aload_n 0, 1) := by decide +kernel
theorem dX7_begin_21 : decode cX7_begin 21 = .ok (.bipush (-9), 2) := by decide +kernel
theorem dX7_begin_23 : decode cX7_begin 23 = .ok (.putfield 135, 3) := by decide +kernel
theorem dX7_begin_26 : decode cX7_begin 26 = .ok (.aload_n 0, 1) := by decide +kernel
theorem dX7_begin_27 : decode cX7_begin 27 = .ok (.iconst 0, 1) := by decide +kernel
theorem dX7_begin_28 : decode cX7_begin 28 = .ok (.putfield 138, 3) := by decide +kernel
theorem dX7_begin_31 : decode cX7_begin 31 = .ok (.iconst 0, 1) := by decide +kernel
theorem dX7_begin_32 : decode cX7_begin 32 = .ok (.istore 4, 2) := by decide +kernel
theorem dX7_begin_34 : decode cX7_begin 34 = .ok (.iload 4, 2) := by decide +kernel
theorem dX7_begin_36 : decode cX7_begin 36 = .ok (.bipush 6, 2) := by decide +kernel
theorem dX7_begin_38 : decode cX7_begin 38 = .ok (.if_icmp .ge 25, 3) := by decide +kernel
theorem dX7_begin_41 : decode cX7_begin 41 = .ok (.aload_n 0, 1) := by decide +kernel
theorem dX7_begin_42 : decode cX7_begin 42 = .ok (.getfield 13, 3) := by decide +kernel
theorem dX7_begin_45 : decode cX7_begin 45 = .ok (.iload 4, 2) := by decide +kernel
theorem dX7_begin_47 : decode cX7_begin 47 = .ok (.iconst 1, 1) := by decide +kernel
theorem dX7_begin_48 : decode cX7_begin 48 = .ok (.iastore, 1) := by decide +kernel
theorem dX7_begin_49 : decode cX7_begin 49 = .ok (.aload_n 0, 1) := by decide +kernel
theorem dX7_begin_50 : decode cX7_begin 50 = .ok (.getfield 62, 3) := by decide +kernel
theorem dX7_begin_53 : decode cX7_begin 53 = .ok (.iload 4, 2) := by decide +kernel
theorem dX7_begin_55 : decode cX7_begin 55 = .ok (.iconst 0, 1) := by decide +kernel
theorem dX7_begin_56 : decode cX7_begin 56 = .ok (.iastore, 1) := by decide +kernel
theorem dX7_begin_57 : decode cX7_begin 57 = .ok (.iinc 4 1, 3) := by decide +kernel
theorem dX7_begin_60 : decode cX7_begin 60 = .ok (.goto (-26), 3) := by decide +kernel
theorem dX7_begin_63 : decode cX7_begin 63 = .ok (.iconst 0, 1) := by decide +kernel
theorem dX7_begin_64 : decode cX7_begin 64 = .ok (.istore 4, 2) := by decide +kernel
theorem dX7_begin_66 : decode cX7_begin 66 = .ok (.iload 4, 2) := by decide +kernel
theorem dX7_begin_68 : decode cX7_begin 68 = .ok (.bipush 16, 2) := by decide +kernel
theorem dX7_begin_70 : decode cX7_begin 70 = .ok (.if_icmp .ge 18, 3) := by decide +kernel
theorem dX7_begin_73 : decode cX7_begin 73 = .ok (.aload_n 0, 1) := by decide +kernel
theorem dX7_begin_74 : decode cX7_begin 74 = .ok (.getfield 98, 3) := by decide +kernel
theorem dX7_begin_77 : decode cX7_begin 77 = .ok (.iload 4, 2) := by decide +kernel
theorem dX7_begin_79 : decode cX7_begin 79 = .ok (.bipush (-9), 2) := by decide +kernel
theorem dX7_begin_81 : decode cX7_begin 81 = .ok (.iastore, 1) := by decide +kernel
theorem dX7_begin_82 : decode cX7_begin 82 = .ok (.iinc 4 1, 3) := by decide +kernel
theorem dX7_begin_85 : decode cX7_begin 85 = .ok (.goto (-19), 3) := by decide +kernel
theorem dX7_begin_88 : decode cX7_begin 88 = .ok (.return_, 1) := by decide +kernel
theorem dX7_table_0 : decode cX7_table 0 = .ok (.iload_n 1, 1) := by decide +kernel
theorem dX7_table_1 : decode cX7_table 1 = .ok (.iconst 1, 1) := by decide +kernel
theorem dX7_table_2 : decode cX7_table 2 = .ok (.bipush 16, 2) := by decide +kernel
theorem dX7_table_4 : decode cX7_table 4 = .ok (.invokestatic 119, 3) := by decide +kernel
theorem dX7_table_7 : decode cX7_table 7 = .ok (.ifCond .eq 22, 3) := by decide +kernel
theorem dX7_table_10 : decode cX7_table 10 = .ok (.iload_n 2, 1) := by decide +kernel
theorem dX7_table_11 : decode cX7_table 11 = .ok (.iconst 1, 1) := by decide +kernel
theorem dX7_table_12 : decode cX7_table 12 = .ok (.bipush 6, 2) := by decide +kernel
theorem dX7_table_14 : decode cX7_table 14 = .ok (.invokestatic 119, 3) := by decide +kernel
theorem dX7_table_17 : decode cX7_table 17 = .ok (.ifCond .eq 12, 3) := by decide +kernel
theorem dX7_table_20 : decode cX7_table 20 = .ok (.iload_n 3, 1) := by decide +kernel
theorem dX7_table_21 : decode cX7_table 21 = .ok (.iconst 0, 1) := by decide +kernel
theorem dX7_table_22 : decode cX7_table 22 = .ok (.iconst 3, 1) := by decide +kernel
theorem dX7_table_23 : decode cX7_table 23 = .ok (.invokestatic 119, 3) := by decide +kernel
theorem dX7_table_26 : decode cX7_table 26 = .ok (.ifCond .ne 5, 3) := by decide +kernel
theorem dX7_table_29 : decode cX7_table 29 = .ok (.iconst (-1), 1) := by decide +kernel
theorem dX7_table_30 : decode cX7_table 30 = .ok (.ireturn, 1) := by decide +kernel
theorem dX7_table_31 : decode cX7_table 31 = .ok (.aload_n 0, 1) := by decide +kernel
theorem dX7_table_32 : decode cX7_table 32 = .ok (.iload_n 1, 1) := by decide +kernel
theorem dX7_table_33 : decode cX7_table 33 = .ok (.iload_n 2, 1) := by decide +kernel
theorem dX7_table_34 : decode cX7_table 34 = .ok (.iload_n 3, 1) := by decide +kernel
theorem dX7_table_35 : decode cX7_table 35 = .ok (.invokevirtual 111, 3) := by decide +kernel
theorem dX7_table_38 : decode cX7_table 38 = .ok (.iload_n 1, 1) := by decide +kernel
theorem dX7_table_39 : decode cX7_table 39 = .ok (.iload_n 2, 1) := by decide +kernel
theorem dX7_table_40 : decode cX7_table 40 = .ok (.imul, 1) := by decide +kernel
theorem dX7_table_41 : decode cX7_table 41 = .ok (.ireturn, 1) := by decide +kernel
theorem dX7_isRow_0 : decode cX7_isRow 0 = .ok (.iload_n 1, 1) := by decide +kernel
theorem dX7_isRow_1 : decode cX7_isRow 1 = .ok (.iconst 0, 1) := by decide +kernel
theorem dX7_isRow_2 : decode cX7_isRow 2 = .ok (.aload_n 0, 1) := by decide +kernel
theorem dX7_isRow_3 : decode cX7_isRow 3 = .ok (.getfield 123, 3) := by decide +kernel
theorem dX7_isRow_6 : decode cX7_isRow 6 = .ok (.iconst 1, 1) := by decide +kernel
theorem dX7_isRow_7 : decode cX7_isRow 7 = .ok (.isub, 1) := by decide +kernel
theorem dX7_isRow_8 : decode cX7_isRow 8 = .ok (.invokestatic 119, 3) := by decide +kernel
theorem dX7_isRow_11 : decode cX7_isRow 11 = .ok (.ireturn, 1) := by decide +kernel
theorem dX7_isColumn_0 : decode cX7_isColumn 0 = .ok (.iload_n 1, 1) := by decide +kernel
theorem dX7_isColumn_1 : decode cX7_isColumn 1 = .ok (.iconst 0, 1) := by decide +kernel
theorem dX7_isColumn_2 : decode cX7_isColumn 2 = .ok (.aload_n 0, 1) := by decide +kernel
theorem dX7_isColumn_3 : decode cX7_isColumn 3 = .ok (.getfield 126, 3) := by decide +kernel
theorem dX7_isColumn_6 : decode cX7_isColumn 6 = .ok (.iconst 1, 1) := by decide +kernel
theorem dX7_isColumn_7 : decode cX7_isColumn 7 = .ok (.isub, 1) := by decide +kernel
theorem dX7_isColumn_8 : decode cX7_isColumn 8 = .ok (.invokestatic 119, 3) := by decide +kernel
theorem dX7_isColumn_11 : decode cX7_isColumn 11 = .ok (.ireturn, 1) := by decide +kernel
theorem dX7_weight_0 : decode cX7_weight 0 = .ok (.aload_n 0, 1) := by decide +kernel
theorem dX7_weight_1 : decode cX7_weight 1 = .ok (.iload_n 1, 1) := by decide +kernel
theorem dX7_weight_2 : decode cX7_weight 2 = .ok (.invokevirtual 141, 3) := by decide +kernel
theorem dX7_weight_5 : decode cX7_weight 5 = .ok (.ifCond .eq 13, 3) := by decide +kernel
theorem dX7_weight_8 : decode cX7_weight 8 = .ok (.iload_n 2, 1) := by decide +kernel
theorem dX7_weight_9 : decode cX7_weight 9 = .ok (.iconst 1, 1) := by decide +kernel
theorem dX7_weight_10 : decode cX7_weight 10 = .ok (.bipush 9, 2) := by decide +kernel
theorem dX7_weight_12 : decode cX7_weight 12 = .ok (.invokestatic 119, 3) := by decide +kernel
theorem dX7_weight_15 : decode cX7_weight 15 = .ok (.ifCond .ne 5, 3) := by decide +kernel
theorem dX7_weight_18 : decode cX7_weight 18 = .ok (.iconst (-1), 1) := by decide +kernel
theorem dX7_weight_19 : decode cX7_weight 19 = .ok (.ireturn, 1) := by decide +kernel
theorem dX7_weight_20 : decode cX7_weight 20 = .ok (.aload_n 0, 1) := by decide +kernel
theorem dX7_weight_21 : decode cX7_weight 21 = .ok (.getfield 13, 3) := by decide +kernel
theorem dX7_weight_24 : decode cX7_weight 24 = .ok (.iload_n 1, 1) := by decide +kernel
theorem dX7_weight_25 : decode cX7_weight 25 = .ok (.iaload, 1) := by decide +kernel
theorem dX7_weight_26 : decode cX7_weight 26 = .ok (.istore_n 3, 1) := by decide +kernel
theorem dX7_weight_27 : decode cX7_weight 27 = .ok (.aload_n 0, 1) := by decide +kernel
theorem dX7_weight_28 : decode cX7_weight 28 = .ok (.getfield 13, 3) := by decide +kernel
theorem dX7_weight_31 : decode cX7_weight 31 = .ok (.iload_n 1, 1) := by decide +kernel
theorem dX7_weight_32 : decode cX7_weight 32 = .ok (.iload_n 2, 1) := by decide +kernel
theorem dX7_weight_33 : decode cX7_weight 33 = .ok (.iastore, 1) := by decide +kernel
theorem dX7_weight_34 : decode cX7_weight 34 = .ok (.iload_n 3, 1) := by decide +kernel
theorem dX7_weight_35 : decode cX7_weight 35 = .ok (.ireturn, 1) := by decide +kernel
theorem dX7_note_0 : decode cX7_note 0 = .ok (.iload_n 1, 1) := by decide +kernel
theorem dX7_note_1 : decode cX7_note 1 = .ok (.iconst 0, 1) := by decide +kernel
theorem dX7_note_2 : decode cX7_note 2 = .ok (.bipush 9, 2) := by decide +kernel
theorem dX7_note_4 : decode cX7_note 4 = .ok (.invokestatic 119, 3) := by decide +kernel
theorem dX7_note_7 : decode cX7_note 7 = .ok (.ifCond .eq 13, 3) := by decide +kernel
theorem dX7_note_10 : decode cX7_note 10 = .ok (.iload_n 2, 1) := by decide +kernel
theorem dX7_note_11 : decode cX7_note 11 = .ok (.iconst 1, 1) := by decide +kernel
theorem dX7_note_12 : decode cX7_note 12 = .ok (.bipush 6, 2) := by decide +kernel
theorem dX7_note_14 : decode cX7_note 14 = .ok (.invokestatic 119, 3) := by decide +kernel
theorem dX7_note_17 : decode cX7_note 17 = .ok (.ifCond .ne 5, 3) := by decide +kernel
theorem dX7_note_20 : decode cX7_note 20 = .ok (.iconst (-1), 1) := by decide +kernel
theorem dX7_note_21 : decode cX7_note 21 = .ok (.ireturn, 1) := by decide +kernel
theorem dX7_note_22 : decode cX7_note 22 = .ok (.aload_n 0, 1) := by decide +kernel
theorem dX7_note_23 : decode cX7_note 23 = .ok (.getfield 16, 3) := by decide +kernel
theorem dX7_note_26 : decode cX7_note 26 = .ok (.iload_n 1, 1) := by decide +kernel
theorem dX7_note_27 : decode cX7_note 27 = .ok (.iaload, 1) := by decide +kernel
theorem dX7_note_28 : decode cX7_note 28 = .ok (.istore_n 3, 1) := by decide +kernel
theorem dX7_note_29 : decode cX7_note 29 = .ok (.aload_n 0, 1) := by decide +kernel
theorem dX7_note_30 : decode cX7_note 30 = .ok (.getfield 16, 3) := by decide +kernel
theorem dX7_note_33 : decode cX7_note 33 = .ok (.iload_n 1, 1) := by decide +kernel
theorem dX7_note_34 : decode cX7_note 34 = .ok (.iload_n 2, 1) := by decide +kernel
theorem dX7_note_35 : decode cX7_note 35 = .ok (.iastore, 1) := by decide +kernel
theorem dX7_note_36 : decode cX7_note 36 = .ok (.iload_n 3, 1) := by decide +kernel
theorem dX7_note_37 : decode cX7_note 37 = .ok (.ireturn, 1) := by decide +kernel
theorem dX7_liesOn_0 : decode cX7_liesOn 0 = .ok (.aload_n 0, 1) := by decide +kernel
theorem dX7_liesOn_1 : decode cX7_liesOn 1 = .ok (.getfield 34, 3) := by decide +kernel
theorem dX7_liesOn_4 : decode cX7_liesOn 4 = .ok (.iload_n 1, 1) := by decide +kernel
theorem dX7_liesOn_5 : decode cX7_liesOn 5 = .ok (.baload, 1) := by decide +kernel
theorem dX7_liesOn_6 : decode cX7_liesOn 6 = .ok (.ifCond .ne 61, 3) := by decide +kernel
theorem dX7_liesOn_9 : decode cX7_liesOn 9 = .ok (.iload_n 2, 1) := by decide +kernel
theorem dX7_liesOn_10 : decode cX7_liesOn 10 = .ok (.aload_n 0, 1) := by decide +kernel
theorem dX7_liesOn_11 : decode cX7_liesOn 11 = .ok (.getfield 22, 3) := by decide +kernel
theorem dX7_liesOn_14 : decode cX7_liesOn 14 = .ok (.iload_n 1, 1) := by decide +kernel
theorem dX7_liesOn_15 : decode cX7_liesOn 15 = .ok (.iaload, 1) := by decide +kernel
theorem dX7_liesOn_16 : decode cX7_liesOn 16 = .ok (.if_icmp .lt 51, 3) := by decide +kernel
theorem dX7_liesOn_19 : decode cX7_liesOn 19 = .ok (.iload_n 2, 1) := by decide +kernel
theorem dX7_liesOn_20 : decode cX7_liesOn 20 = .ok (.aload_n 0, 1) := by decide +kernel
theorem dX7_liesOn_21 : decode cX7_liesOn 21 = .ok (.getfield 22, 3) := by decide +kernel
theorem dX7_liesOn_24 : decode cX7_liesOn 24 = .ok (.iload_n 1, 1) := by decide +kernel
theorem dX7_liesOn_25 : decode cX7_liesOn 25 = .ok (.iaload, 1) := by decide +kernel
theorem dX7_liesOn_26 : decode cX7_liesOn 26 = .ok (.aload_n 0, 1) := by decide +kernel
theorem dX7_liesOn_27 : decode cX7_liesOn 27 = .ok (.getfield 28, 3) := by decide +kernel
theorem dX7_liesOn_30 : decode cX7_liesOn 30 = .ok (.iload_n 1, 1) := by decide +kernel
theorem dX7_liesOn_31 : decode cX7_liesOn 31 = .ok (.iaload, 1) := by decide +kernel
theorem dX7_liesOn_32 : decode cX7_liesOn 32 = .ok (.iadd, 1) := by decide +kernel
theorem dX7_liesOn_33 : decode cX7_liesOn 33 = .ok (.if_icmp .ge 34, 3) := by decide +kernel
theorem dX7_liesOn_36 : decode cX7_liesOn 36 = .ok (.iload_n 3, 1) := by decide +kernel
theorem dX7_liesOn_37 : decode cX7_liesOn 37 = .ok (.aload_n 0, 1) := by decide +kernel
theorem dX7_liesOn_38 : decode cX7_liesOn 38 = .ok (.getfield 25, 3) := by decide +kernel
theorem dX7_liesOn_41 : decode cX7_liesOn 41 = .ok (.iload_n 1, 1) := by decide +kernel
theorem dX7_liesOn_42 : decode cX7_liesOn 42 = .ok (.iaload, 1) := by decide +kernel
theorem dX7_liesOn_43 : decode cX7_liesOn 43 = .ok (.if_icmp .lt 24, 3) := by decide +kernel
theorem dX7_liesOn_46 : decode cX7_liesOn 46 = .ok (.iload_n 3, 1) := by decide +kernel
theorem dX7_liesOn_47 : decode cX7_liesOn 47 = .ok (.aload_n 0, 1) := by decide +kernel
theorem dX7_liesOn_48 : decode cX7_liesOn 48 = .ok (.getfield 25, 3) := by decide +kernel
theorem dX7_liesOn_51 : decode cX7_liesOn 51 = .ok (.iload_n 1, 1) := by decide +kernel
theorem dX7_liesOn_52 : decode cX7_liesOn 52 = .ok (.iaload, 1) := by decide +kernel
theorem dX7_liesOn_53 : decode cX7_liesOn 53 = .ok (.aload_n 0, 1) := by decide +kernel
theorem dX7_liesOn_54 : decode cX7_liesOn 54 = .ok (.getfield 31, 3) := by decide +kernel
theorem dX7_liesOn_57 : decode cX7_liesOn 57 = .ok (.iload_n 1, 1) := by decide +kernel
theorem dX7_liesOn_58 : decode cX7_liesOn 58 = .ok (.iaload, 1) := by decide +kernel
theorem dX7_liesOn_59 : decode cX7_liesOn 59 = .ok (.iadd, 1) := by decide +kernel
theorem dX7_liesOn_60 : decode cX7_liesOn 60 = .ok (.if_icmp .ge 7, 3) := by decide +kernel
theorem dX7_liesOn_63 : decode cX7_liesOn 63 = .ok (.iconst 1, 1) := by decide +kernel
theorem dX7_liesOn_64 : decode cX7_liesOn 64 = .ok (.goto 4, 3) := by decide +kernel
theorem dX7_liesOn_67 : decode cX7_liesOn 67 = .ok (.iconst 0, 1) := by decide +kernel
theorem dX7_liesOn_68 : decode cX7_liesOn 68 = .ok (.ireturn, 1) := by decide +kernel
theorem dX7_cellOn_0 : decode cX7_cellOn 0 = .ok (.iconst 0, 1) := by decide +kernel
theorem dX7_cellOn_1 : decode cX7_cellOn 1 = .ok (.istore_n 3, 1) := by decide +kernel
theorem dX7_cellOn_2 : decode cX7_cellOn 2 = .ok (.iload_n 3, 1) := by decide +kernel
theorem dX7_cellOn_3 : decode cX7_cellOn 3 = .ok (.aload_n 0, 1) := by decide +kernel
theorem dX7_cellOn_4 : decode cX7_cellOn 4 = .ok (.getfield 132, 3) := by decide +kernel
theorem dX7_cellOn_7 : decode cX7_cellOn 7 = .ok (.if_icmp .ge 21, 3) := by decide +kernel
theorem dX7_cellOn_10 : decode cX7_cellOn 10 = .ok (.aload_n 0, 1) := by decide +kernel
theorem dX7_cellOn_11 : decode cX7_cellOn 11 = .ok (.iload_n 3, 1) := by decide +kernel
theorem dX7_cellOn_12 : decode cX7_cellOn 12 = .ok (.iload_n 1, 1) := by decide +kernel
theorem dX7_cellOn_13 : decode cX7_cellOn 13 = .ok (.iload_n 2, 1) := by decide +kernel
theorem dX7_cellOn_14 : decode cX7_cellOn 14 = .ok (.invokevirtual 145, 3) := by decide +kernel
theorem dX7_cellOn_17 : decode cX7_cellOn 17 = .ok (.ifCond .eq 5, 3) := by decide +kernel
theorem dX7_cellOn_20 : decode cX7_cellOn 20 = .ok (.iload_n 3, 1) := by decide +kernel
theorem dX7_cellOn_21 : decode cX7_cellOn 21 = .ok (.ireturn, 1) := by decide +kernel
theorem dX7_cellOn_22 : decode cX7_cellOn 22 = .ok (.iinc 3 1, 3) := by decide +kernel
theorem dX7_cellOn_25 : decode cX7_cellOn 25 = .ok (.goto (-23), 3) := by decide +kernel
theorem dX7_cellOn_28 : decode cX7_cellOn 28 = .ok (.bipush (-9), 2) := by decide +kernel
theorem dX7_cellOn_30 : decode cX7_cellOn 30 = .ok (.ireturn, 1) := by decide +kernel
theorem dX7_cell_0 : decode cX7_cell 0 = .ok (.iload_n 1, 1) := by decide +kernel
theorem dX7_cell_1 : decode cX7_cell 1 = .ok (.iconst 0, 1) := by decide +kernel
theorem dX7_cell_2 : decode cX7_cell 2 = .ok (.iconst 3, 1) := by decide +kernel
theorem dX7_cell_3 : decode cX7_cell 3 = .ok (.invokestatic 119, 3) := by decide +kernel
theorem dX7_cell_6 : decode cX7_cell 6 = .ok (.ifCond .eq 31, 3) := by decide +kernel
theorem dX7_cell_9 : decode cX7_cell 9 = .ok (.aload_n 0, 1) := by decide +kernel
theorem dX7_cell_10 : decode cX7_cell 10 = .ok (.iload_n 2, 1) := by decide +kernel
theorem dX7_cell_11 : decode cX7_cell 11 = .ok (.invokevirtual 148, 3) := by decide +kernel
theorem dX7_cell_14 : decode cX7_cell 14 = .ok (.ifCond .eq 23, 3) := by decide +kernel
theorem dX7_cell_17 : decode cX7_cell 17 = .ok (.aload_n 0, 1) := by decide +kernel
theorem dX7_cell_18 : decode cX7_cell 18 = .ok (.iload_n 3, 1) := by decide +kernel
theorem dX7_cell_19 : decode cX7_cell 19 = .ok (.invokevirtual 141, 3) := by decide +kernel
theorem dX7_cell_22 : decode cX7_cell 22 = .ok (.ifCond .eq 15, 3) := by decide +kernel
theorem dX7_cell_25 : decode cX7_cell 25 = .ok (.iload 4, 2) := by decide +kernel
theorem dX7_cell_27 : decode cX7_cell 27 = .ok (.iconst 1, 1) := by decide +kernel
theorem dX7_cell_28 : decode cX7_cell 28 = .ok (.if_icmp .lt 9, 3) := by decide +kernel
theorem dX7_cell_31 : decode cX7_cell 31 = .ok (.iload 5, 2) := by decide +kernel
theorem dX7_cell_33 : decode cX7_cell 33 = .ok (.iconst 1, 1) := by decide +kernel
theorem dX7_cell_34 : decode cX7_cell 34 = .ok (.if_icmp .ge 5, 3) := by decide +kernel
theorem dX7_cell_37 : decode cX7_cell 37 = .ok (.iconst (-1), 1) := by decide +kernel
theorem dX7_cell_38 : decode cX7_cell 38 = .ok (.ireturn, 1) := by decide +kernel
theorem dX7_cell_39 : decode cX7_cell 39 = .ok (.aload_n 0, 1) := by decide +kernel
theorem dX7_cell_40 : decode cX7_cell 40 = .ok (.getfield 132, 3) := by decide +kernel
theorem dX7_cell_43 : decode cX7_cell 43 = .ok (.bipush 40, 2) := by decide +kernel
theorem dX7_cell_45 : decode cX7_cell 45 = .ok (.if_icmp .ne 6, 3) := by decide +kernel
theorem dX7_cell_48 : decode cX7_cell 48 = .ok (.bipush (-2), 2) := by decide +kernel
theorem dX7_cell_50 : decode cX7_cell 50 = .ok (.ireturn, 1) := by decide +kernel
theorem dX7_cell_51 : decode cX7_cell 51 = .ok (.iload 4, 2) := by decide +kernel
theorem dX7_cell_53 : decode cX7_cell 53 = .ok (.aload_n 0, 1) := by decide +kernel
theorem dX7_cell_54 : decode cX7_cell 54 = .ok (.getfield 123, 3) := by decide +kernel
theorem dX7_cell_57 : decode cX7_cell 57 = .ok (.iload_n 2, 1) := by decide +kernel
theorem dX7_cell_58 : decode cX7_cell 58 = .ok (.isub, 1) := by decide +kernel
theorem dX7_cell_59 : decode cX7_cell 59 = .ok (.if_icmp .gt 14, 3) := by decide +kernel
theorem dX7_cell_62 : decode cX7_cell 62 = .ok (.iload 5, 2) := by decide +kernel
theorem dX7_cell_64 : decode cX7_cell 64 = .ok (.aload_n 0, 1) := by decide +kernel
theorem dX7_cell_65 : decode cX7_cell 65 = .ok (.getfield 126, 3) := by decide +kernel
theorem dX7_cell_68 : decode cX7_cell 68 = .ok (.iload_n 3, 1) := by decide +kernel
theorem dX7_cell_69 : decode cX7_cell 69 = .ok (.isub, 1) := by decide +kernel
theorem dX7_cell_70 : decode cX7_cell 70 = .ok (.if_icmp .le 9, 3) := by decide +kernel
theorem dX7_cell_73 : decode cX7_cell 73 = .ok (.aload_n 0, 1) := by decide +kernel
theorem dX7_cell_74 : decode cX7_cell 74 = .ok (.iconst 2, 1) := by decide +kernel
theorem dX7_cell_75 : decode cX7_cell 75 = .ok (.invokevirtual 151, 3) := by decide +kernel
theorem dX7_cell_78 : decode cX7_cell 78 = .ok (.ireturn, 1) := by decide +kernel
theorem dX7_cell_79 : decode cX7_cell 79 = .ok (.bipush (-9), 2) := by decide +kernel
theorem dX7_cell_81 : decode cX7_cell 81 = .ok (.istore 6, 2) := by decide +kernel
theorem dX7_cell_83 : decode cX7_cell 83 = .ok (.iload_n 2, 1) := by decide +kernel
theorem dX7_cell_84 : decode cX7_cell 84 = .ok (.istore 7, 2) := by decide +kernel
theorem dX7_cell_86 : decode cX7_cell 86 = .ok (.iload 7, 2) := by decide +kernel
theorem dX7_cell_88 : decode cX7_cell 88 = .ok (.iload_n 2, 1) := by decide +kernel
theorem dX7_cell_89 : decode cX7_cell 89 = .ok (.iload 4, 2) := by decide +kernel
theorem dX7_cell_91 : decode cX7_cell 91 = .ok (.iadd, 1) := by decide +kernel
theorem dX7_cell_92 : decode cX7_cell 92 = .ok (.if_icmp .ge 67, 3) := by decide +kernel
theorem dX7_cell_95 : decode cX7_cell 95 = .ok (.iload_n 3, 1) := by decide +kernel
theorem dX7_cell_96 : decode cX7_cell 96 = .ok (.istore 8, 2) := by decide +kernel
theorem dX7_cell_98 : decode cX7_cell 98 = .ok (.iload 8, 2) := by decide +kernel
theorem dX7_cell_100 : decode cX7_cell 100 = .ok (.iload_n 3, 1) := by decide +kernel
theorem dX7_cell_101 : decode cX7_cell 101 = .ok (.iload 5, 2) := by decide +kernel
theorem dX7_cell_103 : decode cX7_cell 103 = .ok (.iadd, 1) := by decide +kernel
theorem dX7_cell_104 : decode cX7_cell 104 = .ok (.if_icmp .ge 49, 3) := by decide +kernel
theorem dX7_cell_107 : decode cX7_cell 107 = .ok (.aload_n 0, 1) := by decide +kernel
theorem dX7_cell_108 : decode cX7_cell 108 = .ok (.iload 7, 2) := by decide +kernel
theorem dX7_cell_110 : decode cX7_cell 110 = .ok (.iload 8, 2) := by decide +kernel
theorem dX7_cell_112 : decode cX7_cell 112 = .ok (.invokevirtual 155, 3) := by decide +kernel
theorem dX7_cell_115 : decode cX7_cell 115 = .ok (.istore 9, 2) := by decide +kernel
theorem dX7_cell_117 : decode cX7_cell 117 = .ok (.iload 9, 2) := by decide +kernel
theorem dX7_cell_119 : decode cX7_cell 119 = .ok (.bipush (-9), 2) := by decide +kernel
theorem dX7_cell_121 : decode cX7_cell 121 = .ok (.if_icmp .eq 22, 3) := by decide +kernel
theorem dX7_cell_124 : decode cX7_cell 124 = .ok (.iload 6, 2) := by decide +kernel
theorem dX7_cell_126 : decode cX7_cell 126 = .ok (.bipush (-9), 2) := by decide +kernel
theorem dX7_cell_128 : decode cX7_cell 128 = .ok (.if_icmp .eq 10, 3) := by decide +kernel
theorem dX7_cell_131 : decode cX7_cell 131 = .ok (.iload 9, 2) := by decide +kernel
theorem dX7_cell_133 : decode cX7_cell 133 = .ok (.iload 6, 2) := by decide +kernel
theorem dX7_cell_135 : decode cX7_cell 135 = .ok (.if_icmp .ge 8, 3) := by decide +kernel
theorem dX7_cell_138 : decode cX7_cell 138 = .ok (.iload 9, 2) := by decide +kernel
theorem dX7_cell_140 : decode cX7_cell 140 = .ok (.goto 5, 3) := by decide +kernel
theorem dX7_cell_143 : decode cX7_cell 143 = .ok (.iload 6, 2) := by decide +kernel
theorem dX7_cell_145 : decode cX7_cell 145 = .ok (.istore 6, 2) := by decide +kernel
theorem dX7_cell_147 : decode cX7_cell 147 = .ok (.iinc 8 1, 3) := by decide +kernel
theorem dX7_cell_150 : decode cX7_cell 150 = .ok (.goto (-52), 3) := by decide +kernel
theorem dX7_cell_153 : decode cX7_cell 153 = .ok (.iinc 7 1, 3) := by decide +kernel
theorem dX7_cell_156 : decode cX7_cell 156 = .ok (.goto (-70), 3) := by decide +kernel
theorem dX7_cell_159 : decode cX7_cell 159 = .ok (.iload 6, 2) := by decide +kernel
theorem dX7_cell_161 : decode cX7_cell 161 = .ok (.bipush (-9), 2) := by decide +kernel
theorem dX7_cell_163 : decode cX7_cell 163 = .ok (.if_icmp .eq 16, 3) := by decide +kernel
theorem dX7_cell_166 : decode cX7_cell 166 = .ok (.aload_n 0, 1) := by decide +kernel
theorem dX7_cell_167 : decode cX7_cell 167 = .ok (.iload 6, 2) := by decide +kernel
theorem dX7_cell_169 : decode cX7_cell 169 = .ok (.putfield 135, 3) := by decide +kernel
theorem dX7_cell_172 : decode cX7_cell 172 = .ok (.aload_n 0, 1) := by decide +kernel
theorem dX7_cell_173 : decode cX7_cell 173 = .ok (.bipush 6, 2) := by decide +kernel
theorem dX7_cell_175 : decode cX7_cell 175 = .ok (.invokevirtual 151, 3) := by decide +kernel
theorem dX7_cell_178 : decode cX7_cell 178 = .ok (.ireturn, 1) := by decide +kernel
theorem dX7_cell_179 : decode cX7_cell 179 = .ok (.aload_n 0, 1) := by decide +kernel
theorem dX7_cell_180 : decode cX7_cell 180 = .ok (.getfield 132, 3) := by decide +kernel
theorem dX7_cell_183 : decode cX7_cell 183 = .ok (.istore 7, 2) := by decide +kernel
theorem dX7_cell_185 : decode cX7_cell 185 = .ok (.aload_n 0, 1) := by decide +kernel
theorem dX7_cell_186 : decode cX7_cell 186 = .ok (.getfield 19, 3) := by decide +kernel
theorem dX7_cell_189 : decode cX7_cell 189 = .ok (.iload 7, 2) := by decide +kernel
theorem dX7_cell_191 : decode cX7_cell 191 = .ok (.iload_n 1, 1) := by decide +kernel
theorem dX7_cell_192 : decode cX7_cell 192 = .ok (.iastore, 1) := by decide +kernel
theorem dX7_cell_193 : decode cX7_cell 193 = .ok (.aload_n 0, 1) := by decide +kernel
theorem dX7_cell_194 : decode cX7_cell 194 = .ok (.getfield 22, 3) := by decide +kernel
theorem dX7_cell_197 : decode cX7_cell 197 = .ok (.iload 7, 2) := by decide +kernel
theorem dX7_cell_199 : decode cX7_cell 199 = .ok (.iload_n 2, 1) := by decide +kernel
theorem dX7_cell_200 : decode cX7_cell 200 = .ok (.iastore, 1) := by decide +kernel
theorem dX7_cell_201 : decode cX7_cell 201 = .ok (.aload_n 0, 1) := by decide +kernel
theorem dX7_cell_202 : decode cX7_cell 202 = .ok (.getfield 25, 3) := by decide +kernel
theorem dX7_cell_205 : decode cX7_cell 205 = .ok (.iload 7, 2) := by decide +kernel
theorem dX7_cell_207 : decode cX7_cell 207 = .ok (.iload_n 3, 1) := by decide +kernel
theorem dX7_cell_208 : decode cX7_cell 208 = .ok (.iastore, 1) := by decide +kernel
theorem dX7_cell_209 : decode cX7_cell 209 = .ok (.aload_n 0, 1) := by decide +kernel
theorem dX7_cell_210 : decode cX7_cell 210 = .ok (.getfield 28, 3) := by decide +kernel
theorem dX7_cell_213 : decode cX7_cell 213 = .ok (.iload 7, 2) := by decide +kernel
theorem dX7_cell_215 : decode cX7_cell 215 = .ok (.iload 4, 2) := by decide +kernel
theorem dX7_cell_217 : decode cX7_cell 217 = .ok (.iastore, 1) := by decide +kernel
theorem dX7_cell_218 : decode cX7_cell 218 = .ok (.aload_n 0, 1) := by decide +kernel
theorem dX7_cell_219 : decode cX7_cell 219 = .ok (.getfield 31, 3) := by decide +kernel
theorem dX7_cell_222 : decode cX7_cell 222 = .ok (.iload 7, 2) := by decide +kernel
theorem dX7_cell_224 : decode cX7_cell 224 = .ok (.iload 5, 2) := by decide +kernel
theorem dX7_cell_226 : decode cX7_cell 226 = .ok (.iastore, 1) := by decide +kernel
theorem dX7_cell_227 : decode cX7_cell 227 = .ok (.aload_n 0, 1) := by decide +kernel
theorem dX7_cell_228 : decode cX7_cell 228 = .ok (.getfield 34, 3) := by decide +kernel
theorem dX7_cell_231 : decode cX7_cell 231 = .ok (.iload 7, 2) := by decide +kernel
theorem dX7_cell_233 : decode cX7_cell 233 = .ok (.iconst 0, 1) := by decide +kernel
theorem dX7_cell_234 : decode cX7_cell 234 = .ok (.bastore, 1) := by decide +kernel
theorem dX7_cell_235 : decode cX7_cell 235 = .ok (.aload_n 0, 1) := by decide +kernel
theorem dX7_cell_236 : decode cX7_cell 236 = .ok (.getfield 38, 3) := by decide +kernel
theorem dX7_cell_239 : decode cX7_cell 239 = .ok (.iload 7, 2) := by decide +kernel
theorem dX7_cell_241 : decode cX7_cell 241 = .ok (.iconst 0, 1) := by decide +kernel
theorem dX7_cell_242 : decode cX7_cell 242 = .ok (.iastore, 1) := by decide +kernel
theorem dX7_cell_243 : decode cX7_cell 243 = .ok (.aload_n 0, 1) := by decide +kernel
theorem dX7_cell_244 : decode cX7_cell 244 = .ok (.getfield 44, 3) := by decide +kernel
theorem dX7_cell_247 : decode cX7_cell 247 = .ok (.iload 7, 2) := by decide +kernel
theorem dX7_cell_249 : decode cX7_cell 249 = .ok (.iconst 0, 1) := by decide +kernel
theorem dX7_cell_250 : decode cX7_cell 250 = .ok (.iastore, 1) := by decide +kernel
theorem dX7_cell_251 : decode cX7_cell 251 = .ok (.aload_n 0, 1) := by decide +kernel
theorem dX7_cell_252 : decode cX7_cell 252 = .ok (.getfield 47, 3) := by decide +kernel
theorem dX7_cell_255 : decode cX7_cell 255 = .ok (.iload 7, 2) := by decide +kernel
theorem dX7_cell_257 : decode cX7_cell 257 = .ok (.iconst 1, 1) := by decide +kernel
theorem dX7_cell_258 : decode cX7_cell 258 = .ok (.iastore, 1) := by decide +kernel
theorem dX7_cell_259 : decode cX7_cell 259 = .ok (.aload_n 0, 1) := by decide +kernel
theorem dX7_cell_260 : decode cX7_cell 260 = .ok (.dup, 1) := by decide +kernel
theorem dX7_cell_261 : decode cX7_cell 261 = .ok (.getfield 132, 3) := by decide +kernel
theorem dX7_cell_264 : decode cX7_cell 264 = .ok (.iconst 1, 1) := by decide +kernel
theorem dX7_cell_265 : decode cX7_cell 265 = .ok (.iadd, 1) := by decide +kernel
theorem dX7_cell_266 : decode cX7_cell 266 = .ok (.putfield 132, 3) := by decide +kernel
theorem dX7_cell_269 : decode cX7_cell 269 = .ok (.iload 7, 2) := by decide +kernel
theorem dX7_cell_271 : decode cX7_cell 271 = .ok (.ireturn, 1) := by decide +kernel
theorem dX7_clash_0 : decode cX7_clash 0 = .ok (.aload_n 0, 1) := by decide +kernel
theorem dX7_clash_1 : decode cX7_clash 1 = .ok (.getfield 135, 3) := by decide +kernel
theorem dX7_clash_4 : decode cX7_clash 4 = .ok (.ireturn, 1) := by decide +kernel
theorem dX7_isCell_0 : decode cX7_isCell 0 = .ok (.iload_n 1, 1) := by decide +kernel
theorem dX7_isCell_1 : decode cX7_isCell 1 = .ok (.iconst 0, 1) := by decide +kernel
theorem dX7_isCell_2 : decode cX7_isCell 2 = .ok (.aload_n 0, 1) := by decide +kernel
theorem dX7_isCell_3 : decode cX7_isCell 3 = .ok (.getfield 132, 3) := by decide +kernel
theorem dX7_isCell_6 : decode cX7_isCell 6 = .ok (.iconst 1, 1) := by decide +kernel
theorem dX7_isCell_7 : decode cX7_isCell 7 = .ok (.isub, 1) := by decide +kernel
theorem dX7_isCell_8 : decode cX7_isCell 8 = .ok (.invokestatic 119, 3) := by decide +kernel
theorem dX7_isCell_11 : decode cX7_isCell 11 = .ok (.ireturn, 1) := by decide +kernel
theorem dX7_drop_0 : decode cX7_drop 0 = .ok (.aload_n 0, 1) := by decide +kernel
theorem dX7_drop_1 : decode cX7_drop 1 = .ok (.iload_n 1, 1) := by decide +kernel
theorem dX7_drop_2 : decode cX7_drop 2 = .ok (.invokevirtual 159, 3) := by decide +kernel
theorem dX7_drop_5 : decode cX7_drop 5 = .ok (.ifCond .ne 5, 3) := by decide +kernel
theorem dX7_drop_8 : decode cX7_drop 8 = .ok (.iconst (-1), 1) := by decide +kernel
theorem dX7_drop_9 : decode cX7_drop 9 = .ok (.ireturn, 1) := by decide +kernel
theorem dX7_drop_10 : decode cX7_drop 10 = .ok (.aload_n 0, 1) := by decide +kernel
theorem dX7_drop_11 : decode cX7_drop 11 = .ok (.getfield 34, 3) := by decide +kernel
theorem dX7_drop_14 : decode cX7_drop 14 = .ok (.iload_n 1, 1) := by decide +kernel
theorem dX7_drop_15 : decode cX7_drop 15 = .ok (.baload, 1) := by decide +kernel
theorem dX7_drop_16 : decode cX7_drop 16 = .ok (.ifCond .eq 9, 3) := by decide +kernel
theorem dX7_drop_19 : decode cX7_drop 19 = .ok (.aload_n 0, 1) := by decide +kernel
theorem dX7_drop_20 : decode cX7_drop 20 = .ok (.iconst 1, 1) := by decide +kernel
theorem dX7_drop_21 : decode cX7_drop 21 = .ok (.invokevirtual 151, 3) := by decide +kernel
theorem dX7_drop_24 : decode cX7_drop 24 = .ok (.ireturn, 1) := by decide +kernel
theorem dX7_drop_25 : decode cX7_drop 25 = .ok (.aload_n 0, 1) := by decide +kernel
theorem dX7_drop_26 : decode cX7_drop 26 = .ok (.getfield 34, 3) := by decide +kernel
theorem dX7_drop_29 : decode cX7_drop 29 = .ok (.iload_n 1, 1) := by decide +kernel
theorem dX7_drop_30 : decode cX7_drop 30 = .ok (.iconst 1, 1) := by decide +kernel
theorem dX7_drop_31 : decode cX7_drop 31 = .ok (.bastore, 1) := by decide +kernel
theorem dX7_drop_32 : decode cX7_drop 32 = .ok (.iconst 1, 1) := by decide +kernel
theorem dX7_drop_33 : decode cX7_drop 33 = .ok (.ireturn, 1) := by decide +kernel
theorem dX7_need_0 : decode cX7_need 0 = .ok (.aload_n 0, 1) := by decide +kernel
theorem dX7_need_1 : decode cX7_need 1 = .ok (.iload_n 2, 1) := by decide +kernel
theorem dX7_need_2 : decode cX7_need 2 = .ok (.invokevirtual 159, 3) := by decide +kernel
theorem dX7_need_5 : decode cX7_need 5 = .ok (.ifCond .eq 7, 3) := by decide +kernel
theorem dX7_need_8 : decode cX7_need 8 = .ok (.iload_n 1, 1) := by decide +kernel
theorem dX7_need_9 : decode cX7_need 9 = .ok (.ifCond .ne 7, 3) := by decide +kernel
theorem dX7_need_12 : decode cX7_need 12 = .ok (.iconst (-1), 1) := by decide +kernel
theorem dX7_need_13 : decode cX7_need 13 = .ok (.goto 21, 3) := by decide +kernel
theorem dX7_need_16 : decode cX7_need 16 = .ok (.aload_n 0, 1) := by decide +kernel
theorem dX7_need_17 : decode cX7_need 17 = .ok (.getfield 34, 3) := by decide +kernel
theorem dX7_need_20 : decode cX7_need 20 = .ok (.iload_n 2, 1) := by decide +kernel
theorem dX7_need_21 : decode cX7_need 21 = .ok (.baload, 1) := by decide +kernel
theorem dX7_need_22 : decode cX7_need 22 = .ok (.ifCond .eq 11, 3) := by decide +kernel
theorem dX7_need_25 : decode cX7_need 25 = .ok (.aload_n 0, 1) := by decide +kernel
theorem dX7_need_26 : decode cX7_need 26 = .ok (.iconst 1, 1) := by decide +kernel
theorem dX7_need_27 : decode cX7_need 27 = .ok (.invokevirtual 151, 3) := by decide +kernel
theorem dX7_need_30 : decode cX7_need 30 = .ok (.goto 4, 3) := by decide +kernel
theorem dX7_need_33 : decode cX7_need 33 = .ok (.iconst 0, 1) := by decide +kernel
theorem dX7_need_34 : decode cX7_need 34 = .ok (.ireturn, 1) := by decide +kernel
theorem dX7_toldOf_0 : decode cX7_toldOf 0 = .ok (.iload_n 2, 1) := by decide +kernel
theorem dX7_toldOf_1 : decode cX7_toldOf 1 = .ok (.tableswitch 81 0 5 #[39, 46, 53, 60, 67, 74], 39) := by decide +kernel
theorem dX7_toldOf_40 : decode cX7_toldOf 40 = .ok (.aload_n 0, 1) := by decide +kernel
theorem dX7_toldOf_41 : decode cX7_toldOf 41 = .ok (.getfield 19, 3) := by decide +kernel
theorem dX7_toldOf_44 : decode cX7_toldOf 44 = .ok (.iload_n 1, 1) := by decide +kernel
theorem dX7_toldOf_45 : decode cX7_toldOf 45 = .ok (.iaload, 1) := by decide +kernel
theorem dX7_toldOf_46 : decode cX7_toldOf 46 = .ok (.ireturn, 1) := by decide +kernel
theorem dX7_toldOf_47 : decode cX7_toldOf 47 = .ok (.aload_n 0, 1) := by decide +kernel
theorem dX7_toldOf_48 : decode cX7_toldOf 48 = .ok (.getfield 22, 3) := by decide +kernel
theorem dX7_toldOf_51 : decode cX7_toldOf 51 = .ok (.iload_n 1, 1) := by decide +kernel
theorem dX7_toldOf_52 : decode cX7_toldOf 52 = .ok (.iaload, 1) := by decide +kernel
theorem dX7_toldOf_53 : decode cX7_toldOf 53 = .ok (.ireturn, 1) := by decide +kernel
theorem dX7_toldOf_54 : decode cX7_toldOf 54 = .ok (.aload_n 0, 1) := by decide +kernel
theorem dX7_toldOf_55 : decode cX7_toldOf 55 = .ok (.getfield 25, 3) := by decide +kernel
theorem dX7_toldOf_58 : decode cX7_toldOf 58 = .ok (.iload_n 1, 1) := by decide +kernel
theorem dX7_toldOf_59 : decode cX7_toldOf 59 = .ok (.iaload, 1) := by decide +kernel
theorem dX7_toldOf_60 : decode cX7_toldOf 60 = .ok (.ireturn, 1) := by decide +kernel
theorem dX7_toldOf_61 : decode cX7_toldOf 61 = .ok (.aload_n 0, 1) := by decide +kernel
theorem dX7_toldOf_62 : decode cX7_toldOf 62 = .ok (.getfield 28, 3) := by decide +kernel
theorem dX7_toldOf_65 : decode cX7_toldOf 65 = .ok (.iload_n 1, 1) := by decide +kernel
theorem dX7_toldOf_66 : decode cX7_toldOf 66 = .ok (.iaload, 1) := by decide +kernel
theorem dX7_toldOf_67 : decode cX7_toldOf 67 = .ok (.ireturn, 1) := by decide +kernel
theorem dX7_toldOf_68 : decode cX7_toldOf 68 = .ok (.aload_n 0, 1) := by decide +kernel
theorem dX7_toldOf_69 : decode cX7_toldOf 69 = .ok (.getfield 31, 3) := by decide +kernel
theorem dX7_toldOf_72 : decode cX7_toldOf 72 = .ok (.iload_n 1, 1) := by decide +kernel
theorem dX7_toldOf_73 : decode cX7_toldOf 73 = .ok (.iaload, 1) := by decide +kernel
theorem dX7_toldOf_74 : decode cX7_toldOf 74 = .ok (.ireturn, 1) := by decide +kernel
theorem dX7_toldOf_75 : decode cX7_toldOf 75 = .ok (.aload_n 0, 1) := by decide +kernel
theorem dX7_toldOf_76 : decode cX7_toldOf 76 = .ok (.getfield 38, 3) := by decide +kernel
theorem dX7_toldOf_79 : decode cX7_toldOf 79 = .ok (.iload_n 1, 1) := by decide +kernel
theorem dX7_toldOf_80 : decode cX7_toldOf 80 = .ok (.iaload, 1) := by decide +kernel
theorem dX7_toldOf_81 : decode cX7_toldOf 81 = .ok (.ireturn, 1) := by decide +kernel
theorem dX7_toldOf_82 : decode cX7_toldOf 82 = .ok (.aload_n 0, 1) := by decide +kernel
theorem dX7_toldOf_83 : decode cX7_toldOf 83 = .ok (.getfield 44, 3) := by decide +kernel
theorem dX7_toldOf_86 : decode cX7_toldOf 86 = .ok (.iload_n 1, 1) := by decide +kernel
theorem dX7_toldOf_87 : decode cX7_toldOf 87 = .ok (.iaload, 1) := by decide +kernel
theorem dX7_toldOf_88 : decode cX7_toldOf 88 = .ok (.ireturn, 1) := by decide +kernel
theorem dX7_told_0 : decode cX7_told 0 = .ok (.aload_n 0, 1) := by decide +kernel
theorem dX7_told_1 : decode cX7_told 1 = .ok (.iload_n 2, 1) := by decide +kernel
theorem dX7_told_2 : decode cX7_told 2 = .ok (.iconst 0, 1) := by decide +kernel
theorem dX7_told_3 : decode cX7_told 3 = .ok (.bipush 6, 2) := by decide +kernel
theorem dX7_told_5 : decode cX7_told 5 = .ok (.invokestatic 119, 3) := by decide +kernel
theorem dX7_told_8 : decode cX7_told 8 = .ok (.iload_n 1, 1) := by decide +kernel
theorem dX7_told_9 : decode cX7_told 9 = .ok (.invokevirtual 162, 3) := by decide +kernel
theorem dX7_told_12 : decode cX7_told 12 = .ok (.istore_n 3, 1) := by decide +kernel
theorem dX7_told_13 : decode cX7_told 13 = .ok (.iload_n 3, 1) := by decide +kernel
theorem dX7_told_14 : decode cX7_told 14 = .ok (.ifCond .ge 7, 3) := by decide +kernel
theorem dX7_told_17 : decode cX7_told 17 = .ok (.iload_n 3, 1) := by decide +kernel
theorem dX7_told_18 : decode cX7_told 18 = .ok (.goto 9, 3) := by decide +kernel
theorem dX7_told_21 : decode cX7_told 21 = .ok (.aload_n 0, 1) := by decide +kernel
theorem dX7_told_22 : decode cX7_told 22 = .ok (.iload_n 1, 1) := by decide +kernel
theorem dX7_told_23 : decode cX7_told 23 = .ok (.iload_n 2, 1) := by decide +kernel
theorem dX7_told_24 : decode cX7_told 24 = .ok (.invokevirtual 166, 3) := by decide +kernel
theorem dX7_told_27 : decode cX7_told 27 = .ok (.ireturn, 1) := by decide +kernel
theorem dX7_is_0 : decode cX7_is 0 = .ok (.aload_n 0, 1) := by decide +kernel
theorem dX7_is_1 : decode cX7_is 1 = .ok (.iload_n 2, 1) := by decide +kernel
theorem dX7_is_2 : decode cX7_is 2 = .ok (.iconst 0, 1) := by decide +kernel
theorem dX7_is_3 : decode cX7_is 3 = .ok (.iconst 3, 1) := by decide +kernel
theorem dX7_is_4 : decode cX7_is 4 = .ok (.invokestatic 119, 3) := by decide +kernel
theorem dX7_is_7 : decode cX7_is 7 = .ok (.iload_n 1, 1) := by decide +kernel
theorem dX7_is_8 : decode cX7_is 8 = .ok (.invokevirtual 162, 3) := by decide +kernel
theorem dX7_is_11 : decode cX7_is 11 = .ok (.istore_n 3, 1) := by decide +kernel
theorem dX7_is_12 : decode cX7_is 12 = .ok (.iload_n 3, 1) := by decide +kernel
theorem dX7_is_13 : decode cX7_is 13 = .ok (.ifCond .ge 7, 3) := by decide +kernel
theorem dX7_is_16 : decode cX7_is 16 = .ok (.iload_n 3, 1) := by decide +kernel
theorem dX7_is_17 : decode cX7_is 17 = .ok (.goto 22, 3) := by decide +kernel
theorem dX7_is_20 : decode cX7_is 20 = .ok (.iload_n 2, 1) := by decide +kernel
theorem dX7_is_21 : decode cX7_is 21 = .ok (.ifCond .eq 13, 3) := by decide +kernel
theorem dX7_is_24 : decode cX7_is 24 = .ok (.iload_n 2, 1) := by decide +kernel
theorem dX7_is_25 : decode cX7_is 25 = .ok (.aload_n 0, 1) := by decide +kernel
theorem dX7_is_26 : decode cX7_is 26 = .ok (.getfield 19, 3) := by decide +kernel
theorem dX7_is_29 : decode cX7_is 29 = .ok (.iload_n 1, 1) := by decide +kernel
theorem dX7_is_30 : decode cX7_is 30 = .ok (.iaload, 1) := by decide +kernel
theorem dX7_is_31 : decode cX7_is 31 = .ok (.if_icmp .ne 7, 3) := by decide +kernel
theorem dX7_is_34 : decode cX7_is 34 = .ok (.iconst 1, 1) := by decide +kernel
theorem dX7_is_35 : decode cX7_is 35 = .ok (.goto 4, 3) := by decide +kernel
theorem dX7_is_38 : decode cX7_is 38 = .ok (.iconst 0, 1) := by decide +kernel
theorem dX7_is_39 : decode cX7_is 39 = .ok (.ireturn, 1) := by decide +kernel
theorem dX7_on_0 : decode cX7_on 0 = .ok (.aload_n 0, 1) := by decide +kernel
theorem dX7_on_1 : decode cX7_on 1 = .ok (.iload_n 1, 1) := by decide +kernel
theorem dX7_on_2 : decode cX7_on 2 = .ok (.invokevirtual 148, 3) := by decide +kernel
theorem dX7_on_5 : decode cX7_on 5 = .ok (.ifCond .eq 20, 3) := by decide +kernel
theorem dX7_on_8 : decode cX7_on 8 = .ok (.aload_n 0, 1) := by decide +kernel
theorem dX7_on_9 : decode cX7_on 9 = .ok (.iload_n 2, 1) := by decide +kernel
theorem dX7_on_10 : decode cX7_on 10 = .ok (.invokevirtual 141, 3) := by decide +kernel
theorem dX7_on_13 : decode cX7_on 13 = .ok (.ifCond .eq 12, 3) := by decide +kernel
theorem dX7_on_16 : decode cX7_on 16 = .ok (.aload_n 0, 1) := by decide +kernel
theorem dX7_on_17 : decode cX7_on 17 = .ok (.iload_n 1, 1) := by decide +kernel
theorem dX7_on_18 : decode cX7_on 18 = .ok (.iload_n 2, 1) := by decide +kernel
theorem dX7_on_19 : decode cX7_on 19 = .ok (.invokevirtual 155, 3) := by decide +kernel
theorem dX7_on_22 : decode cX7_on 22 = .ok (.goto 4, 3) := by decide +kernel
theorem dX7_on_25 : decode cX7_on 25 = .ok (.iconst (-1), 1) := by decide +kernel
theorem dX7_on_26 : decode cX7_on 26 = .ok (.ireturn, 1) := by decide +kernel
theorem dX7_words_0 : decode cX7_words 0 = .ok (.aload_n 0, 1) := by decide +kernel
theorem dX7_words_1 : decode cX7_words 1 = .ok (.iload_n 2, 1) := by decide +kernel
theorem dX7_words_2 : decode cX7_words 2 = .ok (.bipush 12, 2) := by decide +kernel
theorem dX7_words_4 : decode cX7_words 4 = .ok (.if_icmp .gt 7, 3) := by decide +kernel
theorem dX7_words_7 : decode cX7_words 7 = .ok (.iconst 1, 1) := by decide +kernel
theorem dX7_words_8 : decode cX7_words 8 = .ok (.goto 4, 3) := by decide +kernel
theorem dX7_words_11 : decode cX7_words 11 = .ok (.iconst 0, 1) := by decide +kernel
theorem dX7_words_12 : decode cX7_words 12 = .ok (.iload_n 1, 1) := by decide +kernel
theorem dX7_words_13 : decode cX7_words 13 = .ok (.invokevirtual 162, 3) := by decide +kernel
theorem dX7_words_16 : decode cX7_words 16 = .ok (.istore_n 3, 1) := by decide +kernel
theorem dX7_words_17 : decode cX7_words 17 = .ok (.iload_n 3, 1) := by decide +kernel
theorem dX7_words_18 : decode cX7_words 18 = .ok (.ifCond .ge 5, 3) := by decide +kernel
theorem dX7_words_21 : decode cX7_words 21 = .ok (.iload_n 3, 1) := by decide +kernel
theorem dX7_words_22 : decode cX7_words 22 = .ok (.ireturn, 1) := by decide +kernel
theorem dX7_words_23 : decode cX7_words 23 = .ok (.iload_n 2, 1) := by decide +kernel
theorem dX7_words_24 : decode cX7_words 24 = .ok (.ifCond .ge 9, 3) := by decide +kernel
theorem dX7_words_27 : decode cX7_words 27 = .ok (.aload_n 0, 1) := by decide +kernel
theorem dX7_words_28 : decode cX7_words 28 = .ok (.iconst 5, 1) := by decide +kernel
theorem dX7_words_29 : decode cX7_words 29 = .ok (.invokevirtual 151, 3) := by decide +kernel
theorem dX7_words_32 : decode cX7_words 32 = .ok (.ireturn, 1) := by decide +kernel
theorem dX7_words_33 : decode cX7_words 33 = .ok (.aload_n 0, 1) := by decide +kernel
theorem dX7_words_34 : decode cX7_words 34 = .ok (.getfield 38, 3) := by decide +kernel
theorem dX7_words_37 : decode cX7_words 37 = .ok (.iload_n 1, 1) := by decide +kernel
theorem dX7_words_38 : decode cX7_words 38 = .ok (.iload_n 2, 1) := by decide +kernel
theorem dX7_words_39 : decode cX7_words 39 = .ok (.iastore, 1) := by decide +kernel
theorem dX7_words_40 : decode cX7_words 40 = .ok (.iconst 0, 1) := by decide +kernel
theorem dX7_words_41 : decode cX7_words 41 = .ok (.istore 4, 2) := by decide +kernel
theorem dX7_words_43 : decode cX7_words 43 = .ok (.iload 4, 2) := by decide +kernel
theorem dX7_words_45 : decode cX7_words 45 = .ok (.iload_n 2, 1) := by decide +kernel
theorem dX7_words_46 : decode cX7_words 46 = .ok (.if_icmp .ge 22, 3) := by decide +kernel
theorem dX7_words_49 : decode cX7_words 49 = .ok (.aload_n 0, 1) := by decide +kernel
theorem dX7_words_50 : decode cX7_words 50 = .ok (.getfield 41, 3) := by decide +kernel
theorem dX7_words_53 : decode cX7_words 53 = .ok (.bipush 12, 2) := by decide +kernel
theorem dX7_words_55 : decode cX7_words 55 = .ok (.iload_n 1, 1) := by decide +kernel
theorem dX7_words_56 : decode cX7_words 56 = .ok (.imul, 1) := by decide +kernel
theorem dX7_words_57 : decode cX7_words 57 = .ok (.iload 4, 2) := by decide +kernel
theorem dX7_words_59 : decode cX7_words 59 = .ok (.iadd, 1) := by decide +kernel
theorem dX7_words_60 : decode cX7_words 60 = .ok (.iconst 1, 1) := by decide +kernel
theorem dX7_words_61 : decode cX7_words 61 = .ok (.iastore, 1) := by decide +kernel
theorem dX7_words_62 : decode cX7_words 62 = .ok (.iinc 4 1, 3) := by decide +kernel
theorem dX7_words_65 : decode cX7_words 65 = .ok (.goto (-22), 3) := by decide +kernel
theorem dX7_words_68 : decode cX7_words 68 = .ok (.iload_n 2, 1) := by decide +kernel
theorem dX7_words_69 : decode cX7_words 69 = .ok (.ireturn, 1) := by decide +kernel
theorem dX7_word_0 : decode cX7_word 0 = .ok (.aload_n 0, 1) := by decide +kernel
theorem dX7_word_1 : decode cX7_word 1 = .ok (.iload_n 3, 1) := by decide +kernel
theorem dX7_word_2 : decode cX7_word 2 = .ok (.iconst 1, 1) := by decide +kernel
theorem dX7_word_3 : decode cX7_word 3 = .ok (.bipush 20, 2) := by decide +kernel
theorem dX7_word_5 : decode cX7_word 5 = .ok (.invokestatic 119, 3) := by decide +kernel
theorem dX7_word_8 : decode cX7_word 8 = .ok (.iload_n 1, 1) := by decide +kernel
theorem dX7_word_9 : decode cX7_word 9 = .ok (.invokevirtual 162, 3) := by decide +kernel
theorem dX7_word_12 : decode cX7_word 12 = .ok (.istore 4, 2) := by decide +kernel
theorem dX7_word_14 : decode cX7_word 14 = .ok (.iload 4, 2) := by decide +kernel
theorem dX7_word_16 : decode cX7_word 16 = .ok (.ifCond .ge 6, 3) := by decide +kernel
theorem dX7_word_19 : decode cX7_word 19 = .ok (.iload 4, 2) := by decide +kernel
theorem dX7_word_21 : decode cX7_word 21 = .ok (.ireturn, 1) := by decide +kernel
theorem dX7_word_22 : decode cX7_word 22 = .ok (.iload_n 2, 1) := by decide +kernel
theorem dX7_word_23 : decode cX7_word 23 = .ok (.iconst 0, 1) := by decide +kernel
theorem dX7_word_24 : decode cX7_word 24 = .ok (.aload_n 0, 1) := by decide +kernel
theorem dX7_word_25 : decode cX7_word 25 = .ok (.getfield 38, 3) := by decide +kernel
theorem dX7_word_28 : decode cX7_word 28 = .ok (.iload_n 1, 1) := by decide +kernel
theorem dX7_word_29 : decode cX7_word 29 = .ok (.iaload, 1) := by decide +kernel
theorem dX7_word_30 : decode cX7_word 30 = .ok (.iconst 1, 1) := by decide +kernel
theorem dX7_word_31 : decode cX7_word 31 = .ok (.isub, 1) := by decide +kernel
theorem dX7_word_32 : decode cX7_word 32 = .ok (.invokestatic 119, 3) := by decide +kernel
theorem dX7_word_35 : decode cX7_word 35 = .ok (.ifCond .ne 9, 3) := by decide +kernel
theorem dX7_word_38 : decode cX7_word 38 = .ok (.aload_n 0, 1) := by decide +kernel
theorem dX7_word_39 : decode cX7_word 39 = .ok (.iconst 2, 1) := by decide +kernel
theorem dX7_word_40 : decode cX7_word 40 = .ok (.invokevirtual 151, 3) := by decide +kernel
theorem dX7_word_43 : decode cX7_word 43 = .ok (.ireturn, 1) := by decide +kernel
theorem dX7_word_44 : decode cX7_word 44 = .ok (.aload_n 0, 1) := by decide +kernel
theorem dX7_word_45 : decode cX7_word 45 = .ok (.getfield 41, 3) := by decide +kernel
theorem dX7_word_48 : decode cX7_word 48 = .ok (.bipush 12, 2) := by decide +kernel
theorem dX7_word_50 : decode cX7_word 50 = .ok (.iload_n 1, 1) := by decide +kernel
theorem dX7_word_51 : decode cX7_word 51 = .ok (.imul, 1) := by decide +kernel
theorem dX7_word_52 : decode cX7_word 52 = .ok (.iload_n 2, 1) := by decide +kernel
theorem dX7_word_53 : decode cX7_word 53 = .ok (.iadd, 1) := by decide +kernel
theorem dX7_word_54 : decode cX7_word 54 = .ok (.iaload, 1) := by decide +kernel
theorem dX7_word_55 : decode cX7_word 55 = .ok (.istore 5, 2) := by decide +kernel
theorem dX7_word_57 : decode cX7_word 57 = .ok (.aload_n 0, 1) := by decide +kernel
theorem dX7_word_58 : decode cX7_word 58 = .ok (.getfield 41, 3) := by decide +kernel
theorem dX7_word_61 : decode cX7_word 61 = .ok (.bipush 12, 2) := by decide +kernel
theorem dX7_word_63 : decode cX7_word 63 = .ok (.iload_n 1, 1) := by decide +kernel
theorem dX7_word_64 : decode cX7_word 64 = .ok (.imul, 1) := by decide +kernel
theorem dX7_word_65 : decode cX7_word 65 = .ok (.iload_n 2, 1) := by decide +kernel
theorem dX7_word_66 : decode cX7_word 66 = .ok (.iadd, 1) := by decide +kernel
theorem dX7_word_67 : decode cX7_word 67 = .ok (.iload_n 3, 1) := by decide +kernel
theorem dX7_word_68 : decode cX7_word 68 = .ok (.iastore, 1) := by decide +kernel
theorem dX7_word_69 : decode cX7_word 69 = .ok (.iload 5, 2) := by decide +kernel
theorem dX7_word_71 : decode cX7_word 71 = .ok (.ireturn, 1) := by decide +kernel
theorem dX7_copy_0 : decode cX7_copy 0 = .ok (.aload_n 0, 1) := by decide +kernel
theorem dX7_copy_1 : decode cX7_copy 1 = .ok (.iload_n 1, 1) := by decide +kernel
theorem dX7_copy_2 : decode cX7_copy 2 = .ok (.invokevirtual 159, 3) := by decide +kernel
theorem dX7_copy_5 : decode cX7_copy 5 = .ok (.ifCond .eq 11, 3) := by decide +kernel
theorem dX7_copy_8 : decode cX7_copy 8 = .ok (.aload_n 0, 1) := by decide +kernel
theorem dX7_copy_9 : decode cX7_copy 9 = .ok (.iload_n 3, 1) := by decide +kernel
theorem dX7_copy_10 : decode cX7_copy 10 = .ok (.invokevirtual 159, 3) := by decide +kernel
theorem dX7_copy_13 : decode cX7_copy 13 = .ok (.ifCond .ne 5, 3) := by decide +kernel
theorem dX7_copy_16 : decode cX7_copy 16 = .ok (.iconst (-1), 1) := by decide +kernel
theorem dX7_copy_17 : decode cX7_copy 17 = .ok (.ireturn, 1) := by decide +kernel
theorem dX7_copy_18 : decode cX7_copy 18 = .ok (.aload_n 0, 1) := by decide +kernel
theorem dX7_copy_19 : decode cX7_copy 19 = .ok (.getfield 34, 3) := by decide +kernel
theorem dX7_copy_22 : decode cX7_copy 22 = .ok (.iload_n 1, 1) := by decide +kernel
theorem dX7_copy_23 : decode cX7_copy 23 = .ok (.baload, 1) := by decide +kernel
theorem dX7_copy_24 : decode cX7_copy 24 = .ok (.ifCond .ne 12, 3) := by decide +kernel
theorem dX7_copy_27 : decode cX7_copy 27 = .ok (.aload_n 0, 1) := by decide +kernel
theorem dX7_copy_28 : decode cX7_copy 28 = .ok (.getfield 34, 3) := by decide +kernel
theorem dX7_copy_31 : decode cX7_copy 31 = .ok (.iload_n 3, 1) := by decide +kernel
theorem dX7_copy_32 : decode cX7_copy 32 = .ok (.baload, 1) := by decide +kernel
theorem dX7_copy_33 : decode cX7_copy 33 = .ok (.ifCond .eq 9, 3) := by decide +kernel
theorem dX7_copy_36 : decode cX7_copy 36 = .ok (.aload_n 0, 1) := by decide +kernel
theorem dX7_copy_37 : decode cX7_copy 37 = .ok (.iconst 1, 1) := by decide +kernel
theorem dX7_copy_38 : decode cX7_copy 38 = .ok (.invokevirtual 151, 3) := by decide +kernel
theorem dX7_copy_41 : decode cX7_copy 41 = .ok (.ireturn, 1) := by decide +kernel
theorem dX7_copy_42 : decode cX7_copy 42 = .ok (.iload_n 2, 1) := by decide +kernel
theorem dX7_copy_43 : decode cX7_copy 43 = .ok (.ifCond .lt 48, 3) := by decide +kernel
theorem dX7_copy_46 : decode cX7_copy 46 = .ok (.iload 4, 2) := by decide +kernel
theorem dX7_copy_48 : decode cX7_copy 48 = .ok (.ifCond .lt 43, 3) := by decide +kernel
theorem dX7_copy_51 : decode cX7_copy 51 = .ok (.iload 5, 2) := by decide +kernel
theorem dX7_copy_53 : decode cX7_copy 53 = .ok (.ifCond .lt 38, 3) := by decide +kernel
theorem dX7_copy_56 : decode cX7_copy 56 = .ok (.iload_n 2, 1) := by decide +kernel
theorem dX7_copy_57 : decode cX7_copy 57 = .ok (.i2l, 1) := by decide +kernel
theorem dX7_copy_58 : decode cX7_copy 58 = .ok (.iload 5, 2) := by decide +kernel
theorem dX7_copy_60 : decode cX7_copy 60 = .ok (.i2l, 1) := by decide +kernel
theorem dX7_copy_61 : decode cX7_copy 61 = .ok (.ladd, 1) := by decide +kernel
theorem dX7_copy_62 : decode cX7_copy 62 = .ok (.aload_n 0, 1) := by decide +kernel
theorem dX7_copy_63 : decode cX7_copy 63 = .ok (.getfield 38, 3) := by decide +kernel
theorem dX7_copy_66 : decode cX7_copy 66 = .ok (.iload_n 1, 1) := by decide +kernel
theorem dX7_copy_67 : decode cX7_copy 67 = .ok (.iaload, 1) := by decide +kernel
theorem dX7_copy_68 : decode cX7_copy 68 = .ok (.i2l, 1) := by decide +kernel
theorem dX7_copy_69 : decode cX7_copy 69 = .ok (.lcmp, 1) := by decide +kernel
theorem dX7_copy_70 : decode cX7_copy 70 = .ok (.ifCond .gt 21, 3) := by decide +kernel
theorem dX7_copy_73 : decode cX7_copy 73 = .ok (.iload 4, 2) := by decide +kernel
theorem dX7_copy_75 : decode cX7_copy 75 = .ok (.i2l, 1) := by decide +kernel
theorem dX7_copy_76 : decode cX7_copy 76 = .ok (.iload 5, 2) := by decide +kernel
theorem dX7_copy_78 : decode cX7_copy 78 = .ok (.i2l, 1) := by decide +kernel
theorem dX7_copy_79 : decode cX7_copy 79 = .ok (.ladd, 1) := by decide +kernel
theorem dX7_copy_80 : decode cX7_copy 80 = .ok (.aload_n 0, 1) := by decide +kernel
theorem dX7_copy_81 : decode cX7_copy 81 = .ok (.getfield 38, 3) := by decide +kernel
theorem dX7_copy_84 : decode cX7_copy 84 = .ok (.iload_n 3, 1) := by decide +kernel
theorem dX7_copy_85 : decode cX7_copy 85 = .ok (.iaload, 1) := by decide +kernel
theorem dX7_copy_86 : decode cX7_copy 86 = .ok (.i2l, 1) := by decide +kernel
theorem dX7_copy_87 : decode cX7_copy 87 = .ok (.lcmp, 1) := by decide +kernel
theorem dX7_copy_88 : decode cX7_copy 88 = .ok (.ifCond .le 9, 3) := by decide +kernel
theorem dX7_copy_91 : decode cX7_copy 91 = .ok (.aload_n 0, 1) := by decide +kernel
theorem dX7_copy_92 : decode cX7_copy 92 = .ok (.iconst 2, 1) := by decide +kernel
theorem dX7_copy_93 : decode cX7_copy 93 = .ok (.invokevirtual 151, 3) := by decide +kernel
theorem dX7_copy_96 : decode cX7_copy 96 = .ok (.ireturn, 1) := by decide +kernel
theorem dX7_copy_97 : decode cX7_copy 97 = .ok (.iconst 0, 1) := by decide +kernel
theorem dX7_copy_98 : decode cX7_copy 98 = .ok (.istore 6, 2) := by decide +kernel
theorem dX7_copy_100 : decode cX7_copy 100 = .ok (.iload 6, 2) := by decide +kernel
theorem dX7_copy_102 : decode cX7_copy 102 = .ok (.iload 5, 2) := by decide +kernel
theorem dX7_copy_104 : decode cX7_copy 104 = .ok (.if_icmp .ge 30, 3) := by decide +kernel
theorem dX7_copy_107 : decode cX7_copy 107 = .ok (.aload_n 0, 1) := by decide +kernel
theorem dX7_copy_108 : decode cX7_copy 108 = .ok (.getfield 50, 3) := by decide +kernel
theorem dX7_copy_111 : decode cX7_copy 111 = .ok (.iload 6, 2) := by decide +kernel
theorem dX7_copy_113 : decode cX7_copy 113 = .ok (.aload_n 0, 1) := by decide +kernel
theorem dX7_copy_114 : decode cX7_copy 114 = .ok (.getfield 41, 3) := by decide +kernel
theorem dX7_copy_117 : decode cX7_copy 117 = .ok (.bipush 12, 2) := by decide +kernel
theorem dX7_copy_119 : decode cX7_copy 119 = .ok (.iload_n 1, 1) := by decide +kernel
theorem dX7_copy_120 : decode cX7_copy 120 = .ok (.imul, 1) := by decide +kernel
theorem dX7_copy_121 : decode cX7_copy 121 = .ok (.iload_n 2, 1) := by decide +kernel
theorem dX7_copy_122 : decode cX7_copy 122 = .ok (.iadd, 1) := by decide +kernel
theorem dX7_copy_123 : decode cX7_copy 123 = .ok (.iload 6, 2) := by decide +kernel
theorem dX7_copy_125 : decode cX7_copy 125 = .ok (.iadd, 1) := by decide +kernel
theorem dX7_copy_126 : decode cX7_copy 126 = .ok (.iaload, 1) := by decide +kernel
theorem dX7_copy_127 : decode cX7_copy 127 = .ok (.iastore, 1) := by decide +kernel
theorem dX7_copy_128 : decode cX7_copy 128 = .ok (.iinc 6 1, 3) := by decide +kernel
theorem dX7_copy_131 : decode cX7_copy 131 = .ok (.goto (-31), 3) := by decide +kernel
theorem dX7_copy_134 : decode cX7_copy 134 = .ok (.iconst 0, 1) := by decide +kernel
theorem dX7_copy_135 : decode cX7_copy 135 = .ok (.istore 6, 2) := by decide +kernel
theorem dX7_copy_137 : decode cX7_copy 137 = .ok (.iload 6, 2) := by decide +kernel
theorem dX7_copy_139 : decode cX7_copy 139 = .ok (.iload 5, 2) := by decide +kernel
theorem dX7_copy_141 : decode cX7_copy 141 = .ok (.if_icmp .ge 31, 3) := by decide +kernel
theorem dX7_copy_144 : decode cX7_copy 144 = .ok (.aload_n 0, 1) := by decide +kernel
theorem dX7_copy_145 : decode cX7_copy 145 = .ok (.getfield 41, 3) := by decide +kernel
theorem dX7_copy_148 : decode cX7_copy 148 = .ok (.bipush 12, 2) := by decide +kernel
theorem dX7_copy_150 : decode cX7_copy 150 = .ok (.iload_n 3, 1) := by decide +kernel
theorem dX7_copy_151 : decode cX7_copy 151 = .ok (.imul, 1) := by decide +kernel
theorem dX7_copy_152 : decode cX7_copy 152 = .ok (.iload 4, 2) := by decide +kernel
theorem dX7_copy_154 : decode cX7_copy 154 = .ok (.iadd, 1) := by decide +kernel
theorem dX7_copy_155 : decode cX7_copy 155 = .ok (.iload 6, 2) := by decide +kernel
theorem dX7_copy_157 : decode cX7_copy 157 = .ok (.iadd, 1) := by decide +kernel
theorem dX7_copy_158 : decode cX7_copy 158 = .ok (.aload_n 0, 1) := by decide +kernel
theorem dX7_copy_159 : decode cX7_copy 159 = .ok (.getfield 50, 3) := by decide +kernel
theorem dX7_copy_162 : decode cX7_copy 162 = .ok (.iload 6, 2) := by decide +kernel
theorem dX7_copy_164 : decode cX7_copy 164 = .ok (.iaload, 1) := by decide +kernel
theorem dX7_copy_165 : decode cX7_copy 165 = .ok (.iastore, 1) := by decide +kernel
theorem dX7_copy_166 : decode cX7_copy 166 = .ok (.iinc 6 1, 3) := by decide +kernel
theorem dX7_copy_169 : decode cX7_copy 169 = .ok (.goto (-32), 3) := by decide +kernel
theorem dX7_copy_172 : decode cX7_copy 172 = .ok (.iconst 1, 1) := by decide +kernel
theorem dX7_copy_173 : decode cX7_copy 173 = .ok (.ireturn, 1) := by decide +kernel
theorem dX7_lettersOf_0 : decode cX7_lettersOf 0 = .ok (.iconst 0, 1) := by decide +kernel
theorem dX7_lettersOf_1 : decode cX7_lettersOf 1 = .ok (.istore_n 2, 1) := by decide +kernel
theorem dX7_lettersOf_2 : decode cX7_lettersOf 2 = .ok (.iconst 0, 1) := by decide +kernel
theorem dX7_lettersOf_3 : decode cX7_lettersOf 3 = .ok (.istore_n 3, 1) := by decide +kernel
theorem dX7_lettersOf_4 : decode cX7_lettersOf 4 = .ok (.iload_n 3, 1) := by decide +kernel
theorem dX7_lettersOf_5 : decode cX7_lettersOf 5 = .ok (.aload_n 0, 1) := by decide +kernel
theorem dX7_lettersOf_6 : decode cX7_lettersOf 6 = .ok (.getfield 38, 3) := by decide +kernel
theorem dX7_lettersOf_9 : decode cX7_lettersOf 9 = .ok (.iload_n 1, 1) := by decide +kernel
theorem dX7_lettersOf_10 : decode cX7_lettersOf 10 = .ok (.iaload, 1) := by decide +kernel
theorem dX7_lettersOf_11 : decode cX7_lettersOf 11 = .ok (.if_icmp .ge 23, 3) := by decide +kernel
theorem dX7_lettersOf_14 : decode cX7_lettersOf 14 = .ok (.iload_n 2, 1) := by decide +kernel
theorem dX7_lettersOf_15 : decode cX7_lettersOf 15 = .ok (.aload_n 0, 1) := by decide +kernel
theorem dX7_lettersOf_16 : decode cX7_lettersOf 16 = .ok (.getfield 41, 3) := by decide +kernel
theorem dX7_lettersOf_19 : decode cX7_lettersOf 19 = .ok (.bipush 12, 2) := by decide +kernel
theorem dX7_lettersOf_21 : decode cX7_lettersOf 21 = .ok (.iload_n 1, 1) := by decide +kernel
theorem dX7_lettersOf_22 : decode cX7_lettersOf 22 = .ok (.imul, 1) := by decide +kernel
theorem dX7_lettersOf_23 : decode cX7_lettersOf 23 = .ok (.iload_n 3, 1) := by decide +kernel
theorem dX7_lettersOf_24 : decode cX7_lettersOf 24 = .ok (.iadd, 1) := by decide +kernel
theorem dX7_lettersOf_25 : decode cX7_lettersOf 25 = .ok (.iaload, 1) := by decide +kernel
theorem dX7_lettersOf_26 : decode cX7_lettersOf 26 = .ok (.iadd, 1) := by decide +kernel
theorem dX7_lettersOf_27 : decode cX7_lettersOf 27 = .ok (.istore_n 2, 1) := by decide +kernel
theorem dX7_lettersOf_28 : decode cX7_lettersOf 28 = .ok (.iinc 3 1, 3) := by decide +kernel
theorem dX7_lettersOf_31 : decode cX7_lettersOf 31 = .ok (.goto (-27), 3) := by decide +kernel
theorem dX7_lettersOf_34 : decode cX7_lettersOf 34 = .ok (.iload_n 2, 1) := by decide +kernel
theorem dX7_lettersOf_35 : decode cX7_lettersOf 35 = .ok (.ireturn, 1) := by decide +kernel
theorem dX7_mean_0 : decode cX7_mean 0 = .ok (.aload_n 0, 1) := by decide +kernel
theorem dX7_mean_1 : decode cX7_mean 1 = .ok (.iconst 1, 1) := by decide +kernel
theorem dX7_mean_2 : decode cX7_mean 2 = .ok (.iload_n 1, 1) := by decide +kernel
theorem dX7_mean_3 : decode cX7_mean 3 = .ok (.invokevirtual 162, 3) := by decide +kernel
theorem dX7_mean_6 : decode cX7_mean 6 = .ok (.istore_n 2, 1) := by decide +kernel
theorem dX7_mean_7 : decode cX7_mean 7 = .ok (.iload_n 2, 1) := by decide +kernel
theorem dX7_mean_8 : decode cX7_mean 8 = .ok (.ifCond .ge 5, 3) := by decide +kernel
theorem dX7_mean_11 : decode cX7_mean 11 = .ok (.iload_n 2, 1) := by decide +kernel
theorem dX7_mean_12 : decode cX7_mean 12 = .ok (.ireturn, 1) := by decide +kernel
theorem dX7_mean_13 : decode cX7_mean 13 = .ok (.aload_n 0, 1) := by decide +kernel
theorem dX7_mean_14 : decode cX7_mean 14 = .ok (.getfield 38, 3) := by decide +kernel
theorem dX7_mean_17 : decode cX7_mean 17 = .ok (.iload_n 1, 1) := by decide +kernel
theorem dX7_mean_18 : decode cX7_mean 18 = .ok (.iaload, 1) := by decide +kernel
theorem dX7_mean_19 : decode cX7_mean 19 = .ok (.ifCond .ne 11, 3) := by decide +kernel
theorem dX7_mean_22 : decode cX7_mean 22 = .ok (.aload_n 0, 1) := by decide +kernel
theorem dX7_mean_23 : decode cX7_mean 23 = .ok (.iconst 4, 1) := by decide +kernel
theorem dX7_mean_24 : decode cX7_mean 24 = .ok (.invokevirtual 151, 3) := by decide +kernel
theorem dX7_mean_27 : decode cX7_mean 27 = .ok (.goto 15, 3) := by decide +kernel
theorem dX7_mean_30 : decode cX7_mean 30 = .ok (.aload_n 0, 1) := by decide +kernel
theorem dX7_mean_31 : decode cX7_mean 31 = .ok (.iload_n 1, 1) := by decide +kernel
theorem dX7_mean_32 : decode cX7_mean 32 = .ok (.invokevirtual 169, 3) := by decide +kernel
theorem dX7_mean_35 : decode cX7_mean 35 = .ok (.aload_n 0, 1) := by decide +kernel
theorem dX7_mean_36 : decode cX7_mean 36 = .ok (.getfield 38, 3) := by decide +kernel
theorem dX7_mean_39 : decode cX7_mean 39 = .ok (.iload_n 1, 1) := by decide +kernel
theorem dX7_mean_40 : decode cX7_mean 40 = .ok (.iaload, 1) := by decide +kernel
theorem dX7_mean_41 : decode cX7_mean 41 = .ok (.idiv, 1) := by decide +kernel
theorem dX7_mean_42 : decode cX7_mean 42 = .ok (.ireturn, 1) := by decide +kernel
theorem dX7_calls_0 : decode cX7_calls 0 = .ok (.aload_n 0, 1) := by decide +kernel
theorem dX7_calls_1 : decode cX7_calls 1 = .ok (.iload_n 2, 1) := by decide +kernel
theorem dX7_calls_2 : decode cX7_calls 2 = .ok (.iconst 0, 1) := by decide +kernel
theorem dX7_calls_3 : decode cX7_calls 3 = .ok (.sipush 1023, 3) := by decide +kernel
theorem dX7_calls_6 : decode cX7_calls 6 = .ok (.invokestatic 119, 3) := by decide +kernel
theorem dX7_calls_9 : decode cX7_calls 9 = .ok (.iload_n 1, 1) := by decide +kernel
theorem dX7_calls_10 : decode cX7_calls 10 = .ok (.invokevirtual 162, 3) := by decide +kernel
theorem dX7_calls_13 : decode cX7_calls 13 = .ok (.istore_n 3, 1) := by decide +kernel
theorem dX7_calls_14 : decode cX7_calls 14 = .ok (.iload_n 3, 1) := by decide +kernel
theorem dX7_calls_15 : decode cX7_calls 15 = .ok (.ifCond .ge 5, 3) := by decide +kernel
theorem dX7_calls_18 : decode cX7_calls 18 = .ok (.iload_n 3, 1) := by decide +kernel
theorem dX7_calls_19 : decode cX7_calls 19 = .ok (.ireturn, 1) := by decide +kernel
theorem dX7_calls_20 : decode cX7_calls 20 = .ok (.aload_n 0, 1) := by decide +kernel
theorem dX7_calls_21 : decode cX7_calls 21 = .ok (.getfield 44, 3) := by decide +kernel
theorem dX7_calls_24 : decode cX7_calls 24 = .ok (.iload_n 1, 1) := by decide +kernel
theorem dX7_calls_25 : decode cX7_calls 25 = .ok (.iaload, 1) := by decide +kernel
theorem dX7_calls_26 : decode cX7_calls 26 = .ok (.istore 4, 2) := by decide +kernel
theorem dX7_calls_28 : decode cX7_calls 28 = .ok (.aload_n 0, 1) := by decide +kernel
theorem dX7_calls_29 : decode cX7_calls 29 = .ok (.getfield 44, 3) := by decide +kernel
theorem dX7_calls_32 : decode cX7_calls 32 = .ok (.iload_n 1, 1) := by decide +kernel
theorem dX7_calls_33 : decode cX7_calls 33 = .ok (.iload_n 2, 1) := by decide +kernel
theorem dX7_calls_34 : decode cX7_calls 34 = .ok (.iastore, 1) := by decide +kernel
theorem dX7_calls_35 : decode cX7_calls 35 = .ok (.iload 4, 2) := by decide +kernel
theorem dX7_calls_37 : decode cX7_calls 37 = .ok (.ireturn, 1) := by decide +kernel
theorem dX7_fix_0 : decode cX7_fix 0 = .ok (.aload_n 0, 1) := by decide +kernel
theorem dX7_fix_1 : decode cX7_fix 1 = .ok (.iload_n 2, 1) := by decide +kernel
theorem dX7_fix_2 : decode cX7_fix 2 = .ok (.iconst 1, 1) := by decide +kernel
theorem dX7_fix_3 : decode cX7_fix 3 = .ok (.bipush 60, 2) := by decide +kernel
theorem dX7_fix_5 : decode cX7_fix 5 = .ok (.invokestatic 119, 3) := by decide +kernel
theorem dX7_fix_8 : decode cX7_fix 8 = .ok (.iload_n 1, 1) := by decide +kernel
theorem dX7_fix_9 : decode cX7_fix 9 = .ok (.invokevirtual 162, 3) := by decide +kernel
theorem dX7_fix_12 : decode cX7_fix 12 = .ok (.istore_n 3, 1) := by decide +kernel
theorem dX7_fix_13 : decode cX7_fix 13 = .ok (.iload_n 3, 1) := by decide +kernel
theorem dX7_fix_14 : decode cX7_fix 14 = .ok (.ifCond .ge 5, 3) := by decide +kernel
theorem dX7_fix_17 : decode cX7_fix 17 = .ok (.iload_n 3, 1) := by decide +kernel
theorem dX7_fix_18 : decode cX7_fix 18 = .ok (.ireturn, 1) := by decide +kernel
theorem dX7_fix_19 : decode cX7_fix 19 = .ok (.aload_n 0, 1) := by decide +kernel
theorem dX7_fix_20 : decode cX7_fix 20 = .ok (.getfield 19, 3) := by decide +kernel
theorem dX7_fix_23 : decode cX7_fix 23 = .ok (.iload_n 1, 1) := by decide +kernel
theorem dX7_fix_24 : decode cX7_fix 24 = .ok (.iaload, 1) := by decide +kernel
theorem dX7_fix_25 : decode cX7_fix 25 = .ok (.iconst 2, 1) := by decide +kernel
theorem dX7_fix_26 : decode cX7_fix 26 = .ok (.if_icmp .eq 9, 3) := by decide +kernel
theorem dX7_fix_29 : decode cX7_fix 29 = .ok (.aload_n 0, 1) := by decide +kernel
theorem dX7_fix_30 : decode cX7_fix 30 = .ok (.iconst 3, 1) := by decide +kernel
theorem dX7_fix_31 : decode cX7_fix 31 = .ok (.invokevirtual 151, 3) := by decide +kernel
theorem dX7_fix_34 : decode cX7_fix 34 = .ok (.ireturn, 1) := by decide +kernel
theorem dX7_fix_35 : decode cX7_fix 35 = .ok (.aload_n 0, 1) := by decide +kernel
theorem dX7_fix_36 : decode cX7_fix 36 = .ok (.getfield 47, 3) := by decide +kernel
theorem dX7_fix_39 : decode cX7_fix 39 = .ok (.iload_n 1, 1) := by decide +kernel
theorem dX7_fix_40 : decode cX7_fix 40 = .ok (.iaload, 1) := by decide +kernel
theorem dX7_fix_41 : decode cX7_fix 41 = .ok (.istore 4, 2) := by decide +kernel
theorem dX7_fix_43 : decode cX7_fix 43 = .ok (.aload_n 0, 1) := by decide +kernel
theorem dX7_fix_44 : decode cX7_fix 44 = .ok (.getfield 47, 3) := by decide +kernel
theorem dX7_fix_47 : decode cX7_fix 47 = .ok (.iload_n 1, 1) := by decide +kernel
theorem dX7_fix_48 : decode cX7_fix 48 = .ok (.iload_n 2, 1) := by decide +kernel
theorem dX7_fix_49 : decode cX7_fix 49 = .ok (.iastore, 1) := by decide +kernel
theorem dX7_fix_50 : decode cX7_fix 50 = .ok (.iload 4, 2) := by decide +kernel
theorem dX7_fix_52 : decode cX7_fix 52 = .ok (.ireturn, 1) := by decide +kernel
theorem dX7_linesOf_0 : decode cX7_linesOf 0 = .ok (.iload_n 2, 1) := by decide +kernel
theorem dX7_linesOf_1 : decode cX7_linesOf 1 = .ok (.iconst 1, 1) := by decide +kernel
theorem dX7_linesOf_2 : decode cX7_linesOf 2 = .ok (.if_icmp .ge 7, 3) := by decide +kernel
theorem dX7_linesOf_5 : decode cX7_linesOf 5 = .ok (.iconst 1, 1) := by decide +kernel
theorem dX7_linesOf_6 : decode cX7_linesOf 6 = .ok (.goto 4, 3) := by decide +kernel
theorem dX7_linesOf_9 : decode cX7_linesOf 9 = .ok (.iload_n 2, 1) := by decide +kernel
theorem dX7_linesOf_10 : decode cX7_linesOf 10 = .ok (.istore_n 3, 1) := by decide +kernel
theorem dX7_linesOf_11 : decode cX7_linesOf 11 = .ok (.iconst 0, 1) := by decide +kernel
theorem dX7_linesOf_12 : decode cX7_linesOf 12 = .ok (.istore 4, 2) := by decide +kernel
theorem dX7_linesOf_14 : decode cX7_linesOf 14 = .ok (.iconst 0, 1) := by decide +kernel
theorem dX7_linesOf_15 : decode cX7_linesOf 15 = .ok (.istore 5, 2) := by decide +kernel
theorem dX7_linesOf_17 : decode cX7_linesOf 17 = .ok (.iconst 0, 1) := by decide +kernel
theorem dX7_linesOf_18 : decode cX7_linesOf 18 = .ok (.istore 6, 2) := by decide +kernel
theorem dX7_linesOf_20 : decode cX7_linesOf 20 = .ok (.iload 6, 2) := by decide +kernel
theorem dX7_linesOf_22 : decode cX7_linesOf 22 = .ok (.aload_n 0, 1) := by decide +kernel
theorem dX7_linesOf_23 : decode cX7_linesOf 23 = .ok (.getfield 38, 3) := by decide +kernel
theorem dX7_linesOf_26 : decode cX7_linesOf 26 = .ok (.iload_n 1, 1) := by decide +kernel
theorem dX7_linesOf_27 : decode cX7_linesOf 27 = .ok (.iaload, 1) := by decide +kernel
theorem dX7_linesOf_28 : decode cX7_linesOf 28 = .ok (.if_icmp .ge 93, 3) := by decide +kernel
theorem dX7_linesOf_31 : decode cX7_linesOf 31 = .ok (.aload_n 0, 1) := by decide +kernel
theorem dX7_linesOf_32 : decode cX7_linesOf 32 = .ok (.getfield 41, 3) := by decide +kernel
theorem dX7_linesOf_35 : decode cX7_linesOf 35 = .ok (.bipush 12, 2) := by decide +kernel
theorem dX7_linesOf_37 : decode cX7_linesOf 37 = .ok (.iload_n 1, 1) := by decide +kernel
theorem dX7_linesOf_38 : decode cX7_linesOf 38 = .ok (.imul, 1) := by decide +kernel
theorem dX7_linesOf_39 : decode cX7_linesOf 39 = .ok (.iload 6, 2) := by decide +kernel
theorem dX7_linesOf_41 : decode cX7_linesOf 41 = .ok (.iadd, 1) := by decide +kernel
theorem dX7_linesOf_42 : decode cX7_linesOf 42 = .ok (.iaload, 1) := by decide +kernel
theorem dX7_linesOf_43 : decode cX7_linesOf 43 = .ok (.istore 7, 2) := by decide +kernel
theorem dX7_linesOf_45 : decode cX7_linesOf 45 = .ok (.iload 7, 2) := by decide +kernel
theorem dX7_linesOf_47 : decode cX7_linesOf 47 = .ok (.iload_n 3, 1) := by decide +kernel
theorem dX7_linesOf_48 : decode cX7_linesOf 48 = .ok (.if_icmp .le 32, 3) := by decide +kernel
theorem dX7_linesOf_51 : decode cX7_linesOf 51 = .ok (.iload 7, 2) := by decide +kernel
theorem dX7_linesOf_53 : decode cX7_linesOf 53 = .ok (.iconst 1, 1) := by decide +kernel
theorem dX7_linesOf_54 : decode cX7_linesOf 54 = .ok (.isub, 1) := by decide +kernel
theorem dX7_linesOf_55 : decode cX7_linesOf 55 = .ok (.iload_n 3, 1) := by decide +kernel
theorem dX7_linesOf_56 : decode cX7_linesOf 56 = .ok (.idiv, 1) := by decide +kernel
theorem dX7_linesOf_57 : decode cX7_linesOf 57 = .ok (.istore 8, 2) := by decide +kernel
theorem dX7_linesOf_59 : decode cX7_linesOf 59 = .ok (.iload 4, 2) := by decide +kernel
theorem dX7_linesOf_61 : decode cX7_linesOf 61 = .ok (.iload 8, 2) := by decide +kernel
theorem dX7_linesOf_63 : decode cX7_linesOf 63 = .ok (.iconst 1, 1) := by decide +kernel
theorem dX7_linesOf_64 : decode cX7_linesOf 64 = .ok (.iadd, 1) := by decide +kernel
theorem dX7_linesOf_65 : decode cX7_linesOf 65 = .ok (.iadd, 1) := by decide +kernel
theorem dX7_linesOf_66 : decode cX7_linesOf 66 = .ok (.istore 4, 2) := by decide +kernel
theorem dX7_linesOf_68 : decode cX7_linesOf 68 = .ok (.iload 7, 2) := by decide +kernel
theorem dX7_linesOf_70 : decode cX7_linesOf 70 = .ok (.iload 8, 2) := by decide +kernel
theorem dX7_linesOf_72 : decode cX7_linesOf 72 = .ok (.iload_n 3, 1) := by decide +kernel
theorem dX7_linesOf_73 : decode cX7_linesOf 73 = .ok (.imul, 1) := by decide +kernel
theorem dX7_linesOf_74 : decode cX7_linesOf 74 = .ok (.isub, 1) := by decide +kernel
theorem dX7_linesOf_75 : decode cX7_linesOf 75 = .ok (.istore 5, 2) := by decide +kernel
theorem dX7_linesOf_77 : decode cX7_linesOf 77 = .ok (.goto 38, 3) := by decide +kernel
theorem dX7_linesOf_80 : decode cX7_linesOf 80 = .ok (.iload 6, 2) := by decide +kernel
theorem dX7_linesOf_82 : decode cX7_linesOf 82 = .ok (.ifCond .le 26, 3) := by decide +kernel
theorem dX7_linesOf_85 : decode cX7_linesOf 85 = .ok (.iload 5, 2) := by decide +kernel
theorem dX7_linesOf_87 : decode cX7_linesOf 87 = .ok (.iconst 1, 1) := by decide +kernel
theorem dX7_linesOf_88 : decode cX7_linesOf 88 = .ok (.iadd, 1) := by decide +kernel
theorem dX7_linesOf_89 : decode cX7_linesOf 89 = .ok (.iload 7, 2) := by decide +kernel
theorem dX7_linesOf_91 : decode cX7_linesOf 91 = .ok (.iadd, 1) := by decide +kernel
theorem dX7_linesOf_92 : decode cX7_linesOf 92 = .ok (.iload_n 3, 1) := by decide +kernel
theorem dX7_linesOf_93 : decode cX7_linesOf 93 = .ok (.if_icmp .gt 15, 3) := by decide +kernel
theorem dX7_linesOf_96 : decode cX7_linesOf 96 = .ok (.iload 5, 2) := by decide +kernel
theorem dX7_linesOf_98 : decode cX7_linesOf 98 = .ok (.iconst 1, 1) := by decide +kernel
theorem dX7_linesOf_99 : decode cX7_linesOf 99 = .ok (.iload 7, 2) := by decide +kernel
theorem dX7_linesOf_101 : decode cX7_linesOf 101 = .ok (.iadd, 1) := by decide +kernel
theorem dX7_linesOf_102 : decode cX7_linesOf 102 = .ok (.iadd, 1) := by decide +kernel
theorem dX7_linesOf_103 : decode cX7_linesOf 103 = .ok (.istore 5, 2) := by decide +kernel
theorem dX7_linesOf_105 : decode cX7_linesOf 105 = .ok (.goto 10, 3) := by decide +kernel
theorem dX7_linesOf_108 : decode cX7_linesOf 108 = .ok (.iinc 4 1, 3) := by decide +kernel
theorem dX7_linesOf_111 : decode cX7_linesOf 111 = .ok (.iload 7, 2) := by decide +kernel
theorem dX7_linesOf_113 : decode cX7_linesOf 113 = .ok (.istore 5, 2) := by decide +kernel
theorem dX7_linesOf_115 : decode cX7_linesOf 115 = .ok (.iinc 6 1, 3) := by decide +kernel
theorem dX7_linesOf_118 : decode cX7_linesOf 118 = .ok (.goto (-98), 3) := by decide +kernel
theorem dX7_linesOf_121 : decode cX7_linesOf 121 = .ok (.iload 4, 2) := by decide +kernel
theorem dX7_linesOf_123 : decode cX7_linesOf 123 = .ok (.ireturn, 1) := by decide +kernel
theorem dX7_lines_0 : decode cX7_lines 0 = .ok (.aload_n 0, 1) := by decide +kernel
theorem dX7_lines_1 : decode cX7_lines 1 = .ok (.iload_n 2, 1) := by decide +kernel
theorem dX7_lines_2 : decode cX7_lines 2 = .ok (.iconst 1, 1) := by decide +kernel
theorem dX7_lines_3 : decode cX7_lines 3 = .ok (.sipush 400, 3) := by decide +kernel
theorem dX7_lines_6 : decode cX7_lines 6 = .ok (.invokestatic 119, 3) := by decide +kernel
theorem dX7_lines_9 : decode cX7_lines 9 = .ok (.iload_n 1, 1) := by decide +kernel
theorem dX7_lines_10 : decode cX7_lines 10 = .ok (.invokevirtual 162, 3) := by decide +kernel
theorem dX7_lines_13 : decode cX7_lines 13 = .ok (.istore_n 3, 1) := by decide +kernel
theorem dX7_lines_14 : decode cX7_lines 14 = .ok (.iload_n 3, 1) := by decide +kernel
theorem dX7_lines_15 : decode cX7_lines 15 = .ok (.ifCond .ge 7, 3) := by decide +kernel
theorem dX7_lines_18 : decode cX7_lines 18 = .ok (.iload_n 3, 1) := by decide +kernel
theorem dX7_lines_19 : decode cX7_lines 19 = .ok (.goto 9, 3) := by decide +kernel
theorem dX7_lines_22 : decode cX7_lines 22 = .ok (.aload_n 0, 1) := by decide +kernel
theorem dX7_lines_23 : decode cX7_lines 23 = .ok (.iload_n 1, 1) := by decide +kernel
theorem dX7_lines_24 : decode cX7_lines 24 = .ok (.iload_n 2, 1) := by decide +kernel
theorem dX7_lines_25 : decode cX7_lines 25 = .ok (.invokevirtual 172, 3) := by decide +kernel
theorem dX7_lines_28 : decode cX7_lines 28 = .ok (.ireturn, 1) := by decide +kernel
theorem dX7_wantOf_0 : decode cX7_wantOf 0 = .ok (.aload_n 0, 1) := by decide +kernel
theorem dX7_wantOf_1 : decode cX7_wantOf 1 = .ok (.getfield 19, 3) := by decide +kernel
theorem dX7_wantOf_4 : decode cX7_wantOf 4 = .ok (.iload_n 1, 1) := by decide +kernel
theorem dX7_wantOf_5 : decode cX7_wantOf 5 = .ok (.iaload, 1) := by decide +kernel
theorem dX7_wantOf_6 : decode cX7_wantOf 6 = .ok (.iconst 2, 1) := by decide +kernel
theorem dX7_wantOf_7 : decode cX7_wantOf 7 = .ok (.if_icmp .ne 10, 3) := by decide +kernel
theorem dX7_wantOf_10 : decode cX7_wantOf 10 = .ok (.aload_n 0, 1) := by decide +kernel
theorem dX7_wantOf_11 : decode cX7_wantOf 11 = .ok (.getfield 47, 3) := by decide +kernel
theorem dX7_wantOf_14 : decode cX7_wantOf 14 = .ok (.iload_n 1, 1) := by decide +kernel
theorem dX7_wantOf_15 : decode cX7_wantOf 15 = .ok (.iaload, 1) := by decide +kernel
theorem dX7_wantOf_16 : decode cX7_wantOf 16 = .ok (.ireturn, 1) := by decide +kernel
theorem dX7_wantOf_17 : decode cX7_wantOf 17 = .ok (.aload_n 0, 1) := by decide +kernel
theorem dX7_wantOf_18 : decode cX7_wantOf 18 = .ok (.getfield 38, 3) := by decide +kernel
theorem dX7_wantOf_21 : decode cX7_wantOf 21 = .ok (.iload_n 1, 1) := by decide +kernel
theorem dX7_wantOf_22 : decode cX7_wantOf 22 = .ok (.iaload, 1) := by decide +kernel
theorem dX7_wantOf_23 : decode cX7_wantOf 23 = .ok (.ifCond .ne 5, 3) := by decide +kernel
theorem dX7_wantOf_26 : decode cX7_wantOf 26 = .ok (.iconst 0, 1) := by decide +kernel
theorem dX7_wantOf_27 : decode cX7_wantOf 27 = .ok (.ireturn, 1) := by decide +kernel
theorem dX7_wantOf_28 : decode cX7_wantOf 28 = .ok (.iload_n 2, 1) := by decide +kernel
theorem dX7_wantOf_29 : decode cX7_wantOf 29 = .ok (.iconst 1, 1) := by decide +kernel
theorem dX7_wantOf_30 : decode cX7_wantOf 30 = .ok (.if_icmp .ne 18, 3) := by decide +kernel
theorem dX7_wantOf_33 : decode cX7_wantOf 33 = .ok (.aload_n 0, 1) := by decide +kernel
theorem dX7_wantOf_34 : decode cX7_wantOf 34 = .ok (.iload_n 1, 1) := by decide +kernel
theorem dX7_wantOf_35 : decode cX7_wantOf 35 = .ok (.invokevirtual 169, 3) := by decide +kernel
theorem dX7_wantOf_38 : decode cX7_wantOf 38 = .ok (.aload_n 0, 1) := by decide +kernel
theorem dX7_wantOf_39 : decode cX7_wantOf 39 = .ok (.getfield 38, 3) := by decide +kernel
theorem dX7_wantOf_42 : decode cX7_wantOf 42 = .ok (.iload_n 1, 1) := by decide +kernel
theorem dX7_wantOf_43 : decode cX7_wantOf 43 = .ok (.iaload, 1) := by decide +kernel
theorem dX7_wantOf_44 : decode cX7_wantOf 44 = .ok (.iadd, 1) := by decide +kernel
theorem dX7_wantOf_45 : decode cX7_wantOf 45 = .ok (.iconst 1, 1) := by decide +kernel
theorem dX7_wantOf_46 : decode cX7_wantOf 46 = .ok (.isub, 1) := by decide +kernel
theorem dX7_wantOf_47 : decode cX7_wantOf 47 = .ok (.ireturn, 1) := by decide +kernel
theorem dX7_wantOf_48 : decode cX7_wantOf 48 = .ok (.iconst 0, 1) := by decide +kernel
theorem dX7_wantOf_49 : decode cX7_wantOf 49 = .ok (.istore_n 3, 1) := by decide +kernel
theorem dX7_wantOf_50 : decode cX7_wantOf 50 = .ok (.iconst 0, 1) := by decide +kernel
theorem dX7_wantOf_51 : decode cX7_wantOf 51 = .ok (.istore 4, 2) := by decide +kernel
theorem dX7_wantOf_53 : decode cX7_wantOf 53 = .ok (.iload 4, 2) := by decide +kernel
theorem dX7_wantOf_55 : decode cX7_wantOf 55 = .ok (.aload_n 0, 1) := by decide +kernel
theorem dX7_wantOf_56 : decode cX7_wantOf 56 = .ok (.getfield 38, 3) := by decide +kernel
theorem dX7_wantOf_59 : decode cX7_wantOf 59 = .ok (.iload_n 1, 1) := by decide +kernel
theorem dX7_wantOf_60 : decode cX7_wantOf 60 = .ok (.iaload, 1) := by decide +kernel
theorem dX7_wantOf_61 : decode cX7_wantOf 61 = .ok (.if_icmp .ge 42, 3) := by decide +kernel
theorem dX7_wantOf_64 : decode cX7_wantOf 64 = .ok (.aload_n 0, 1) := by decide +kernel
theorem dX7_wantOf_65 : decode cX7_wantOf 65 = .ok (.getfield 41, 3) := by decide +kernel
theorem dX7_wantOf_68 : decode cX7_wantOf 68 = .ok (.bipush 12, 2) := by decide +kernel
theorem dX7_wantOf_70 : decode cX7_wantOf 70 = .ok (.iload_n 1, 1) := by decide +kernel
theorem dX7_wantOf_71 : decode cX7_wantOf 71 = .ok (.imul, 1) := by decide +kernel
theorem dX7_wantOf_72 : decode cX7_wantOf 72 = .ok (.iload 4, 2) := by decide +kernel
theorem dX7_wantOf_74 : decode cX7_wantOf 74 = .ok (.iadd, 1) := by decide +kernel
theorem dX7_wantOf_75 : decode cX7_wantOf 75 = .ok (.iaload, 1) := by decide +kernel
theorem dX7_wantOf_76 : decode cX7_wantOf 76 = .ok (.iload_n 3, 1) := by decide +kernel
theorem dX7_wantOf_77 : decode cX7_wantOf 77 = .ok (.if_icmp .le 18, 3) := by decide +kernel
theorem dX7_wantOf_80 : decode cX7_wantOf 80 = .ok (.aload_n 0, 1) := by decide +kernel
theorem dX7_wantOf_81 : decode cX7_wantOf 81 = .ok (.getfield 41, 3) := by decide +kernel
theorem dX7_wantOf_84 : decode cX7_wantOf 84 = .ok (.bipush 12, 2) := by decide +kernel
theorem dX7_wantOf_86 : decode cX7_wantOf 86 = .ok (.iload_n 1, 1) := by decide +kernel
theorem dX7_wantOf_87 : decode cX7_wantOf 87 = .ok (.imul, 1) := by decide +kernel
theorem dX7_wantOf_88 : decode cX7_wantOf 88 = .ok (.iload 4, 2) := by decide +kernel
theorem dX7_wantOf_90 : decode cX7_wantOf 90 = .ok (.iadd, 1) := by decide +kernel
theorem dX7_wantOf_91 : decode cX7_wantOf 91 = .ok (.iaload, 1) := by decide +kernel
theorem dX7_wantOf_92 : decode cX7_wantOf 92 = .ok (.goto 4, 3) := by decide +kernel
theorem dX7_wantOf_95 : decode cX7_wantOf 95 = .ok (.iload_n 3, 1) := by decide +kernel
theorem dX7_wantOf_96 : decode cX7_wantOf 96 = .ok (.istore_n 3, 1) := by decide +kernel
theorem dX7_wantOf_97 : decode cX7_wantOf 97 = .ok (.iinc 4 1, 3) := by decide +kernel
theorem dX7_wantOf_100 : decode cX7_wantOf 100 = .ok (.goto (-47), 3) := by decide +kernel
theorem dX7_wantOf_103 : decode cX7_wantOf 103 = .ok (.iload_n 3, 1) := by decide +kernel
theorem dX7_wantOf_104 : decode cX7_wantOf 104 = .ok (.ireturn, 1) := by decide +kernel
theorem dX7_want_0 : decode cX7_want 0 = .ok (.aload_n 0, 1) := by decide +kernel
theorem dX7_want_1 : decode cX7_want 1 = .ok (.iload_n 2, 1) := by decide +kernel
theorem dX7_want_2 : decode cX7_want 2 = .ok (.iconst 0, 1) := by decide +kernel
theorem dX7_want_3 : decode cX7_want 3 = .ok (.iconst 1, 1) := by decide +kernel
theorem dX7_want_4 : decode cX7_want 4 = .ok (.invokestatic 119, 3) := by decide +kernel
theorem dX7_want_7 : decode cX7_want 7 = .ok (.iload_n 1, 1) := by decide +kernel
theorem dX7_want_8 : decode cX7_want 8 = .ok (.invokevirtual 162, 3) := by decide +kernel
theorem dX7_want_11 : decode cX7_want 11 = .ok (.istore_n 3, 1) := by decide +kernel
theorem dX7_want_12 : decode cX7_want 12 = .ok (.iload_n 3, 1) := by decide +kernel
theorem dX7_want_13 : decode cX7_want 13 = .ok (.ifCond .ge 7, 3) := by decide +kernel
theorem dX7_want_16 : decode cX7_want 16 = .ok (.iload_n 3, 1) := by decide +kernel
theorem dX7_want_17 : decode cX7_want 17 = .ok (.goto 9, 3) := by decide +kernel
theorem dX7_want_20 : decode cX7_want 20 = .ok (.aload_n 0, 1) := by decide +kernel
theorem dX7_want_21 : decode cX7_want 21 = .ok (.iload_n 1, 1) := by decide +kernel
theorem dX7_want_22 : decode cX7_want 22 = .ok (.iload_n 2, 1) := by decide +kernel
theorem dX7_want_23 : decode cX7_want 23 = .ok (.invokevirtual 175, 3) := by decide +kernel
theorem dX7_want_26 : decode cX7_want 26 = .ok (.ireturn, 1) := by decide +kernel
theorem dX7_share_0 : decode cX7_share 0 = .ok (.iconst 0, 1) := by decide +kernel
theorem dX7_share_1 : decode cX7_share 1 = .ok (.istore 4, 2) := by decide +kernel
theorem dX7_share_3 : decode cX7_share 3 = .ok (.iload_n 2, 1) := by decide +kernel
theorem dX7_share_4 : decode cX7_share 4 = .ok (.istore 5, 2) := by decide +kernel
theorem dX7_share_6 : decode cX7_share 6 = .ok (.iload 5, 2) := by decide +kernel
theorem dX7_share_8 : decode cX7_share 8 = .ok (.iload_n 3, 1) := by decide +kernel
theorem dX7_share_9 : decode cX7_share 9 = .ok (.if_icmp .ge 21, 3) := by decide +kernel
theorem dX7_share_12 : decode cX7_share 12 = .ok (.iload 4, 2) := by decide +kernel
theorem dX7_share_14 : decode cX7_share 14 = .ok (.aload_n 0, 1) := by decide +kernel
theorem dX7_share_15 : decode cX7_share 15 = .ok (.getfield 53, 3) := by decide +kernel
theorem dX7_share_18 : decode cX7_share 18 = .ok (.iload 5, 2) := by decide +kernel
theorem dX7_share_20 : decode cX7_share 20 = .ok (.iaload, 1) := by decide +kernel
theorem dX7_share_21 : decode cX7_share 21 = .ok (.iadd, 1) := by decide +kernel
theorem dX7_share_22 : decode cX7_share 22 = .ok (.istore 4, 2) := by decide +kernel
theorem dX7_share_24 : decode cX7_share 24 = .ok (.iinc 5 1, 3) := by decide +kernel
theorem dX7_share_27 : decode cX7_share 27 = .ok (.goto (-21), 3) := by decide +kernel
theorem dX7_share_30 : decode cX7_share 30 = .ok (.iload_n 1, 1) := by decide +kernel
theorem dX7_share_31 : decode cX7_share 31 = .ok (.istore 5, 2) := by decide +kernel
theorem dX7_share_33 : decode cX7_share 33 = .ok (.iload_n 2, 1) := by decide +kernel
theorem dX7_share_34 : decode cX7_share 34 = .ok (.istore 6, 2) := by decide +kernel
theorem dX7_share_36 : decode cX7_share 36 = .ok (.iload 6, 2) := by decide +kernel
theorem dX7_share_38 : decode cX7_share 38 = .ok (.iload_n 3, 1) := by decide +kernel
theorem dX7_share_39 : decode cX7_share 39 = .ok (.if_icmp .ge 59, 3) := by decide +kernel
theorem dX7_share_42 : decode cX7_share 42 = .ok (.aload_n 0, 1) := by decide +kernel
theorem dX7_share_43 : decode cX7_share 43 = .ok (.getfield 56, 3) := by decide +kernel
theorem dX7_share_46 : decode cX7_share 46 = .ok (.iload 6, 2) := by decide +kernel
theorem dX7_share_48 : decode cX7_share 48 = .ok (.iload_n 1, 1) := by decide +kernel
theorem dX7_share_49 : decode cX7_share 49 = .ok (.aload_n 0, 1) := by decide +kernel
theorem dX7_share_50 : decode cX7_share 50 = .ok (.getfield 53, 3) := by decide +kernel
theorem dX7_share_53 : decode cX7_share 53 = .ok (.iload 6, 2) := by decide +kernel
theorem dX7_share_55 : decode cX7_share 55 = .ok (.iaload, 1) := by decide +kernel
theorem dX7_share_56 : decode cX7_share 56 = .ok (.imul, 1) := by decide +kernel
theorem dX7_share_57 : decode cX7_share 57 = .ok (.iload 4, 2) := by decide +kernel
theorem dX7_share_59 : decode cX7_share 59 = .ok (.idiv, 1) := by decide +kernel
theorem dX7_share_60 : decode cX7_share 60 = .ok (.iastore, 1) := by decide +kernel
theorem dX7_share_61 : decode cX7_share 61 = .ok (.aload_n 0, 1) := by decide +kernel
theorem dX7_share_62 : decode cX7_share 62 = .ok (.getfield 59, 3) := by decide +kernel
theorem dX7_share_65 : decode cX7_share 65 = .ok (.iload 6, 2) := by decide +kernel
theorem dX7_share_67 : decode cX7_share 67 = .ok (.iload_n 1, 1) := by decide +kernel
theorem dX7_share_68 : decode cX7_share 68 = .ok (.aload_n 0, 1) := by decide +kernel
theorem dX7_share_69 : decode cX7_share 69 = .ok (.getfield 53, 3) := by decide +kernel
theorem dX7_share_72 : decode cX7_share 72 = .ok (.iload 6, 2) := by decide +kernel
theorem dX7_share_74 : decode cX7_share 74 = .ok (.iaload, 1) := by decide +kernel
theorem dX7_share_75 : decode cX7_share 75 = .ok (.imul, 1) := by decide +kernel
theorem dX7_share_76 : decode cX7_share 76 = .ok (.iload 4, 2) := by decide +kernel
theorem dX7_share_78 : decode cX7_share 78 = .ok (.irem, 1) := by decide +kernel
theorem dX7_share_79 : decode cX7_share 79 = .ok (.iastore, 1) := by decide +kernel
theorem dX7_share_80 : decode cX7_share 80 = .ok (.iload 5, 2) := by decide +kernel
theorem dX7_share_82 : decode cX7_share 82 = .ok (.aload_n 0, 1) := by decide +kernel
theorem dX7_share_83 : decode cX7_share 83 = .ok (.getfield 56, 3) := by decide +kernel
theorem dX7_share_86 : decode cX7_share 86 = .ok (.iload 6, 2) := by decide +kernel
theorem dX7_share_88 : decode cX7_share 88 = .ok (.iaload, 1) := by decide +kernel
theorem dX7_share_89 : decode cX7_share 89 = .ok (.isub, 1) := by decide +kernel
theorem dX7_share_90 : decode cX7_share 90 = .ok (.istore 5, 2) := by decide +kernel
theorem dX7_share_92 : decode cX7_share 92 = .ok (.iinc 6 1, 3) := by decide +kernel
theorem dX7_share_95 : decode cX7_share 95 = .ok (.goto (-59), 3) := by decide +kernel
theorem dX7_share_98 : decode cX7_share 98 = .ok (.iload 5, 2) := by decide +kernel
theorem dX7_share_100 : decode cX7_share 100 = .ok (.ifCond .le 72, 3) := by decide +kernel
theorem dX7_share_103 : decode cX7_share 103 = .ok (.iload_n 2, 1) := by decide +kernel
theorem dX7_share_104 : decode cX7_share 104 = .ok (.istore 6, 2) := by decide +kernel
theorem dX7_share_106 : decode cX7_share 106 = .ok (.iload_n 2, 1) := by decide +kernel
theorem dX7_share_107 : decode cX7_share 107 = .ok (.istore 7, 2) := by decide +kernel
theorem dX7_share_109 : decode cX7_share 109 = .ok (.iload 7, 2) := by decide +kernel
theorem dX7_share_111 : decode cX7_share 111 = .ok (.iload_n 3, 1) := by decide +kernel
theorem dX7_share_112 : decode cX7_share 112 = .ok (.if_icmp .ge 35, 3) := by decide +kernel
theorem dX7_share_115 : decode cX7_share 115 = .ok (.aload_n 0, 1) := by decide +kernel
theorem dX7_share_116 : decode cX7_share 116 = .ok (.getfield 59, 3) := by decide +kernel
theorem dX7_share_119 : decode cX7_share 119 = .ok (.iload 7, 2) := by decide +kernel
theorem dX7_share_121 : decode cX7_share 121 = .ok (.iaload, 1) := by decide +kernel
theorem dX7_share_122 : decode cX7_share 122 = .ok (.aload_n 0, 1) := by decide +kernel
theorem dX7_share_123 : decode cX7_share 123 = .ok (.getfield 59, 3) := by decide +kernel
theorem dX7_share_126 : decode cX7_share 126 = .ok (.iload 6, 2) := by decide +kernel
theorem dX7_share_128 : decode cX7_share 128 = .ok (.iaload, 1) := by decide +kernel
theorem dX7_share_129 : decode cX7_share 129 = .ok (.if_icmp .le 8, 3) := by decide +kernel
theorem dX7_share_132 : decode cX7_share 132 = .ok (.iload 7, 2) := by decide +kernel
theorem dX7_share_134 : decode cX7_share 134 = .ok (.goto 5, 3) := by decide +kernel
theorem dX7_share_137 : decode cX7_share 137 = .ok (.iload 6, 2) := by decide +kernel
theorem dX7_share_139 : decode cX7_share 139 = .ok (.istore 6, 2) := by decide +kernel
theorem dX7_share_141 : decode cX7_share 141 = .ok (.iinc 7 1, 3) := by decide +kernel
theorem dX7_share_144 : decode cX7_share 144 = .ok (.goto (-35), 3) := by decide +kernel
theorem dX7_share_147 : decode cX7_share 147 = .ok (.aload_n 0, 1) := by decide +kernel
theorem dX7_share_148 : decode cX7_share 148 = .ok (.getfield 56, 3) := by decide +kernel
theorem dX7_share_151 : decode cX7_share 151 = .ok (.iload 6, 2) := by decide +kernel
theorem dX7_share_153 : decode cX7_share 153 = .ok (.dup2, 1) := by decide +kernel
theorem dX7_share_154 : decode cX7_share 154 = .ok (.iaload, 1) := by decide +kernel
theorem dX7_share_155 : decode cX7_share 155 = .ok (.iconst 1, 1) := by decide +kernel
theorem dX7_share_156 : decode cX7_share 156 = .ok (.iadd, 1) := by decide +kernel
theorem dX7_share_157 : decode cX7_share 157 = .ok (.iastore, 1) := by decide +kernel
theorem dX7_share_158 : decode cX7_share 158 = .ok (.aload_n 0, 1) := by decide +kernel
theorem dX7_share_159 : decode cX7_share 159 = .ok (.getfield 59, 3) := by decide +kernel
theorem dX7_share_162 : decode cX7_share 162 = .ok (.iload 6, 2) := by decide +kernel
theorem dX7_share_164 : decode cX7_share 164 = .ok (.iconst (-1), 1) := by decide +kernel
theorem dX7_share_165 : decode cX7_share 165 = .ok (.iastore, 1) := by decide +kernel
theorem dX7_share_166 : decode cX7_share 166 = .ok (.iinc 5 (-1), 3) := by decide +kernel
theorem dX7_share_169 : decode cX7_share 169 = .ok (.goto (-71), 3) := by decide +kernel
theorem dX7_share_172 : decode cX7_share 172 = .ok (.return_, 1) := by decide +kernel
theorem dX7_widthOver_0 : decode cX7_widthOver 0 = .ok (.iload_n 3, 1) := by decide +kernel
theorem dX7_widthOver_1 : decode cX7_widthOver 1 = .ok (.iconst 1, 1) := by decide +kernel
theorem dX7_widthOver_2 : decode cX7_widthOver 2 = .ok (.isub, 1) := by decide +kernel
theorem dX7_widthOver_3 : decode cX7_widthOver 3 = .ok (.aload_n 0, 1) := by decide +kernel
theorem dX7_widthOver_4 : decode cX7_widthOver 4 = .ok (.getfield 129, 3) := by decide +kernel
theorem dX7_widthOver_7 : decode cX7_widthOver 7 = .ok (.imul, 1) := by decide +kernel
theorem dX7_widthOver_8 : decode cX7_widthOver 8 = .ok (.istore 4, 2) := by decide +kernel
theorem dX7_widthOver_10 : decode cX7_widthOver 10 = .ok (.iload_n 2, 1) := by decide +kernel
theorem dX7_widthOver_11 : decode cX7_widthOver 11 = .ok (.istore 5, 2) := by decide +kernel
theorem dX7_widthOver_13 : decode cX7_widthOver 13 = .ok (.iload 5, 2) := by decide +kernel
theorem dX7_widthOver_15 : decode cX7_widthOver 15 = .ok (.iload_n 2, 1) := by decide +kernel
theorem dX7_widthOver_16 : decode cX7_widthOver 16 = .ok (.iload_n 3, 1) := by decide +kernel
theorem dX7_widthOver_17 : decode cX7_widthOver 17 = .ok (.iadd, 1) := by decide +kernel
theorem dX7_widthOver_18 : decode cX7_widthOver 18 = .ok (.if_icmp .ge 18, 3) := by decide +kernel
theorem dX7_widthOver_21 : decode cX7_widthOver 21 = .ok (.iload 4, 2) := by decide +kernel
theorem dX7_widthOver_23 : decode cX7_widthOver 23 = .ok (.aload_n 1, 1) := by decide +kernel
theorem dX7_widthOver_24 : decode cX7_widthOver 24 = .ok (.iload 5, 2) := by decide +kernel
theorem dX7_widthOver_26 : decode cX7_widthOver 26 = .ok (.iaload, 1) := by decide +kernel
theorem dX7_widthOver_27 : decode cX7_widthOver 27 = .ok (.iadd, 1) := by decide +kernel
theorem dX7_widthOver_28 : decode cX7_widthOver 28 = .ok (.istore 4, 2) := by decide +kernel
theorem dX7_widthOver_30 : decode cX7_widthOver 30 = .ok (.iinc 5 1, 3) := by decide +kernel
theorem dX7_widthOver_33 : decode cX7_widthOver 33 = .ok (.goto (-20), 3) := by decide +kernel
theorem dX7_widthOver_36 : decode cX7_widthOver 36 = .ok (.iload 4, 2) := by decide +kernel
theorem dX7_widthOver_38 : decode cX7_widthOver 38 = .ok (.ireturn, 1) := by decide +kernel
theorem dX7_layWidths_0 : decode cX7_layWidths 0 = .ok (.iconst 0, 1) := by decide +kernel
theorem dX7_layWidths_1 : decode cX7_layWidths 1 = .ok (.istore_n 3, 1) := by decide +kernel
theorem dX7_layWidths_2 : decode cX7_layWidths 2 = .ok (.iload_n 3, 1) := by decide +kernel
theorem dX7_layWidths_3 : decode cX7_layWidths 3 = .ok (.aload_n 0, 1) := by decide +kernel
theorem dX7_layWidths_4 : decode cX7_layWidths 4 = .ok (.getfield 126, 3) := by decide +kernel
theorem dX7_layWidths_7 : decode cX7_layWidths 7 = .ok (.if_icmp .ge 13, 3) := by decide +kernel
theorem dX7_layWidths_10 : decode cX7_layWidths 10 = .ok (.aload_n 2, 1) := by decide +kernel
theorem dX7_layWidths_11 : decode cX7_layWidths 11 = .ok (.iload_n 3, 1) := by decide +kernel
theorem dX7_layWidths_12 : decode cX7_layWidths 12 = .ok (.iconst 0, 1) := by decide +kernel
theorem dX7_layWidths_13 : decode cX7_layWidths 13 = .ok (.iastore, 1) := by decide +kernel
theorem dX7_layWidths_14 : decode cX7_layWidths 14 = .ok (.iinc 3 1, 3) := by decide +kernel
theorem dX7_layWidths_17 : decode cX7_layWidths 17 = .ok (.goto (-15), 3) := by decide +kernel
theorem dX7_layWidths_20 : decode cX7_layWidths 20 = .ok (.iconst 1, 1) := by decide +kernel
theorem dX7_layWidths_21 : decode cX7_layWidths 21 = .ok (.istore_n 3, 1) := by decide +kernel
theorem dX7_layWidths_22 : decode cX7_layWidths 22 = .ok (.iload_n 3, 1) := by decide +kernel
theorem dX7_layWidths_23 : decode cX7_layWidths 23 = .ok (.aload_n 0, 1) := by decide +kernel
theorem dX7_layWidths_24 : decode cX7_layWidths 24 = .ok (.getfield 126, 3) := by decide +kernel
theorem dX7_layWidths_27 : decode cX7_layWidths 27 = .ok (.if_icmp .gt 139, 3) := by decide +kernel
theorem dX7_layWidths_30 : decode cX7_layWidths 30 = .ok (.iconst 0, 1) := by decide +kernel
theorem dX7_layWidths_31 : decode cX7_layWidths 31 = .ok (.istore 4, 2) := by decide +kernel
theorem dX7_layWidths_33 : decode cX7_layWidths 33 = .ok (.iload 4, 2) := by decide +kernel
theorem dX7_layWidths_35 : decode cX7_layWidths 35 = .ok (.aload_n 0, 1) := by decide +kernel
theorem dX7_layWidths_36 : decode cX7_layWidths 36 = .ok (.getfield 126, 3) := by decide +kernel
theorem dX7_layWidths_39 : decode cX7_layWidths 39 = .ok (.if_icmp .ge 17, 3) := by decide +kernel
theorem dX7_layWidths_42 : decode cX7_layWidths 42 = .ok (.aload_n 0, 1) := by decide +kernel
theorem dX7_layWidths_43 : decode cX7_layWidths 43 = .ok (.getfield 71, 3) := by decide +kernel
theorem dX7_layWidths_46 : decode cX7_layWidths 46 = .ok (.iload 4, 2) := by decide +kernel
theorem dX7_layWidths_48 : decode cX7_layWidths 48 = .ok (.iconst 0, 1) := by decide +kernel
theorem dX7_layWidths_49 : decode cX7_layWidths 49 = .ok (.iastore, 1) := by decide +kernel
theorem dX7_layWidths_50 : decode cX7_layWidths 50 = .ok (.iinc 4 1, 3) := by decide +kernel
theorem dX7_layWidths_53 : decode cX7_layWidths 53 = .ok (.goto (-20), 3) := by decide +kernel
theorem dX7_layWidths_56 : decode cX7_layWidths 56 = .ok (.iconst 0, 1) := by decide +kernel
theorem dX7_layWidths_57 : decode cX7_layWidths 57 = .ok (.istore 4, 2) := by decide +kernel
theorem dX7_layWidths_59 : decode cX7_layWidths 59 = .ok (.iload 4, 2) := by decide +kernel
theorem dX7_layWidths_61 : decode cX7_layWidths 61 = .ok (.aload_n 0, 1) := by decide +kernel
theorem dX7_layWidths_62 : decode cX7_layWidths 62 = .ok (.getfield 132, 3) := by decide +kernel
theorem dX7_layWidths_65 : decode cX7_layWidths 65 = .ok (.if_icmp .ge 63, 3) := by decide +kernel
theorem dX7_layWidths_68 : decode cX7_layWidths 68 = .ok (.aload_n 0, 1) := by decide +kernel
theorem dX7_layWidths_69 : decode cX7_layWidths 69 = .ok (.getfield 34, 3) := by decide +kernel
theorem dX7_layWidths_72 : decode cX7_layWidths 72 = .ok (.iload 4, 2) := by decide +kernel
theorem dX7_layWidths_74 : decode cX7_layWidths 74 = .ok (.baload, 1) := by decide +kernel
theorem dX7_layWidths_75 : decode cX7_layWidths 75 = .ok (.ifCond .ne 47, 3) := by decide +kernel
theorem dX7_layWidths_78 : decode cX7_layWidths 78 = .ok (.aload_n 0, 1) := by decide +kernel
theorem dX7_layWidths_79 : decode cX7_layWidths 79 = .ok (.getfield 31, 3) := by decide +kernel
theorem dX7_layWidths_82 : decode cX7_layWidths 82 = .ok (.iload 4, 2) := by decide +kernel
theorem dX7_layWidths_84 : decode cX7_layWidths 84 = .ok (.iaload, 1) := by decide +kernel
theorem dX7_layWidths_85 : decode cX7_layWidths 85 = .ok (.iload_n 3, 1) := by decide +kernel
theorem dX7_layWidths_86 : decode cX7_layWidths 86 = .ok (.if_icmp .ne 36, 3) := by decide +kernel
theorem dX7_layWidths_89 : decode cX7_layWidths 89 = .ok (.aload_n 0, 1) := by decide +kernel
theorem dX7_layWidths_90 : decode cX7_layWidths 90 = .ok (.aload_n 0, 1) := by decide +kernel
theorem dX7_layWidths_91 : decode cX7_layWidths 91 = .ok (.iload 4, 2) := by decide +kernel
theorem dX7_layWidths_93 : decode cX7_layWidths 93 = .ok (.iload_n 1, 1) := by decide +kernel
theorem dX7_layWidths_94 : decode cX7_layWidths 94 = .ok (.invokevirtual 175, 3) := by decide +kernel
theorem dX7_layWidths_97 : decode cX7_layWidths 97 = .ok (.aload_n 0, 1) := by decide +kernel
theorem dX7_layWidths_98 : decode cX7_layWidths 98 = .ok (.aload_n 2, 1) := by decide +kernel
theorem dX7_layWidths_99 : decode cX7_layWidths 99 = .ok (.aload_n 0, 1) := by decide +kernel
theorem dX7_layWidths_100 : decode cX7_layWidths 100 = .ok (.getfield 25, 3) := by decide +kernel
theorem dX7_layWidths_103 : decode cX7_layWidths 103 = .ok (.iload 4, 2) := by decide +kernel
theorem dX7_layWidths_105 : decode cX7_layWidths 105 = .ok (.iaload, 1) := by decide +kernel
theorem dX7_layWidths_106 : decode cX7_layWidths 106 = .ok (.iload_n 3, 1) := by decide +kernel
theorem dX7_layWidths_107 : decode cX7_layWidths 107 = .ok (.invokevirtual 178, 3) := by decide +kernel
theorem dX7_layWidths_110 : decode cX7_layWidths 110 = .ok (.isub, 1) := by decide +kernel
theorem dX7_layWidths_111 : decode cX7_layWidths 111 = .ok (.aload_n 0, 1) := by decide +kernel
theorem dX7_layWidths_112 : decode cX7_layWidths 112 = .ok (.getfield 25, 3) := by decide +kernel
theorem dX7_layWidths_115 : decode cX7_layWidths 115 = .ok (.iload 4, 2) := by decide +kernel
theorem dX7_layWidths_117 : decode cX7_layWidths 117 = .ok (.iaload, 1) := by decide +kernel
theorem dX7_layWidths_118 : decode cX7_layWidths 118 = .ok (.iload_n 3, 1) := by decide +kernel
theorem dX7_layWidths_119 : decode cX7_layWidths 119 = .ok (.invokevirtual 182, 3) := by decide +kernel
theorem dX7_layWidths_122 : decode cX7_layWidths 122 = .ok (.iinc 4 1, 3) := by decide +kernel
theorem dX7_layWidths_125 : decode cX7_layWidths 125 = .ok (.goto (-66), 3) := by decide +kernel
theorem dX7_layWidths_128 : decode cX7_layWidths 128 = .ok (.iconst 0, 1) := by decide +kernel
theorem dX7_layWidths_129 : decode cX7_layWidths 129 = .ok (.istore 4, 2) := by decide +kernel
theorem dX7_layWidths_131 : decode cX7_layWidths 131 = .ok (.iload 4, 2) := by decide +kernel
theorem dX7_layWidths_133 : decode cX7_layWidths 133 = .ok (.aload_n 0, 1) := by decide +kernel
theorem dX7_layWidths_134 : decode cX7_layWidths 134 = .ok (.getfield 126, 3) := by decide +kernel
theorem dX7_layWidths_137 : decode cX7_layWidths 137 = .ok (.if_icmp .ge 23, 3) := by decide +kernel
theorem dX7_layWidths_140 : decode cX7_layWidths 140 = .ok (.aload_n 2, 1) := by decide +kernel
theorem dX7_layWidths_141 : decode cX7_layWidths 141 = .ok (.iload 4, 2) := by decide +kernel
theorem dX7_layWidths_143 : decode cX7_layWidths 143 = .ok (.dup2, 1) := by decide +kernel
theorem dX7_layWidths_144 : decode cX7_layWidths 144 = .ok (.iaload, 1) := by decide +kernel
theorem dX7_layWidths_145 : decode cX7_layWidths 145 = .ok (.aload_n 0, 1) := by decide +kernel
theorem dX7_layWidths_146 : decode cX7_layWidths 146 = .ok (.getfield 71, 3) := by decide +kernel
theorem dX7_layWidths_149 : decode cX7_layWidths 149 = .ok (.iload 4, 2) := by decide +kernel
theorem dX7_layWidths_151 : decode cX7_layWidths 151 = .ok (.iaload, 1) := by decide +kernel
theorem dX7_layWidths_152 : decode cX7_layWidths 152 = .ok (.iadd, 1) := by decide +kernel
theorem dX7_layWidths_153 : decode cX7_layWidths 153 = .ok (.iastore, 1) := by decide +kernel
theorem dX7_layWidths_154 : decode cX7_layWidths 154 = .ok (.iinc 4 1, 3) := by decide +kernel
theorem dX7_layWidths_157 : decode cX7_layWidths 157 = .ok (.goto (-26), 3) := by decide +kernel
theorem dX7_layWidths_160 : decode cX7_layWidths 160 = .ok (.iinc 3 1, 3) := by decide +kernel
theorem dX7_layWidths_163 : decode cX7_layWidths 163 = .ok (.goto (-141), 3) := by decide +kernel
theorem dX7_layWidths_166 : decode cX7_layWidths 166 = .ok (.return_, 1) := by decide +kernel
theorem dX7_lacks_0 : decode cX7_lacks 0 = .ok (.iload_n 1, 1) := by decide +kernel
theorem dX7_lacks_1 : decode cX7_lacks 1 = .ok (.ifCond .gt 4, 3) := by decide +kernel
theorem dX7_lacks_4 : decode cX7_lacks 4 = .ok (.return_, 1) := by decide +kernel
theorem dX7_lacks_5 : decode cX7_lacks 5 = .ok (.iload_n 2, 1) := by decide +kernel
theorem dX7_lacks_6 : decode cX7_lacks 6 = .ok (.istore 4, 2) := by decide +kernel
theorem dX7_lacks_8 : decode cX7_lacks 8 = .ok (.iload 4, 2) := by decide +kernel
theorem dX7_lacks_10 : decode cX7_lacks 10 = .ok (.iload_n 2, 1) := by decide +kernel
theorem dX7_lacks_11 : decode cX7_lacks 11 = .ok (.iload_n 3, 1) := by decide +kernel
theorem dX7_lacks_12 : decode cX7_lacks 12 = .ok (.iadd, 1) := by decide +kernel
theorem dX7_lacks_13 : decode cX7_lacks 13 = .ok (.if_icmp .ge 23, 3) := by decide +kernel
theorem dX7_lacks_16 : decode cX7_lacks 16 = .ok (.aload_n 0, 1) := by decide +kernel
theorem dX7_lacks_17 : decode cX7_lacks 17 = .ok (.getfield 53, 3) := by decide +kernel
theorem dX7_lacks_20 : decode cX7_lacks 20 = .ok (.iload 4, 2) := by decide +kernel
theorem dX7_lacks_22 : decode cX7_lacks 22 = .ok (.aload_n 0, 1) := by decide +kernel
theorem dX7_lacks_23 : decode cX7_lacks 23 = .ok (.getfield 13, 3) := by decide +kernel
theorem dX7_lacks_26 : decode cX7_lacks 26 = .ok (.iload 4, 2) := by decide +kernel
theorem dX7_lacks_28 : decode cX7_lacks 28 = .ok (.iaload, 1) := by decide +kernel
theorem dX7_lacks_29 : decode cX7_lacks 29 = .ok (.iastore, 1) := by decide +kernel
theorem dX7_lacks_30 : decode cX7_lacks 30 = .ok (.iinc 4 1, 3) := by decide +kernel
theorem dX7_lacks_33 : decode cX7_lacks 33 = .ok (.goto (-25), 3) := by decide +kernel
theorem dX7_lacks_36 : decode cX7_lacks 36 = .ok (.aload_n 0, 1) := by decide +kernel
theorem dX7_lacks_37 : decode cX7_lacks 37 = .ok (.iload_n 1, 1) := by decide +kernel
theorem dX7_lacks_38 : decode cX7_lacks 38 = .ok (.iload_n 2, 1) := by decide +kernel
theorem dX7_lacks_39 : decode cX7_lacks 39 = .ok (.iload_n 2, 1) := by decide +kernel
theorem dX7_lacks_40 : decode cX7_lacks 40 = .ok (.iload_n 3, 1) := by decide +kernel
theorem dX7_lacks_41 : decode cX7_lacks 41 = .ok (.iadd, 1) := by decide +kernel
theorem dX7_lacks_42 : decode cX7_lacks 42 = .ok (.invokevirtual 185, 3) := by decide +kernel
theorem dX7_lacks_45 : decode cX7_lacks 45 = .ok (.iload_n 2, 1) := by decide +kernel
theorem dX7_lacks_46 : decode cX7_lacks 46 = .ok (.istore 4, 2) := by decide +kernel
theorem dX7_lacks_48 : decode cX7_lacks 48 = .ok (.iload 4, 2) := by decide +kernel
theorem dX7_lacks_50 : decode cX7_lacks 50 = .ok (.iload_n 2, 1) := by decide +kernel
theorem dX7_lacks_51 : decode cX7_lacks 51 = .ok (.iload_n 3, 1) := by decide +kernel
theorem dX7_lacks_52 : decode cX7_lacks 52 = .ok (.iadd, 1) := by decide +kernel
theorem dX7_lacks_53 : decode cX7_lacks 53 = .ok (.if_icmp .ge 50, 3) := by decide +kernel
theorem dX7_lacks_56 : decode cX7_lacks 56 = .ok (.aload_n 0, 1) := by decide +kernel
theorem dX7_lacks_57 : decode cX7_lacks 57 = .ok (.getfield 71, 3) := by decide +kernel
theorem dX7_lacks_60 : decode cX7_lacks 60 = .ok (.iload 4, 2) := by decide +kernel
theorem dX7_lacks_62 : decode cX7_lacks 62 = .ok (.aload_n 0, 1) := by decide +kernel
theorem dX7_lacks_63 : decode cX7_lacks 63 = .ok (.getfield 56, 3) := by decide +kernel
theorem dX7_lacks_66 : decode cX7_lacks 66 = .ok (.iload 4, 2) := by decide +kernel
theorem dX7_lacks_68 : decode cX7_lacks 68 = .ok (.iaload, 1) := by decide +kernel
theorem dX7_lacks_69 : decode cX7_lacks 69 = .ok (.aload_n 0, 1) := by decide +kernel
theorem dX7_lacks_70 : decode cX7_lacks 70 = .ok (.getfield 71, 3) := by decide +kernel
theorem dX7_lacks_73 : decode cX7_lacks 73 = .ok (.iload 4, 2) := by decide +kernel
theorem dX7_lacks_75 : decode cX7_lacks 75 = .ok (.iaload, 1) := by decide +kernel
theorem dX7_lacks_76 : decode cX7_lacks 76 = .ok (.if_icmp .le 13, 3) := by decide +kernel
theorem dX7_lacks_79 : decode cX7_lacks 79 = .ok (.aload_n 0, 1) := by decide +kernel
theorem dX7_lacks_80 : decode cX7_lacks 80 = .ok (.getfield 56, 3) := by decide +kernel
theorem dX7_lacks_83 : decode cX7_lacks 83 = .ok (.iload 4, 2) := by decide +kernel
theorem dX7_lacks_85 : decode cX7_lacks 85 = .ok (.iaload, 1) := by decide +kernel
theorem dX7_lacks_86 : decode cX7_lacks 86 = .ok (.goto 10, 3) := by decide +kernel
theorem dX7_lacks_89 : decode cX7_lacks 89 = .ok (.aload_n 0, 1) := by decide +kernel
theorem dX7_lacks_90 : decode cX7_lacks 90 = .ok (.getfield 71, 3) := by decide +kernel
theorem dX7_lacks_93 : decode cX7_lacks 93 = .ok (.iload 4, 2) := by decide +kernel
theorem dX7_lacks_95 : decode cX7_lacks 95 = .ok (.iaload, 1) := by decide +kernel
theorem dX7_lacks_96 : decode cX7_lacks 96 = .ok (.iastore, 1) := by decide +kernel
theorem dX7_lacks_97 : decode cX7_lacks 97 = .ok (.iinc 4 1, 3) := by decide +kernel
theorem dX7_lacks_100 : decode cX7_lacks 100 = .ok (.goto (-52), 3) := by decide +kernel
theorem dX7_lacks_103 : decode cX7_lacks 103 = .ok (.return_, 1) := by decide +kernel
theorem dX7_layBoth_0 : decode cX7_layBoth 0 = .ok (.aload_n 0, 1) := by decide +kernel
theorem dX7_layBoth_1 : decode cX7_layBoth 1 = .ok (.iconst 0, 1) := by decide +kernel
theorem dX7_layBoth_2 : decode cX7_layBoth 2 = .ok (.aload_n 0, 1) := by decide +kernel
theorem dX7_layBoth_3 : decode cX7_layBoth 3 = .ok (.getfield 65, 3) := by decide +kernel
theorem dX7_layBoth_6 : decode cX7_layBoth 6 = .ok (.invokevirtual 188, 3) := by decide +kernel
theorem dX7_layBoth_9 : decode cX7_layBoth 9 = .ok (.aload_n 0, 1) := by decide +kernel
theorem dX7_layBoth_10 : decode cX7_layBoth 10 = .ok (.iconst 1, 1) := by decide +kernel
theorem dX7_layBoth_11 : decode cX7_layBoth 11 = .ok (.aload_n 0, 1) := by decide +kernel
theorem dX7_layBoth_12 : decode cX7_layBoth 12 = .ok (.getfield 68, 3) := by decide +kernel
theorem dX7_layBoth_15 : decode cX7_layBoth 15 = .ok (.invokevirtual 188, 3) := by decide +kernel
theorem dX7_layBoth_18 : decode cX7_layBoth 18 = .ok (.iconst 0, 1) := by decide +kernel
theorem dX7_layBoth_19 : decode cX7_layBoth 19 = .ok (.istore_n 1, 1) := by decide +kernel
theorem dX7_layBoth_20 : decode cX7_layBoth 20 = .ok (.iload_n 1, 1) := by decide +kernel
theorem dX7_layBoth_21 : decode cX7_layBoth 21 = .ok (.aload_n 0, 1) := by decide +kernel
theorem dX7_layBoth_22 : decode cX7_layBoth 22 = .ok (.getfield 126, 3) := by decide +kernel
theorem dX7_layBoth_25 : decode cX7_layBoth 25 = .ok (.if_icmp .ge 45, 3) := by decide +kernel
theorem dX7_layBoth_28 : decode cX7_layBoth 28 = .ok (.aload_n 0, 1) := by decide +kernel
theorem dX7_layBoth_29 : decode cX7_layBoth 29 = .ok (.getfield 68, 3) := by decide +kernel
theorem dX7_layBoth_32 : decode cX7_layBoth 32 = .ok (.iload_n 1, 1) := by decide +kernel
theorem dX7_layBoth_33 : decode cX7_layBoth 33 = .ok (.aload_n 0, 1) := by decide +kernel
theorem dX7_layBoth_34 : decode cX7_layBoth 34 = .ok (.getfield 68, 3) := by decide +kernel
theorem dX7_layBoth_37 : decode cX7_layBoth 37 = .ok (.iload_n 1, 1) := by decide +kernel
theorem dX7_layBoth_38 : decode cX7_layBoth 38 = .ok (.iaload, 1) := by decide +kernel
theorem dX7_layBoth_39 : decode cX7_layBoth 39 = .ok (.aload_n 0, 1) := by decide +kernel
theorem dX7_layBoth_40 : decode cX7_layBoth 40 = .ok (.getfield 65, 3) := by decide +kernel
theorem dX7_layBoth_43 : decode cX7_layBoth 43 = .ok (.iload_n 1, 1) := by decide +kernel
theorem dX7_layBoth_44 : decode cX7_layBoth 44 = .ok (.iaload, 1) := by decide +kernel
theorem dX7_layBoth_45 : decode cX7_layBoth 45 = .ok (.if_icmp .ge 12, 3) := by decide +kernel
theorem dX7_layBoth_48 : decode cX7_layBoth 48 = .ok (.aload_n 0, 1) := by decide +kernel
theorem dX7_layBoth_49 : decode cX7_layBoth 49 = .ok (.getfield 65, 3) := by decide +kernel
theorem dX7_layBoth_52 : decode cX7_layBoth 52 = .ok (.iload_n 1, 1) := by decide +kernel
theorem dX7_layBoth_53 : decode cX7_layBoth 53 = .ok (.iaload, 1) := by decide +kernel
theorem dX7_layBoth_54 : decode cX7_layBoth 54 = .ok (.goto 9, 3) := by decide +kernel
theorem dX7_layBoth_57 : decode cX7_layBoth 57 = .ok (.aload_n 0, 1) := by decide +kernel
theorem dX7_layBoth_58 : decode cX7_layBoth 58 = .ok (.getfield 68, 3) := by decide +kernel
theorem dX7_layBoth_61 : decode cX7_layBoth 61 = .ok (.iload_n 1, 1) := by decide +kernel
theorem dX7_layBoth_62 : decode cX7_layBoth 62 = .ok (.iaload, 1) := by decide +kernel
theorem dX7_layBoth_63 : decode cX7_layBoth 63 = .ok (.iastore, 1) := by decide +kernel
theorem dX7_layBoth_64 : decode cX7_layBoth 64 = .ok (.iinc 1 1, 3) := by decide +kernel
theorem dX7_layBoth_67 : decode cX7_layBoth 67 = .ok (.goto (-47), 3) := by decide +kernel
theorem dX7_layBoth_70 : decode cX7_layBoth 70 = .ok (.return_, 1) := by decide +kernel
theorem dX7_natural_0 : decode cX7_natural 0 = .ok (.aload_n 0, 1) := by decide +kernel
theorem dX7_natural_1 : decode cX7_natural 1 = .ok (.iload_n 1, 1) := by decide +kernel
theorem dX7_natural_2 : decode cX7_natural 2 = .ok (.invokevirtual 141, 3) := by decide +kernel
theorem dX7_natural_5 : decode cX7_natural 5 = .ok (.ifCond .eq 12, 3) := by decide +kernel
theorem dX7_natural_8 : decode cX7_natural 8 = .ok (.iload_n 2, 1) := by decide +kernel
theorem dX7_natural_9 : decode cX7_natural 9 = .ok (.iconst 0, 1) := by decide +kernel
theorem dX7_natural_10 : decode cX7_natural 10 = .ok (.iconst 1, 1) := by decide +kernel
theorem dX7_natural_11 : decode cX7_natural 11 = .ok (.invokestatic 119, 3) := by decide +kernel
theorem dX7_natural_14 : decode cX7_natural 14 = .ok (.ifCond .ne 5, 3) := by decide +kernel
theorem dX7_natural_17 : decode cX7_natural 17 = .ok (.iconst (-1), 1) := by decide +kernel
theorem dX7_natural_18 : decode cX7_natural 18 = .ok (.ireturn, 1) := by decide +kernel
theorem dX7_natural_19 : decode cX7_natural 19 = .ok (.aload_n 0, 1) := by decide +kernel
theorem dX7_natural_20 : decode cX7_natural 20 = .ok (.invokevirtual 192, 3) := by decide +kernel
theorem dX7_natural_23 : decode cX7_natural 23 = .ok (.iload_n 2, 1) := by decide +kernel
theorem dX7_natural_24 : decode cX7_natural 24 = .ok (.ifCond .ne 12, 3) := by decide +kernel
theorem dX7_natural_27 : decode cX7_natural 27 = .ok (.aload_n 0, 1) := by decide +kernel
theorem dX7_natural_28 : decode cX7_natural 28 = .ok (.getfield 65, 3) := by decide +kernel
theorem dX7_natural_31 : decode cX7_natural 31 = .ok (.iload_n 1, 1) := by decide +kernel
theorem dX7_natural_32 : decode cX7_natural 32 = .ok (.iaload, 1) := by decide +kernel
theorem dX7_natural_33 : decode cX7_natural 33 = .ok (.goto 9, 3) := by decide +kernel
theorem dX7_natural_36 : decode cX7_natural 36 = .ok (.aload_n 0, 1) := by decide +kernel
theorem dX7_natural_37 : decode cX7_natural 37 = .ok (.getfield 68, 3) := by decide +kernel
theorem dX7_natural_40 : decode cX7_natural 40 = .ok (.iload_n 1, 1) := by decide +kernel
theorem dX7_natural_41 : decode cX7_natural 41 = .ok (.iaload, 1) := by decide +kernel
theorem dX7_natural_42 : decode cX7_natural 42 = .ok (.ireturn, 1) := by decide +kernel
theorem dX7_sumOf_0 : decode cX7_sumOf 0 = .ok (.iconst 0, 1) := by decide +kernel
theorem dX7_sumOf_1 : decode cX7_sumOf 1 = .ok (.istore_n 2, 1) := by decide +kernel
theorem dX7_sumOf_2 : decode cX7_sumOf 2 = .ok (.iconst 0, 1) := by decide +kernel
theorem dX7_sumOf_3 : decode cX7_sumOf 3 = .ok (.istore_n 3, 1) := by decide +kernel
theorem dX7_sumOf_4 : decode cX7_sumOf 4 = .ok (.iload_n 3, 1) := by decide +kernel
theorem dX7_sumOf_5 : decode cX7_sumOf 5 = .ok (.aload_n 0, 1) := by decide +kernel
theorem dX7_sumOf_6 : decode cX7_sumOf 6 = .ok (.getfield 126, 3) := by decide +kernel
theorem dX7_sumOf_9 : decode cX7_sumOf 9 = .ok (.if_icmp .ge 15, 3) := by decide +kernel
theorem dX7_sumOf_12 : decode cX7_sumOf 12 = .ok (.iload_n 2, 1) := by decide +kernel
theorem dX7_sumOf_13 : decode cX7_sumOf 13 = .ok (.aload_n 1, 1) := by decide +kernel
theorem dX7_sumOf_14 : decode cX7_sumOf 14 = .ok (.iload_n 3, 1) := by decide +kernel
theorem dX7_sumOf_15 : decode cX7_sumOf 15 = .ok (.iaload, 1) := by decide +kernel
theorem dX7_sumOf_16 : decode cX7_sumOf 16 = .ok (.iadd, 1) := by decide +kernel
theorem dX7_sumOf_17 : decode cX7_sumOf 17 = .ok (.istore_n 2, 1) := by decide +kernel
theorem dX7_sumOf_18 : decode cX7_sumOf 18 = .ok (.iinc 3 1, 3) := by decide +kernel
theorem dX7_sumOf_21 : decode cX7_sumOf 21 = .ok (.goto (-17), 3) := by decide +kernel
theorem dX7_sumOf_24 : decode cX7_sumOf 24 = .ok (.iload_n 2, 1) := by decide +kernel
theorem dX7_sumOf_25 : decode cX7_sumOf 25 = .ok (.ireturn, 1) := by decide +kernel
theorem dX7_set_0 : decode cX7_set 0 = .ok (.iload_n 1, 1) := by decide +kernel
theorem dX7_set_1 : decode cX7_set 1 = .ok (.iconst 0, 1) := by decide +kernel
theorem dX7_set_2 : decode cX7_set 2 = .ok (.sipush 400, 3) := by decide +kernel
theorem dX7_set_5 : decode cX7_set 5 = .ok (.invokestatic 119, 3) := by decide +kernel
theorem dX7_set_8 : decode cX7_set 8 = .ok (.ifCond .ne 5, 3) := by decide +kernel
theorem dX7_set_11 : decode cX7_set 11 = .ok (.iconst (-1), 1) := by decide +kernel
theorem dX7_set_12 : decode cX7_set 12 = .ok (.ireturn, 1) := by decide +kernel
theorem dX7_set_13 : decode cX7_set 13 = .ok (.aload_n 0, 1) := by decide +kernel
theorem dX7_set_14 : decode cX7_set 14 = .ok (.invokevirtual 192, 3) := by decide +kernel
theorem dX7_set_17 : decode cX7_set 17 = .ok (.iload_n 1, 1) := by decide +kernel
theorem dX7_set_18 : decode cX7_set 18 = .ok (.aload_n 0, 1) := by decide +kernel
theorem dX7_set_19 : decode cX7_set 19 = .ok (.getfield 126, 3) := by decide +kernel
theorem dX7_set_22 : decode cX7_set 22 = .ok (.iconst 1, 1) := by decide +kernel
theorem dX7_set_23 : decode cX7_set 23 = .ok (.isub, 1) := by decide +kernel
theorem dX7_set_24 : decode cX7_set 24 = .ok (.aload_n 0, 1) := by decide +kernel
theorem dX7_set_25 : decode cX7_set 25 = .ok (.getfield 129, 3) := by decide +kernel
theorem dX7_set_28 : decode cX7_set 28 = .ok (.imul, 1) := by decide +kernel
theorem dX7_set_29 : decode cX7_set 29 = .ok (.isub, 1) := by decide +kernel
theorem dX7_set_30 : decode cX7_set 30 = .ok (.istore_n 2, 1) := by decide +kernel
theorem dX7_set_31 : decode cX7_set 31 = .ok (.iload_n 2, 1) := by decide +kernel
theorem dX7_set_32 : decode cX7_set 32 = .ok (.aload_n 0, 1) := by decide +kernel
theorem dX7_set_33 : decode cX7_set 33 = .ok (.aload_n 0, 1) := by decide +kernel
theorem dX7_set_34 : decode cX7_set 34 = .ok (.getfield 65, 3) := by decide +kernel
theorem dX7_set_37 : decode cX7_set 37 = .ok (.invokevirtual 195, 3) := by decide +kernel
theorem dX7_set_40 : decode cX7_set 40 = .ok (.if_icmp .ge 6, 3) := by decide +kernel
theorem dX7_set_43 : decode cX7_set 43 = .ok (.bipush (-4), 2) := by decide +kernel
theorem dX7_set_45 : decode cX7_set 45 = .ok (.ireturn, 1) := by decide +kernel
theorem dX7_set_46 : decode cX7_set 46 = .ok (.iload_n 2, 1) := by decide +kernel
theorem dX7_set_47 : decode cX7_set 47 = .ok (.aload_n 0, 1) := by decide +kernel
theorem dX7_set_48 : decode cX7_set 48 = .ok (.aload_n 0, 1) := by decide +kernel
theorem dX7_set_49 : decode cX7_set 49 = .ok (.getfield 68, 3) := by decide +kernel
theorem dX7_set_52 : decode cX7_set 52 = .ok (.invokevirtual 195, 3) := by decide +kernel
theorem dX7_set_55 : decode cX7_set 55 = .ok (.if_icmp .le 7, 3) := by decide +kernel
theorem dX7_set_58 : decode cX7_set 58 = .ok (.iconst 1, 1) := by decide +kernel
theorem dX7_set_59 : decode cX7_set 59 = .ok (.goto 4, 3) := by decide +kernel
theorem dX7_set_62 : decode cX7_set 62 = .ok (.iconst 0, 1) := by decide +kernel
theorem dX7_set_63 : decode cX7_set 63 = .ok (.istore_n 3, 1) := by decide +kernel
theorem dX7_set_64 : decode cX7_set 64 = .ok (.aload_n 0, 1) := by decide +kernel
theorem dX7_set_65 : decode cX7_set 65 = .ok (.aload_n 0, 1) := by decide +kernel
theorem dX7_set_66 : decode cX7_set 66 = .ok (.getfield 68, 3) := by decide +kernel
theorem dX7_set_69 : decode cX7_set 69 = .ok (.invokevirtual 195, 3) := by decide +kernel
theorem dX7_set_72 : decode cX7_set 72 = .ok (.aload_n 0, 1) := by decide +kernel
theorem dX7_set_73 : decode cX7_set 73 = .ok (.aload_n 0, 1) := by decide +kernel
theorem dX7_set_74 : decode cX7_set 74 = .ok (.getfield 65, 3) := by decide +kernel
theorem dX7_set_77 : decode cX7_set 77 = .ok (.invokevirtual 195, 3) := by decide +kernel
theorem dX7_set_80 : decode cX7_set 80 = .ok (.if_icmp .ne 7, 3) := by decide +kernel
theorem dX7_set_83 : decode cX7_set 83 = .ok (.iconst 1, 1) := by decide +kernel
theorem dX7_set_84 : decode cX7_set 84 = .ok (.goto 4, 3) := by decide +kernel
theorem dX7_set_87 : decode cX7_set 87 = .ok (.iconst 0, 1) := by decide +kernel
theorem dX7_set_88 : decode cX7_set 88 = .ok (.istore 4, 2) := by decide +kernel
theorem dX7_set_90 : decode cX7_set 90 = .ok (.iconst 0, 1) := by decide +kernel
theorem dX7_set_91 : decode cX7_set 91 = .ok (.istore 5, 2) := by decide +kernel
theorem dX7_set_93 : decode cX7_set 93 = .ok (.iload 5, 2) := by decide +kernel
theorem dX7_set_95 : decode cX7_set 95 = .ok (.aload_n 0, 1) := by decide +kernel
theorem dX7_set_96 : decode cX7_set 96 = .ok (.getfield 126, 3) := by decide +kernel
theorem dX7_set_99 : decode cX7_set 99 = .ok (.if_icmp .ge 50, 3) := by decide +kernel
theorem dX7_set_102 : decode cX7_set 102 = .ok (.aload_n 0, 1) := by decide +kernel
theorem dX7_set_103 : decode cX7_set 103 = .ok (.getfield 53, 3) := by decide +kernel
theorem dX7_set_106 : decode cX7_set 106 = .ok (.iload 5, 2) := by decide +kernel
theorem dX7_set_108 : decode cX7_set 108 = .ok (.iload_n 3, 1) := by decide +kernel
theorem dX7_set_109 : decode cX7_set 109 = .ok (.ifCond .ne 8, 3) := by decide +kernel
theorem dX7_set_112 : decode cX7_set 112 = .ok (.iload 4, 2) := by decide +kernel
theorem dX7_set_114 : decode cX7_set 114 = .ok (.ifCond .eq 13, 3) := by decide +kernel
theorem dX7_set_117 : decode cX7_set 117 = .ok (.aload_n 0, 1) := by decide +kernel
theorem dX7_set_118 : decode cX7_set 118 = .ok (.getfield 13, 3) := by decide +kernel
theorem dX7_set_121 : decode cX7_set 121 = .ok (.iload 5, 2) := by decide +kernel
theorem dX7_set_123 : decode cX7_set 123 = .ok (.iaload, 1) := by decide +kernel
theorem dX7_set_124 : decode cX7_set 124 = .ok (.goto 18, 3) := by decide +kernel
theorem dX7_set_127 : decode cX7_set 127 = .ok (.aload_n 0, 1) := by decide +kernel
theorem dX7_set_128 : decode cX7_set 128 = .ok (.getfield 68, 3) := by decide +kernel
theorem dX7_set_131 : decode cX7_set 131 = .ok (.iload 5, 2) := by decide +kernel
theorem dX7_set_133 : decode cX7_set 133 = .ok (.iaload, 1) := by decide +kernel
theorem dX7_set_134 : decode cX7_set 134 = .ok (.aload_n 0, 1) := by decide +kernel
theorem dX7_set_135 : decode cX7_set 135 = .ok (.getfield 65, 3) := by decide +kernel
theorem dX7_set_138 : decode cX7_set 138 = .ok (.iload 5, 2) := by decide +kernel
theorem dX7_set_140 : decode cX7_set 140 = .ok (.iaload, 1) := by decide +kernel
theorem dX7_set_141 : decode cX7_set 141 = .ok (.isub, 1) := by decide +kernel
theorem dX7_set_142 : decode cX7_set 142 = .ok (.iastore, 1) := by decide +kernel
theorem dX7_set_143 : decode cX7_set 143 = .ok (.iinc 5 1, 3) := by decide +kernel
theorem dX7_set_146 : decode cX7_set 146 = .ok (.goto (-53), 3) := by decide +kernel
theorem dX7_set_149 : decode cX7_set 149 = .ok (.aload_n 0, 1) := by decide +kernel
theorem dX7_set_150 : decode cX7_set 150 = .ok (.iload_n 2, 1) := by decide +kernel
theorem dX7_set_151 : decode cX7_set 151 = .ok (.iload_n 3, 1) := by decide +kernel
theorem dX7_set_152 : decode cX7_set 152 = .ok (.ifCond .eq 14, 3) := by decide +kernel
theorem dX7_set_155 : decode cX7_set 155 = .ok (.aload_n 0, 1) := by decide +kernel
theorem dX7_set_156 : decode cX7_set 156 = .ok (.aload_n 0, 1) := by decide +kernel
theorem dX7_set_157 : decode cX7_set 157 = .ok (.getfield 68, 3) := by decide +kernel
theorem dX7_set_160 : decode cX7_set 160 = .ok (.invokevirtual 195, 3) := by decide +kernel
theorem dX7_set_163 : decode cX7_set 163 = .ok (.goto 11, 3) := by decide +kernel
theorem dX7_set_166 : decode cX7_set 166 = .ok (.aload_n 0, 1) := by decide +kernel
theorem dX7_set_167 : decode cX7_set 167 = .ok (.aload_n 0, 1) := by decide +kernel
theorem dX7_set_168 : decode cX7_set 168 = .ok (.getfield 65, 3) := by decide +kernel
theorem dX7_set_171 : decode cX7_set 171 = .ok (.invokevirtual 195, 3) := by decide +kernel
theorem dX7_set_174 : decode cX7_set 174 = .ok (.isub, 1) := by decide +kernel
theorem dX7_set_175 : decode cX7_set 175 = .ok (.iconst 0, 1) := by decide +kernel
theorem dX7_set_176 : decode cX7_set 176 = .ok (.aload_n 0, 1) := by decide +kernel
theorem dX7_set_177 : decode cX7_set 177 = .ok (.getfield 126, 3) := by decide +kernel
theorem dX7_set_180 : decode cX7_set 180 = .ok (.invokevirtual 185, 3) := by decide +kernel
theorem dX7_set_183 : decode cX7_set 183 = .ok (.iconst 0, 1) := by decide +kernel
theorem dX7_set_184 : decode cX7_set 184 = .ok (.istore 5, 2) := by decide +kernel
theorem dX7_set_186 : decode cX7_set 186 = .ok (.iload 5, 2) := by decide +kernel
theorem dX7_set_188 : decode cX7_set 188 = .ok (.aload_n 0, 1) := by decide +kernel
theorem dX7_set_189 : decode cX7_set 189 = .ok (.getfield 126, 3) := by decide +kernel
theorem dX7_set_192 : decode cX7_set 192 = .ok (.if_icmp .ge 45, 3) := by decide +kernel
theorem dX7_set_195 : decode cX7_set 195 = .ok (.aload_n 0, 1) := by decide +kernel
theorem dX7_set_196 : decode cX7_set 196 = .ok (.getfield 62, 3) := by decide +kernel
theorem dX7_set_199 : decode cX7_set 199 = .ok (.iload 5, 2) := by decide +kernel
theorem dX7_set_201 : decode cX7_set 201 = .ok (.iload_n 3, 1) := by decide +kernel
theorem dX7_set_202 : decode cX7_set 202 = .ok (.ifCond .eq 13, 3) := by decide +kernel
theorem dX7_set_205 : decode cX7_set 205 = .ok (.aload_n 0, 1) := by decide +kernel
theorem dX7_set_206 : decode cX7_set 206 = .ok (.getfield 68, 3) := by decide +kernel
theorem dX7_set_209 : decode cX7_set 209 = .ok (.iload 5, 2) := by decide +kernel
theorem dX7_set_211 : decode cX7_set 211 = .ok (.iaload, 1) := by decide +kernel
theorem dX7_set_212 : decode cX7_set 212 = .ok (.goto 10, 3) := by decide +kernel
theorem dX7_set_215 : decode cX7_set 215 = .ok (.aload_n 0, 1) := by decide +kernel
theorem dX7_set_216 : decode cX7_set 216 = .ok (.getfield 65, 3) := by decide +kernel
theorem dX7_set_219 : decode cX7_set 219 = .ok (.iload 5, 2) := by decide +kernel
theorem dX7_set_221 : decode cX7_set 221 = .ok (.iaload, 1) := by decide +kernel
theorem dX7_set_222 : decode cX7_set 222 = .ok (.aload_n 0, 1) := by decide +kernel
theorem dX7_set_223 : decode cX7_set 223 = .ok (.getfield 56, 3) := by decide +kernel
theorem dX7_set_226 : decode cX7_set 226 = .ok (.iload 5, 2) := by decide +kernel
theorem dX7_set_228 : decode cX7_set 228 = .ok (.iaload, 1) := by decide +kernel
theorem dX7_set_229 : decode cX7_set 229 = .ok (.iadd, 1) := by decide +kernel
theorem dX7_set_230 : decode cX7_set 230 = .ok (.iastore, 1) := by decide +kernel
theorem dX7_set_231 : decode cX7_set 231 = .ok (.iinc 5 1, 3) := by decide +kernel
theorem dX7_set_234 : decode cX7_set 234 = .ok (.goto (-48), 3) := by decide +kernel
theorem dX7_set_237 : decode cX7_set 237 = .ok (.aload_n 0, 1) := by decide +kernel
theorem dX7_set_238 : decode cX7_set 238 = .ok (.aload_n 0, 1) := by decide +kernel
theorem dX7_set_239 : decode cX7_set 239 = .ok (.getfield 62, 3) := by decide +kernel
theorem dX7_set_242 : decode cX7_set 242 = .ok (.invokevirtual 199, 3) := by decide +kernel
theorem dX7_set_245 : decode cX7_set 245 = .ok (.ireturn, 1) := by decide +kernel
theorem dX7_layHeights_0 : decode cX7_layHeights 0 = .ok (.iconst 0, 1) := by decide +kernel
theorem dX7_layHeights_1 : decode cX7_layHeights 1 = .ok (.istore_n 2, 1) := by decide +kernel
theorem dX7_layHeights_2 : decode cX7_layHeights 2 = .ok (.iload_n 2, 1) := by decide +kernel
theorem dX7_layHeights_3 : decode cX7_layHeights 3 = .ok (.aload_n 0, 1) := by decide +kernel
theorem dX7_layHeights_4 : decode cX7_layHeights 4 = .ok (.getfield 123, 3) := by decide +kernel
theorem dX7_layHeights_7 : decode cX7_layHeights 7 = .ok (.if_icmp .ge 16, 3) := by decide +kernel
theorem dX7_layHeights_10 : decode cX7_layHeights 10 = .ok (.aload_n 0, 1) := by decide +kernel
theorem dX7_layHeights_11 : decode cX7_layHeights 11 = .ok (.getfield 74, 3) := by decide +kernel
theorem dX7_layHeights_14 : decode cX7_layHeights 14 = .ok (.iload_n 2, 1) := by decide +kernel
theorem dX7_layHeights_15 : decode cX7_layHeights 15 = .ok (.iconst 1, 1) := by decide +kernel
theorem dX7_layHeights_16 : decode cX7_layHeights 16 = .ok (.iastore, 1) := by decide +kernel
theorem dX7_layHeights_17 : decode cX7_layHeights 17 = .ok (.iinc 2 1, 3) := by decide +kernel
theorem dX7_layHeights_20 : decode cX7_layHeights 20 = .ok (.goto (-18), 3) := by decide +kernel
theorem dX7_layHeights_23 : decode cX7_layHeights 23 = .ok (.iconst 1, 1) := by decide +kernel
theorem dX7_layHeights_24 : decode cX7_layHeights 24 = .ok (.istore_n 2, 1) := by decide +kernel
theorem dX7_layHeights_25 : decode cX7_layHeights 25 = .ok (.iload_n 2, 1) := by decide +kernel
theorem dX7_layHeights_26 : decode cX7_layHeights 26 = .ok (.aload_n 0, 1) := by decide +kernel
theorem dX7_layHeights_27 : decode cX7_layHeights 27 = .ok (.getfield 123, 3) := by decide +kernel
theorem dX7_layHeights_30 : decode cX7_layHeights 30 = .ok (.if_icmp .gt 204, 3) := by decide +kernel
theorem dX7_layHeights_33 : decode cX7_layHeights 33 = .ok (.iconst 0, 1) := by decide +kernel
theorem dX7_layHeights_34 : decode cX7_layHeights 34 = .ok (.istore_n 3, 1) := by decide +kernel
theorem dX7_layHeights_35 : decode cX7_layHeights 35 = .ok (.iload_n 3, 1) := by decide +kernel
theorem dX7_layHeights_36 : decode cX7_layHeights 36 = .ok (.aload_n 0, 1) := by decide +kernel
theorem dX7_layHeights_37 : decode cX7_layHeights 37 = .ok (.getfield 123, 3) := by decide +kernel
theorem dX7_layHeights_40 : decode cX7_layHeights 40 = .ok (.if_icmp .ge 16, 3) := by decide +kernel
theorem dX7_layHeights_43 : decode cX7_layHeights 43 = .ok (.aload_n 0, 1) := by decide +kernel
theorem dX7_layHeights_44 : decode cX7_layHeights 44 = .ok (.getfield 77, 3) := by decide +kernel
theorem dX7_layHeights_47 : decode cX7_layHeights 47 = .ok (.iload_n 3, 1) := by decide +kernel
theorem dX7_layHeights_48 : decode cX7_layHeights 48 = .ok (.iconst 0, 1) := by decide +kernel
theorem dX7_layHeights_49 : decode cX7_layHeights 49 = .ok (.iastore, 1) := by decide +kernel
theorem dX7_layHeights_50 : decode cX7_layHeights 50 = .ok (.iinc 3 1, 3) := by decide +kernel
theorem dX7_layHeights_53 : decode cX7_layHeights 53 = .ok (.goto (-18), 3) := by decide +kernel
theorem dX7_layHeights_56 : decode cX7_layHeights 56 = .ok (.iconst 0, 1) := by decide +kernel
theorem dX7_layHeights_57 : decode cX7_layHeights 57 = .ok (.istore_n 3, 1) := by decide +kernel
theorem dX7_layHeights_58 : decode cX7_layHeights 58 = .ok (.iload_n 3, 1) := by decide +kernel
theorem dX7_layHeights_59 : decode cX7_layHeights 59 = .ok (.aload_n 0, 1) := by decide +kernel
theorem dX7_layHeights_60 : decode cX7_layHeights 60 = .ok (.getfield 132, 3) := by decide +kernel
theorem dX7_layHeights_63 : decode cX7_layHeights 63 = .ok (.if_icmp .ge 134, 3) := by decide +kernel
theorem dX7_layHeights_66 : decode cX7_layHeights 66 = .ok (.aload_n 0, 1) := by decide +kernel
theorem dX7_layHeights_67 : decode cX7_layHeights 67 = .ok (.getfield 34, 3) := by decide +kernel
theorem dX7_layHeights_70 : decode cX7_layHeights 70 = .ok (.iload_n 3, 1) := by decide +kernel
theorem dX7_layHeights_71 : decode cX7_layHeights 71 = .ok (.baload, 1) := by decide +kernel
theorem dX7_layHeights_72 : decode cX7_layHeights 72 = .ok (.ifCond .ne 119, 3) := by decide +kernel
theorem dX7_layHeights_75 : decode cX7_layHeights 75 = .ok (.aload_n 0, 1) := by decide +kernel
theorem dX7_layHeights_76 : decode cX7_layHeights 76 = .ok (.getfield 28, 3) := by decide +kernel
theorem dX7_layHeights_79 : decode cX7_layHeights 79 = .ok (.iload_n 3, 1) := by decide +kernel
theorem dX7_layHeights_80 : decode cX7_layHeights 80 = .ok (.iaload, 1) := by decide +kernel
theorem dX7_layHeights_81 : decode cX7_layHeights 81 = .ok (.iload_n 2, 1) := by decide +kernel
theorem dX7_layHeights_82 : decode cX7_layHeights 82 = .ok (.if_icmp .ne 109, 3) := by decide +kernel
theorem dX7_layHeights_85 : decode cX7_layHeights 85 = .ok (.aload_n 0, 1) := by decide +kernel
theorem dX7_layHeights_86 : decode cX7_layHeights 86 = .ok (.iload_n 3, 1) := by decide +kernel
theorem dX7_layHeights_87 : decode cX7_layHeights 87 = .ok (.aload_n 0, 1) := by decide +kernel
theorem dX7_layHeights_88 : decode cX7_layHeights 88 = .ok (.aload_n 1, 1) := by decide +kernel
theorem dX7_layHeights_89 : decode cX7_layHeights 89 = .ok (.aload_n 0, 1) := by decide +kernel
theorem dX7_layHeights_90 : decode cX7_layHeights 90 = .ok (.getfield 25, 3) := by decide +kernel
theorem dX7_layHeights_93 : decode cX7_layHeights 93 = .ok (.iload_n 3, 1) := by decide +kernel
theorem dX7_layHeights_94 : decode cX7_layHeights 94 = .ok (.iaload, 1) := by decide +kernel
theorem dX7_layHeights_95 : decode cX7_layHeights 95 = .ok (.aload_n 0, 1) := by decide +kernel
theorem dX7_layHeights_96 : decode cX7_layHeights 96 = .ok (.getfield 31, 3) := by decide +kernel
theorem dX7_layHeights_99 : decode cX7_layHeights 99 = .ok (.iload_n 3, 1) := by decide +kernel
theorem dX7_layHeights_100 : decode cX7_layHeights 100 = .ok (.iaload, 1) := by decide +kernel
theorem dX7_layHeights_101 : decode cX7_layHeights 101 = .ok (.invokevirtual 178, 3) := by decide +kernel
theorem dX7_layHeights_104 : decode cX7_layHeights 104 = .ok (.invokevirtual 172, 3) := by decide +kernel
theorem dX7_layHeights_107 : decode cX7_layHeights 107 = .ok (.istore 4, 2) := by decide +kernel
theorem dX7_layHeights_109 : decode cX7_layHeights 109 = .ok (.aload_n 0, 1) := by decide +kernel
theorem dX7_layHeights_110 : decode cX7_layHeights 110 = .ok (.getfield 22, 3) := by decide +kernel
theorem dX7_layHeights_113 : decode cX7_layHeights 113 = .ok (.iload_n 3, 1) := by decide +kernel
theorem dX7_layHeights_114 : decode cX7_layHeights 114 = .ok (.iaload, 1) := by decide +kernel
theorem dX7_layHeights_115 : decode cX7_layHeights 115 = .ok (.istore 5, 2) := by decide +kernel
theorem dX7_layHeights_117 : decode cX7_layHeights 117 = .ok (.iload 5, 2) := by decide +kernel
theorem dX7_layHeights_119 : decode cX7_layHeights 119 = .ok (.aload_n 0, 1) := by decide +kernel
theorem dX7_layHeights_120 : decode cX7_layHeights 120 = .ok (.getfield 22, 3) := by decide +kernel
theorem dX7_layHeights_123 : decode cX7_layHeights 123 = .ok (.iload_n 3, 1) := by decide +kernel
theorem dX7_layHeights_124 : decode cX7_layHeights 124 = .ok (.iaload, 1) := by decide +kernel
theorem dX7_layHeights_125 : decode cX7_layHeights 125 = .ok (.iload_n 2, 1) := by decide +kernel
theorem dX7_layHeights_126 : decode cX7_layHeights 126 = .ok (.iadd, 1) := by decide +kernel
theorem dX7_layHeights_127 : decode cX7_layHeights 127 = .ok (.if_icmp .ge 21, 3) := by decide +kernel
theorem dX7_layHeights_130 : decode cX7_layHeights 130 = .ok (.iload 4, 2) := by decide +kernel
theorem dX7_layHeights_132 : decode cX7_layHeights 132 = .ok (.aload_n 0, 1) := by decide +kernel
theorem dX7_layHeights_133 : decode cX7_layHeights 133 = .ok (.getfield 74, 3) := by decide +kernel
theorem dX7_layHeights_136 : decode cX7_layHeights 136 = .ok (.iload 5, 2) := by decide +kernel
theorem dX7_layHeights_138 : decode cX7_layHeights 138 = .ok (.iaload, 1) := by decide +kernel
theorem dX7_layHeights_139 : decode cX7_layHeights 139 = .ok (.isub, 1) := by decide +kernel
theorem dX7_layHeights_140 : decode cX7_layHeights 140 = .ok (.istore 4, 2) := by decide +kernel
theorem dX7_layHeights_142 : decode cX7_layHeights 142 = .ok (.iinc 5 1, 3) := by decide +kernel
theorem dX7_layHeights_145 : decode cX7_layHeights 145 = .ok (.goto (-28), 3) := by decide +kernel
theorem dX7_layHeights_148 : decode cX7_layHeights 148 = .ok (.aload_n 0, 1) := by decide +kernel
theorem dX7_layHeights_149 : decode cX7_layHeights 149 = .ok (.getfield 22, 3) := by decide +kernel
theorem dX7_layHeights_152 : decode cX7_layHeights 152 = .ok (.iload_n 3, 1) := by decide +kernel
theorem dX7_layHeights_153 : decode cX7_layHeights 153 = .ok (.iaload, 1) := by decide +kernel
theorem dX7_layHeights_154 : decode cX7_layHeights 154 = .ok (.iload_n 2, 1) := by decide +kernel
theorem dX7_layHeights_155 : decode cX7_layHeights 155 = .ok (.iadd, 1) := by decide +kernel
theorem dX7_layHeights_156 : decode cX7_layHeights 156 = .ok (.iconst 1, 1) := by decide +kernel
theorem dX7_layHeights_157 : decode cX7_layHeights 157 = .ok (.isub, 1) := by decide +kernel
theorem dX7_layHeights_158 : decode cX7_layHeights 158 = .ok (.istore 5, 2) := by decide +kernel
theorem dX7_layHeights_160 : decode cX7_layHeights 160 = .ok (.aload_n 0, 1) := by decide +kernel
theorem dX7_layHeights_161 : decode cX7_layHeights 161 = .ok (.getfield 77, 3) := by decide +kernel
theorem dX7_layHeights_164 : decode cX7_layHeights 164 = .ok (.iload 5, 2) := by decide +kernel
theorem dX7_layHeights_166 : decode cX7_layHeights 166 = .ok (.iload 4, 2) := by decide +kernel
theorem dX7_layHeights_168 : decode cX7_layHeights 168 = .ok (.aload_n 0, 1) := by decide +kernel
theorem dX7_layHeights_169 : decode cX7_layHeights 169 = .ok (.getfield 77, 3) := by decide +kernel
theorem dX7_layHeights_172 : decode cX7_layHeights 172 = .ok (.iload 5, 2) := by decide +kernel
theorem dX7_layHeights_174 : decode cX7_layHeights 174 = .ok (.iaload, 1) := by decide +kernel
theorem dX7_layHeights_175 : decode cX7_layHeights 175 = .ok (.if_icmp .le 8, 3) := by decide +kernel
theorem dX7_layHeights_178 : decode cX7_layHeights 178 = .ok (.iload 4, 2) := by decide +kernel
theorem dX7_layHeights_180 : decode cX7_layHeights 180 = .ok (.goto 10, 3) := by decide +kernel
theorem dX7_layHeights_183 : decode cX7_layHeights 183 = .ok (.aload_n 0, 1) := by decide +kernel
theorem dX7_layHeights_184 : decode cX7_layHeights 184 = .ok (.getfield 77, 3) := by decide +kernel
theorem dX7_layHeights_187 : decode cX7_layHeights 187 = .ok (.iload 5, 2) := by decide +kernel
theorem dX7_layHeights_189 : decode cX7_layHeights 189 = .ok (.iaload, 1) := by decide +kernel
theorem dX7_layHeights_190 : decode cX7_layHeights 190 = .ok (.iastore, 1) := by decide +kernel
theorem dX7_layHeights_191 : decode cX7_layHeights 191 = .ok (.iinc 3 1, 3) := by decide +kernel
theorem dX7_layHeights_194 : decode cX7_layHeights 194 = .ok (.goto (-136), 3) := by decide +kernel
theorem dX7_layHeights_197 : decode cX7_layHeights 197 = .ok (.iconst 0, 1) := by decide +kernel
theorem dX7_layHeights_198 : decode cX7_layHeights 198 = .ok (.istore_n 3, 1) := by decide +kernel
theorem dX7_layHeights_199 : decode cX7_layHeights 199 = .ok (.iload_n 3, 1) := by decide +kernel
theorem dX7_layHeights_200 : decode cX7_layHeights 200 = .ok (.aload_n 0, 1) := by decide +kernel
theorem dX7_layHeights_201 : decode cX7_layHeights 201 = .ok (.getfield 123, 3) := by decide +kernel
theorem dX7_layHeights_204 : decode cX7_layHeights 204 = .ok (.if_icmp .ge 24, 3) := by decide +kernel
theorem dX7_layHeights_207 : decode cX7_layHeights 207 = .ok (.aload_n 0, 1) := by decide +kernel
theorem dX7_layHeights_208 : decode cX7_layHeights 208 = .ok (.getfield 74, 3) := by decide +kernel
theorem dX7_layHeights_211 : decode cX7_layHeights 211 = .ok (.iload_n 3, 1) := by decide +kernel
theorem dX7_layHeights_212 : decode cX7_layHeights 212 = .ok (.dup2, 1) := by decide +kernel
theorem dX7_layHeights_213 : decode cX7_layHeights 213 = .ok (.iaload, 1) := by decide +kernel
theorem dX7_layHeights_214 : decode cX7_layHeights 214 = .ok (.aload_n 0, 1) := by decide +kernel
theorem dX7_layHeights_215 : decode cX7_layHeights 215 = .ok (.getfield 77, 3) := by decide +kernel
theorem dX7_layHeights_218 : decode cX7_layHeights 218 = .ok (.iload_n 3, 1) := by decide +kernel
theorem dX7_layHeights_219 : decode cX7_layHeights 219 = .ok (.iaload, 1) := by decide +kernel
theorem dX7_layHeights_220 : decode cX7_layHeights 220 = .ok (.iadd, 1) := by decide +kernel
theorem dX7_layHeights_221 : decode cX7_layHeights 221 = .ok (.iastore, 1) := by decide +kernel
theorem dX7_layHeights_222 : decode cX7_layHeights 222 = .ok (.iinc 3 1, 3) := by decide +kernel
theorem dX7_layHeights_225 : decode cX7_layHeights 225 = .ok (.goto (-26), 3) := by decide +kernel
theorem dX7_layHeights_228 : decode cX7_layHeights 228 = .ok (.iinc 2 1, 3) := by decide +kernel
theorem dX7_layHeights_231 : decode cX7_layHeights 231 = .ok (.goto (-206), 3) := by decide +kernel
theorem dX7_layHeights_234 : decode cX7_layHeights 234 = .ok (.return_, 1) := by decide +kernel
theorem dX7_heightBy_0 : decode cX7_heightBy 0 = .ok (.aload_n 0, 1) := by decide +kernel
theorem dX7_heightBy_1 : decode cX7_heightBy 1 = .ok (.aload_n 1, 1) := by decide +kernel
theorem dX7_heightBy_2 : decode cX7_heightBy 2 = .ok (.invokevirtual 202, 3) := by decide +kernel
theorem dX7_heightBy_5 : decode cX7_heightBy 5 = .ok (.iconst 0, 1) := by decide +kernel
theorem dX7_heightBy_6 : decode cX7_heightBy 6 = .ok (.istore_n 2, 1) := by decide +kernel
theorem dX7_heightBy_7 : decode cX7_heightBy 7 = .ok (.iconst 0, 1) := by decide +kernel
theorem dX7_heightBy_8 : decode cX7_heightBy 8 = .ok (.istore_n 3, 1) := by decide +kernel
theorem dX7_heightBy_9 : decode cX7_heightBy 9 = .ok (.iload_n 3, 1) := by decide +kernel
theorem dX7_heightBy_10 : decode cX7_heightBy 10 = .ok (.aload_n 0, 1) := by decide +kernel
theorem dX7_heightBy_11 : decode cX7_heightBy 11 = .ok (.getfield 123, 3) := by decide +kernel
theorem dX7_heightBy_14 : decode cX7_heightBy 14 = .ok (.if_icmp .ge 18, 3) := by decide +kernel
theorem dX7_heightBy_17 : decode cX7_heightBy 17 = .ok (.iload_n 2, 1) := by decide +kernel
theorem dX7_heightBy_18 : decode cX7_heightBy 18 = .ok (.aload_n 0, 1) := by decide +kernel
theorem dX7_heightBy_19 : decode cX7_heightBy 19 = .ok (.getfield 74, 3) := by decide +kernel
theorem dX7_heightBy_22 : decode cX7_heightBy 22 = .ok (.iload_n 3, 1) := by decide +kernel
theorem dX7_heightBy_23 : decode cX7_heightBy 23 = .ok (.iaload, 1) := by decide +kernel
theorem dX7_heightBy_24 : decode cX7_heightBy 24 = .ok (.iadd, 1) := by decide +kernel
theorem dX7_heightBy_25 : decode cX7_heightBy 25 = .ok (.istore_n 2, 1) := by decide +kernel
theorem dX7_heightBy_26 : decode cX7_heightBy 26 = .ok (.iinc 3 1, 3) := by decide +kernel
theorem dX7_heightBy_29 : decode cX7_heightBy 29 = .ok (.goto (-20), 3) := by decide +kernel
theorem dX7_heightBy_32 : decode cX7_heightBy 32 = .ok (.iload_n 2, 1) := by decide +kernel
theorem dX7_heightBy_33 : decode cX7_heightBy 33 = .ok (.ireturn, 1) := by decide +kernel
theorem dX7_next_0 : decode cX7_next 0 = .ok (.aload_n 0, 1) := by decide +kernel
theorem dX7_next_1 : decode cX7_next 1 = .ok (.getfield 126, 3) := by decide +kernel
theorem dX7_next_4 : decode cX7_next 4 = .ok (.iconst 1, 1) := by decide +kernel
theorem dX7_next_5 : decode cX7_next 5 = .ok (.isub, 1) := by decide +kernel
theorem dX7_next_6 : decode cX7_next 6 = .ok (.istore_n 1, 1) := by decide +kernel
theorem dX7_next_7 : decode cX7_next 7 = .ok (.iload_n 1, 1) := by decide +kernel
theorem dX7_next_8 : decode cX7_next 8 = .ok (.ifCond .le 24, 3) := by decide +kernel
theorem dX7_next_11 : decode cX7_next 11 = .ok (.aload_n 0, 1) := by decide +kernel
theorem dX7_next_12 : decode cX7_next 12 = .ok (.getfield 80, 3) := by decide +kernel
theorem dX7_next_15 : decode cX7_next 15 = .ok (.iload_n 1, 1) := by decide +kernel
theorem dX7_next_16 : decode cX7_next 16 = .ok (.iaload, 1) := by decide +kernel
theorem dX7_next_17 : decode cX7_next 17 = .ok (.aload_n 0, 1) := by decide +kernel
theorem dX7_next_18 : decode cX7_next 18 = .ok (.getfield 65, 3) := by decide +kernel
theorem dX7_next_21 : decode cX7_next 21 = .ok (.iload_n 1, 1) := by decide +kernel
theorem dX7_next_22 : decode cX7_next 22 = .ok (.iaload, 1) := by decide +kernel
theorem dX7_next_23 : decode cX7_next 23 = .ok (.if_icmp .ne 9, 3) := by decide +kernel
theorem dX7_next_26 : decode cX7_next 26 = .ok (.iinc 1 (-1), 3) := by decide +kernel
theorem dX7_next_29 : decode cX7_next 29 = .ok (.goto (-22), 3) := by decide +kernel
theorem dX7_next_32 : decode cX7_next 32 = .ok (.iload_n 1, 1) := by decide +kernel
theorem dX7_next_33 : decode cX7_next 33 = .ok (.ifCond .ne 5, 3) := by decide +kernel
theorem dX7_next_36 : decode cX7_next 36 = .ok (.iconst 0, 1) := by decide +kernel
theorem dX7_next_37 : decode cX7_next 37 = .ok (.ireturn, 1) := by decide +kernel
theorem dX7_next_38 : decode cX7_next 38 = .ok (.aload_n 0, 1) := by decide +kernel
theorem dX7_next_39 : decode cX7_next 39 = .ok (.getfield 80, 3) := by decide +kernel
theorem dX7_next_42 : decode cX7_next 42 = .ok (.iload_n 1, 1) := by decide +kernel
theorem dX7_next_43 : decode cX7_next 43 = .ok (.iaload, 1) := by decide +kernel
theorem dX7_next_44 : decode cX7_next 44 = .ok (.aload_n 0, 1) := by decide +kernel
theorem dX7_next_45 : decode cX7_next 45 = .ok (.getfield 65, 3) := by decide +kernel
theorem dX7_next_48 : decode cX7_next 48 = .ok (.iload_n 1, 1) := by decide +kernel
theorem dX7_next_49 : decode cX7_next 49 = .ok (.iaload, 1) := by decide +kernel
theorem dX7_next_50 : decode cX7_next 50 = .ok (.isub, 1) := by decide +kernel
theorem dX7_next_51 : decode cX7_next 51 = .ok (.iconst 1, 1) := by decide +kernel
theorem dX7_next_52 : decode cX7_next 52 = .ok (.isub, 1) := by decide +kernel
theorem dX7_next_53 : decode cX7_next 53 = .ok (.istore_n 2, 1) := by decide +kernel
theorem dX7_next_54 : decode cX7_next 54 = .ok (.aload_n 0, 1) := by decide +kernel
theorem dX7_next_55 : decode cX7_next 55 = .ok (.getfield 80, 3) := by decide +kernel
theorem dX7_next_58 : decode cX7_next 58 = .ok (.iload_n 1, 1) := by decide +kernel
theorem dX7_next_59 : decode cX7_next 59 = .ok (.aload_n 0, 1) := by decide +kernel
theorem dX7_next_60 : decode cX7_next 60 = .ok (.getfield 65, 3) := by decide +kernel
theorem dX7_next_63 : decode cX7_next 63 = .ok (.iload_n 1, 1) := by decide +kernel
theorem dX7_next_64 : decode cX7_next 64 = .ok (.iaload, 1) := by decide +kernel
theorem dX7_next_65 : decode cX7_next 65 = .ok (.iastore, 1) := by decide +kernel
theorem dX7_next_66 : decode cX7_next 66 = .ok (.aload_n 0, 1) := by decide +kernel
theorem dX7_next_67 : decode cX7_next 67 = .ok (.getfield 80, 3) := by decide +kernel
theorem dX7_next_70 : decode cX7_next 70 = .ok (.iload_n 1, 1) := by decide +kernel
theorem dX7_next_71 : decode cX7_next 71 = .ok (.iconst 1, 1) := by decide +kernel
theorem dX7_next_72 : decode cX7_next 72 = .ok (.isub, 1) := by decide +kernel
theorem dX7_next_73 : decode cX7_next 73 = .ok (.dup2, 1) := by decide +kernel
theorem dX7_next_74 : decode cX7_next 74 = .ok (.iaload, 1) := by decide +kernel
theorem dX7_next_75 : decode cX7_next 75 = .ok (.iconst 1, 1) := by decide +kernel
theorem dX7_next_76 : decode cX7_next 76 = .ok (.iadd, 1) := by decide +kernel
theorem dX7_next_77 : decode cX7_next 77 = .ok (.iastore, 1) := by decide +kernel
theorem dX7_next_78 : decode cX7_next 78 = .ok (.aload_n 0, 1) := by decide +kernel
theorem dX7_next_79 : decode cX7_next 79 = .ok (.getfield 80, 3) := by decide +kernel
theorem dX7_next_82 : decode cX7_next 82 = .ok (.aload_n 0, 1) := by decide +kernel
theorem dX7_next_83 : decode cX7_next 83 = .ok (.getfield 126, 3) := by decide +kernel
theorem dX7_next_86 : decode cX7_next 86 = .ok (.iconst 1, 1) := by decide +kernel
theorem dX7_next_87 : decode cX7_next 87 = .ok (.isub, 1) := by decide +kernel
theorem dX7_next_88 : decode cX7_next 88 = .ok (.dup2, 1) := by decide +kernel
theorem dX7_next_89 : decode cX7_next 89 = .ok (.iaload, 1) := by decide +kernel
theorem dX7_next_90 : decode cX7_next 90 = .ok (.iload_n 2, 1) := by decide +kernel
theorem dX7_next_91 : decode cX7_next 91 = .ok (.iadd, 1) := by decide +kernel
theorem dX7_next_92 : decode cX7_next 92 = .ok (.iastore, 1) := by decide +kernel
theorem dX7_next_93 : decode cX7_next 93 = .ok (.iconst 1, 1) := by decide +kernel
theorem dX7_next_94 : decode cX7_next 94 = .ok (.ireturn, 1) := by decide +kernel
theorem dX7_tight_0 : decode cX7_tight 0 = .ok (.iload_n 1, 1) := by decide +kernel
theorem dX7_tight_1 : decode cX7_tight 1 = .ok (.iconst 0, 1) := by decide +kernel
theorem dX7_tight_2 : decode cX7_tight 2 = .ok (.sipush 400, 3) := by decide +kernel
theorem dX7_tight_5 : decode cX7_tight 5 = .ok (.invokestatic 119, 3) := by decide +kernel
theorem dX7_tight_8 : decode cX7_tight 8 = .ok (.ifCond .eq 14, 3) := by decide +kernel
theorem dX7_tight_11 : decode cX7_tight 11 = .ok (.iload_n 2, 1) := by decide +kernel
theorem dX7_tight_12 : decode cX7_tight 12 = .ok (.iconst 1, 1) := by decide +kernel
theorem dX7_tight_13 : decode cX7_tight 13 = .ok (.sipush 20000, 3) := by decide +kernel
theorem dX7_tight_16 : decode cX7_tight 16 = .ok (.invokestatic 119, 3) := by decide +kernel
theorem dX7_tight_19 : decode cX7_tight 19 = .ok (.ifCond .ne 5, 3) := by decide +kernel
theorem dX7_tight_22 : decode cX7_tight 22 = .ok (.iconst (-1), 1) := by decide +kernel
theorem dX7_tight_23 : decode cX7_tight 23 = .ok (.ireturn, 1) := by decide +kernel
theorem dX7_tight_24 : decode cX7_tight 24 = .ok (.aload_n 0, 1) := by decide +kernel
theorem dX7_tight_25 : decode cX7_tight 25 = .ok (.invokevirtual 192, 3) := by decide +kernel
theorem dX7_tight_28 : decode cX7_tight 28 = .ok (.iload_n 1, 1) := by decide +kernel
theorem dX7_tight_29 : decode cX7_tight 29 = .ok (.aload_n 0, 1) := by decide +kernel
theorem dX7_tight_30 : decode cX7_tight 30 = .ok (.getfield 126, 3) := by decide +kernel
theorem dX7_tight_33 : decode cX7_tight 33 = .ok (.iconst 1, 1) := by decide +kernel
theorem dX7_tight_34 : decode cX7_tight 34 = .ok (.isub, 1) := by decide +kernel
theorem dX7_tight_35 : decode cX7_tight 35 = .ok (.aload_n 0, 1) := by decide +kernel
theorem dX7_tight_36 : decode cX7_tight 36 = .ok (.getfield 129, 3) := by decide +kernel
theorem dX7_tight_39 : decode cX7_tight 39 = .ok (.imul, 1) := by decide +kernel
theorem dX7_tight_40 : decode cX7_tight 40 = .ok (.isub, 1) := by decide +kernel
theorem dX7_tight_41 : decode cX7_tight 41 = .ok (.aload_n 0, 1) := by decide +kernel
theorem dX7_tight_42 : decode cX7_tight 42 = .ok (.aload_n 0, 1) := by decide +kernel
theorem dX7_tight_43 : decode cX7_tight 43 = .ok (.getfield 65, 3) := by decide +kernel
theorem dX7_tight_46 : decode cX7_tight 46 = .ok (.invokevirtual 195, 3) := by decide +kernel
theorem dX7_tight_49 : decode cX7_tight 49 = .ok (.isub, 1) := by decide +kernel
theorem dX7_tight_50 : decode cX7_tight 50 = .ok (.istore_n 3, 1) := by decide +kernel
theorem dX7_tight_51 : decode cX7_tight 51 = .ok (.iload_n 3, 1) := by decide +kernel
theorem dX7_tight_52 : decode cX7_tight 52 = .ok (.ifCond .ge 6, 3) := by decide +kernel
theorem dX7_tight_55 : decode cX7_tight 55 = .ok (.bipush (-4), 2) := by decide +kernel
theorem dX7_tight_57 : decode cX7_tight 57 = .ok (.ireturn, 1) := by decide +kernel
theorem dX7_tight_58 : decode cX7_tight 58 = .ok (.iconst 0, 1) := by decide +kernel
theorem dX7_tight_59 : decode cX7_tight 59 = .ok (.istore 4, 2) := by decide +kernel
theorem dX7_tight_61 : decode cX7_tight 61 = .ok (.iload 4, 2) := by decide +kernel
theorem dX7_tight_63 : decode cX7_tight 63 = .ok (.aload_n 0, 1) := by decide +kernel
theorem dX7_tight_64 : decode cX7_tight 64 = .ok (.getfield 126, 3) := by decide +kernel
theorem dX7_tight_67 : decode cX7_tight 67 = .ok (.if_icmp .ge 23, 3) := by decide +kernel
theorem dX7_tight_70 : decode cX7_tight 70 = .ok (.aload_n 0, 1) := by decide +kernel
theorem dX7_tight_71 : decode cX7_tight 71 = .ok (.getfield 80, 3) := by decide +kernel
theorem dX7_tight_74 : decode cX7_tight 74 = .ok (.iload 4, 2) := by decide +kernel
theorem dX7_tight_76 : decode cX7_tight 76 = .ok (.aload_n 0, 1) := by decide +kernel
theorem dX7_tight_77 : decode cX7_tight 77 = .ok (.getfield 65, 3) := by decide +kernel
theorem dX7_tight_80 : decode cX7_tight 80 = .ok (.iload 4, 2) := by decide +kernel
theorem dX7_tight_82 : decode cX7_tight 82 = .ok (.iaload, 1) := by decide +kernel
theorem dX7_tight_83 : decode cX7_tight 83 = .ok (.iastore, 1) := by decide +kernel
theorem dX7_tight_84 : decode cX7_tight 84 = .ok (.iinc 4 1, 3) := by decide +kernel
theorem dX7_tight_87 : decode cX7_tight 87 = .ok (.goto (-26), 3) := by decide +kernel
theorem dX7_tight_90 : decode cX7_tight 90 = .ok (.aload_n 0, 1) := by decide +kernel
theorem dX7_tight_91 : decode cX7_tight 91 = .ok (.getfield 80, 3) := by decide +kernel
theorem dX7_tight_94 : decode cX7_tight 94 = .ok (.aload_n 0, 1) := by decide +kernel
theorem dX7_tight_95 : decode cX7_tight 95 = .ok (.getfield 126, 3) := by decide +kernel
theorem dX7_tight_98 : decode cX7_tight 98 = .ok (.iconst 1, 1) := by decide +kernel
theorem dX7_tight_99 : decode cX7_tight 99 = .ok (.isub, 1) := by decide +kernel
theorem dX7_tight_100 : decode cX7_tight 100 = .ok (.dup2, 1) := by decide +kernel
theorem dX7_tight_101 : decode cX7_tight 101 = .ok (.iaload, 1) := by decide +kernel
theorem dX7_tight_102 : decode cX7_tight 102 = .ok (.iload_n 3, 1) := by decide +kernel
theorem dX7_tight_103 : decode cX7_tight 103 = .ok (.iadd, 1) := by decide +kernel
theorem dX7_tight_104 : decode cX7_tight 104 = .ok (.iastore, 1) := by decide +kernel
theorem dX7_tight_105 : decode cX7_tight 105 = .ok (.iconst 0, 1) := by decide +kernel
theorem dX7_tight_106 : decode cX7_tight 106 = .ok (.istore 4, 2) := by decide +kernel
theorem dX7_tight_108 : decode cX7_tight 108 = .ok (.aload_n 0, 1) := by decide +kernel
theorem dX7_tight_109 : decode cX7_tight 109 = .ok (.iconst 0, 1) := by decide +kernel
theorem dX7_tight_110 : decode cX7_tight 110 = .ok (.putfield 206, 3) := by decide +kernel
theorem dX7_tight_113 : decode cX7_tight 113 = .ok (.iconst 1, 1) := by decide +kernel
theorem dX7_tight_114 : decode cX7_tight 114 = .ok (.istore 5, 2) := by decide +kernel
theorem dX7_tight_116 : decode cX7_tight 116 = .ok (.iload 5, 2) := by decide +kernel
theorem dX7_tight_118 : decode cX7_tight 118 = .ok (.ifCond .eq 94, 3) := by decide +kernel
theorem dX7_tight_121 : decode cX7_tight 121 = .ok (.aload_n 0, 1) := by decide +kernel
theorem dX7_tight_122 : decode cX7_tight 122 = .ok (.getfield 206, 3) := by decide +kernel
theorem dX7_tight_125 : decode cX7_tight 125 = .ok (.iload_n 2, 1) := by decide +kernel
theorem dX7_tight_126 : decode cX7_tight 126 = .ok (.if_icmp .ne 6, 3) := by decide +kernel
theorem dX7_tight_129 : decode cX7_tight 129 = .ok (.bipush (-6), 2) := by decide +kernel
theorem dX7_tight_131 : decode cX7_tight 131 = .ok (.ireturn, 1) := by decide +kernel
theorem dX7_tight_132 : decode cX7_tight 132 = .ok (.aload_n 0, 1) := by decide +kernel
theorem dX7_tight_133 : decode cX7_tight 133 = .ok (.dup, 1) := by decide +kernel
theorem dX7_tight_134 : decode cX7_tight 134 = .ok (.getfield 206, 3) := by decide +kernel
theorem dX7_tight_137 : decode cX7_tight 137 = .ok (.iconst 1, 1) := by decide +kernel
theorem dX7_tight_138 : decode cX7_tight 138 = .ok (.iadd, 1) := by decide +kernel
theorem dX7_tight_139 : decode cX7_tight 139 = .ok (.putfield 206, 3) := by decide +kernel
theorem dX7_tight_142 : decode cX7_tight 142 = .ok (.aload_n 0, 1) := by decide +kernel
theorem dX7_tight_143 : decode cX7_tight 143 = .ok (.aload_n 0, 1) := by decide +kernel
theorem dX7_tight_144 : decode cX7_tight 144 = .ok (.getfield 80, 3) := by decide +kernel
theorem dX7_tight_147 : decode cX7_tight 147 = .ok (.invokevirtual 199, 3) := by decide +kernel
theorem dX7_tight_150 : decode cX7_tight 150 = .ok (.istore 6, 2) := by decide +kernel
theorem dX7_tight_152 : decode cX7_tight 152 = .ok (.aload_n 0, 1) := by decide +kernel
theorem dX7_tight_153 : decode cX7_tight 153 = .ok (.getfield 206, 3) := by decide +kernel
theorem dX7_tight_156 : decode cX7_tight 156 = .ok (.iconst 1, 1) := by decide +kernel
theorem dX7_tight_157 : decode cX7_tight 157 = .ok (.if_icmp .eq 10, 3) := by decide +kernel
theorem dX7_tight_160 : decode cX7_tight 160 = .ok (.iload 6, 2) := by decide +kernel
theorem dX7_tight_162 : decode cX7_tight 162 = .ok (.iload 4, 2) := by decide +kernel
theorem dX7_tight_164 : decode cX7_tight 164 = .ok (.if_icmp .ge 39, 3) := by decide +kernel
theorem dX7_tight_167 : decode cX7_tight 167 = .ok (.iload 6, 2) := by decide +kernel
theorem dX7_tight_169 : decode cX7_tight 169 = .ok (.istore 4, 2) := by decide +kernel
theorem dX7_tight_171 : decode cX7_tight 171 = .ok (.iconst 0, 1) := by decide +kernel
theorem dX7_tight_172 : decode cX7_tight 172 = .ok (.istore 7, 2) := by decide +kernel
theorem dX7_tight_174 : decode cX7_tight 174 = .ok (.iload 7, 2) := by decide +kernel
theorem dX7_tight_176 : decode cX7_tight 176 = .ok (.aload_n 0, 1) := by decide +kernel
theorem dX7_tight_177 : decode cX7_tight 177 = .ok (.getfield 126, 3) := by decide +kernel
theorem dX7_tight_180 : decode cX7_tight 180 = .ok (.if_icmp .ge 23, 3) := by decide +kernel
theorem dX7_tight_183 : decode cX7_tight 183 = .ok (.aload_n 0, 1) := by decide +kernel
theorem dX7_tight_184 : decode cX7_tight 184 = .ok (.getfield 83, 3) := by decide +kernel
theorem dX7_tight_187 : decode cX7_tight 187 = .ok (.iload 7, 2) := by decide +kernel
theorem dX7_tight_189 : decode cX7_tight 189 = .ok (.aload_n 0, 1) := by decide +kernel
theorem dX7_tight_190 : decode cX7_tight 190 = .ok (.getfield 80, 3) := by decide +kernel
theorem dX7_tight_193 : decode cX7_tight 193 = .ok (.iload 7, 2) := by decide +kernel
theorem dX7_tight_195 : decode cX7_tight 195 = .ok (.iaload, 1) := by decide +kernel
theorem dX7_tight_196 : decode cX7_tight 196 = .ok (.iastore, 1) := by decide +kernel
theorem dX7_tight_197 : decode cX7_tight 197 = .ok (.iinc 7 1, 3) := by decide +kernel
theorem dX7_tight_200 : decode cX7_tight 200 = .ok (.goto (-26), 3) := by decide +kernel
theorem dX7_tight_203 : decode cX7_tight 203 = .ok (.aload_n 0, 1) := by decide +kernel
theorem dX7_tight_204 : decode cX7_tight 204 = .ok (.invokevirtual 209, 3) := by decide +kernel
theorem dX7_tight_207 : decode cX7_tight 207 = .ok (.istore 5, 2) := by decide +kernel
theorem dX7_tight_209 : decode cX7_tight 209 = .ok (.goto (-93), 3) := by decide +kernel
theorem dX7_tight_212 : decode cX7_tight 212 = .ok (.iconst 0, 1) := by decide +kernel
theorem dX7_tight_213 : decode cX7_tight 213 = .ok (.istore 6, 2) := by decide +kernel
theorem dX7_tight_215 : decode cX7_tight 215 = .ok (.iload 6, 2) := by decide +kernel
theorem dX7_tight_217 : decode cX7_tight 217 = .ok (.aload_n 0, 1) := by decide +kernel
theorem dX7_tight_218 : decode cX7_tight 218 = .ok (.getfield 126, 3) := by decide +kernel
theorem dX7_tight_221 : decode cX7_tight 221 = .ok (.if_icmp .ge 23, 3) := by decide +kernel
theorem dX7_tight_224 : decode cX7_tight 224 = .ok (.aload_n 0, 1) := by decide +kernel
theorem dX7_tight_225 : decode cX7_tight 225 = .ok (.getfield 62, 3) := by decide +kernel
theorem dX7_tight_228 : decode cX7_tight 228 = .ok (.iload 6, 2) := by decide +kernel
theorem dX7_tight_230 : decode cX7_tight 230 = .ok (.aload_n 0, 1) := by decide +kernel
theorem dX7_tight_231 : decode cX7_tight 231 = .ok (.getfield 83, 3) := by decide +kernel
theorem dX7_tight_234 : decode cX7_tight 234 = .ok (.iload 6, 2) := by decide +kernel
theorem dX7_tight_236 : decode cX7_tight 236 = .ok (.iaload, 1) := by decide +kernel
theorem dX7_tight_237 : decode cX7_tight 237 = .ok (.iastore, 1) := by decide +kernel
theorem dX7_tight_238 : decode cX7_tight 238 = .ok (.iinc 6 1, 3) := by decide +kernel
theorem dX7_tight_241 : decode cX7_tight 241 = .ok (.goto (-26), 3) := by decide +kernel
theorem dX7_tight_244 : decode cX7_tight 244 = .ok (.iload 4, 2) := by decide +kernel
theorem dX7_tight_246 : decode cX7_tight 246 = .ok (.ireturn, 1) := by decide +kernel
theorem dX7_tries_0 : decode cX7_tries 0 = .ok (.aload_n 0, 1) := by decide +kernel
theorem dX7_tries_1 : decode cX7_tries 1 = .ok (.getfield 206, 3) := by decide +kernel
theorem dX7_tries_4 : decode cX7_tries 4 = .ok (.ireturn, 1) := by decide +kernel
theorem dX7_width_0 : decode cX7_width 0 = .ok (.aload_n 0, 1) := by decide +kernel
theorem dX7_width_1 : decode cX7_width 1 = .ok (.iload_n 1, 1) := by decide +kernel
theorem dX7_width_2 : decode cX7_width 2 = .ok (.invokevirtual 141, 3) := by decide +kernel
theorem dX7_width_5 : decode cX7_width 5 = .ok (.ifCond .eq 12, 3) := by decide +kernel
theorem dX7_width_8 : decode cX7_width 8 = .ok (.aload_n 0, 1) := by decide +kernel
theorem dX7_width_9 : decode cX7_width 9 = .ok (.getfield 62, 3) := by decide +kernel
theorem dX7_width_12 : decode cX7_width 12 = .ok (.iload_n 1, 1) := by decide +kernel
theorem dX7_width_13 : decode cX7_width 13 = .ok (.iaload, 1) := by decide +kernel
theorem dX7_width_14 : decode cX7_width 14 = .ok (.goto 4, 3) := by decide +kernel
theorem dX7_width_17 : decode cX7_width 17 = .ok (.iconst (-1), 1) := by decide +kernel
theorem dX7_width_18 : decode cX7_width 18 = .ok (.ireturn, 1) := by decide +kernel
theorem dX7_height_0 : decode cX7_height 0 = .ok (.aload_n 0, 1) := by decide +kernel
theorem dX7_height_1 : decode cX7_height 1 = .ok (.iload_n 1, 1) := by decide +kernel
theorem dX7_height_2 : decode cX7_height 2 = .ok (.invokevirtual 148, 3) := by decide +kernel
theorem dX7_height_5 : decode cX7_height 5 = .ok (.ifCond .ne 5, 3) := by decide +kernel
theorem dX7_height_8 : decode cX7_height 8 = .ok (.iconst (-1), 1) := by decide +kernel
theorem dX7_height_9 : decode cX7_height 9 = .ok (.ireturn, 1) := by decide +kernel
theorem dX7_height_10 : decode cX7_height 10 = .ok (.aload_n 0, 1) := by decide +kernel
theorem dX7_height_11 : decode cX7_height 11 = .ok (.aload_n 0, 1) := by decide +kernel
theorem dX7_height_12 : decode cX7_height 12 = .ok (.getfield 62, 3) := by decide +kernel
theorem dX7_height_15 : decode cX7_height 15 = .ok (.invokevirtual 202, 3) := by decide +kernel
theorem dX7_height_18 : decode cX7_height 18 = .ok (.aload_n 0, 1) := by decide +kernel
theorem dX7_height_19 : decode cX7_height 19 = .ok (.getfield 74, 3) := by decide +kernel
theorem dX7_height_22 : decode cX7_height 22 = .ok (.iload_n 1, 1) := by decide +kernel
theorem dX7_height_23 : decode cX7_height 23 = .ok (.iaload, 1) := by decide +kernel
theorem dX7_height_24 : decode cX7_height 24 = .ok (.ireturn, 1) := by decide +kernel
theorem dX7_headRows_0 : decode cX7_headRows 0 = .ok (.iconst 0, 1) := by decide +kernel
theorem dX7_headRows_1 : decode cX7_headRows 1 = .ok (.istore_n 1, 1) := by decide +kernel
theorem dX7_headRows_2 : decode cX7_headRows 2 = .ok (.iconst 1, 1) := by decide +kernel
theorem dX7_headRows_3 : decode cX7_headRows 3 = .ok (.istore_n 2, 1) := by decide +kernel
theorem dX7_headRows_4 : decode cX7_headRows 4 = .ok (.iconst 0, 1) := by decide +kernel
theorem dX7_headRows_5 : decode cX7_headRows 5 = .ok (.istore_n 3, 1) := by decide +kernel
theorem dX7_headRows_6 : decode cX7_headRows 6 = .ok (.iload_n 3, 1) := by decide +kernel
theorem dX7_headRows_7 : decode cX7_headRows 7 = .ok (.aload_n 0, 1) := by decide +kernel
theorem dX7_headRows_8 : decode cX7_headRows 8 = .ok (.getfield 123, 3) := by decide +kernel
theorem dX7_headRows_11 : decode cX7_headRows 11 = .ok (.if_icmp .ge 82, 3) := by decide +kernel
theorem dX7_headRows_14 : decode cX7_headRows 14 = .ok (.iload_n 2, 1) := by decide +kernel
theorem dX7_headRows_15 : decode cX7_headRows 15 = .ok (.ifCond .eq 78, 3) := by decide +kernel
theorem dX7_headRows_18 : decode cX7_headRows 18 = .ok (.iconst 0, 1) := by decide +kernel
theorem dX7_headRows_19 : decode cX7_headRows 19 = .ok (.istore_n 2, 1) := by decide +kernel
theorem dX7_headRows_20 : decode cX7_headRows 20 = .ok (.iconst 0, 1) := by decide +kernel
theorem dX7_headRows_21 : decode cX7_headRows 21 = .ok (.istore 4, 2) := by decide +kernel
theorem dX7_headRows_23 : decode cX7_headRows 23 = .ok (.iload 4, 2) := by decide +kernel
theorem dX7_headRows_25 : decode cX7_headRows 25 = .ok (.aload_n 0, 1) := by decide +kernel
theorem dX7_headRows_26 : decode cX7_headRows 26 = .ok (.getfield 126, 3) := by decide +kernel
theorem dX7_headRows_29 : decode cX7_headRows 29 = .ok (.if_icmp .ge 46, 3) := by decide +kernel
theorem dX7_headRows_32 : decode cX7_headRows 32 = .ok (.aload_n 0, 1) := by decide +kernel
theorem dX7_headRows_33 : decode cX7_headRows 33 = .ok (.iload_n 3, 1) := by decide +kernel
theorem dX7_headRows_34 : decode cX7_headRows 34 = .ok (.iload 4, 2) := by decide +kernel
theorem dX7_headRows_36 : decode cX7_headRows 36 = .ok (.invokevirtual 155, 3) := by decide +kernel
theorem dX7_headRows_39 : decode cX7_headRows 39 = .ok (.istore 5, 2) := by decide +kernel
theorem dX7_headRows_41 : decode cX7_headRows 41 = .ok (.iload_n 2, 1) := by decide +kernel
theorem dX7_headRows_42 : decode cX7_headRows 42 = .ok (.ifCond .ne 21, 3) := by decide +kernel
theorem dX7_headRows_45 : decode cX7_headRows 45 = .ok (.iload 5, 2) := by decide +kernel
theorem dX7_headRows_47 : decode cX7_headRows 47 = .ok (.bipush (-9), 2) := by decide +kernel
theorem dX7_headRows_49 : decode cX7_headRows 49 = .ok (.if_icmp .eq 18, 3) := by decide +kernel
theorem dX7_headRows_52 : decode cX7_headRows 52 = .ok (.aload_n 0, 1) := by decide +kernel
theorem dX7_headRows_53 : decode cX7_headRows 53 = .ok (.getfield 19, 3) := by decide +kernel
theorem dX7_headRows_56 : decode cX7_headRows 56 = .ok (.iload 5, 2) := by decide +kernel
theorem dX7_headRows_58 : decode cX7_headRows 58 = .ok (.iaload, 1) := by decide +kernel
theorem dX7_headRows_59 : decode cX7_headRows 59 = .ok (.iconst 1, 1) := by decide +kernel
theorem dX7_headRows_60 : decode cX7_headRows 60 = .ok (.if_icmp .ne 7, 3) := by decide +kernel
theorem dX7_headRows_63 : decode cX7_headRows 63 = .ok (.iconst 1, 1) := by decide +kernel
theorem dX7_headRows_64 : decode cX7_headRows 64 = .ok (.goto 4, 3) := by decide +kernel
theorem dX7_headRows_67 : decode cX7_headRows 67 = .ok (.iconst 0, 1) := by decide +kernel
theorem dX7_headRows_68 : decode cX7_headRows 68 = .ok (.istore_n 2, 1) := by decide +kernel
theorem dX7_headRows_69 : decode cX7_headRows 69 = .ok (.iinc 4 1, 3) := by decide +kernel
theorem dX7_headRows_72 : decode cX7_headRows 72 = .ok (.goto (-49), 3) := by decide +kernel
theorem dX7_headRows_75 : decode cX7_headRows 75 = .ok (.iload_n 1, 1) := by decide +kernel
theorem dX7_headRows_76 : decode cX7_headRows 76 = .ok (.iload_n 2, 1) := by decide +kernel
theorem dX7_headRows_77 : decode cX7_headRows 77 = .ok (.ifCond .eq 7, 3) := by decide +kernel
theorem dX7_headRows_80 : decode cX7_headRows 80 = .ok (.iconst 1, 1) := by decide +kernel
theorem dX7_headRows_81 : decode cX7_headRows 81 = .ok (.goto 4, 3) := by decide +kernel
theorem dX7_headRows_84 : decode cX7_headRows 84 = .ok (.iconst 0, 1) := by decide +kernel
theorem dX7_headRows_85 : decode cX7_headRows 85 = .ok (.iadd, 1) := by decide +kernel
theorem dX7_headRows_86 : decode cX7_headRows 86 = .ok (.istore_n 1, 1) := by decide +kernel
theorem dX7_headRows_87 : decode cX7_headRows 87 = .ok (.iinc 3 1, 3) := by decide +kernel
theorem dX7_headRows_90 : decode cX7_headRows 90 = .ok (.goto (-84), 3) := by decide +kernel
theorem dX7_headRows_93 : decode cX7_headRows 93 = .ok (.iload_n 1, 1) := by decide +kernel
theorem dX7_headRows_94 : decode cX7_headRows 94 = .ok (.ireturn, 1) := by decide +kernel
theorem dX7_mayBreakAt_0 : decode cX7_mayBreakAt 0 = .ok (.iload_n 1, 1) := by decide +kernel
theorem dX7_mayBreakAt_1 : decode cX7_mayBreakAt 1 = .ok (.aload_n 0, 1) := by decide +kernel
theorem dX7_mayBreakAt_2 : decode cX7_mayBreakAt 2 = .ok (.invokevirtual 213, 3) := by decide +kernel
theorem dX7_mayBreakAt_5 : decode cX7_mayBreakAt 5 = .ok (.if_icmp .gt 5, 3) := by decide +kernel
theorem dX7_mayBreakAt_8 : decode cX7_mayBreakAt 8 = .ok (.iconst 0, 1) := by decide +kernel
theorem dX7_mayBreakAt_9 : decode cX7_mayBreakAt 9 = .ok (.ireturn, 1) := by decide +kernel
theorem dX7_mayBreakAt_10 : decode cX7_mayBreakAt 10 = .ok (.iconst 1, 1) := by decide +kernel
theorem dX7_mayBreakAt_11 : decode cX7_mayBreakAt 11 = .ok (.istore_n 2, 1) := by decide +kernel
theorem dX7_mayBreakAt_12 : decode cX7_mayBreakAt 12 = .ok (.iconst 0, 1) := by decide +kernel
theorem dX7_mayBreakAt_13 : decode cX7_mayBreakAt 13 = .ok (.istore_n 3, 1) := by decide +kernel
theorem dX7_mayBreakAt_14 : decode cX7_mayBreakAt 14 = .ok (.iload_n 3, 1) := by decide +kernel
theorem dX7_mayBreakAt_15 : decode cX7_mayBreakAt 15 = .ok (.aload_n 0, 1) := by decide +kernel
theorem dX7_mayBreakAt_16 : decode cX7_mayBreakAt 16 = .ok (.getfield 126, 3) := by decide +kernel
theorem dX7_mayBreakAt_19 : decode cX7_mayBreakAt 19 = .ok (.if_icmp .ge 58, 3) := by decide +kernel
theorem dX7_mayBreakAt_22 : decode cX7_mayBreakAt 22 = .ok (.iload_n 2, 1) := by decide +kernel
theorem dX7_mayBreakAt_23 : decode cX7_mayBreakAt 23 = .ok (.ifCond .eq 54, 3) := by decide +kernel
theorem dX7_mayBreakAt_26 : decode cX7_mayBreakAt 26 = .ok (.aload_n 0, 1) := by decide +kernel
theorem dX7_mayBreakAt_27 : decode cX7_mayBreakAt 27 = .ok (.iload_n 1, 1) := by decide +kernel
theorem dX7_mayBreakAt_28 : decode cX7_mayBreakAt 28 = .ok (.iload_n 3, 1) := by decide +kernel
theorem dX7_mayBreakAt_29 : decode cX7_mayBreakAt 29 = .ok (.invokevirtual 155, 3) := by decide +kernel
theorem dX7_mayBreakAt_32 : decode cX7_mayBreakAt 32 = .ok (.istore 4, 2) := by decide +kernel
theorem dX7_mayBreakAt_34 : decode cX7_mayBreakAt 34 = .ok (.iload 4, 2) := by decide +kernel
theorem dX7_mayBreakAt_36 : decode cX7_mayBreakAt 36 = .ok (.bipush (-9), 2) := by decide +kernel
theorem dX7_mayBreakAt_38 : decode cX7_mayBreakAt 38 = .ok (.if_icmp .eq 27, 3) := by decide +kernel
theorem dX7_mayBreakAt_41 : decode cX7_mayBreakAt 41 = .ok (.aload_n 0, 1) := by decide +kernel
theorem dX7_mayBreakAt_42 : decode cX7_mayBreakAt 42 = .ok (.getfield 19, 3) := by decide +kernel
theorem dX7_mayBreakAt_45 : decode cX7_mayBreakAt 45 = .ok (.iload 4, 2) := by decide +kernel
theorem dX7_mayBreakAt_47 : decode cX7_mayBreakAt 47 = .ok (.iaload, 1) := by decide +kernel
theorem dX7_mayBreakAt_48 : decode cX7_mayBreakAt 48 = .ok (.iconst 3, 1) := by decide +kernel
theorem dX7_mayBreakAt_49 : decode cX7_mayBreakAt 49 = .ok (.if_icmp .eq 16, 3) := by decide +kernel
theorem dX7_mayBreakAt_52 : decode cX7_mayBreakAt 52 = .ok (.aload_n 0, 1) := by decide +kernel
theorem dX7_mayBreakAt_53 : decode cX7_mayBreakAt 53 = .ok (.iload_n 1, 1) := by decide +kernel
theorem dX7_mayBreakAt_54 : decode cX7_mayBreakAt 54 = .ok (.iconst 1, 1) := by decide +kernel
theorem dX7_mayBreakAt_55 : decode cX7_mayBreakAt 55 = .ok (.isub, 1) := by decide +kernel
theorem dX7_mayBreakAt_56 : decode cX7_mayBreakAt 56 = .ok (.iload_n 3, 1) := by decide +kernel
theorem dX7_mayBreakAt_57 : decode cX7_mayBreakAt 57 = .ok (.invokevirtual 155, 3) := by decide +kernel
theorem dX7_mayBreakAt_60 : decode cX7_mayBreakAt 60 = .ok (.iload 4, 2) := by decide +kernel
theorem dX7_mayBreakAt_62 : decode cX7_mayBreakAt 62 = .ok (.if_icmp .eq 7, 3) := by decide +kernel
theorem dX7_mayBreakAt_65 : decode cX7_mayBreakAt 65 = .ok (.iconst 1, 1) := by decide +kernel
theorem dX7_mayBreakAt_66 : decode cX7_mayBreakAt 66 = .ok (.goto 4, 3) := by decide +kernel
theorem dX7_mayBreakAt_69 : decode cX7_mayBreakAt 69 = .ok (.iconst 0, 1) := by decide +kernel
theorem dX7_mayBreakAt_70 : decode cX7_mayBreakAt 70 = .ok (.istore_n 2, 1) := by decide +kernel
theorem dX7_mayBreakAt_71 : decode cX7_mayBreakAt 71 = .ok (.iinc 3 1, 3) := by decide +kernel
theorem dX7_mayBreakAt_74 : decode cX7_mayBreakAt 74 = .ok (.goto (-60), 3) := by decide +kernel
theorem dX7_mayBreakAt_77 : decode cX7_mayBreakAt 77 = .ok (.iload_n 2, 1) := by decide +kernel
theorem dX7_mayBreakAt_78 : decode cX7_mayBreakAt 78 = .ok (.ireturn, 1) := by decide +kernel
theorem dX7_mayBreak_0 : decode cX7_mayBreak 0 = .ok (.aload_n 0, 1) := by decide +kernel
theorem dX7_mayBreak_1 : decode cX7_mayBreak 1 = .ok (.iload_n 1, 1) := by decide +kernel
theorem dX7_mayBreak_2 : decode cX7_mayBreak 2 = .ok (.invokevirtual 148, 3) := by decide +kernel
theorem dX7_mayBreak_5 : decode cX7_mayBreak 5 = .ok (.ifCond .eq 19, 3) := by decide +kernel
theorem dX7_mayBreak_8 : decode cX7_mayBreak 8 = .ok (.aload_n 0, 1) := by decide +kernel
theorem dX7_mayBreak_9 : decode cX7_mayBreak 9 = .ok (.iload_n 1, 1) := by decide +kernel
theorem dX7_mayBreak_10 : decode cX7_mayBreak 10 = .ok (.invokevirtual 217, 3) := by decide +kernel
theorem dX7_mayBreak_13 : decode cX7_mayBreak 13 = .ok (.ifCond .eq 7, 3) := by decide +kernel
theorem dX7_mayBreak_16 : decode cX7_mayBreak 16 = .ok (.iconst 1, 1) := by decide +kernel
theorem dX7_mayBreak_17 : decode cX7_mayBreak 17 = .ok (.goto 8, 3) := by decide +kernel
theorem dX7_mayBreak_20 : decode cX7_mayBreak 20 = .ok (.iconst 0, 1) := by decide +kernel
theorem dX7_mayBreak_21 : decode cX7_mayBreak 21 = .ok (.goto 4, 3) := by decide +kernel
theorem dX7_mayBreak_24 : decode cX7_mayBreak 24 = .ok (.iconst (-1), 1) := by decide +kernel
theorem dX7_mayBreak_25 : decode cX7_mayBreak 25 = .ok (.ireturn, 1) := by decide +kernel
theorem dX7_homeOf_0 : decode cX7_homeOf 0 = .ok (.bipush (-9), 2) := by decide +kernel
theorem dX7_homeOf_2 : decode cX7_homeOf 2 = .ok (.istore_n 3, 1) := by decide +kernel
theorem dX7_homeOf_3 : decode cX7_homeOf 3 = .ok (.iconst 0, 1) := by decide +kernel
theorem dX7_homeOf_4 : decode cX7_homeOf 4 = .ok (.istore 4, 2) := by decide +kernel
theorem dX7_homeOf_6 : decode cX7_homeOf 6 = .ok (.iload 4, 2) := by decide +kernel
theorem dX7_homeOf_8 : decode cX7_homeOf 8 = .ok (.aload_n 0, 1) := by decide +kernel
theorem dX7_homeOf_9 : decode cX7_homeOf 9 = .ok (.getfield 132, 3) := by decide +kernel
theorem dX7_homeOf_12 : decode cX7_homeOf 12 = .ok (.if_icmp .ge 77, 3) := by decide +kernel
theorem dX7_homeOf_15 : decode cX7_homeOf 15 = .ok (.aload_n 0, 1) := by decide +kernel
theorem dX7_homeOf_16 : decode cX7_homeOf 16 = .ok (.getfield 34, 3) := by decide +kernel
theorem dX7_homeOf_19 : decode cX7_homeOf 19 = .ok (.iload 4, 2) := by decide +kernel
theorem dX7_homeOf_21 : decode cX7_homeOf 21 = .ok (.baload, 1) := by decide +kernel
theorem dX7_homeOf_22 : decode cX7_homeOf 22 = .ok (.ifCond .ne 61, 3) := by decide +kernel
theorem dX7_homeOf_25 : decode cX7_homeOf 25 = .ok (.aload_n 0, 1) := by decide +kernel
theorem dX7_homeOf_26 : decode cX7_homeOf 26 = .ok (.getfield 44, 3) := by decide +kernel
theorem dX7_homeOf_29 : decode cX7_homeOf 29 = .ok (.iload 4, 2) := by decide +kernel
theorem dX7_homeOf_31 : decode cX7_homeOf 31 = .ok (.iaload, 1) := by decide +kernel
theorem dX7_homeOf_32 : decode cX7_homeOf 32 = .ok (.iload_n 1, 1) := by decide +kernel
theorem dX7_homeOf_33 : decode cX7_homeOf 33 = .ok (.ishr, 1) := by decide +kernel
theorem dX7_homeOf_34 : decode cX7_homeOf 34 = .ok (.iconst 1, 1) := by decide +kernel
theorem dX7_homeOf_35 : decode cX7_homeOf 35 = .ok (.iand, 1) := by decide +kernel
theorem dX7_homeOf_36 : decode cX7_homeOf 36 = .ok (.iconst 1, 1) := by decide +kernel
theorem dX7_homeOf_37 : decode cX7_homeOf 37 = .ok (.if_icmp .ne 46, 3) := by decide +kernel
theorem dX7_homeOf_40 : decode cX7_homeOf 40 = .ok (.aload_n 0, 1) := by decide +kernel
theorem dX7_homeOf_41 : decode cX7_homeOf 41 = .ok (.getfield 22, 3) := by decide +kernel
theorem dX7_homeOf_44 : decode cX7_homeOf 44 = .ok (.iload 4, 2) := by decide +kernel
theorem dX7_homeOf_46 : decode cX7_homeOf 46 = .ok (.iaload, 1) := by decide +kernel
theorem dX7_homeOf_47 : decode cX7_homeOf 47 = .ok (.iload_n 2, 1) := by decide +kernel
theorem dX7_homeOf_48 : decode cX7_homeOf 48 = .ok (.if_icmp .ge 7, 3) := by decide +kernel
theorem dX7_homeOf_51 : decode cX7_homeOf 51 = .ok (.iload_n 2, 1) := by decide +kernel
theorem dX7_homeOf_52 : decode cX7_homeOf 52 = .ok (.goto 10, 3) := by decide +kernel
theorem dX7_homeOf_55 : decode cX7_homeOf 55 = .ok (.aload_n 0, 1) := by decide +kernel
theorem dX7_homeOf_56 : decode cX7_homeOf 56 = .ok (.getfield 22, 3) := by decide +kernel
theorem dX7_homeOf_59 : decode cX7_homeOf 59 = .ok (.iload 4, 2) := by decide +kernel
theorem dX7_homeOf_61 : decode cX7_homeOf 61 = .ok (.iaload, 1) := by decide +kernel
theorem dX7_homeOf_62 : decode cX7_homeOf 62 = .ok (.istore 5, 2) := by decide +kernel
theorem dX7_homeOf_64 : decode cX7_homeOf 64 = .ok (.iload_n 3, 1) := by decide +kernel
theorem dX7_homeOf_65 : decode cX7_homeOf 65 = .ok (.bipush (-9), 2) := by decide +kernel
theorem dX7_homeOf_67 : decode cX7_homeOf 67 = .ok (.if_icmp .eq 9, 3) := by decide +kernel
theorem dX7_homeOf_70 : decode cX7_homeOf 70 = .ok (.iload 5, 2) := by decide +kernel
theorem dX7_homeOf_72 : decode cX7_homeOf 72 = .ok (.iload_n 3, 1) := by decide +kernel
theorem dX7_homeOf_73 : decode cX7_homeOf 73 = .ok (.if_icmp .ge 8, 3) := by decide +kernel
theorem dX7_homeOf_76 : decode cX7_homeOf 76 = .ok (.iload 5, 2) := by decide +kernel
theorem dX7_homeOf_78 : decode cX7_homeOf 78 = .ok (.goto 4, 3) := by decide +kernel
theorem dX7_homeOf_81 : decode cX7_homeOf 81 = .ok (.iload_n 3, 1) := by decide +kernel
theorem dX7_homeOf_82 : decode cX7_homeOf 82 = .ok (.istore_n 3, 1) := by decide +kernel
theorem dX7_homeOf_83 : decode cX7_homeOf 83 = .ok (.iinc 4 1, 3) := by decide +kernel
theorem dX7_homeOf_86 : decode cX7_homeOf 86 = .ok (.goto (-80), 3) := by decide +kernel
theorem dX7_homeOf_89 : decode cX7_homeOf 89 = .ok (.iload_n 3, 1) := by decide +kernel
theorem dX7_homeOf_90 : decode cX7_homeOf 90 = .ok (.ireturn, 1) := by decide +kernel
theorem dX7_notesOn_0 : decode cX7_notesOn 0 = .ok (.iconst 0, 1) := by decide +kernel
theorem dX7_notesOn_1 : decode cX7_notesOn 1 = .ok (.istore 4, 2) := by decide +kernel
theorem dX7_notesOn_3 : decode cX7_notesOn 3 = .ok (.iconst 0, 1) := by decide +kernel
theorem dX7_notesOn_4 : decode cX7_notesOn 4 = .ok (.istore 5, 2) := by decide +kernel
theorem dX7_notesOn_6 : decode cX7_notesOn 6 = .ok (.iload 5, 2) := by decide +kernel
theorem dX7_notesOn_8 : decode cX7_notesOn 8 = .ok (.bipush 10, 2) := by decide +kernel
theorem dX7_notesOn_10 : decode cX7_notesOn 10 = .ok (.if_icmp .ge 50, 3) := by decide +kernel
theorem dX7_notesOn_13 : decode cX7_notesOn 13 = .ok (.aload_n 0, 1) := by decide +kernel
theorem dX7_notesOn_14 : decode cX7_notesOn 14 = .ok (.iload 5, 2) := by decide +kernel
theorem dX7_notesOn_16 : decode cX7_notesOn 16 = .ok (.iload_n 3, 1) := by decide +kernel
theorem dX7_notesOn_17 : decode cX7_notesOn 17 = .ok (.invokevirtual 220, 3) := by decide +kernel
theorem dX7_notesOn_20 : decode cX7_notesOn 20 = .ok (.istore 6, 2) := by decide +kernel
theorem dX7_notesOn_22 : decode cX7_notesOn 22 = .ok (.iload 4, 2) := by decide +kernel
theorem dX7_notesOn_24 : decode cX7_notesOn 24 = .ok (.iload 6, 2) := by decide +kernel
theorem dX7_notesOn_26 : decode cX7_notesOn 26 = .ok (.bipush (-9), 2) := by decide +kernel
theorem dX7_notesOn_28 : decode cX7_notesOn 28 = .ok (.if_icmp .eq 22, 3) := by decide +kernel
theorem dX7_notesOn_31 : decode cX7_notesOn 31 = .ok (.iload 6, 2) := by decide +kernel
theorem dX7_notesOn_33 : decode cX7_notesOn 33 = .ok (.iload_n 1, 1) := by decide +kernel
theorem dX7_notesOn_34 : decode cX7_notesOn 34 = .ok (.if_icmp .lt 16, 3) := by decide +kernel
theorem dX7_notesOn_37 : decode cX7_notesOn 37 = .ok (.iload 6, 2) := by decide +kernel
theorem dX7_notesOn_39 : decode cX7_notesOn 39 = .ok (.iload_n 2, 1) := by decide +kernel
theorem dX7_notesOn_40 : decode cX7_notesOn 40 = .ok (.if_icmp .ge 10, 3) := by decide +kernel
theorem dX7_notesOn_43 : decode cX7_notesOn 43 = .ok (.iconst 1, 1) := by decide +kernel
theorem dX7_notesOn_44 : decode cX7_notesOn 44 = .ok (.iload 5, 2) := by decide +kernel
theorem dX7_notesOn_46 : decode cX7_notesOn 46 = .ok (.ishl, 1) := by decide +kernel
theorem dX7_notesOn_47 : decode cX7_notesOn 47 = .ok (.goto 4, 3) := by decide +kernel
theorem dX7_notesOn_50 : decode cX7_notesOn 50 = .ok (.iconst 0, 1) := by decide +kernel
theorem dX7_notesOn_51 : decode cX7_notesOn 51 = .ok (.ior, 1) := by decide +kernel
theorem dX7_notesOn_52 : decode cX7_notesOn 52 = .ok (.istore 4, 2) := by decide +kernel
theorem dX7_notesOn_54 : decode cX7_notesOn 54 = .ok (.iinc 5 1, 3) := by decide +kernel
theorem dX7_notesOn_57 : decode cX7_notesOn 57 = .ok (.goto (-51), 3) := by decide +kernel
theorem dX7_notesOn_60 : decode cX7_notesOn 60 = .ok (.iload 4, 2) := by decide +kernel
theorem dX7_notesOn_62 : decode cX7_notesOn 62 = .ok (.ireturn, 1) := by decide +kernel
theorem dX7_emptyOf_0 : decode cX7_emptyOf 0 = .ok (.iload_n 1, 1) := by decide +kernel
theorem dX7_emptyOf_1 : decode cX7_emptyOf 1 = .ok (.istore 5, 2) := by decide +kernel
theorem dX7_emptyOf_3 : decode cX7_emptyOf 3 = .ok (.iconst 0, 1) := by decide +kernel
theorem dX7_emptyOf_4 : decode cX7_emptyOf 4 = .ok (.istore 6, 2) := by decide +kernel
theorem dX7_emptyOf_6 : decode cX7_emptyOf 6 = .ok (.iload 6, 2) := by decide +kernel
theorem dX7_emptyOf_8 : decode cX7_emptyOf 8 = .ok (.iload 4, 2) := by decide +kernel
theorem dX7_emptyOf_10 : decode cX7_emptyOf 10 = .ok (.if_icmp .ge 21, 3) := by decide +kernel
theorem dX7_emptyOf_13 : decode cX7_emptyOf 13 = .ok (.iload 5, 2) := by decide +kernel
theorem dX7_emptyOf_15 : decode cX7_emptyOf 15 = .ok (.aload_n 0, 1) := by decide +kernel
theorem dX7_emptyOf_16 : decode cX7_emptyOf 16 = .ok (.getfield 74, 3) := by decide +kernel
theorem dX7_emptyOf_19 : decode cX7_emptyOf 19 = .ok (.iload 6, 2) := by decide +kernel
theorem dX7_emptyOf_21 : decode cX7_emptyOf 21 = .ok (.iaload, 1) := by decide +kernel
theorem dX7_emptyOf_22 : decode cX7_emptyOf 22 = .ok (.isub, 1) := by decide +kernel
theorem dX7_emptyOf_23 : decode cX7_emptyOf 23 = .ok (.istore 5, 2) := by decide +kernel
theorem dX7_emptyOf_25 : decode cX7_emptyOf 25 = .ok (.iinc 6 1, 3) := by decide +kernel
theorem dX7_emptyOf_28 : decode cX7_emptyOf 28 = .ok (.goto (-22), 3) := by decide +kernel
theorem dX7_emptyOf_31 : decode cX7_emptyOf 31 = .ok (.iload_n 2, 1) := by decide +kernel
theorem dX7_emptyOf_32 : decode cX7_emptyOf 32 = .ok (.istore 6, 2) := by decide +kernel
theorem dX7_emptyOf_34 : decode cX7_emptyOf 34 = .ok (.iload 6, 2) := by decide +kernel
theorem dX7_emptyOf_36 : decode cX7_emptyOf 36 = .ok (.iload_n 3, 1) := by decide +kernel
theorem dX7_emptyOf_37 : decode cX7_emptyOf 37 = .ok (.if_icmp .ge 21, 3) := by decide +kernel
theorem dX7_emptyOf_40 : decode cX7_emptyOf 40 = .ok (.iload 5, 2) := by decide +kernel
theorem dX7_emptyOf_42 : decode cX7_emptyOf 42 = .ok (.aload_n 0, 1) := by decide +kernel
theorem dX7_emptyOf_43 : decode cX7_emptyOf 43 = .ok (.getfield 74, 3) := by decide +kernel
theorem dX7_emptyOf_46 : decode cX7_emptyOf 46 = .ok (.iload 6, 2) := by decide +kernel
theorem dX7_emptyOf_48 : decode cX7_emptyOf 48 = .ok (.iaload, 1) := by decide +kernel
theorem dX7_emptyOf_49 : decode cX7_emptyOf 49 = .ok (.isub, 1) := by decide +kernel
theorem dX7_emptyOf_50 : decode cX7_emptyOf 50 = .ok (.istore 5, 2) := by decide +kernel
theorem dX7_emptyOf_52 : decode cX7_emptyOf 52 = .ok (.iinc 6 1, 3) := by decide +kernel
theorem dX7_emptyOf_55 : decode cX7_emptyOf 55 = .ok (.goto (-21), 3) := by decide +kernel
theorem dX7_emptyOf_58 : decode cX7_emptyOf 58 = .ok (.aload_n 0, 1) := by decide +kernel
theorem dX7_emptyOf_59 : decode cX7_emptyOf 59 = .ok (.iload_n 2, 1) := by decide +kernel
theorem dX7_emptyOf_60 : decode cX7_emptyOf 60 = .ok (.iload_n 3, 1) := by decide +kernel
theorem dX7_emptyOf_61 : decode cX7_emptyOf 61 = .ok (.iload 4, 2) := by decide +kernel
theorem dX7_emptyOf_63 : decode cX7_emptyOf 63 = .ok (.invokevirtual 223, 3) := by decide +kernel
theorem dX7_emptyOf_66 : decode cX7_emptyOf 66 = .ok (.istore 6, 2) := by decide +kernel
theorem dX7_emptyOf_68 : decode cX7_emptyOf 68 = .ok (.iconst 0, 1) := by decide +kernel
theorem dX7_emptyOf_69 : decode cX7_emptyOf 69 = .ok (.istore 7, 2) := by decide +kernel
theorem dX7_emptyOf_71 : decode cX7_emptyOf 71 = .ok (.iload 7, 2) := by decide +kernel
theorem dX7_emptyOf_73 : decode cX7_emptyOf 73 = .ok (.bipush 10, 2) := by decide +kernel
theorem dX7_emptyOf_75 : decode cX7_emptyOf 75 = .ok (.if_icmp .ge 36, 3) := by decide +kernel
theorem dX7_emptyOf_78 : decode cX7_emptyOf 78 = .ok (.iload 5, 2) := by decide +kernel
theorem dX7_emptyOf_80 : decode cX7_emptyOf 80 = .ok (.iload 6, 2) := by decide +kernel
theorem dX7_emptyOf_82 : decode cX7_emptyOf 82 = .ok (.iload 7, 2) := by decide +kernel
theorem dX7_emptyOf_84 : decode cX7_emptyOf 84 = .ok (.ishr, 1) := by decide +kernel
theorem dX7_emptyOf_85 : decode cX7_emptyOf 85 = .ok (.iconst 1, 1) := by decide +kernel
theorem dX7_emptyOf_86 : decode cX7_emptyOf 86 = .ok (.iand, 1) := by decide +kernel
theorem dX7_emptyOf_87 : decode cX7_emptyOf 87 = .ok (.iconst 1, 1) := by decide +kernel
theorem dX7_emptyOf_88 : decode cX7_emptyOf 88 = .ok (.if_icmp .ne 13, 3) := by decide +kernel
theorem dX7_emptyOf_91 : decode cX7_emptyOf 91 = .ok (.aload_n 0, 1) := by decide +kernel
theorem dX7_emptyOf_92 : decode cX7_emptyOf 92 = .ok (.getfield 16, 3) := by decide +kernel
theorem dX7_emptyOf_95 : decode cX7_emptyOf 95 = .ok (.iload 7, 2) := by decide +kernel
theorem dX7_emptyOf_97 : decode cX7_emptyOf 97 = .ok (.iaload, 1) := by decide +kernel
theorem dX7_emptyOf_98 : decode cX7_emptyOf 98 = .ok (.goto 4, 3) := by decide +kernel
theorem dX7_emptyOf_101 : decode cX7_emptyOf 101 = .ok (.iconst 0, 1) := by decide +kernel
theorem dX7_emptyOf_102 : decode cX7_emptyOf 102 = .ok (.isub, 1) := by decide +kernel
theorem dX7_emptyOf_103 : decode cX7_emptyOf 103 = .ok (.istore 5, 2) := by decide +kernel
theorem dX7_emptyOf_105 : decode cX7_emptyOf 105 = .ok (.iinc 7 1, 3) := by decide +kernel
theorem dX7_emptyOf_108 : decode cX7_emptyOf 108 = .ok (.goto (-37), 3) := by decide +kernel
theorem dX7_emptyOf_111 : decode cX7_emptyOf 111 = .ok (.iload_n 3, 1) := by decide +kernel
theorem dX7_emptyOf_112 : decode cX7_emptyOf 112 = .ok (.iload_n 2, 1) := by decide +kernel
theorem dX7_emptyOf_113 : decode cX7_emptyOf 113 = .ok (.isub, 1) := by decide +kernel
theorem dX7_emptyOf_114 : decode cX7_emptyOf 114 = .ok (.iconst 1, 1) := by decide +kernel
theorem dX7_emptyOf_115 : decode cX7_emptyOf 115 = .ok (.if_icmp .ne 28, 3) := by decide +kernel
theorem dX7_emptyOf_118 : decode cX7_emptyOf 118 = .ok (.aload_n 0, 1) := by decide +kernel
theorem dX7_emptyOf_119 : decode cX7_emptyOf 119 = .ok (.getfield 74, 3) := by decide +kernel
theorem dX7_emptyOf_122 : decode cX7_emptyOf 122 = .ok (.iload_n 2, 1) := by decide +kernel
theorem dX7_emptyOf_123 : decode cX7_emptyOf 123 = .ok (.iaload, 1) := by decide +kernel
theorem dX7_emptyOf_124 : decode cX7_emptyOf 124 = .ok (.iconst 1, 1) := by decide +kernel
theorem dX7_emptyOf_125 : decode cX7_emptyOf 125 = .ok (.if_icmp .ne 18, 3) := by decide +kernel
theorem dX7_emptyOf_128 : decode cX7_emptyOf 128 = .ok (.aload_n 0, 1) := by decide +kernel
theorem dX7_emptyOf_129 : decode cX7_emptyOf 129 = .ok (.getfield 123, 3) := by decide +kernel
theorem dX7_emptyOf_132 : decode cX7_emptyOf 132 = .ok (.iload 4, 2) := by decide +kernel
theorem dX7_emptyOf_134 : decode cX7_emptyOf 134 = .ok (.isub, 1) := by decide +kernel
theorem dX7_emptyOf_135 : decode cX7_emptyOf 135 = .ok (.iconst 1, 1) := by decide +kernel
theorem dX7_emptyOf_136 : decode cX7_emptyOf 136 = .ok (.if_icmp .le 7, 3) := by decide +kernel
theorem dX7_emptyOf_139 : decode cX7_emptyOf 139 = .ok (.iconst 1, 1) := by decide +kernel
theorem dX7_emptyOf_140 : decode cX7_emptyOf 140 = .ok (.goto 4, 3) := by decide +kernel
theorem dX7_emptyOf_143 : decode cX7_emptyOf 143 = .ok (.iconst 0, 1) := by decide +kernel
theorem dX7_emptyOf_144 : decode cX7_emptyOf 144 = .ok (.istore 7, 2) := by decide +kernel
theorem dX7_emptyOf_146 : decode cX7_emptyOf 146 = .ok (.iload 7, 2) := by decide +kernel
theorem dX7_emptyOf_148 : decode cX7_emptyOf 148 = .ok (.ifCond .eq 7, 3) := by decide +kernel
theorem dX7_emptyOf_151 : decode cX7_emptyOf 151 = .ok (.iconst (-1), 1) := by decide +kernel
theorem dX7_emptyOf_152 : decode cX7_emptyOf 152 = .ok (.goto 5, 3) := by decide +kernel
theorem dX7_emptyOf_155 : decode cX7_emptyOf 155 = .ok (.iload 5, 2) := by decide +kernel
theorem dX7_emptyOf_157 : decode cX7_emptyOf 157 = .ok (.ireturn, 1) := by decide +kernel
theorem dX7_pages_0 : decode cX7_pages 0 = .ok (.iload_n 1, 1) := by decide +kernel
theorem dX7_pages_1 : decode cX7_pages 1 = .ok (.iconst 1, 1) := by decide +kernel
theorem dX7_pages_2 : decode cX7_pages 2 = .ok (.sipush 200, 3) := by decide +kernel
theorem dX7_pages_5 : decode cX7_pages 5 = .ok (.invokestatic 119, 3) := by decide +kernel
theorem dX7_pages_8 : decode cX7_pages 8 = .ok (.ifCond .ne 5, 3) := by decide +kernel
theorem dX7_pages_11 : decode cX7_pages 11 = .ok (.iconst (-1), 1) := by decide +kernel
theorem dX7_pages_12 : decode cX7_pages 12 = .ok (.ireturn, 1) := by decide +kernel
theorem dX7_pages_13 : decode cX7_pages 13 = .ok (.aload_n 0, 1) := by decide +kernel
theorem dX7_pages_14 : decode cX7_pages 14 = .ok (.aload_n 0, 1) := by decide +kernel
theorem dX7_pages_15 : decode cX7_pages 15 = .ok (.getfield 62, 3) := by decide +kernel
theorem dX7_pages_18 : decode cX7_pages 18 = .ok (.invokevirtual 202, 3) := by decide +kernel
theorem dX7_pages_21 : decode cX7_pages 21 = .ok (.aload_n 0, 1) := by decide +kernel
theorem dX7_pages_22 : decode cX7_pages 22 = .ok (.invokevirtual 213, 3) := by decide +kernel
theorem dX7_pages_25 : decode cX7_pages 25 = .ok (.istore_n 2, 1) := by decide +kernel
theorem dX7_pages_26 : decode cX7_pages 26 = .ok (.aload_n 0, 1) := by decide +kernel
theorem dX7_pages_27 : decode cX7_pages 27 = .ok (.getfield 101, 3) := by decide +kernel
theorem dX7_pages_30 : decode cX7_pages 30 = .ok (.aload_n 0, 1) := by decide +kernel
theorem dX7_pages_31 : decode cX7_pages 31 = .ok (.getfield 123, 3) := by decide +kernel
theorem dX7_pages_34 : decode cX7_pages 34 = .ok (.iconst 0, 1) := by decide +kernel
theorem dX7_pages_35 : decode cX7_pages 35 = .ok (.iastore, 1) := by decide +kernel
theorem dX7_pages_36 : decode cX7_pages 36 = .ok (.aload_n 0, 1) := by decide +kernel
theorem dX7_pages_37 : decode cX7_pages 37 = .ok (.getfield 104, 3) := by decide +kernel
theorem dX7_pages_40 : decode cX7_pages 40 = .ok (.aload_n 0, 1) := by decide +kernel
theorem dX7_pages_41 : decode cX7_pages 41 = .ok (.getfield 123, 3) := by decide +kernel
theorem dX7_pages_44 : decode cX7_pages 44 = .ok (.lconst 0, 1) := by decide +kernel
theorem dX7_pages_45 : decode cX7_pages 45 = .ok (.lastore, 1) := by decide +kernel
theorem dX7_pages_46 : decode cX7_pages 46 = .ok (.aload_n 0, 1) := by decide +kernel
theorem dX7_pages_47 : decode cX7_pages 47 = .ok (.getfield 123, 3) := by decide +kernel
theorem dX7_pages_50 : decode cX7_pages 50 = .ok (.iconst 1, 1) := by decide +kernel
theorem dX7_pages_51 : decode cX7_pages 51 = .ok (.isub, 1) := by decide +kernel
theorem dX7_pages_52 : decode cX7_pages 52 = .ok (.istore_n 3, 1) := by decide +kernel
theorem dX7_pages_53 : decode cX7_pages 53 = .ok (.iload_n 3, 1) := by decide +kernel
theorem dX7_pages_54 : decode cX7_pages 54 = .ok (.iload_n 2, 1) := by decide +kernel
theorem dX7_pages_55 : decode cX7_pages 55 = .ok (.if_icmp .lt 218, 3) := by decide +kernel
theorem dX7_pages_58 : decode cX7_pages 58 = .ok (.aload_n 0, 1) := by decide +kernel
theorem dX7_pages_59 : decode cX7_pages 59 = .ok (.getfield 108, 3) := by decide +kernel
theorem dX7_pages_62 : decode cX7_pages 62 = .ok (.iload_n 3, 1) := by decide +kernel
theorem dX7_pages_63 : decode cX7_pages 63 = .ok (.iconst 0, 1) := by decide +kernel
theorem dX7_pages_64 : decode cX7_pages 64 = .ok (.iastore, 1) := by decide +kernel
theorem dX7_pages_65 : decode cX7_pages 65 = .ok (.iload_n 3, 1) := by decide +kernel
theorem dX7_pages_66 : decode cX7_pages 66 = .ok (.iconst 1, 1) := by decide +kernel
theorem dX7_pages_67 : decode cX7_pages 67 = .ok (.iadd, 1) := by decide +kernel
theorem dX7_pages_68 : decode cX7_pages 68 = .ok (.istore 4, 2) := by decide +kernel
theorem dX7_pages_70 : decode cX7_pages 70 = .ok (.iload 4, 2) := by decide +kernel
theorem dX7_pages_72 : decode cX7_pages 72 = .ok (.aload_n 0, 1) := by decide +kernel
theorem dX7_pages_73 : decode cX7_pages 73 = .ok (.getfield 123, 3) := by decide +kernel
theorem dX7_pages_76 : decode cX7_pages 76 = .ok (.if_icmp .gt 191, 3) := by decide +kernel
theorem dX7_pages_79 : decode cX7_pages 79 = .ok (.iload 4, 2) := by decide +kernel
theorem dX7_pages_81 : decode cX7_pages 81 = .ok (.aload_n 0, 1) := by decide +kernel
theorem dX7_pages_82 : decode cX7_pages 82 = .ok (.getfield 123, 3) := by decide +kernel
theorem dX7_pages_85 : decode cX7_pages 85 = .ok (.if_icmp .eq 22, 3) := by decide +kernel
theorem dX7_pages_88 : decode cX7_pages 88 = .ok (.aload_n 0, 1) := by decide +kernel
theorem dX7_pages_89 : decode cX7_pages 89 = .ok (.iload 4, 2) := by decide +kernel
theorem dX7_pages_91 : decode cX7_pages 91 = .ok (.invokevirtual 217, 3) := by decide +kernel
theorem dX7_pages_94 : decode cX7_pages 94 = .ok (.ifCond .eq 17, 3) := by decide +kernel
theorem dX7_pages_97 : decode cX7_pages 97 = .ok (.aload_n 0, 1) := by decide +kernel
theorem dX7_pages_98 : decode cX7_pages 98 = .ok (.getfield 108, 3) := by decide +kernel
theorem dX7_pages_101 : decode cX7_pages 101 = .ok (.iload 4, 2) := by decide +kernel
theorem dX7_pages_103 : decode cX7_pages 103 = .ok (.iaload, 1) := by decide +kernel
theorem dX7_pages_104 : decode cX7_pages 104 = .ok (.ifCond .le 7, 3) := by decide +kernel
theorem dX7_pages_107 : decode cX7_pages 107 = .ok (.iconst 1, 1) := by decide +kernel
theorem dX7_pages_108 : decode cX7_pages 108 = .ok (.goto 4, 3) := by decide +kernel
theorem dX7_pages_111 : decode cX7_pages 111 = .ok (.iconst 0, 1) := by decide +kernel
theorem dX7_pages_112 : decode cX7_pages 112 = .ok (.istore 5, 2) := by decide +kernel
theorem dX7_pages_114 : decode cX7_pages 114 = .ok (.iload 5, 2) := by decide +kernel
theorem dX7_pages_116 : decode cX7_pages 116 = .ok (.ifCond .eq 15, 3) := by decide +kernel
theorem dX7_pages_119 : decode cX7_pages 119 = .ok (.aload_n 0, 1) := by decide +kernel
theorem dX7_pages_120 : decode cX7_pages 120 = .ok (.iload_n 1, 1) := by decide +kernel
theorem dX7_pages_121 : decode cX7_pages 121 = .ok (.iload_n 3, 1) := by decide +kernel
theorem dX7_pages_122 : decode cX7_pages 122 = .ok (.iload 4, 2) := by decide +kernel
theorem dX7_pages_124 : decode cX7_pages 124 = .ok (.iload_n 2, 1) := by decide +kernel
theorem dX7_pages_125 : decode cX7_pages 125 = .ok (.invokevirtual 227, 3) := by decide +kernel
theorem dX7_pages_128 : decode cX7_pages 128 = .ok (.goto 4, 3) := by decide +kernel
theorem dX7_pages_131 : decode cX7_pages 131 = .ok (.iconst (-1), 1) := by decide +kernel
theorem dX7_pages_132 : decode cX7_pages 132 = .ok (.istore 6, 2) := by decide +kernel
theorem dX7_pages_134 : decode cX7_pages 134 = .ok (.iload 6, 2) := by decide +kernel
theorem dX7_pages_136 : decode cX7_pages 136 = .ok (.ifCond .lt 125, 3) := by decide +kernel
theorem dX7_pages_139 : decode cX7_pages 139 = .ok (.iconst 1, 1) := by decide +kernel
theorem dX7_pages_140 : decode cX7_pages 140 = .ok (.aload_n 0, 1) := by decide +kernel
theorem dX7_pages_141 : decode cX7_pages 141 = .ok (.getfield 101, 3) := by decide +kernel
theorem dX7_pages_144 : decode cX7_pages 144 = .ok (.iload 4, 2) := by decide +kernel
theorem dX7_pages_146 : decode cX7_pages 146 = .ok (.iaload, 1) := by decide +kernel
theorem dX7_pages_147 : decode cX7_pages 147 = .ok (.iadd, 1) := by decide +kernel
theorem dX7_pages_148 : decode cX7_pages 148 = .ok (.istore 7, 2) := by decide +kernel
theorem dX7_pages_150 : decode cX7_pages 150 = .ok (.iload 4, 2) := by decide +kernel
theorem dX7_pages_152 : decode cX7_pages 152 = .ok (.aload_n 0, 1) := by decide +kernel
theorem dX7_pages_153 : decode cX7_pages 153 = .ok (.getfield 123, 3) := by decide +kernel
theorem dX7_pages_156 : decode cX7_pages 156 = .ok (.if_icmp .ne 7, 3) := by decide +kernel
theorem dX7_pages_159 : decode cX7_pages 159 = .ok (.lconst 0, 1) := by decide +kernel
theorem dX7_pages_160 : decode cX7_pages 160 = .ok (.goto 18, 3) := by decide +kernel
theorem dX7_pages_163 : decode cX7_pages 163 = .ok (.aload_n 0, 1) := by decide +kernel
theorem dX7_pages_164 : decode cX7_pages 164 = .ok (.getfield 104, 3) := by decide +kernel
theorem dX7_pages_167 : decode cX7_pages 167 = .ok (.iload 4, 2) := by decide +kernel
theorem dX7_pages_169 : decode cX7_pages 169 = .ok (.laload, 1) := by decide +kernel
theorem dX7_pages_170 : decode cX7_pages 170 = .ok (.iload 6, 2) := by decide +kernel
theorem dX7_pages_172 : decode cX7_pages 172 = .ok (.i2l, 1) := by decide +kernel
theorem dX7_pages_173 : decode cX7_pages 173 = .ok (.iload 6, 2) := by decide +kernel
theorem dX7_pages_175 : decode cX7_pages 175 = .ok (.i2l, 1) := by decide +kernel
theorem dX7_pages_176 : decode cX7_pages 176 = .ok (.lmul, 1) := by decide +kernel
theorem dX7_pages_177 : decode cX7_pages 177 = .ok (.ladd, 1) := by decide +kernel
theorem dX7_pages_178 : decode cX7_pages 178 = .ok (.lstore 8, 2) := by decide +kernel
theorem dX7_pages_180 : decode cX7_pages 180 = .ok (.aload_n 0, 1) := by decide +kernel
theorem dX7_pages_181 : decode cX7_pages 181 = .ok (.getfield 108, 3) := by decide +kernel
theorem dX7_pages_184 : decode cX7_pages 184 = .ok (.iload_n 3, 1) := by decide +kernel
theorem dX7_pages_185 : decode cX7_pages 185 = .ok (.iaload, 1) := by decide +kernel
theorem dX7_pages_186 : decode cX7_pages 186 = .ok (.ifCond .eq 37, 3) := by decide +kernel
theorem dX7_pages_189 : decode cX7_pages 189 = .ok (.iload 7, 2) := by decide +kernel
theorem dX7_pages_191 : decode cX7_pages 191 = .ok (.aload_n 0, 1) := by decide +kernel
theorem dX7_pages_192 : decode cX7_pages 192 = .ok (.getfield 101, 3) := by decide +kernel
theorem dX7_pages_195 : decode cX7_pages 195 = .ok (.iload_n 3, 1) := by decide +kernel
theorem dX7_pages_196 : decode cX7_pages 196 = .ok (.iaload, 1) := by decide +kernel
theorem dX7_pages_197 : decode cX7_pages 197 = .ok (.if_icmp .lt 26, 3) := by decide +kernel
theorem dX7_pages_200 : decode cX7_pages 200 = .ok (.iload 7, 2) := by decide +kernel
theorem dX7_pages_202 : decode cX7_pages 202 = .ok (.aload_n 0, 1) := by decide +kernel
theorem dX7_pages_203 : decode cX7_pages 203 = .ok (.getfield 101, 3) := by decide +kernel
theorem dX7_pages_206 : decode cX7_pages 206 = .ok (.iload_n 3, 1) := by decide +kernel
theorem dX7_pages_207 : decode cX7_pages 207 = .ok (.iaload, 1) := by decide +kernel
theorem dX7_pages_208 : decode cX7_pages 208 = .ok (.if_icmp .ne 19, 3) := by decide +kernel
theorem dX7_pages_211 : decode cX7_pages 211 = .ok (.lload 8, 2) := by decide +kernel
theorem dX7_pages_213 : decode cX7_pages 213 = .ok (.aload_n 0, 1) := by decide +kernel
theorem dX7_pages_214 : decode cX7_pages 214 = .ok (.getfield 104, 3) := by decide +kernel
theorem dX7_pages_217 : decode cX7_pages 217 = .ok (.iload_n 3, 1) := by decide +kernel
theorem dX7_pages_218 : decode cX7_pages 218 = .ok (.laload, 1) := by decide +kernel
theorem dX7_pages_219 : decode cX7_pages 219 = .ok (.lcmp, 1) := by decide +kernel
theorem dX7_pages_220 : decode cX7_pages 220 = .ok (.ifCond .gt 7, 3) := by decide +kernel
theorem dX7_pages_223 : decode cX7_pages 223 = .ok (.iconst 1, 1) := by decide +kernel
theorem dX7_pages_224 : decode cX7_pages 224 = .ok (.goto 4, 3) := by decide +kernel
theorem dX7_pages_227 : decode cX7_pages 227 = .ok (.iconst 0, 1) := by decide +kernel
theorem dX7_pages_228 : decode cX7_pages 228 = .ok (.istore 10, 2) := by decide +kernel
theorem dX7_pages_230 : decode cX7_pages 230 = .ok (.iload 10, 2) := by decide +kernel
theorem dX7_pages_232 : decode cX7_pages 232 = .ok (.ifCond .eq 29, 3) := by decide +kernel
theorem dX7_pages_235 : decode cX7_pages 235 = .ok (.aload_n 0, 1) := by decide +kernel
theorem dX7_pages_236 : decode cX7_pages 236 = .ok (.getfield 101, 3) := by decide +kernel
theorem dX7_pages_239 : decode cX7_pages 239 = .ok (.iload_n 3, 1) := by decide +kernel
theorem dX7_pages_240 : decode cX7_pages 240 = .ok (.iload 7, 2) := by decide +kernel
theorem dX7_pages_242 : decode cX7_pages 242 = .ok (.iastore, 1) := by decide +kernel
theorem dX7_pages_243 : decode cX7_pages 243 = .ok (.aload_n 0, 1) := by decide +kernel
theorem dX7_pages_244 : decode cX7_pages 244 = .ok (.getfield 104, 3) := by decide +kernel
theorem dX7_pages_247 : decode cX7_pages 247 = .ok (.iload_n 3, 1) := by decide +kernel
theorem dX7_pages_248 : decode cX7_pages 248 = .ok (.lload 8, 2) := by decide +kernel
theorem dX7_pages_250 : decode cX7_pages 250 = .ok (.lastore, 1) := by decide +kernel
theorem dX7_pages_251 : decode cX7_pages 251 = .ok (.aload_n 0, 1) := by decide +kernel
theorem dX7_pages_252 : decode cX7_pages 252 = .ok (.getfield 108, 3) := by decide +kernel
theorem dX7_pages_255 : decode cX7_pages 255 = .ok (.iload_n 3, 1) := by decide +kernel
theorem dX7_pages_256 : decode cX7_pages 256 = .ok (.iload 4, 2) := by decide +kernel
theorem dX7_pages_258 : decode cX7_pages 258 = .ok (.iload_n 3, 1) := by decide +kernel
theorem dX7_pages_259 : decode cX7_pages 259 = .ok (.isub, 1) := by decide +kernel
theorem dX7_pages_260 : decode cX7_pages 260 = .ok (.iastore, 1) := by decide +kernel
theorem dX7_pages_261 : decode cX7_pages 261 = .ok (.iinc 4 1, 3) := by decide +kernel
theorem dX7_pages_264 : decode cX7_pages 264 = .ok (.goto (-194), 3) := by decide +kernel
theorem dX7_pages_267 : decode cX7_pages 267 = .ok (.iinc 3 (-1), 3) := by decide +kernel
theorem dX7_pages_270 : decode cX7_pages 270 = .ok (.goto (-217), 3) := by decide +kernel
theorem dX7_pages_273 : decode cX7_pages 273 = .ok (.aload_n 0, 1) := by decide +kernel
theorem dX7_pages_274 : decode cX7_pages 274 = .ok (.iconst 0, 1) := by decide +kernel
theorem dX7_pages_275 : decode cX7_pages 275 = .ok (.putfield 138, 3) := by decide +kernel
theorem dX7_pages_278 : decode cX7_pages 278 = .ok (.iconst 0, 1) := by decide +kernel
theorem dX7_pages_279 : decode cX7_pages 279 = .ok (.istore_n 3, 1) := by decide +kernel
theorem dX7_pages_280 : decode cX7_pages 280 = .ok (.iload_n 3, 1) := by decide +kernel
theorem dX7_pages_281 : decode cX7_pages 281 = .ok (.bipush 16, 2) := by decide +kernel
theorem dX7_pages_283 : decode cX7_pages 283 = .ok (.if_icmp .ge 17, 3) := by decide +kernel
theorem dX7_pages_286 : decode cX7_pages 286 = .ok (.aload_n 0, 1) := by decide +kernel
theorem dX7_pages_287 : decode cX7_pages 287 = .ok (.getfield 98, 3) := by decide +kernel
theorem dX7_pages_290 : decode cX7_pages 290 = .ok (.iload_n 3, 1) := by decide +kernel
theorem dX7_pages_291 : decode cX7_pages 291 = .ok (.bipush (-9), 2) := by decide +kernel
theorem dX7_pages_293 : decode cX7_pages 293 = .ok (.iastore, 1) := by decide +kernel
theorem dX7_pages_294 : decode cX7_pages 294 = .ok (.iinc 3 1, 3) := by decide +kernel
theorem dX7_pages_297 : decode cX7_pages 297 = .ok (.goto (-17), 3) := by decide +kernel
theorem dX7_pages_300 : decode cX7_pages 300 = .ok (.iload_n 2, 1) := by decide +kernel
theorem dX7_pages_301 : decode cX7_pages 301 = .ok (.aload_n 0, 1) := by decide +kernel
theorem dX7_pages_302 : decode cX7_pages 302 = .ok (.getfield 123, 3) := by decide +kernel
theorem dX7_pages_305 : decode cX7_pages 305 = .ok (.if_icmp .ge 15, 3) := by decide +kernel
theorem dX7_pages_308 : decode cX7_pages 308 = .ok (.aload_n 0, 1) := by decide +kernel
theorem dX7_pages_309 : decode cX7_pages 309 = .ok (.getfield 108, 3) := by decide +kernel
theorem dX7_pages_312 : decode cX7_pages 312 = .ok (.iload_n 2, 1) := by decide +kernel
theorem dX7_pages_313 : decode cX7_pages 313 = .ok (.iaload, 1) := by decide +kernel
theorem dX7_pages_314 : decode cX7_pages 314 = .ok (.ifCond .ne 6, 3) := by decide +kernel
theorem dX7_pages_317 : decode cX7_pages 317 = .ok (.bipush (-9), 2) := by decide +kernel
theorem dX7_pages_319 : decode cX7_pages 319 = .ok (.ireturn, 1) := by decide +kernel
theorem dX7_pages_320 : decode cX7_pages 320 = .ok (.iload_n 2, 1) := by decide +kernel
theorem dX7_pages_321 : decode cX7_pages 321 = .ok (.istore_n 3, 1) := by decide +kernel
theorem dX7_pages_322 : decode cX7_pages 322 = .ok (.iload_n 3, 1) := by decide +kernel
theorem dX7_pages_323 : decode cX7_pages 323 = .ok (.aload_n 0, 1) := by decide +kernel
theorem dX7_pages_324 : decode cX7_pages 324 = .ok (.getfield 123, 3) := by decide +kernel
theorem dX7_pages_327 : decode cX7_pages 327 = .ok (.if_icmp .ge 125, 3) := by decide +kernel
theorem dX7_pages_330 : decode cX7_pages 330 = .ok (.iload_n 3, 1) := by decide +kernel
theorem dX7_pages_331 : decode cX7_pages 331 = .ok (.aload_n 0, 1) := by decide +kernel
theorem dX7_pages_332 : decode cX7_pages 332 = .ok (.getfield 108, 3) := by decide +kernel
theorem dX7_pages_335 : decode cX7_pages 335 = .ok (.iload_n 3, 1) := by decide +kernel
theorem dX7_pages_336 : decode cX7_pages 336 = .ok (.iaload, 1) := by decide +kernel
theorem dX7_pages_337 : decode cX7_pages 337 = .ok (.iadd, 1) := by decide +kernel
theorem dX7_pages_338 : decode cX7_pages 338 = .ok (.istore 4, 2) := by decide +kernel
theorem dX7_pages_340 : decode cX7_pages 340 = .ok (.aload_n 0, 1) := by decide +kernel
theorem dX7_pages_341 : decode cX7_pages 341 = .ok (.getfield 86, 3) := by decide +kernel
theorem dX7_pages_344 : decode cX7_pages 344 = .ok (.aload_n 0, 1) := by decide +kernel
theorem dX7_pages_345 : decode cX7_pages 345 = .ok (.getfield 138, 3) := by decide +kernel
theorem dX7_pages_348 : decode cX7_pages 348 = .ok (.iload_n 3, 1) := by decide +kernel
theorem dX7_pages_349 : decode cX7_pages 349 = .ok (.iastore, 1) := by decide +kernel
theorem dX7_pages_350 : decode cX7_pages 350 = .ok (.aload_n 0, 1) := by decide +kernel
theorem dX7_pages_351 : decode cX7_pages 351 = .ok (.getfield 89, 3) := by decide +kernel
theorem dX7_pages_354 : decode cX7_pages 354 = .ok (.aload_n 0, 1) := by decide +kernel
theorem dX7_pages_355 : decode cX7_pages 355 = .ok (.getfield 138, 3) := by decide +kernel
theorem dX7_pages_358 : decode cX7_pages 358 = .ok (.iload 4, 2) := by decide +kernel
theorem dX7_pages_360 : decode cX7_pages 360 = .ok (.iload_n 3, 1) := by decide +kernel
theorem dX7_pages_361 : decode cX7_pages 361 = .ok (.isub, 1) := by decide +kernel
theorem dX7_pages_362 : decode cX7_pages 362 = .ok (.iastore, 1) := by decide +kernel
theorem dX7_pages_363 : decode cX7_pages 363 = .ok (.aload_n 0, 1) := by decide +kernel
theorem dX7_pages_364 : decode cX7_pages 364 = .ok (.getfield 92, 3) := by decide +kernel
theorem dX7_pages_367 : decode cX7_pages 367 = .ok (.aload_n 0, 1) := by decide +kernel
theorem dX7_pages_368 : decode cX7_pages 368 = .ok (.getfield 138, 3) := by decide +kernel
theorem dX7_pages_371 : decode cX7_pages 371 = .ok (.aload_n 0, 1) := by decide +kernel
theorem dX7_pages_372 : decode cX7_pages 372 = .ok (.iload_n 1, 1) := by decide +kernel
theorem dX7_pages_373 : decode cX7_pages 373 = .ok (.iload_n 3, 1) := by decide +kernel
theorem dX7_pages_374 : decode cX7_pages 374 = .ok (.iload 4, 2) := by decide +kernel
theorem dX7_pages_376 : decode cX7_pages 376 = .ok (.iload_n 2, 1) := by decide +kernel
theorem dX7_pages_377 : decode cX7_pages 377 = .ok (.invokevirtual 227, 3) := by decide +kernel
theorem dX7_pages_380 : decode cX7_pages 380 = .ok (.iastore, 1) := by decide +kernel
theorem dX7_pages_381 : decode cX7_pages 381 = .ok (.aload_n 0, 1) := by decide +kernel
theorem dX7_pages_382 : decode cX7_pages 382 = .ok (.getfield 95, 3) := by decide +kernel
theorem dX7_pages_385 : decode cX7_pages 385 = .ok (.aload_n 0, 1) := by decide +kernel
theorem dX7_pages_386 : decode cX7_pages 386 = .ok (.getfield 138, 3) := by decide +kernel
theorem dX7_pages_389 : decode cX7_pages 389 = .ok (.aload_n 0, 1) := by decide +kernel
theorem dX7_pages_390 : decode cX7_pages 390 = .ok (.iload_n 3, 1) := by decide +kernel
theorem dX7_pages_391 : decode cX7_pages 391 = .ok (.iload 4, 2) := by decide +kernel
theorem dX7_pages_393 : decode cX7_pages 393 = .ok (.iload_n 2, 1) := by decide +kernel
theorem dX7_pages_394 : decode cX7_pages 394 = .ok (.invokevirtual 223, 3) := by decide +kernel
theorem dX7_pages_397 : decode cX7_pages 397 = .ok (.iastore, 1) := by decide +kernel
theorem dX7_pages_398 : decode cX7_pages 398 = .ok (.iload_n 3, 1) := by decide +kernel
theorem dX7_pages_399 : decode cX7_pages 399 = .ok (.istore 5, 2) := by decide +kernel
theorem dX7_pages_401 : decode cX7_pages 401 = .ok (.iload 5, 2) := by decide +kernel
theorem dX7_pages_403 : decode cX7_pages 403 = .ok (.iload 4, 2) := by decide +kernel
theorem dX7_pages_405 : decode cX7_pages 405 = .ok (.if_icmp .ge 20, 3) := by decide +kernel
theorem dX7_pages_408 : decode cX7_pages 408 = .ok (.aload_n 0, 1) := by decide +kernel
theorem dX7_pages_409 : decode cX7_pages 409 = .ok (.getfield 98, 3) := by decide +kernel
theorem dX7_pages_412 : decode cX7_pages 412 = .ok (.iload 5, 2) := by decide +kernel
theorem dX7_pages_414 : decode cX7_pages 414 = .ok (.aload_n 0, 1) := by decide +kernel
theorem dX7_pages_415 : decode cX7_pages 415 = .ok (.getfield 138, 3) := by decide +kernel
theorem dX7_pages_418 : decode cX7_pages 418 = .ok (.iastore, 1) := by decide +kernel
theorem dX7_pages_419 : decode cX7_pages 419 = .ok (.iinc 5 1, 3) := by decide +kernel
theorem dX7_pages_422 : decode cX7_pages 422 = .ok (.goto (-21), 3) := by decide +kernel
theorem dX7_pages_425 : decode cX7_pages 425 = .ok (.aload_n 0, 1) := by decide +kernel
theorem dX7_pages_426 : decode cX7_pages 426 = .ok (.dup, 1) := by decide +kernel
theorem dX7_pages_427 : decode cX7_pages 427 = .ok (.getfield 138, 3) := by decide +kernel
theorem dX7_pages_430 : decode cX7_pages 430 = .ok (.iconst 1, 1) := by decide +kernel
theorem dX7_pages_431 : decode cX7_pages 431 = .ok (.iadd, 1) := by decide +kernel
theorem dX7_pages_432 : decode cX7_pages 432 = .ok (.putfield 138, 3) := by decide +kernel
theorem dX7_pages_435 : decode cX7_pages 435 = .ok (.iload_n 3, 1) := by decide +kernel
theorem dX7_pages_436 : decode cX7_pages 436 = .ok (.aload_n 0, 1) := by decide +kernel
theorem dX7_pages_437 : decode cX7_pages 437 = .ok (.getfield 89, 3) := by decide +kernel
theorem dX7_pages_440 : decode cX7_pages 440 = .ok (.aload_n 0, 1) := by decide +kernel
theorem dX7_pages_441 : decode cX7_pages 441 = .ok (.getfield 138, 3) := by decide +kernel
theorem dX7_pages_444 : decode cX7_pages 444 = .ok (.iconst 1, 1) := by decide +kernel
theorem dX7_pages_445 : decode cX7_pages 445 = .ok (.isub, 1) := by decide +kernel
theorem dX7_pages_446 : decode cX7_pages 446 = .ok (.iaload, 1) := by decide +kernel
theorem dX7_pages_447 : decode cX7_pages 447 = .ok (.iadd, 1) := by decide +kernel
theorem dX7_pages_448 : decode cX7_pages 448 = .ok (.istore_n 3, 1) := by decide +kernel
theorem dX7_pages_449 : decode cX7_pages 449 = .ok (.goto (-127), 3) := by decide +kernel
theorem dX7_pages_452 : decode cX7_pages 452 = .ok (.iconst 0, 1) := by decide +kernel
theorem dX7_pages_453 : decode cX7_pages 453 = .ok (.istore_n 3, 1) := by decide +kernel
theorem dX7_pages_454 : decode cX7_pages 454 = .ok (.iload_n 3, 1) := by decide +kernel
theorem dX7_pages_455 : decode cX7_pages 455 = .ok (.iload_n 2, 1) := by decide +kernel
theorem dX7_pages_456 : decode cX7_pages 456 = .ok (.if_icmp .ge 23, 3) := by decide +kernel
theorem dX7_pages_459 : decode cX7_pages 459 = .ok (.aload_n 0, 1) := by decide +kernel
theorem dX7_pages_460 : decode cX7_pages 460 = .ok (.getfield 138, 3) := by decide +kernel
theorem dX7_pages_463 : decode cX7_pages 463 = .ok (.ifCond .le 16, 3) := by decide +kernel
theorem dX7_pages_466 : decode cX7_pages 466 = .ok (.aload_n 0, 1) := by decide +kernel
theorem dX7_pages_467 : decode cX7_pages 467 = .ok (.getfield 98, 3) := by decide +kernel
theorem dX7_pages_470 : decode cX7_pages 470 = .ok (.iload_n 3, 1) := by decide +kernel
theorem dX7_pages_471 : decode cX7_pages 471 = .ok (.iconst 0, 1) := by decide +kernel
theorem dX7_pages_472 : decode cX7_pages 472 = .ok (.iastore, 1) := by decide +kernel
theorem dX7_pages_473 : decode cX7_pages 473 = .ok (.iinc 3 1, 3) := by decide +kernel
theorem dX7_pages_476 : decode cX7_pages 476 = .ok (.goto (-22), 3) := by decide +kernel
theorem dX7_pages_479 : decode cX7_pages 479 = .ok (.aload_n 0, 1) := by decide +kernel
theorem dX7_pages_480 : decode cX7_pages 480 = .ok (.getfield 138, 3) := by decide +kernel
theorem dX7_pages_483 : decode cX7_pages 483 = .ok (.ireturn, 1) := by decide +kernel
theorem dX7_pageTold_0 : decode cX7_pageTold 0 = .ok (.iload_n 2, 1) := by decide +kernel
theorem dX7_pageTold_1 : decode cX7_pageTold 1 = .ok (.ifCond .ne 12, 3) := by decide +kernel
theorem dX7_pageTold_4 : decode cX7_pageTold 4 = .ok (.aload_n 0, 1) := by decide +kernel
theorem dX7_pageTold_5 : decode cX7_pageTold 5 = .ok (.getfield 86, 3) := by decide +kernel
theorem dX7_pageTold_8 : decode cX7_pageTold 8 = .ok (.iload_n 1, 1) := by decide +kernel
theorem dX7_pageTold_9 : decode cX7_pageTold 9 = .ok (.iaload, 1) := by decide +kernel
theorem dX7_pageTold_10 : decode cX7_pageTold 10 = .ok (.goto 37, 3) := by decide +kernel
theorem dX7_pageTold_13 : decode cX7_pageTold 13 = .ok (.iload_n 2, 1) := by decide +kernel
theorem dX7_pageTold_14 : decode cX7_pageTold 14 = .ok (.iconst 1, 1) := by decide +kernel
theorem dX7_pageTold_15 : decode cX7_pageTold 15 = .ok (.if_icmp .ne 12, 3) := by decide +kernel
theorem dX7_pageTold_18 : decode cX7_pageTold 18 = .ok (.aload_n 0, 1) := by decide +kernel
theorem dX7_pageTold_19 : decode cX7_pageTold 19 = .ok (.getfield 89, 3) := by decide +kernel
theorem dX7_pageTold_22 : decode cX7_pageTold 22 = .ok (.iload_n 1, 1) := by decide +kernel
theorem dX7_pageTold_23 : decode cX7_pageTold 23 = .ok (.iaload, 1) := by decide +kernel
theorem dX7_pageTold_24 : decode cX7_pageTold 24 = .ok (.goto 23, 3) := by decide +kernel
theorem dX7_pageTold_27 : decode cX7_pageTold 27 = .ok (.iload_n 2, 1) := by decide +kernel
theorem dX7_pageTold_28 : decode cX7_pageTold 28 = .ok (.iconst 2, 1) := by decide +kernel
theorem dX7_pageTold_29 : decode cX7_pageTold 29 = .ok (.if_icmp .ne 12, 3) := by decide +kernel
theorem dX7_pageTold_32 : decode cX7_pageTold 32 = .ok (.aload_n 0, 1) := by decide +kernel
theorem dX7_pageTold_33 : decode cX7_pageTold 33 = .ok (.getfield 92, 3) := by decide +kernel
theorem dX7_pageTold_36 : decode cX7_pageTold 36 = .ok (.iload_n 1, 1) := by decide +kernel
theorem dX7_pageTold_37 : decode cX7_pageTold 37 = .ok (.iaload, 1) := by decide +kernel
theorem dX7_pageTold_38 : decode cX7_pageTold 38 = .ok (.goto 9, 3) := by decide +kernel
theorem dX7_pageTold_41 : decode cX7_pageTold 41 = .ok (.aload_n 0, 1) := by decide +kernel
theorem dX7_pageTold_42 : decode cX7_pageTold 42 = .ok (.getfield 95, 3) := by decide +kernel
theorem dX7_pageTold_45 : decode cX7_pageTold 45 = .ok (.iload_n 1, 1) := by decide +kernel
theorem dX7_pageTold_46 : decode cX7_pageTold 46 = .ok (.iaload, 1) := by decide +kernel
theorem dX7_pageTold_47 : decode cX7_pageTold 47 = .ok (.ireturn, 1) := by decide +kernel
theorem dX7_page_0 : decode cX7_page 0 = .ok (.iload_n 2, 1) := by decide +kernel
theorem dX7_page_1 : decode cX7_page 1 = .ok (.iconst 0, 1) := by decide +kernel
theorem dX7_page_2 : decode cX7_page 2 = .ok (.iconst 3, 1) := by decide +kernel
theorem dX7_page_3 : decode cX7_page 3 = .ok (.invokestatic 119, 3) := by decide +kernel
theorem dX7_page_6 : decode cX7_page 6 = .ok (.ifCond .ne 7, 3) := by decide +kernel
theorem dX7_page_9 : decode cX7_page 9 = .ok (.iconst (-1), 1) := by decide +kernel
theorem dX7_page_10 : decode cX7_page 10 = .ok (.goto 28, 3) := by decide +kernel
theorem dX7_page_13 : decode cX7_page 13 = .ok (.iload_n 1, 1) := by decide +kernel
theorem dX7_page_14 : decode cX7_page 14 = .ok (.iconst 0, 1) := by decide +kernel
theorem dX7_page_15 : decode cX7_page 15 = .ok (.aload_n 0, 1) := by decide +kernel
theorem dX7_page_16 : decode cX7_page 16 = .ok (.getfield 138, 3) := by decide +kernel
theorem dX7_page_19 : decode cX7_page 19 = .ok (.iconst 1, 1) := by decide +kernel
theorem dX7_page_20 : decode cX7_page 20 = .ok (.isub, 1) := by decide +kernel
theorem dX7_page_21 : decode cX7_page 21 = .ok (.invokestatic 119, 3) := by decide +kernel
theorem dX7_page_24 : decode cX7_page 24 = .ok (.ifCond .eq 12, 3) := by decide +kernel
theorem dX7_page_27 : decode cX7_page 27 = .ok (.aload_n 0, 1) := by decide +kernel
theorem dX7_page_28 : decode cX7_page 28 = .ok (.iload_n 1, 1) := by decide +kernel
theorem dX7_page_29 : decode cX7_page 29 = .ok (.iload_n 2, 1) := by decide +kernel
theorem dX7_page_30 : decode cX7_page 30 = .ok (.invokevirtual 231, 3) := by decide +kernel
theorem dX7_page_33 : decode cX7_page 33 = .ok (.goto 5, 3) := by decide +kernel
theorem dX7_page_36 : decode cX7_page 36 = .ok (.bipush (-9), 2) := by decide +kernel
theorem dX7_page_38 : decode cX7_page 38 = .ok (.ireturn, 1) := by decide +kernel
theorem dX7_pageOf_0 : decode cX7_pageOf 0 = .ok (.aload_n 0, 1) := by decide +kernel
theorem dX7_pageOf_1 : decode cX7_pageOf 1 = .ok (.iload_n 1, 1) := by decide +kernel
theorem dX7_pageOf_2 : decode cX7_pageOf 2 = .ok (.invokevirtual 148, 3) := by decide +kernel
theorem dX7_pageOf_5 : decode cX7_pageOf 5 = .ok (.ifCond .eq 12, 3) := by decide +kernel
theorem dX7_pageOf_8 : decode cX7_pageOf 8 = .ok (.aload_n 0, 1) := by decide +kernel
theorem dX7_pageOf_9 : decode cX7_pageOf 9 = .ok (.getfield 98, 3) := by decide +kernel
theorem dX7_pageOf_12 : decode cX7_pageOf 12 = .ok (.iload_n 1, 1) := by decide +kernel
theorem dX7_pageOf_13 : decode cX7_pageOf 13 = .ok (.iaload, 1) := by decide +kernel
theorem dX7_pageOf_14 : decode cX7_pageOf 14 = .ok (.goto 4, 3) := by decide +kernel
theorem dX7_pageOf_17 : decode cX7_pageOf 17 = .ok (.iconst (-1), 1) := by decide +kernel
theorem dX7_pageOf_18 : decode cX7_pageOf 18 = .ok (.ireturn, 1) := by decide +kernel
theorem dX7_count_0 : decode cX7_count 0 = .ok (.iconst 0, 1) := by decide +kernel
theorem dX7_count_1 : decode cX7_count 1 = .ok (.istore_n 2, 1) := by decide +kernel
theorem dX7_count_2 : decode cX7_count 2 = .ok (.iconst 0, 1) := by decide +kernel
theorem dX7_count_3 : decode cX7_count 3 = .ok (.istore_n 3, 1) := by decide +kernel
theorem dX7_count_4 : decode cX7_count 4 = .ok (.iload_n 3, 1) := by decide +kernel
theorem dX7_count_5 : decode cX7_count 5 = .ok (.aload_n 0, 1) := by decide +kernel
theorem dX7_count_6 : decode cX7_count 6 = .ok (.getfield 132, 3) := by decide +kernel
theorem dX7_count_9 : decode cX7_count 9 = .ok (.if_icmp .ge 26, 3) := by decide +kernel
theorem dX7_count_12 : decode cX7_count 12 = .ok (.iload_n 2, 1) := by decide +kernel
theorem dX7_count_13 : decode cX7_count 13 = .ok (.aload_n 0, 1) := by decide +kernel
theorem dX7_count_14 : decode cX7_count 14 = .ok (.getfield 34, 3) := by decide +kernel
theorem dX7_count_17 : decode cX7_count 17 = .ok (.iload_n 3, 1) := by decide +kernel
theorem dX7_count_18 : decode cX7_count 18 = .ok (.baload, 1) := by decide +kernel
theorem dX7_count_19 : decode cX7_count 19 = .ok (.ifCond .eq 7, 3) := by decide +kernel
theorem dX7_count_22 : decode cX7_count 22 = .ok (.iconst 0, 1) := by decide +kernel
theorem dX7_count_23 : decode cX7_count 23 = .ok (.goto 4, 3) := by decide +kernel
theorem dX7_count_26 : decode cX7_count 26 = .ok (.iconst 1, 1) := by decide +kernel
theorem dX7_count_27 : decode cX7_count 27 = .ok (.iadd, 1) := by decide +kernel
theorem dX7_count_28 : decode cX7_count 28 = .ok (.istore_n 2, 1) := by decide +kernel
theorem dX7_count_29 : decode cX7_count 29 = .ok (.iinc 3 1, 3) := by decide +kernel
theorem dX7_count_32 : decode cX7_count 32 = .ok (.goto (-28), 3) := by decide +kernel
theorem dX7_count_35 : decode cX7_count 35 = .ok (.iload_n 1, 1) := by decide +kernel
theorem dX7_count_36 : decode cX7_count 36 = .ok (.tableswitch 80 0 6 #[44, 49, 54, 59, 61, 66, 71], 44) := by decide +kernel
theorem dX7_count_80 : decode cX7_count 80 = .ok (.aload_n 0, 1) := by decide +kernel
theorem dX7_count_81 : decode cX7_count 81 = .ok (.getfield 123, 3) := by decide +kernel
theorem dX7_count_84 : decode cX7_count 84 = .ok (.ireturn, 1) := by decide +kernel
theorem dX7_count_85 : decode cX7_count 85 = .ok (.aload_n 0, 1) := by decide +kernel
theorem dX7_count_86 : decode cX7_count 86 = .ok (.getfield 126, 3) := by decide +kernel
theorem dX7_count_89 : decode cX7_count 89 = .ok (.ireturn, 1) := by decide +kernel
theorem dX7_count_90 : decode cX7_count 90 = .ok (.aload_n 0, 1) := by decide +kernel
theorem dX7_count_91 : decode cX7_count 91 = .ok (.getfield 132, 3) := by decide +kernel
theorem dX7_count_94 : decode cX7_count 94 = .ok (.ireturn, 1) := by decide +kernel
theorem dX7_count_95 : decode cX7_count 95 = .ok (.iload_n 2, 1) := by decide +kernel
theorem dX7_count_96 : decode cX7_count 96 = .ok (.ireturn, 1) := by decide +kernel
theorem dX7_count_97 : decode cX7_count 97 = .ok (.aload_n 0, 1) := by decide +kernel
theorem dX7_count_98 : decode cX7_count 98 = .ok (.invokevirtual 213, 3) := by decide +kernel
theorem dX7_count_101 : decode cX7_count 101 = .ok (.ireturn, 1) := by decide +kernel
theorem dX7_count_102 : decode cX7_count 102 = .ok (.aload_n 0, 1) := by decide +kernel
theorem dX7_count_103 : decode cX7_count 103 = .ok (.getfield 138, 3) := by decide +kernel
theorem dX7_count_106 : decode cX7_count 106 = .ok (.ireturn, 1) := by decide +kernel
theorem dX7_count_107 : decode cX7_count 107 = .ok (.aload_n 0, 1) := by decide +kernel
theorem dX7_count_108 : decode cX7_count 108 = .ok (.aload_n 0, 1) := by decide +kernel
theorem dX7_count_109 : decode cX7_count 109 = .ok (.getfield 62, 3) := by decide +kernel
theorem dX7_count_112 : decode cX7_count 112 = .ok (.invokevirtual 199, 3) := by decide +kernel
theorem dX7_count_115 : decode cX7_count 115 = .ok (.ireturn, 1) := by decide +kernel
theorem dX7_count_116 : decode cX7_count 116 = .ok (.iconst (-1), 1) := by decide +kernel
theorem dX7_count_117 : decode cX7_count 117 = .ok (.ireturn, 1) := by decide +kernel
theorem dX7_digest_0 : decode cX7_digest 0 = .ok (.ldc2_w 234, 3) := by decide +kernel
theorem dX7_digest_3 : decode cX7_digest 3 = .ok (.ldc2_w 234, 3) := by decide +kernel
theorem dX7_digest_6 : decode cX7_digest 6 = .ok (.ldc2_w 236, 3) := by decide +kernel
theorem dX7_digest_9 : decode cX7_digest 9 = .ok (.aload_n 0, 1) := by decide +kernel
theorem dX7_digest_10 : decode cX7_digest 10 = .ok (.getfield 123, 3) := by decide +kernel
theorem dX7_digest_13 : decode cX7_digest 13 = .ok (.i2l, 1) := by decide +kernel
theorem dX7_digest_14 : decode cX7_digest 14 = .ok (.ladd, 1) := by decide +kernel
theorem dX7_digest_15 : decode cX7_digest 15 = .ok (.lmul, 1) := by decide +kernel
theorem dX7_digest_16 : decode cX7_digest 16 = .ok (.aload_n 0, 1) := by decide +kernel
theorem dX7_digest_17 : decode cX7_digest 17 = .ok (.getfield 126, 3) := by decide +kernel
theorem dX7_digest_20 : decode cX7_digest 20 = .ok (.i2l, 1) := by decide +kernel
theorem dX7_digest_21 : decode cX7_digest 21 = .ok (.ladd, 1) := by decide +kernel
theorem dX7_digest_22 : decode cX7_digest 22 = .ok (.lmul, 1) := by decide +kernel
theorem dX7_digest_23 : decode cX7_digest 23 = .ok (.aload_n 0, 1) := by decide +kernel
theorem dX7_digest_24 : decode cX7_digest 24 = .ok (.getfield 129, 3) := by decide +kernel
theorem dX7_digest_27 : decode cX7_digest 27 = .ok (.i2l, 1) := by decide +kernel
theorem dX7_digest_28 : decode cX7_digest 28 = .ok (.ladd, 1) := by decide +kernel
theorem dX7_digest_29 : decode cX7_digest 29 = .ok (.lstore_n 1, 1) := by decide +kernel
theorem dX7_digest_30 : decode cX7_digest 30 = .ok (.iconst 0, 1) := by decide +kernel
theorem dX7_digest_31 : decode cX7_digest 31 = .ok (.istore_n 3, 1) := by decide +kernel
theorem dX7_digest_32 : decode cX7_digest 32 = .ok (.iload_n 3, 1) := by decide +kernel
theorem dX7_digest_33 : decode cX7_digest 33 = .ok (.aload_n 0, 1) := by decide +kernel
theorem dX7_digest_34 : decode cX7_digest 34 = .ok (.getfield 126, 3) := by decide +kernel
theorem dX7_digest_37 : decode cX7_digest 37 = .ok (.if_icmp .ge 23, 3) := by decide +kernel
theorem dX7_digest_40 : decode cX7_digest 40 = .ok (.ldc2_w 234, 3) := by decide +kernel
theorem dX7_digest_43 : decode cX7_digest 43 = .ok (.lload_n 1, 1) := by decide +kernel
theorem dX7_digest_44 : decode cX7_digest 44 = .ok (.lmul, 1) := by decide +kernel
theorem dX7_digest_45 : decode cX7_digest 45 = .ok (.aload_n 0, 1) := by decide +kernel
theorem dX7_digest_46 : decode cX7_digest 46 = .ok (.getfield 13, 3) := by decide +kernel
theorem dX7_digest_49 : decode cX7_digest 49 = .ok (.iload_n 3, 1) := by decide +kernel
theorem dX7_digest_50 : decode cX7_digest 50 = .ok (.iaload, 1) := by decide +kernel
theorem dX7_digest_51 : decode cX7_digest 51 = .ok (.i2l, 1) := by decide +kernel
theorem dX7_digest_52 : decode cX7_digest 52 = .ok (.ladd, 1) := by decide +kernel
theorem dX7_digest_53 : decode cX7_digest 53 = .ok (.lstore_n 1, 1) := by decide +kernel
theorem dX7_digest_54 : decode cX7_digest 54 = .ok (.iinc 3 1, 3) := by decide +kernel
theorem dX7_digest_57 : decode cX7_digest 57 = .ok (.goto (-25), 3) := by decide +kernel
theorem dX7_digest_60 : decode cX7_digest 60 = .ok (.iconst 0, 1) := by decide +kernel
theorem dX7_digest_61 : decode cX7_digest 61 = .ok (.istore_n 3, 1) := by decide +kernel
theorem dX7_digest_62 : decode cX7_digest 62 = .ok (.iload_n 3, 1) := by decide +kernel
theorem dX7_digest_63 : decode cX7_digest 63 = .ok (.aload_n 0, 1) := by decide +kernel
theorem dX7_digest_64 : decode cX7_digest 64 = .ok (.getfield 126, 3) := by decide +kernel
theorem dX7_digest_67 : decode cX7_digest 67 = .ok (.if_icmp .ge 23, 3) := by decide +kernel
theorem dX7_digest_70 : decode cX7_digest 70 = .ok (.ldc2_w 234, 3) := by decide +kernel
theorem dX7_digest_73 : decode cX7_digest 73 = .ok (.lload_n 1, 1) := by decide +kernel
theorem dX7_digest_74 : decode cX7_digest 74 = .ok (.lmul, 1) := by decide +kernel
theorem dX7_digest_75 : decode cX7_digest 75 = .ok (.aload_n 0, 1) := by decide +kernel
theorem dX7_digest_76 : decode cX7_digest 76 = .ok (.getfield 62, 3) := by decide +kernel
theorem dX7_digest_79 : decode cX7_digest 79 = .ok (.iload_n 3, 1) := by decide +kernel
theorem dX7_digest_80 : decode cX7_digest 80 = .ok (.iaload, 1) := by decide +kernel
theorem dX7_digest_81 : decode cX7_digest 81 = .ok (.i2l, 1) := by decide +kernel
theorem dX7_digest_82 : decode cX7_digest 82 = .ok (.ladd, 1) := by decide +kernel
theorem dX7_digest_83 : decode cX7_digest 83 = .ok (.lstore_n 1, 1) := by decide +kernel
theorem dX7_digest_84 : decode cX7_digest 84 = .ok (.iinc 3 1, 3) := by decide +kernel
theorem dX7_digest_87 : decode cX7_digest 87 = .ok (.goto (-25), 3) := by decide +kernel
theorem dX7_digest_90 : decode cX7_digest 90 = .ok (.iconst 0, 1) := by decide +kernel
theorem dX7_digest_91 : decode cX7_digest 91 = .ok (.istore_n 3, 1) := by decide +kernel
theorem dX7_digest_92 : decode cX7_digest 92 = .ok (.iload_n 3, 1) := by decide +kernel
theorem dX7_digest_93 : decode cX7_digest 93 = .ok (.bipush 10, 2) := by decide +kernel
theorem dX7_digest_95 : decode cX7_digest 95 = .ok (.if_icmp .ge 23, 3) := by decide +kernel
theorem dX7_digest_98 : decode cX7_digest 98 = .ok (.ldc2_w 234, 3) := by decide +kernel
theorem dX7_digest_101 : decode cX7_digest 101 = .ok (.lload_n 1, 1) := by decide +kernel
theorem dX7_digest_102 : decode cX7_digest 102 = .ok (.lmul, 1) := by decide +kernel
theorem dX7_digest_103 : decode cX7_digest 103 = .ok (.aload_n 0, 1) := by decide +kernel
theorem dX7_digest_104 : decode cX7_digest 104 = .ok (.getfield 16, 3) := by decide +kernel
theorem dX7_digest_107 : decode cX7_digest 107 = .ok (.iload_n 3, 1) := by decide +kernel
theorem dX7_digest_108 : decode cX7_digest 108 = .ok (.iaload, 1) := by decide +kernel
theorem dX7_digest_109 : decode cX7_digest 109 = .ok (.i2l, 1) := by decide +kernel
theorem dX7_digest_110 : decode cX7_digest 110 = .ok (.ladd, 1) := by decide +kernel
theorem dX7_digest_111 : decode cX7_digest 111 = .ok (.lstore_n 1, 1) := by decide +kernel
theorem dX7_digest_112 : decode cX7_digest 112 = .ok (.iinc 3 1, 3) := by decide +kernel
theorem dX7_digest_115 : decode cX7_digest 115 = .ok (.goto (-23), 3) := by decide +kernel
theorem dX7_digest_118 : decode cX7_digest 118 = .ok (.iconst 0, 1) := by decide +kernel
theorem dX7_digest_119 : decode cX7_digest 119 = .ok (.istore_n 3, 1) := by decide +kernel
theorem dX7_digest_120 : decode cX7_digest 120 = .ok (.iload_n 3, 1) := by decide +kernel
theorem dX7_digest_121 : decode cX7_digest 121 = .ok (.aload_n 0, 1) := by decide +kernel
theorem dX7_digest_122 : decode cX7_digest 122 = .ok (.getfield 132, 3) := by decide +kernel
theorem dX7_digest_125 : decode cX7_digest 125 = .ok (.if_icmp .ge 35, 3) := by decide +kernel
theorem dX7_digest_128 : decode cX7_digest 128 = .ok (.aload_n 0, 1) := by decide +kernel
theorem dX7_digest_129 : decode cX7_digest 129 = .ok (.getfield 34, 3) := by decide +kernel
theorem dX7_digest_132 : decode cX7_digest 132 = .ok (.iload_n 3, 1) := by decide +kernel
theorem dX7_digest_133 : decode cX7_digest 133 = .ok (.baload, 1) := by decide +kernel
theorem dX7_digest_134 : decode cX7_digest 134 = .ok (.ifCond .eq 13, 3) := by decide +kernel
theorem dX7_digest_137 : decode cX7_digest 137 = .ok (.ldc2_w 234, 3) := by decide +kernel
theorem dX7_digest_140 : decode cX7_digest 140 = .ok (.lload_n 1, 1) := by decide +kernel
theorem dX7_digest_141 : decode cX7_digest 141 = .ok (.lmul, 1) := by decide +kernel
theorem dX7_digest_142 : decode cX7_digest 142 = .ok (.lconst 1, 1) := by decide +kernel
theorem dX7_digest_143 : decode cX7_digest 143 = .ok (.lsub, 1) := by decide +kernel
theorem dX7_digest_144 : decode cX7_digest 144 = .ok (.goto 9, 3) := by decide +kernel
theorem dX7_digest_147 : decode cX7_digest 147 = .ok (.aload_n 0, 1) := by decide +kernel
theorem dX7_digest_148 : decode cX7_digest 148 = .ok (.lload_n 1, 1) := by decide +kernel
theorem dX7_digest_149 : decode cX7_digest 149 = .ok (.iload_n 3, 1) := by decide +kernel
theorem dX7_digest_150 : decode cX7_digest 150 = .ok (.invokevirtual 238, 3) := by decide +kernel
theorem dX7_digest_153 : decode cX7_digest 153 = .ok (.lstore_n 1, 1) := by decide +kernel
theorem dX7_digest_154 : decode cX7_digest 154 = .ok (.iinc 3 1, 3) := by decide +kernel
theorem dX7_digest_157 : decode cX7_digest 157 = .ok (.goto (-37), 3) := by decide +kernel
theorem dX7_digest_160 : decode cX7_digest 160 = .ok (.ldc2_w 234, 3) := by decide +kernel
theorem dX7_digest_163 : decode cX7_digest 163 = .ok (.lload_n 1, 1) := by decide +kernel
theorem dX7_digest_164 : decode cX7_digest 164 = .ok (.lmul, 1) := by decide +kernel
theorem dX7_digest_165 : decode cX7_digest 165 = .ok (.aload_n 0, 1) := by decide +kernel
theorem dX7_digest_166 : decode cX7_digest 166 = .ok (.getfield 138, 3) := by decide +kernel
theorem dX7_digest_169 : decode cX7_digest 169 = .ok (.i2l, 1) := by decide +kernel
theorem dX7_digest_170 : decode cX7_digest 170 = .ok (.ladd, 1) := by decide +kernel
theorem dX7_digest_171 : decode cX7_digest 171 = .ok (.lstore_n 1, 1) := by decide +kernel
theorem dX7_digest_172 : decode cX7_digest 172 = .ok (.iconst 0, 1) := by decide +kernel
theorem dX7_digest_173 : decode cX7_digest 173 = .ok (.istore_n 3, 1) := by decide +kernel
theorem dX7_digest_174 : decode cX7_digest 174 = .ok (.iload_n 3, 1) := by decide +kernel
theorem dX7_digest_175 : decode cX7_digest 175 = .ok (.aload_n 0, 1) := by decide +kernel
theorem dX7_digest_176 : decode cX7_digest 176 = .ok (.getfield 138, 3) := by decide +kernel
theorem dX7_digest_179 : decode cX7_digest 179 = .ok (.if_icmp .ge 39, 3) := by decide +kernel
theorem dX7_digest_182 : decode cX7_digest 182 = .ok (.iconst 0, 1) := by decide +kernel
theorem dX7_digest_183 : decode cX7_digest 183 = .ok (.istore 4, 2) := by decide +kernel
theorem dX7_digest_185 : decode cX7_digest 185 = .ok (.iload 4, 2) := by decide +kernel
theorem dX7_digest_187 : decode cX7_digest 187 = .ok (.iconst 4, 1) := by decide +kernel
theorem dX7_digest_188 : decode cX7_digest 188 = .ok (.if_icmp .ge 24, 3) := by decide +kernel
theorem dX7_digest_191 : decode cX7_digest 191 = .ok (.ldc2_w 234, 3) := by decide +kernel
theorem dX7_digest_194 : decode cX7_digest 194 = .ok (.lload_n 1, 1) := by decide +kernel
theorem dX7_digest_195 : decode cX7_digest 195 = .ok (.lmul, 1) := by decide +kernel
theorem dX7_digest_196 : decode cX7_digest 196 = .ok (.aload_n 0, 1) := by decide +kernel
theorem dX7_digest_197 : decode cX7_digest 197 = .ok (.iload_n 3, 1) := by decide +kernel
theorem dX7_digest_198 : decode cX7_digest 198 = .ok (.iload 4, 2) := by decide +kernel
theorem dX7_digest_200 : decode cX7_digest 200 = .ok (.invokevirtual 231, 3) := by decide +kernel
theorem dX7_digest_203 : decode cX7_digest 203 = .ok (.i2l, 1) := by decide +kernel
theorem dX7_digest_204 : decode cX7_digest 204 = .ok (.ladd, 1) := by decide +kernel
theorem dX7_digest_205 : decode cX7_digest 205 = .ok (.lstore_n 1, 1) := by decide +kernel
theorem dX7_digest_206 : decode cX7_digest 206 = .ok (.iinc 4 1, 3) := by decide +kernel
theorem dX7_digest_209 : decode cX7_digest 209 = .ok (.goto (-24), 3) := by decide +kernel
theorem dX7_digest_212 : decode cX7_digest 212 = .ok (.iinc 3 1, 3) := by decide +kernel
theorem dX7_digest_215 : decode cX7_digest 215 = .ok (.goto (-41), 3) := by decide +kernel
theorem dX7_digest_218 : decode cX7_digest 218 = .ok (.lload_n 1, 1) := by decide +kernel
theorem dX7_digest_219 : decode cX7_digest 219 = .ok (.lreturn, 1) := by decide +kernel
theorem dX7_digestCell_0 : decode cX7_digestCell 0 = .ok (.lload_n 1, 1) := by decide +kernel
theorem dX7_digestCell_1 : decode cX7_digestCell 1 = .ok (.lstore 4, 2) := by decide +kernel
theorem dX7_digestCell_3 : decode cX7_digestCell 3 = .ok (.iconst 0, 1) := by decide +kernel
theorem dX7_digestCell_4 : decode cX7_digestCell 4 = .ok (.istore 6, 2) := by decide +kernel
theorem dX7_digestCell_6 : decode cX7_digestCell 6 = .ok (.iload 6, 2) := by decide +kernel
theorem dX7_digestCell_8 : decode cX7_digestCell 8 = .ok (.bipush 7, 2) := by decide +kernel
theorem dX7_digestCell_10 : decode cX7_digestCell 10 = .ok (.if_icmp .ge 26, 3) := by decide +kernel
theorem dX7_digestCell_13 : decode cX7_digestCell 13 = .ok (.ldc2_w 234, 3) := by decide +kernel
theorem dX7_digestCell_16 : decode cX7_digestCell 16 = .ok (.lload 4, 2) := by decide +kernel
theorem dX7_digestCell_18 : decode cX7_digestCell 18 = .ok (.lmul, 1) := by decide +kernel
theorem dX7_digestCell_19 : decode cX7_digestCell 19 = .ok (.aload_n 0, 1) := by decide +kernel
theorem dX7_digestCell_20 : decode cX7_digestCell 20 = .ok (.iload_n 3, 1) := by decide +kernel
theorem dX7_digestCell_21 : decode cX7_digestCell 21 = .ok (.iload 6, 2) := by decide +kernel
theorem dX7_digestCell_23 : decode cX7_digestCell 23 = .ok (.invokevirtual 166, 3) := by decide +kernel
theorem dX7_digestCell_26 : decode cX7_digestCell 26 = .ok (.i2l, 1) := by decide +kernel
theorem dX7_digestCell_27 : decode cX7_digestCell 27 = .ok (.ladd, 1) := by decide +kernel
theorem dX7_digestCell_28 : decode cX7_digestCell 28 = .ok (.lstore 4, 2) := by decide +kernel
theorem dX7_digestCell_30 : decode cX7_digestCell 30 = .ok (.iinc 6 1, 3) := by decide +kernel
theorem dX7_digestCell_33 : decode cX7_digestCell 33 = .ok (.goto (-27), 3) := by decide +kernel
theorem dX7_digestCell_36 : decode cX7_digestCell 36 = .ok (.iconst 0, 1) := by decide +kernel
theorem dX7_digestCell_37 : decode cX7_digestCell 37 = .ok (.istore 6, 2) := by decide +kernel
theorem dX7_digestCell_39 : decode cX7_digestCell 39 = .ok (.iload 6, 2) := by decide +kernel
theorem dX7_digestCell_41 : decode cX7_digestCell 41 = .ok (.aload_n 0, 1) := by decide +kernel
theorem dX7_digestCell_42 : decode cX7_digestCell 42 = .ok (.getfield 38, 3) := by decide +kernel
theorem dX7_digestCell_45 : decode cX7_digestCell 45 = .ok (.iload_n 3, 1) := by decide +kernel
theorem dX7_digestCell_46 : decode cX7_digestCell 46 = .ok (.iaload, 1) := by decide +kernel
theorem dX7_digestCell_47 : decode cX7_digestCell 47 = .ok (.if_icmp .ge 31, 3) := by decide +kernel
theorem dX7_digestCell_50 : decode cX7_digestCell 50 = .ok (.ldc2_w 234, 3) := by decide +kernel
theorem dX7_digestCell_53 : decode cX7_digestCell 53 = .ok (.lload 4, 2) := by decide +kernel
theorem dX7_digestCell_55 : decode cX7_digestCell 55 = .ok (.lmul, 1) := by decide +kernel
theorem dX7_digestCell_56 : decode cX7_digestCell 56 = .ok (.aload_n 0, 1) := by decide +kernel
theorem dX7_digestCell_57 : decode cX7_digestCell 57 = .ok (.getfield 41, 3) := by decide +kernel
theorem dX7_digestCell_60 : decode cX7_digestCell 60 = .ok (.bipush 12, 2) := by decide +kernel
theorem dX7_digestCell_62 : decode cX7_digestCell 62 = .ok (.iload_n 3, 1) := by decide +kernel
theorem dX7_digestCell_63 : decode cX7_digestCell 63 = .ok (.imul, 1) := by decide +kernel
theorem dX7_digestCell_64 : decode cX7_digestCell 64 = .ok (.iload 6, 2) := by decide +kernel
theorem dX7_digestCell_66 : decode cX7_digestCell 66 = .ok (.iadd, 1) := by decide +kernel
theorem dX7_digestCell_67 : decode cX7_digestCell 67 = .ok (.iaload, 1) := by decide +kernel
theorem dX7_digestCell_68 : decode cX7_digestCell 68 = .ok (.i2l, 1) := by decide +kernel
theorem dX7_digestCell_69 : decode cX7_digestCell 69 = .ok (.ladd, 1) := by decide +kernel
theorem dX7_digestCell_70 : decode cX7_digestCell 70 = .ok (.lstore 4, 2) := by decide +kernel
theorem dX7_digestCell_72 : decode cX7_digestCell 72 = .ok (.iinc 6 1, 3) := by decide +kernel
theorem dX7_digestCell_75 : decode cX7_digestCell 75 = .ok (.goto (-36), 3) := by decide +kernel
theorem dX7_digestCell_78 : decode cX7_digestCell 78 = .ok (.aload_n 0, 1) := by decide +kernel
theorem dX7_digestCell_79 : decode cX7_digestCell 79 = .ok (.getfield 19, 3) := by decide +kernel
theorem dX7_digestCell_82 : decode cX7_digestCell 82 = .ok (.iload_n 3, 1) := by decide +kernel
theorem dX7_digestCell_83 : decode cX7_digestCell 83 = .ok (.iaload, 1) := by decide +kernel
theorem dX7_digestCell_84 : decode cX7_digestCell 84 = .ok (.iconst 2, 1) := by decide +kernel
theorem dX7_digestCell_85 : decode cX7_digestCell 85 = .ok (.if_icmp .ne 20, 3) := by decide +kernel
theorem dX7_digestCell_88 : decode cX7_digestCell 88 = .ok (.ldc2_w 234, 3) := by decide +kernel
theorem dX7_digestCell_91 : decode cX7_digestCell 91 = .ok (.lload 4, 2) := by decide +kernel
theorem dX7_digestCell_93 : decode cX7_digestCell 93 = .ok (.lmul, 1) := by decide +kernel
theorem dX7_digestCell_94 : decode cX7_digestCell 94 = .ok (.aload_n 0, 1) := by decide +kernel
theorem dX7_digestCell_95 : decode cX7_digestCell 95 = .ok (.getfield 47, 3) := by decide +kernel
theorem dX7_digestCell_98 : decode cX7_digestCell 98 = .ok (.iload_n 3, 1) := by decide +kernel
theorem dX7_digestCell_99 : decode cX7_digestCell 99 = .ok (.iaload, 1) := by decide +kernel
theorem dX7_digestCell_100 : decode cX7_digestCell 100 = .ok (.i2l, 1) := by decide +kernel
theorem dX7_digestCell_101 : decode cX7_digestCell 101 = .ok (.ladd, 1) := by decide +kernel
theorem dX7_digestCell_102 : decode cX7_digestCell 102 = .ok (.goto 5, 3) := by decide +kernel
theorem dX7_digestCell_105 : decode cX7_digestCell 105 = .ok (.lload 4, 2) := by decide +kernel
theorem dX7_digestCell_107 : decode cX7_digestCell 107 = .ok (.lreturn, 1) := by decide +kernel
end
section
theorem dL_law_0 : decode cL_law 0 = .ok (.new 7, 3) := by decide +kernel
theorem dL_law_3 : decode cL_law 3 = .ok (.dup, 1) := by decide +kernel
theorem dL_law_4 : decode cL_law 4 = .ok (.invokespecial 9, 3) := by decide +kernel
theorem dL_law_7 : decode cL_law 7 = .ok (.astore_n 1, 1) := by decide +kernel
theorem dL_law_8 : decode cL_law 8 = .ok (.new 10, 3) := by decide +kernel
theorem dL_law_11 : decode cL_law 11 = .ok (.dup, 1) := by decide +kernel
theorem dL_law_12 : decode cL_law 12 = .ok (.invokespecial 12, 3) := by decide +kernel
theorem dL_law_15 : decode cL_law 15 = .ok (.astore_n 2, 1) := by decide +kernel
theorem dL_law_16 : decode cL_law 16 = .ok (.iconst 0, 1) := by decide +kernel
theorem dL_law_17 : decode cL_law 17 = .ok (.istore_n 3, 1) := by decide +kernel
theorem dL_law_18 : decode cL_law 18 = .ok (.iload_n 3, 1) := by decide +kernel
theorem dL_law_19 : decode cL_law 19 = .ok (.aload_n 0, 1) := by decide +kernel
theorem dL_law_20 : decode cL_law 20 = .ok (.arraylength, 1) := by decide +kernel
theorem dL_law_21 : decode cL_law 21 = .ok (.bipush 6, 2) := by decide +kernel
theorem dL_law_23 : decode cL_law 23 = .ok (.isub, 1) := by decide +kernel
theorem dL_law_24 : decode cL_law 24 = .ok (.if_icmp .gt 1078, 3) := by decide +kernel
theorem dL_law_27 : decode cL_law 27 = .ok (.aload_n 0, 1) := by decide +kernel
theorem dL_law_28 : decode cL_law 28 = .ok (.iload_n 3, 1) := by decide +kernel
theorem dL_law_29 : decode cL_law 29 = .ok (.iaload, 1) := by decide +kernel
theorem dL_law_30 : decode cL_law 30 = .ok (.bipush 31, 2) := by decide +kernel
theorem dL_law_32 : decode cL_law 32 = .ok (.iand, 1) := by decide +kernel
theorem dL_law_33 : decode cL_law 33 = .ok (.tableswitch 1063 0 30 #[139, 182, 215, 248, 311, 324, 347, 380, 413, 446, 479, 522, 585, 608, 641, 674, 707, 740, 773, 796, 829, 842, 865, 888, 911, 944, 967, 990, 1013, 1026, 1049], 139) := by decide +kernel
theorem dL_law_172 : decode cL_law 172 = .ok (.aload_n 1, 1) := by decide +kernel
theorem dL_law_173 : decode cL_law 173 = .ok (.aload_n 0, 1) := by decide +kernel
theorem dL_law_174 : decode cL_law 174 = .ok (.iload_n 3, 1) := by decide +kernel
theorem dL_law_175 : decode cL_law 175 = .ok (.iconst 1, 1) := by decide +kernel
theorem dL_law_176 : decode cL_law 176 = .ok (.iadd, 1) := by decide +kernel
theorem dL_law_177 : decode cL_law 177 = .ok (.iaload, 1) := by decide +kernel
theorem dL_law_178 : decode cL_law 178 = .ok (.aload_n 0, 1) := by decide +kernel
theorem dL_law_179 : decode cL_law 179 = .ok (.iload_n 3, 1) := by decide +kernel
theorem dL_law_180 : decode cL_law 180 = .ok (.iconst 2, 1) := by decide +kernel
theorem dL_law_181 : decode cL_law 181 = .ok (.iadd, 1) := by decide +kernel
theorem dL_law_182 : decode cL_law 182 = .ok (.iaload, 1) := by decide +kernel
theorem dL_law_183 : decode cL_law 183 = .ok (.aload_n 0, 1) := by decide +kernel
theorem dL_law_184 : decode cL_law 184 = .ok (.iload_n 3, 1) := by decide +kernel
theorem dL_law_185 : decode cL_law 185 = .ok (.iconst 3, 1) := by decide +kernel
theorem dL_law_186 : decode cL_law 186 = .ok (.iadd, 1) := by decide +kernel
theorem dL_law_187 : decode cL_law 187 = .ok (.iaload, 1) := by decide +kernel
theorem dL_law_188 : decode cL_law 188 = .ok (.invokevirtual 13, 3) := by decide +kernel
theorem dL_law_191 : decode cL_law 191 = .ok (.aload_n 2, 1) := by decide +kernel
theorem dL_law_192 : decode cL_law 192 = .ok (.aload_n 0, 1) := by decide +kernel
theorem dL_law_193 : decode cL_law 193 = .ok (.iload_n 3, 1) := by decide +kernel
theorem dL_law_194 : decode cL_law 194 = .ok (.iconst 1, 1) := by decide +kernel
theorem dL_law_195 : decode cL_law 195 = .ok (.iadd, 1) := by decide +kernel
theorem dL_law_196 : decode cL_law 196 = .ok (.iaload, 1) := by decide +kernel
theorem dL_law_197 : decode cL_law 197 = .ok (.aload_n 0, 1) := by decide +kernel
theorem dL_law_198 : decode cL_law 198 = .ok (.iload_n 3, 1) := by decide +kernel
theorem dL_law_199 : decode cL_law 199 = .ok (.iconst 2, 1) := by decide +kernel
theorem dL_law_200 : decode cL_law 200 = .ok (.iadd, 1) := by decide +kernel
theorem dL_law_201 : decode cL_law 201 = .ok (.iaload, 1) := by decide +kernel
theorem dL_law_202 : decode cL_law 202 = .ok (.aload_n 0, 1) := by decide +kernel
theorem dL_law_203 : decode cL_law 203 = .ok (.iload_n 3, 1) := by decide +kernel
theorem dL_law_204 : decode cL_law 204 = .ok (.iconst 3, 1) := by decide +kernel
theorem dL_law_205 : decode cL_law 205 = .ok (.iadd, 1) := by decide +kernel
theorem dL_law_206 : decode cL_law 206 = .ok (.iaload, 1) := by decide +kernel
theorem dL_law_207 : decode cL_law 207 = .ok (.invokevirtual 17, 3) := by decide +kernel
theorem dL_law_210 : decode cL_law 210 = .ok (.if_icmp .eq 886, 3) := by decide +kernel
theorem dL_law_213 : decode cL_law 213 = .ok (.iconst 0, 1) := by decide +kernel
theorem dL_law_214 : decode cL_law 214 = .ok (.ireturn, 1) := by decide +kernel
theorem dL_law_215 : decode cL_law 215 = .ok (.aload_n 1, 1) := by decide +kernel
theorem dL_law_216 : decode cL_law 216 = .ok (.aload_n 0, 1) := by decide +kernel
theorem dL_law_217 : decode cL_law 217 = .ok (.iload_n 3, 1) := by decide +kernel
theorem dL_law_218 : decode cL_law 218 = .ok (.iconst 1, 1) := by decide +kernel
theorem dL_law_219 : decode cL_law 219 = .ok (.iadd, 1) := by decide +kernel
theorem dL_law_220 : decode cL_law 220 = .ok (.iaload, 1) := by decide +kernel
theorem dL_law_221 : decode cL_law 221 = .ok (.aload_n 0, 1) := by decide +kernel
theorem dL_law_222 : decode cL_law 222 = .ok (.iload_n 3, 1) := by decide +kernel
theorem dL_law_223 : decode cL_law 223 = .ok (.iconst 2, 1) := by decide +kernel
theorem dL_law_224 : decode cL_law 224 = .ok (.iadd, 1) := by decide +kernel
theorem dL_law_225 : decode cL_law 225 = .ok (.iaload, 1) := by decide +kernel
theorem dL_law_226 : decode cL_law 226 = .ok (.invokevirtual 18, 3) := by decide +kernel
theorem dL_law_229 : decode cL_law 229 = .ok (.aload_n 2, 1) := by decide +kernel
theorem dL_law_230 : decode cL_law 230 = .ok (.aload_n 0, 1) := by decide +kernel
theorem dL_law_231 : decode cL_law 231 = .ok (.iload_n 3, 1) := by decide +kernel
theorem dL_law_232 : decode cL_law 232 = .ok (.iconst 1, 1) := by decide +kernel
theorem dL_law_233 : decode cL_law 233 = .ok (.iadd, 1) := by decide +kernel
theorem dL_law_234 : decode cL_law 234 = .ok (.iaload, 1) := by decide +kernel
theorem dL_law_235 : decode cL_law 235 = .ok (.aload_n 0, 1) := by decide +kernel
theorem dL_law_236 : decode cL_law 236 = .ok (.iload_n 3, 1) := by decide +kernel
theorem dL_law_237 : decode cL_law 237 = .ok (.iconst 2, 1) := by decide +kernel
theorem dL_law_238 : decode cL_law 238 = .ok (.iadd, 1) := by decide +kernel
theorem dL_law_239 : decode cL_law 239 = .ok (.iaload, 1) := by decide +kernel
theorem dL_law_240 : decode cL_law 240 = .ok (.invokevirtual 22, 3) := by decide +kernel
theorem dL_law_243 : decode cL_law 243 = .ok (.if_icmp .eq 853, 3) := by decide +kernel
theorem dL_law_246 : decode cL_law 246 = .ok (.iconst 0, 1) := by decide +kernel
theorem dL_law_247 : decode cL_law 247 = .ok (.ireturn, 1) := by decide +kernel
theorem dL_law_248 : decode cL_law 248 = .ok (.aload_n 1, 1) := by decide +kernel
theorem dL_law_249 : decode cL_law 249 = .ok (.aload_n 0, 1) := by decide +kernel
theorem dL_law_250 : decode cL_law 250 = .ok (.iload_n 3, 1) := by decide +kernel
theorem dL_law_251 : decode cL_law 251 = .ok (.iconst 1, 1) := by decide +kernel
theorem dL_law_252 : decode cL_law 252 = .ok (.iadd, 1) := by decide +kernel
theorem dL_law_253 : decode cL_law 253 = .ok (.iaload, 1) := by decide +kernel
theorem dL_law_254 : decode cL_law 254 = .ok (.aload_n 0, 1) := by decide +kernel
theorem dL_law_255 : decode cL_law 255 = .ok (.iload_n 3, 1) := by decide +kernel
theorem dL_law_256 : decode cL_law 256 = .ok (.iconst 2, 1) := by decide +kernel
theorem dL_law_257 : decode cL_law 257 = .ok (.iadd, 1) := by decide +kernel
theorem dL_law_258 : decode cL_law 258 = .ok (.iaload, 1) := by decide +kernel
theorem dL_law_259 : decode cL_law 259 = .ok (.invokevirtual 23, 3) := by decide +kernel
theorem dL_law_262 : decode cL_law 262 = .ok (.aload_n 2, 1) := by decide +kernel
theorem dL_law_263 : decode cL_law 263 = .ok (.aload_n 0, 1) := by decide +kernel
theorem dL_law_264 : decode cL_law 264 = .ok (.iload_n 3, 1) := by decide +kernel
theorem dL_law_265 : decode cL_law 265 = .ok (.iconst 1, 1) := by decide +kernel
theorem dL_law_266 : decode cL_law 266 = .ok (.iadd, 1) := by decide +kernel
theorem dL_law_267 : decode cL_law 267 = .ok (.iaload, 1) := by decide +kernel
theorem dL_law_268 : decode cL_law 268 = .ok (.aload_n 0, 1) := by decide +kernel
theorem dL_law_269 : decode cL_law 269 = .ok (.iload_n 3, 1) := by decide +kernel
theorem dL_law_270 : decode cL_law 270 = .ok (.iconst 2, 1) := by decide +kernel
theorem dL_law_271 : decode cL_law 271 = .ok (.iadd, 1) := by decide +kernel
theorem dL_law_272 : decode cL_law 272 = .ok (.iaload, 1) := by decide +kernel
theorem dL_law_273 : decode cL_law 273 = .ok (.invokevirtual 26, 3) := by decide +kernel
theorem dL_law_276 : decode cL_law 276 = .ok (.if_icmp .eq 820, 3) := by decide +kernel
theorem dL_law_279 : decode cL_law 279 = .ok (.iconst 0, 1) := by decide +kernel
theorem dL_law_280 : decode cL_law 280 = .ok (.ireturn, 1) := by decide +kernel
theorem dL_law_281 : decode cL_law 281 = .ok (.aload_n 1, 1) := by decide +kernel
theorem dL_law_282 : decode cL_law 282 = .ok (.aload_n 0, 1) := by decide +kernel
theorem dL_law_283 : decode cL_law 283 = .ok (.iload_n 3, 1) := by decide +kernel
theorem dL_law_284 : decode cL_law 284 = .ok (.iconst 1, 1) := by decide +kernel
theorem dL_law_285 : decode cL_law 285 = .ok (.iadd, 1) := by decide +kernel
theorem dL_law_286 : decode cL_law 286 = .ok (.iaload, 1) := by decide +kernel
theorem dL_law_287 : decode cL_law 287 = .ok (.aload_n 0, 1) := by decide +kernel
theorem dL_law_288 : decode cL_law 288 = .ok (.iload_n 3, 1) := by decide +kernel
theorem dL_law_289 : decode cL_law 289 = .ok (.iconst 2, 1) := by decide +kernel
theorem dL_law_290 : decode cL_law 290 = .ok (.iadd, 1) := by decide +kernel
theorem dL_law_291 : decode cL_law 291 = .ok (.iaload, 1) := by decide +kernel
theorem dL_law_292 : decode cL_law 292 = .ok (.aload_n 0, 1) := by decide +kernel
theorem dL_law_293 : decode cL_law 293 = .ok (.iload_n 3, 1) := by decide +kernel
theorem dL_law_294 : decode cL_law 294 = .ok (.iconst 3, 1) := by decide +kernel
theorem dL_law_295 : decode cL_law 295 = .ok (.iadd, 1) := by decide +kernel
theorem dL_law_296 : decode cL_law 296 = .ok (.iaload, 1) := by decide +kernel
theorem dL_law_297 : decode cL_law 297 = .ok (.aload_n 0, 1) := by decide +kernel
theorem dL_law_298 : decode cL_law 298 = .ok (.iload_n 3, 1) := by decide +kernel
theorem dL_law_299 : decode cL_law 299 = .ok (.iconst 4, 1) := by decide +kernel
theorem dL_law_300 : decode cL_law 300 = .ok (.iadd, 1) := by decide +kernel
theorem dL_law_301 : decode cL_law 301 = .ok (.iaload, 1) := by decide +kernel
theorem dL_law_302 : decode cL_law 302 = .ok (.aload_n 0, 1) := by decide +kernel
theorem dL_law_303 : decode cL_law 303 = .ok (.iload_n 3, 1) := by decide +kernel
theorem dL_law_304 : decode cL_law 304 = .ok (.iconst 5, 1) := by decide +kernel
theorem dL_law_305 : decode cL_law 305 = .ok (.iadd, 1) := by decide +kernel
theorem dL_law_306 : decode cL_law 306 = .ok (.iaload, 1) := by decide +kernel
theorem dL_law_307 : decode cL_law 307 = .ok (.invokevirtual 27, 3) := by decide +kernel
theorem dL_law_310 : decode cL_law 310 = .ok (.aload_n 2, 1) := by decide +kernel
theorem dL_law_311 : decode cL_law 311 = .ok (.aload_n 0, 1) := by decide +kernel
theorem dL_law_312 : decode cL_law 312 = .ok (.iload_n 3, 1) := by decide +kernel
theorem dL_law_313 : decode cL_law 313 = .ok (.iconst 1, 1) := by decide +kernel
theorem dL_law_314 : decode cL_law 314 = .ok (.iadd, 1) := by decide +kernel
theorem dL_law_315 : decode cL_law 315 = .ok (.iaload, 1) := by decide +kernel
theorem dL_law_316 : decode cL_law 316 = .ok (.aload_n 0, 1) := by decide +kernel
theorem dL_law_317 : decode cL_law 317 = .ok (.iload_n 3, 1) := by decide +kernel
theorem dL_law_318 : decode cL_law 318 = .ok (.iconst 2, 1) := by decide +kernel
theorem dL_law_319 : decode cL_law 319 = .ok (.iadd, 1) := by decide +kernel
theorem dL_law_320 : decode cL_law 320 = .ok (.iaload, 1) := by decide +kernel
theorem dL_law_321 : decode cL_law 321 = .ok (.aload_n 0, 1) := by decide +kernel
theorem dL_law_322 : decode cL_law 322 = .ok (.iload_n 3, 1) := by decide +kernel
theorem dL_law_323 : decode cL_law 323 = .ok (.iconst 3, 1) := by decide +kernel
theorem dL_law_324 : decode cL_law 324 = .ok (.iadd, 1) := by decide +kernel
theorem dL_law_325 : decode cL_law 325 = .ok (.iaload, 1) := by decide +kernel
theorem dL_law_326 : decode cL_law 326 = .ok (.aload_n 0, 1) := by decide +kernel
theorem dL_law_327 : decode cL_law 327 = .ok (.iload_n 3, 1) := by decide +kernel
theorem dL_law_328 : decode cL_law 328 = .ok (.iconst 4, 1) := by decide +kernel
theorem dL_law_329 : decode cL_law 329 = .ok (.iadd, 1) := by decide +kernel
theorem dL_law_330 : decode cL_law 330 = .ok (.iaload, 1) := by decide +kernel
theorem dL_law_331 : decode cL_law 331 = .ok (.aload_n 0, 1) := by decide +kernel
theorem dL_law_332 : decode cL_law 332 = .ok (.iload_n 3, 1) := by decide +kernel
theorem dL_law_333 : decode cL_law 333 = .ok (.iconst 5, 1) := by decide +kernel
theorem dL_law_334 : decode cL_law 334 = .ok (.iadd, 1) := by decide +kernel
theorem dL_law_335 : decode cL_law 335 = .ok (.iaload, 1) := by decide +kernel
theorem dL_law_336 : decode cL_law 336 = .ok (.invokevirtual 31, 3) := by decide +kernel
theorem dL_law_339 : decode cL_law 339 = .ok (.if_icmp .eq 757, 3) := by decide +kernel
theorem dL_law_342 : decode cL_law 342 = .ok (.iconst 0, 1) := by decide +kernel
theorem dL_law_343 : decode cL_law 343 = .ok (.ireturn, 1) := by decide +kernel
theorem dL_law_344 : decode cL_law 344 = .ok (.aload_n 1, 1) := by decide +kernel
theorem dL_law_345 : decode cL_law 345 = .ok (.invokevirtual 32, 3) := by decide +kernel
theorem dL_law_348 : decode cL_law 348 = .ok (.aload_n 2, 1) := by decide +kernel
theorem dL_law_349 : decode cL_law 349 = .ok (.invokevirtual 36, 3) := by decide +kernel
theorem dL_law_352 : decode cL_law 352 = .ok (.if_icmp .eq 744, 3) := by decide +kernel
theorem dL_law_355 : decode cL_law 355 = .ok (.iconst 0, 1) := by decide +kernel
theorem dL_law_356 : decode cL_law 356 = .ok (.ireturn, 1) := by decide +kernel
theorem dL_law_357 : decode cL_law 357 = .ok (.aload_n 1, 1) := by decide +kernel
theorem dL_law_358 : decode cL_law 358 = .ok (.aload_n 0, 1) := by decide +kernel
theorem dL_law_359 : decode cL_law 359 = .ok (.iload_n 3, 1) := by decide +kernel
theorem dL_law_360 : decode cL_law 360 = .ok (.iconst 1, 1) := by decide +kernel
theorem dL_law_361 : decode cL_law 361 = .ok (.iadd, 1) := by decide +kernel
theorem dL_law_362 : decode cL_law 362 = .ok (.iaload, 1) := by decide +kernel
theorem dL_law_363 : decode cL_law 363 = .ok (.invokevirtual 37, 3) := by decide +kernel
theorem dL_law_366 : decode cL_law 366 = .ok (.aload_n 2, 1) := by decide +kernel
theorem dL_law_367 : decode cL_law 367 = .ok (.aload_n 0, 1) := by decide +kernel
theorem dL_law_368 : decode cL_law 368 = .ok (.iload_n 3, 1) := by decide +kernel
theorem dL_law_369 : decode cL_law 369 = .ok (.iconst 1, 1) := by decide +kernel
theorem dL_law_370 : decode cL_law 370 = .ok (.iadd, 1) := by decide +kernel
theorem dL_law_371 : decode cL_law 371 = .ok (.iaload, 1) := by decide +kernel
theorem dL_law_372 : decode cL_law 372 = .ok (.invokevirtual 41, 3) := by decide +kernel
theorem dL_law_375 : decode cL_law 375 = .ok (.if_icmp .eq 721, 3) := by decide +kernel
theorem dL_law_378 : decode cL_law 378 = .ok (.iconst 0, 1) := by decide +kernel
theorem dL_law_379 : decode cL_law 379 = .ok (.ireturn, 1) := by decide +kernel
theorem dL_law_380 : decode cL_law 380 = .ok (.aload_n 1, 1) := by decide +kernel
theorem dL_law_381 : decode cL_law 381 = .ok (.aload_n 0, 1) := by decide +kernel
theorem dL_law_382 : decode cL_law 382 = .ok (.iload_n 3, 1) := by decide +kernel
theorem dL_law_383 : decode cL_law 383 = .ok (.iconst 1, 1) := by decide +kernel
theorem dL_law_384 : decode cL_law 384 = .ok (.iadd, 1) := by decide +kernel
theorem dL_law_385 : decode cL_law 385 = .ok (.iaload, 1) := by decide +kernel
theorem dL_law_386 : decode cL_law 386 = .ok (.aload_n 0, 1) := by decide +kernel
theorem dL_law_387 : decode cL_law 387 = .ok (.iload_n 3, 1) := by decide +kernel
theorem dL_law_388 : decode cL_law 388 = .ok (.iconst 2, 1) := by decide +kernel
theorem dL_law_389 : decode cL_law 389 = .ok (.iadd, 1) := by decide +kernel
theorem dL_law_390 : decode cL_law 390 = .ok (.iaload, 1) := by decide +kernel
theorem dL_law_391 : decode cL_law 391 = .ok (.invokevirtual 42, 3) := by decide +kernel
theorem dL_law_394 : decode cL_law 394 = .ok (.aload_n 2, 1) := by decide +kernel
theorem dL_law_395 : decode cL_law 395 = .ok (.aload_n 0, 1) := by decide +kernel
theorem dL_law_396 : decode cL_law 396 = .ok (.iload_n 3, 1) := by decide +kernel
theorem dL_law_397 : decode cL_law 397 = .ok (.iconst 1, 1) := by decide +kernel
theorem dL_law_398 : decode cL_law 398 = .ok (.iadd, 1) := by decide +kernel
theorem dL_law_399 : decode cL_law 399 = .ok (.iaload, 1) := by decide +kernel
theorem dL_law_400 : decode cL_law 400 = .ok (.aload_n 0, 1) := by decide +kernel
theorem dL_law_401 : decode cL_law 401 = .ok (.iload_n 3, 1) := by decide +kernel
theorem dL_law_402 : decode cL_law 402 = .ok (.iconst 2, 1) := by decide +kernel
theorem dL_law_403 : decode cL_law 403 = .ok (.iadd, 1) := by decide +kernel
theorem dL_law_404 : decode cL_law 404 = .ok (.iaload, 1) := by decide +kernel
theorem dL_law_405 : decode cL_law 405 = .ok (.invokevirtual 45, 3) := by decide +kernel
theorem dL_law_408 : decode cL_law 408 = .ok (.if_icmp .eq 688, 3) := by decide +kernel
theorem dL_law_411 : decode cL_law 411 = .ok (.iconst 0, 1) := by decide +kernel
theorem dL_law_412 : decode cL_law 412 = .ok (.ireturn, 1) := by decide +kernel
theorem dL_law_413 : decode cL_law 413 = .ok (.aload_n 1, 1) := by decide +kernel
theorem dL_law_414 : decode cL_law 414 = .ok (.aload_n 0, 1) := by decide +kernel
theorem dL_law_415 : decode cL_law 415 = .ok (.iload_n 3, 1) := by decide +kernel
theorem dL_law_416 : decode cL_law 416 = .ok (.iconst 1, 1) := by decide +kernel
theorem dL_law_417 : decode cL_law 417 = .ok (.iadd, 1) := by decide +kernel
theorem dL_law_418 : decode cL_law 418 = .ok (.iaload, 1) := by decide +kernel
theorem dL_law_419 : decode cL_law 419 = .ok (.aload_n 0, 1) := by decide +kernel
theorem dL_law_420 : decode cL_law 420 = .ok (.iload_n 3, 1) := by decide +kernel
theorem dL_law_421 : decode cL_law 421 = .ok (.iconst 2, 1) := by decide +kernel
theorem dL_law_422 : decode cL_law 422 = .ok (.iadd, 1) := by decide +kernel
theorem dL_law_423 : decode cL_law 423 = .ok (.iaload, 1) := by decide +kernel
theorem dL_law_424 : decode cL_law 424 = .ok (.invokevirtual 46, 3) := by decide +kernel
theorem dL_law_427 : decode cL_law 427 = .ok (.aload_n 2, 1) := by decide +kernel
theorem dL_law_428 : decode cL_law 428 = .ok (.aload_n 0, 1) := by decide +kernel
theorem dL_law_429 : decode cL_law 429 = .ok (.iload_n 3, 1) := by decide +kernel
theorem dL_law_430 : decode cL_law 430 = .ok (.iconst 1, 1) := by decide +kernel
theorem dL_law_431 : decode cL_law 431 = .ok (.iadd, 1) := by decide +kernel
theorem dL_law_432 : decode cL_law 432 = .ok (.iaload, 1) := by decide +kernel
theorem dL_law_433 : decode cL_law 433 = .ok (.aload_n 0, 1) := by decide +kernel
theorem dL_law_434 : decode cL_law 434 = .ok (.iload_n 3, 1) := by decide +kernel
theorem dL_law_435 : decode cL_law 435 = .ok (.iconst 2, 1) := by decide +kernel
theorem dL_law_436 : decode cL_law 436 = .ok (.iadd, 1) := by decide +kernel
theorem dL_law_437 : decode cL_law 437 = .ok (.iaload, 1) := by decide +kernel
theorem dL_law_438 : decode cL_law 438 = .ok (.invokevirtual 49, 3) := by decide +kernel
theorem dL_law_441 : decode cL_law 441 = .ok (.if_icmp .eq 655, 3) := by decide +kernel
theorem dL_law_444 : decode cL_law 444 = .ok (.iconst 0, 1) := by decide +kernel
theorem dL_law_445 : decode cL_law 445 = .ok (.ireturn, 1) := by decide +kernel
theorem dL_law_446 : decode cL_law 446 = .ok (.aload_n 1, 1) := by decide +kernel
theorem dL_law_447 : decode cL_law 447 = .ok (.aload_n 0, 1) := by decide +kernel
theorem dL_law_448 : decode cL_law 448 = .ok (.iload_n 3, 1) := by decide +kernel
theorem dL_law_449 : decode cL_law 449 = .ok (.iconst 1, 1) := by decide +kernel
theorem dL_law_450 : decode cL_law 450 = .ok (.iadd, 1) := by decide +kernel
theorem dL_law_451 : decode cL_law 451 = .ok (.iaload, 1) := by decide +kernel
theorem dL_law_452 : decode cL_law 452 = .ok (.aload_n 0, 1) := by decide +kernel
theorem dL_law_453 : decode cL_law 453 = .ok (.iload_n 3, 1) := by decide +kernel
theorem dL_law_454 : decode cL_law 454 = .ok (.iconst 2, 1) := by decide +kernel
theorem dL_law_455 : decode cL_law 455 = .ok (.iadd, 1) := by decide +kernel
theorem dL_law_456 : decode cL_law 456 = .ok (.iaload, 1) := by decide +kernel
theorem dL_law_457 : decode cL_law 457 = .ok (.invokevirtual 50, 3) := by decide +kernel
theorem dL_law_460 : decode cL_law 460 = .ok (.aload_n 2, 1) := by decide +kernel
theorem dL_law_461 : decode cL_law 461 = .ok (.aload_n 0, 1) := by decide +kernel
theorem dL_law_462 : decode cL_law 462 = .ok (.iload_n 3, 1) := by decide +kernel
theorem dL_law_463 : decode cL_law 463 = .ok (.iconst 1, 1) := by decide +kernel
theorem dL_law_464 : decode cL_law 464 = .ok (.iadd, 1) := by decide +kernel
theorem dL_law_465 : decode cL_law 465 = .ok (.iaload, 1) := by decide +kernel
theorem dL_law_466 : decode cL_law 466 = .ok (.aload_n 0, 1) := by decide +kernel
theorem dL_law_467 : decode cL_law 467 = .ok (.iload_n 3, 1) := by decide +kernel
theorem dL_law_468 : decode cL_law 468 = .ok (.iconst 2, 1) := by decide +kernel
theorem dL_law_469 : decode cL_law 469 = .ok (.iadd, 1) := by decide +kernel
theorem dL_law_470 : decode cL_law 470 = .ok (.iaload, 1) := by decide +kernel
theorem dL_law_471 : decode cL_law 471 = .ok (.invokevirtual 53, 3) := by decide +kernel
theorem dL_law_474 : decode cL_law 474 = .ok (.if_icmp .eq 622, 3) := by decide +kernel
theorem dL_law_477 : decode cL_law 477 = .ok (.iconst 0, 1) := by decide +kernel
theorem dL_law_478 : decode cL_law 478 = .ok (.ireturn, 1) := by decide +kernel
theorem dL_law_479 : decode cL_law 479 = .ok (.aload_n 1, 1) := by decide +kernel
theorem dL_law_480 : decode cL_law 480 = .ok (.aload_n 0, 1) := by decide +kernel
theorem dL_law_481 : decode cL_law 481 = .ok (.iload_n 3, 1) := by decide +kernel
theorem dL_law_482 : decode cL_law 482 = .ok (.iconst 1, 1) := by decide +kernel
theorem dL_law_483 : decode cL_law 483 = .ok (.iadd, 1) := by decide +kernel
theorem dL_law_484 : decode cL_law 484 = .ok (.iaload, 1) := by decide +kernel
theorem dL_law_485 : decode cL_law 485 = .ok (.aload_n 0, 1) := by decide +kernel
theorem dL_law_486 : decode cL_law 486 = .ok (.iload_n 3, 1) := by decide +kernel
theorem dL_law_487 : decode cL_law 487 = .ok (.iconst 2, 1) := by decide +kernel
theorem dL_law_488 : decode cL_law 488 = .ok (.iadd, 1) := by decide +kernel
theorem dL_law_489 : decode cL_law 489 = .ok (.iaload, 1) := by decide +kernel
theorem dL_law_490 : decode cL_law 490 = .ok (.invokevirtual 54, 3) := by decide +kernel
theorem dL_law_493 : decode cL_law 493 = .ok (.aload_n 2, 1) := by decide +kernel
theorem dL_law_494 : decode cL_law 494 = .ok (.aload_n 0, 1) := by decide +kernel
theorem dL_law_495 : decode cL_law 495 = .ok (.iload_n 3, 1) := by decide +kernel
theorem dL_law_496 : decode cL_law 496 = .ok (.iconst 1, 1) := by decide +kernel
theorem dL_law_497 : decode cL_law 497 = .ok (.iadd, 1) := by decide +kernel
theorem dL_law_498 : decode cL_law 498 = .ok (.iaload, 1) := by decide +kernel
theorem dL_law_499 : decode cL_law 499 = .ok (.aload_n 0, 1) := by decide +kernel
theorem dL_law_500 : decode cL_law 500 = .ok (.iload_n 3, 1) := by decide +kernel
theorem dL_law_501 : decode cL_law 501 = .ok (.iconst 2, 1) := by decide +kernel
theorem dL_law_502 : decode cL_law 502 = .ok (.iadd, 1) := by decide +kernel
theorem dL_law_503 : decode cL_law 503 = .ok (.iaload, 1) := by decide +kernel
theorem dL_law_504 : decode cL_law 504 = .ok (.invokevirtual 57, 3) := by decide +kernel
theorem dL_law_507 : decode cL_law 507 = .ok (.if_icmp .eq 589, 3) := by decide +kernel
theorem dL_law_510 : decode cL_law 510 = .ok (.iconst 0, 1) := by decide +kernel
theorem dL_law_511 : decode cL_law 511 = .ok (.ireturn, 1) := by decide +kernel
theorem dL_law_512 : decode cL_law 512 = .ok (.aload_n 1, 1) := by decide +kernel
theorem dL_law_513 : decode cL_law 513 = .ok (.aload_n 0, 1) := by decide +kernel
theorem dL_law_514 : decode cL_law 514 = .ok (.iload_n 3, 1) := by decide +kernel
theorem dL_law_515 : decode cL_law 515 = .ok (.iconst 1, 1) := by decide +kernel
theorem dL_law_516 : decode cL_law 516 = .ok (.iadd, 1) := by decide +kernel
theorem dL_law_517 : decode cL_law 517 = .ok (.iaload, 1) := by decide +kernel
theorem dL_law_518 : decode cL_law 518 = .ok (.aload_n 0, 1) := by decide +kernel
theorem dL_law_519 : decode cL_law 519 = .ok (.iload_n 3, 1) := by decide +kernel
theorem dL_law_520 : decode cL_law 520 = .ok (.iconst 2, 1) := by decide +kernel
theorem dL_law_521 : decode cL_law 521 = .ok (.iadd, 1) := by decide +kernel
theorem dL_law_522 : decode cL_law 522 = .ok (.iaload, 1) := by decide +kernel
theorem dL_law_523 : decode cL_law 523 = .ok (.aload_n 0, 1) := by decide +kernel
theorem dL_law_524 : decode cL_law 524 = .ok (.iload_n 3, 1) := by decide +kernel
theorem dL_law_525 : decode cL_law 525 = .ok (.iconst 3, 1) := by decide +kernel
theorem dL_law_526 : decode cL_law 526 = .ok (.iadd, 1) := by decide +kernel
theorem dL_law_527 : decode cL_law 527 = .ok (.iaload, 1) := by decide +kernel
theorem dL_law_528 : decode cL_law 528 = .ok (.invokevirtual 58, 3) := by decide +kernel
theorem dL_law_531 : decode cL_law 531 = .ok (.aload_n 2, 1) := by decide +kernel
theorem dL_law_532 : decode cL_law 532 = .ok (.aload_n 0, 1) := by decide +kernel
theorem dL_law_533 : decode cL_law 533 = .ok (.iload_n 3, 1) := by decide +kernel
theorem dL_law_534 : decode cL_law 534 = .ok (.iconst 1, 1) := by decide +kernel
theorem dL_law_535 : decode cL_law 535 = .ok (.iadd, 1) := by decide +kernel
theorem dL_law_536 : decode cL_law 536 = .ok (.iaload, 1) := by decide +kernel
theorem dL_law_537 : decode cL_law 537 = .ok (.aload_n 0, 1) := by decide +kernel
theorem dL_law_538 : decode cL_law 538 = .ok (.iload_n 3, 1) := by decide +kernel
theorem dL_law_539 : decode cL_law 539 = .ok (.iconst 2, 1) := by decide +kernel
theorem dL_law_540 : decode cL_law 540 = .ok (.iadd, 1) := by decide +kernel
theorem dL_law_541 : decode cL_law 541 = .ok (.iaload, 1) := by decide +kernel
theorem dL_law_542 : decode cL_law 542 = .ok (.aload_n 0, 1) := by decide +kernel
theorem dL_law_543 : decode cL_law 543 = .ok (.iload_n 3, 1) := by decide +kernel
theorem dL_law_544 : decode cL_law 544 = .ok (.iconst 3, 1) := by decide +kernel
theorem dL_law_545 : decode cL_law 545 = .ok (.iadd, 1) := by decide +kernel
theorem dL_law_546 : decode cL_law 546 = .ok (.iaload, 1) := by decide +kernel
theorem dL_law_547 : decode cL_law 547 = .ok (.invokevirtual 61, 3) := by decide +kernel
theorem dL_law_550 : decode cL_law 550 = .ok (.if_icmp .eq 546, 3) := by decide +kernel
theorem dL_law_553 : decode cL_law 553 = .ok (.iconst 0, 1) := by decide +kernel
theorem dL_law_554 : decode cL_law 554 = .ok (.ireturn, 1) := by decide +kernel
theorem dL_law_555 : decode cL_law 555 = .ok (.aload_n 1, 1) := by decide +kernel
theorem dL_law_556 : decode cL_law 556 = .ok (.aload_n 0, 1) := by decide +kernel
theorem dL_law_557 : decode cL_law 557 = .ok (.iload_n 3, 1) := by decide +kernel
theorem dL_law_558 : decode cL_law 558 = .ok (.iconst 1, 1) := by decide +kernel
theorem dL_law_559 : decode cL_law 559 = .ok (.iadd, 1) := by decide +kernel
theorem dL_law_560 : decode cL_law 560 = .ok (.iaload, 1) := by decide +kernel
theorem dL_law_561 : decode cL_law 561 = .ok (.aload_n 0, 1) := by decide +kernel
theorem dL_law_562 : decode cL_law 562 = .ok (.iload_n 3, 1) := by decide +kernel
theorem dL_law_563 : decode cL_law 563 = .ok (.iconst 2, 1) := by decide +kernel
theorem dL_law_564 : decode cL_law 564 = .ok (.iadd, 1) := by decide +kernel
theorem dL_law_565 : decode cL_law 565 = .ok (.iaload, 1) := by decide +kernel
theorem dL_law_566 : decode cL_law 566 = .ok (.aload_n 0, 1) := by decide +kernel
theorem dL_law_567 : decode cL_law 567 = .ok (.iload_n 3, 1) := by decide +kernel
theorem dL_law_568 : decode cL_law 568 = .ok (.iconst 3, 1) := by decide +kernel
theorem dL_law_569 : decode cL_law 569 = .ok (.iadd, 1) := by decide +kernel
theorem dL_law_570 : decode cL_law 570 = .ok (.iaload, 1) := by decide +kernel
theorem dL_law_571 : decode cL_law 571 = .ok (.aload_n 0, 1) := by decide +kernel
theorem dL_law_572 : decode cL_law 572 = .ok (.iload_n 3, 1) := by decide +kernel
theorem dL_law_573 : decode cL_law 573 = .ok (.iconst 4, 1) := by decide +kernel
theorem dL_law_574 : decode cL_law 574 = .ok (.iadd, 1) := by decide +kernel
theorem dL_law_575 : decode cL_law 575 = .ok (.iaload, 1) := by decide +kernel
theorem dL_law_576 : decode cL_law 576 = .ok (.aload_n 0, 1) := by decide +kernel
theorem dL_law_577 : decode cL_law 577 = .ok (.iload_n 3, 1) := by decide +kernel
theorem dL_law_578 : decode cL_law 578 = .ok (.iconst 5, 1) := by decide +kernel
theorem dL_law_579 : decode cL_law 579 = .ok (.iadd, 1) := by decide +kernel
theorem dL_law_580 : decode cL_law 580 = .ok (.iaload, 1) := by decide +kernel
theorem dL_law_581 : decode cL_law 581 = .ok (.invokevirtual 62, 3) := by decide +kernel
theorem dL_law_584 : decode cL_law 584 = .ok (.aload_n 2, 1) := by decide +kernel
theorem dL_law_585 : decode cL_law 585 = .ok (.aload_n 0, 1) := by decide +kernel
theorem dL_law_586 : decode cL_law 586 = .ok (.iload_n 3, 1) := by decide +kernel
theorem dL_law_587 : decode cL_law 587 = .ok (.iconst 1, 1) := by decide +kernel
theorem dL_law_588 : decode cL_law 588 = .ok (.iadd, 1) := by decide +kernel
theorem dL_law_589 : decode cL_law 589 = .ok (.iaload, 1) := by decide +kernel
theorem dL_law_590 : decode cL_law 590 = .ok (.aload_n 0, 1) := by decide +kernel
theorem dL_law_591 : decode cL_law 591 = .ok (.iload_n 3, 1) := by decide +kernel
theorem dL_law_592 : decode cL_law 592 = .ok (.iconst 2, 1) := by decide +kernel
theorem dL_law_593 : decode cL_law 593 = .ok (.iadd, 1) := by decide +kernel
theorem dL_law_594 : decode cL_law 594 = .ok (.iaload, 1) := by decide +kernel
theorem dL_law_595 : decode cL_law 595 = .ok (.aload_n 0, 1) := by decide +kernel
theorem dL_law_596 : decode cL_law 596 = .ok (.iload_n 3, 1) := by decide +kernel
theorem dL_law_597 : decode cL_law 597 = .ok (.iconst 3, 1) := by decide +kernel
theorem dL_law_598 : decode cL_law 598 = .ok (.iadd, 1) := by decide +kernel
theorem dL_law_599 : decode cL_law 599 = .ok (.iaload, 1) := by decide +kernel
theorem dL_law_600 : decode cL_law 600 = .ok (.aload_n 0, 1) := by decide +kernel
theorem dL_law_601 : decode cL_law 601 = .ok (.iload_n 3, 1) := by decide +kernel
theorem dL_law_602 : decode cL_law 602 = .ok (.iconst 4, 1) := by decide +kernel
theorem dL_law_603 : decode cL_law 603 = .ok (.iadd, 1) := by decide +kernel
theorem dL_law_604 : decode cL_law 604 = .ok (.iaload, 1) := by decide +kernel
theorem dL_law_605 : decode cL_law 605 = .ok (.aload_n 0, 1) := by decide +kernel
theorem dL_law_606 : decode cL_law 606 = .ok (.iload_n 3, 1) := by decide +kernel
theorem dL_law_607 : decode cL_law 607 = .ok (.iconst 5, 1) := by decide +kernel
theorem dL_law_608 : decode cL_law 608 = .ok (.iadd, 1) := by decide +kernel
theorem dL_law_609 : decode cL_law 609 = .ok (.iaload, 1) := by decide +kernel
theorem dL_law_610 : decode cL_law 610 = .ok (.invokevirtual 65, 3) := by decide +kernel
theorem dL_law_613 : decode cL_law 613 = .ok (.if_icmp .eq 483, 3) := by decide +kernel
theorem dL_law_616 : decode cL_law 616 = .ok (.iconst 0, 1) := by decide +kernel
theorem dL_law_617 : decode cL_law 617 = .ok (.ireturn, 1) := by decide +kernel
theorem dL_law_618 : decode cL_law 618 = .ok (.aload_n 1, 1) := by decide +kernel
theorem dL_law_619 : decode cL_law 619 = .ok (.aload_n 0, 1) := by decide +kernel
theorem dL_law_620 : decode cL_law 620 = .ok (.iload_n 3, 1) := by decide +kernel
theorem dL_law_621 : decode cL_law 621 = .ok (.iconst 1, 1) := by decide +kernel
theorem dL_law_622 : decode cL_law 622 = .ok (.iadd, 1) := by decide +kernel
theorem dL_law_623 : decode cL_law 623 = .ok (.iaload, 1) := by decide +kernel
theorem dL_law_624 : decode cL_law 624 = .ok (.invokevirtual 66, 3) := by decide +kernel
theorem dL_law_627 : decode cL_law 627 = .ok (.aload_n 2, 1) := by decide +kernel
theorem dL_law_628 : decode cL_law 628 = .ok (.aload_n 0, 1) := by decide +kernel
theorem dL_law_629 : decode cL_law 629 = .ok (.iload_n 3, 1) := by decide +kernel
theorem dL_law_630 : decode cL_law 630 = .ok (.iconst 1, 1) := by decide +kernel
theorem dL_law_631 : decode cL_law 631 = .ok (.iadd, 1) := by decide +kernel
theorem dL_law_632 : decode cL_law 632 = .ok (.iaload, 1) := by decide +kernel
theorem dL_law_633 : decode cL_law 633 = .ok (.invokevirtual 69, 3) := by decide +kernel
theorem dL_law_636 : decode cL_law 636 = .ok (.if_icmp .eq 460, 3) := by decide +kernel
theorem dL_law_639 : decode cL_law 639 = .ok (.iconst 0, 1) := by decide +kernel
theorem dL_law_640 : decode cL_law 640 = .ok (.ireturn, 1) := by decide +kernel
theorem dL_law_641 : decode cL_law 641 = .ok (.aload_n 1, 1) := by decide +kernel
theorem dL_law_642 : decode cL_law 642 = .ok (.aload_n 0, 1) := by decide +kernel
theorem dL_law_643 : decode cL_law 643 = .ok (.iload_n 3, 1) := by decide +kernel
theorem dL_law_644 : decode cL_law 644 = .ok (.iconst 1, 1) := by decide +kernel
theorem dL_law_645 : decode cL_law 645 = .ok (.iadd, 1) := by decide +kernel
theorem dL_law_646 : decode cL_law 646 = .ok (.iaload, 1) := by decide +kernel
theorem dL_law_647 : decode cL_law 647 = .ok (.aload_n 0, 1) := by decide +kernel
theorem dL_law_648 : decode cL_law 648 = .ok (.iload_n 3, 1) := by decide +kernel
theorem dL_law_649 : decode cL_law 649 = .ok (.iconst 2, 1) := by decide +kernel
theorem dL_law_650 : decode cL_law 650 = .ok (.iadd, 1) := by decide +kernel
theorem dL_law_651 : decode cL_law 651 = .ok (.iaload, 1) := by decide +kernel
theorem dL_law_652 : decode cL_law 652 = .ok (.invokevirtual 70, 3) := by decide +kernel
theorem dL_law_655 : decode cL_law 655 = .ok (.aload_n 2, 1) := by decide +kernel
theorem dL_law_656 : decode cL_law 656 = .ok (.aload_n 0, 1) := by decide +kernel
theorem dL_law_657 : decode cL_law 657 = .ok (.iload_n 3, 1) := by decide +kernel
theorem dL_law_658 : decode cL_law 658 = .ok (.iconst 1, 1) := by decide +kernel
theorem dL_law_659 : decode cL_law 659 = .ok (.iadd, 1) := by decide +kernel
theorem dL_law_660 : decode cL_law 660 = .ok (.iaload, 1) := by decide +kernel
theorem dL_law_661 : decode cL_law 661 = .ok (.aload_n 0, 1) := by decide +kernel
theorem dL_law_662 : decode cL_law 662 = .ok (.iload_n 3, 1) := by decide +kernel
theorem dL_law_663 : decode cL_law 663 = .ok (.iconst 2, 1) := by decide +kernel
theorem dL_law_664 : decode cL_law 664 = .ok (.iadd, 1) := by decide +kernel
theorem dL_law_665 : decode cL_law 665 = .ok (.iaload, 1) := by decide +kernel
theorem dL_law_666 : decode cL_law 666 = .ok (.invokevirtual 73, 3) := by decide +kernel
theorem dL_law_669 : decode cL_law 669 = .ok (.if_icmp .eq 427, 3) := by decide +kernel
theorem dL_law_672 : decode cL_law 672 = .ok (.iconst 0, 1) := by decide +kernel
theorem dL_law_673 : decode cL_law 673 = .ok (.ireturn, 1) := by decide +kernel
theorem dL_law_674 : decode cL_law 674 = .ok (.aload_n 1, 1) := by decide +kernel
theorem dL_law_675 : decode cL_law 675 = .ok (.aload_n 0, 1) := by decide +kernel
theorem dL_law_676 : decode cL_law 676 = .ok (.iload_n 3, 1) := by decide +kernel
theorem dL_law_677 : decode cL_law 677 = .ok (.iconst 1, 1) := by decide +kernel
theorem dL_law_678 : decode cL_law 678 = .ok (.iadd, 1) := by decide +kernel
theorem dL_law_679 : decode cL_law 679 = .ok (.iaload, 1) := by decide +kernel
theorem dL_law_680 : decode cL_law 680 = .ok (.aload_n 0, 1) := by decide +kernel
theorem dL_law_681 : decode cL_law 681 = .ok (.iload_n 3, 1) := by decide +kernel
theorem dL_law_682 : decode cL_law 682 = .ok (.iconst 2, 1) := by decide +kernel
theorem dL_law_683 : decode cL_law 683 = .ok (.iadd, 1) := by decide +kernel
theorem dL_law_684 : decode cL_law 684 = .ok (.iaload, 1) := by decide +kernel
theorem dL_law_685 : decode cL_law 685 = .ok (.invokevirtual 74, 3) := by decide +kernel
theorem dL_law_688 : decode cL_law 688 = .ok (.aload_n 2, 1) := by decide +kernel
theorem dL_law_689 : decode cL_law 689 = .ok (.aload_n 0, 1) := by decide +kernel
theorem dL_law_690 : decode cL_law 690 = .ok (.iload_n 3, 1) := by decide +kernel
theorem dL_law_691 : decode cL_law 691 = .ok (.iconst 1, 1) := by decide +kernel
theorem dL_law_692 : decode cL_law 692 = .ok (.iadd, 1) := by decide +kernel
theorem dL_law_693 : decode cL_law 693 = .ok (.iaload, 1) := by decide +kernel
theorem dL_law_694 : decode cL_law 694 = .ok (.aload_n 0, 1) := by decide +kernel
theorem dL_law_695 : decode cL_law 695 = .ok (.iload_n 3, 1) := by decide +kernel
theorem dL_law_696 : decode cL_law 696 = .ok (.iconst 2, 1) := by decide +kernel
theorem dL_law_697 : decode cL_law 697 = .ok (.iadd, 1) := by decide +kernel
theorem dL_law_698 : decode cL_law 698 = .ok (.iaload, 1) := by decide +kernel
theorem dL_law_699 : decode cL_law 699 = .ok (.invokevirtual 77, 3) := by decide +kernel
theorem dL_law_702 : decode cL_law 702 = .ok (.if_icmp .eq 394, 3) := by decide +kernel
theorem dL_law_705 : decode cL_law 705 = .ok (.iconst 0, 1) := by decide +kernel
theorem dL_law_706 : decode cL_law 706 = .ok (.ireturn, 1) := by decide +kernel
theorem dL_law_707 : decode cL_law 707 = .ok (.aload_n 1, 1) := by decide +kernel
theorem dL_law_708 : decode cL_law 708 = .ok (.aload_n 0, 1) := by decide +kernel
theorem dL_law_709 : decode cL_law 709 = .ok (.iload_n 3, 1) := by decide +kernel
theorem dL_law_710 : decode cL_law 710 = .ok (.iconst 1, 1) := by decide +kernel
theorem dL_law_711 : decode cL_law 711 = .ok (.iadd, 1) := by decide +kernel
theorem dL_law_712 : decode cL_law 712 = .ok (.iaload, 1) := by decide +kernel
theorem dL_law_713 : decode cL_law 713 = .ok (.aload_n 0, 1) := by decide +kernel
theorem dL_law_714 : decode cL_law 714 = .ok (.iload_n 3, 1) := by decide +kernel
theorem dL_law_715 : decode cL_law 715 = .ok (.iconst 2, 1) := by decide +kernel
theorem dL_law_716 : decode cL_law 716 = .ok (.iadd, 1) := by decide +kernel
theorem dL_law_717 : decode cL_law 717 = .ok (.iaload, 1) := by decide +kernel
theorem dL_law_718 : decode cL_law 718 = .ok (.invokevirtual 78, 3) := by decide +kernel
theorem dL_law_721 : decode cL_law 721 = .ok (.aload_n 2, 1) := by decide +kernel
theorem dL_law_722 : decode cL_law 722 = .ok (.aload_n 0, 1) := by decide +kernel
theorem dL_law_723 : decode cL_law 723 = .ok (.iload_n 3, 1) := by decide +kernel
theorem dL_law_724 : decode cL_law 724 = .ok (.iconst 1, 1) := by decide +kernel
theorem dL_law_725 : decode cL_law 725 = .ok (.iadd, 1) := by decide +kernel
theorem dL_law_726 : decode cL_law 726 = .ok (.iaload, 1) := by decide +kernel
theorem dL_law_727 : decode cL_law 727 = .ok (.aload_n 0, 1) := by decide +kernel
theorem dL_law_728 : decode cL_law 728 = .ok (.iload_n 3, 1) := by decide +kernel
theorem dL_law_729 : decode cL_law 729 = .ok (.iconst 2, 1) := by decide +kernel
theorem dL_law_730 : decode cL_law 730 = .ok (.iadd, 1) := by decide +kernel
theorem dL_law_731 : decode cL_law 731 = .ok (.iaload, 1) := by decide +kernel
theorem dL_law_732 : decode cL_law 732 = .ok (.invokevirtual 81, 3) := by decide +kernel
theorem dL_law_735 : decode cL_law 735 = .ok (.if_icmp .eq 361, 3) := by decide +kernel
theorem dL_law_738 : decode cL_law 738 = .ok (.iconst 0, 1) := by decide +kernel
theorem dL_law_739 : decode cL_law 739 = .ok (.ireturn, 1) := by decide +kernel
theorem dL_law_740 : decode cL_law 740 = .ok (.aload_n 1, 1) := by decide +kernel
theorem dL_law_741 : decode cL_law 741 = .ok (.aload_n 0, 1) := by decide +kernel
theorem dL_law_742 : decode cL_law 742 = .ok (.iload_n 3, 1) := by decide +kernel
theorem dL_law_743 : decode cL_law 743 = .ok (.iconst 1, 1) := by decide +kernel
theorem dL_law_744 : decode cL_law 744 = .ok (.iadd, 1) := by decide +kernel
theorem dL_law_745 : decode cL_law 745 = .ok (.iaload, 1) := by decide +kernel
theorem dL_law_746 : decode cL_law 746 = .ok (.aload_n 0, 1) := by decide +kernel
theorem dL_law_747 : decode cL_law 747 = .ok (.iload_n 3, 1) := by decide +kernel
theorem dL_law_748 : decode cL_law 748 = .ok (.iconst 2, 1) := by decide +kernel
theorem dL_law_749 : decode cL_law 749 = .ok (.iadd, 1) := by decide +kernel
theorem dL_law_750 : decode cL_law 750 = .ok (.iaload, 1) := by decide +kernel
theorem dL_law_751 : decode cL_law 751 = .ok (.invokevirtual 82, 3) := by decide +kernel
theorem dL_law_754 : decode cL_law 754 = .ok (.aload_n 2, 1) := by decide +kernel
theorem dL_law_755 : decode cL_law 755 = .ok (.aload_n 0, 1) := by decide +kernel
theorem dL_law_756 : decode cL_law 756 = .ok (.iload_n 3, 1) := by decide +kernel
theorem dL_law_757 : decode cL_law 757 = .ok (.iconst 1, 1) := by decide +kernel
theorem dL_law_758 : decode cL_law 758 = .ok (.iadd, 1) := by decide +kernel
theorem dL_law_759 : decode cL_law 759 = .ok (.iaload, 1) := by decide +kernel
theorem dL_law_760 : decode cL_law 760 = .ok (.aload_n 0, 1) := by decide +kernel
theorem dL_law_761 : decode cL_law 761 = .ok (.iload_n 3, 1) := by decide +kernel
theorem dL_law_762 : decode cL_law 762 = .ok (.iconst 2, 1) := by decide +kernel
theorem dL_law_763 : decode cL_law 763 = .ok (.iadd, 1) := by decide +kernel
theorem dL_law_764 : decode cL_law 764 = .ok (.iaload, 1) := by decide +kernel
theorem dL_law_765 : decode cL_law 765 = .ok (.invokevirtual 85, 3) := by decide +kernel
theorem dL_law_768 : decode cL_law 768 = .ok (.if_icmp .eq 328, 3) := by decide +kernel
theorem dL_law_771 : decode cL_law 771 = .ok (.iconst 0, 1) := by decide +kernel
theorem dL_law_772 : decode cL_law 772 = .ok (.ireturn, 1) := by decide +kernel
theorem dL_law_773 : decode cL_law 773 = .ok (.aload_n 1, 1) := by decide +kernel
theorem dL_law_774 : decode cL_law 774 = .ok (.aload_n 0, 1) := by decide +kernel
theorem dL_law_775 : decode cL_law 775 = .ok (.iload_n 3, 1) := by decide +kernel
theorem dL_law_776 : decode cL_law 776 = .ok (.iconst 1, 1) := by decide +kernel
theorem dL_law_777 : decode cL_law 777 = .ok (.iadd, 1) := by decide +kernel
theorem dL_law_778 : decode cL_law 778 = .ok (.iaload, 1) := by decide +kernel
theorem dL_law_779 : decode cL_law 779 = .ok (.aload_n 0, 1) := by decide +kernel
theorem dL_law_780 : decode cL_law 780 = .ok (.iload_n 3, 1) := by decide +kernel
theorem dL_law_781 : decode cL_law 781 = .ok (.iconst 2, 1) := by decide +kernel
theorem dL_law_782 : decode cL_law 782 = .ok (.iadd, 1) := by decide +kernel
theorem dL_law_783 : decode cL_law 783 = .ok (.iaload, 1) := by decide +kernel
theorem dL_law_784 : decode cL_law 784 = .ok (.invokevirtual 86, 3) := by decide +kernel
theorem dL_law_787 : decode cL_law 787 = .ok (.aload_n 2, 1) := by decide +kernel
theorem dL_law_788 : decode cL_law 788 = .ok (.aload_n 0, 1) := by decide +kernel
theorem dL_law_789 : decode cL_law 789 = .ok (.iload_n 3, 1) := by decide +kernel
theorem dL_law_790 : decode cL_law 790 = .ok (.iconst 1, 1) := by decide +kernel
theorem dL_law_791 : decode cL_law 791 = .ok (.iadd, 1) := by decide +kernel
theorem dL_law_792 : decode cL_law 792 = .ok (.iaload, 1) := by decide +kernel
theorem dL_law_793 : decode cL_law 793 = .ok (.aload_n 0, 1) := by decide +kernel
theorem dL_law_794 : decode cL_law 794 = .ok (.iload_n 3, 1) := by decide +kernel
theorem dL_law_795 : decode cL_law 795 = .ok (.iconst 2, 1) := by decide +kernel
theorem dL_law_796 : decode cL_law 796 = .ok (.iadd, 1) := by decide +kernel
theorem dL_law_797 : decode cL_law 797 = .ok (.iaload, 1) := by decide +kernel
theorem dL_law_798 : decode cL_law 798 = .ok (.invokevirtual 89, 3) := by decide +kernel
theorem dL_law_801 : decode cL_law 801 = .ok (.if_icmp .eq 295, 3) := by decide +kernel
theorem dL_law_804 : decode cL_law 804 = .ok (.iconst 0, 1) := by decide +kernel
theorem dL_law_805 : decode cL_law 805 = .ok (.ireturn, 1) := by decide +kernel
theorem dL_law_806 : decode cL_law 806 = .ok (.aload_n 1, 1) := by decide +kernel
theorem dL_law_807 : decode cL_law 807 = .ok (.aload_n 0, 1) := by decide +kernel
theorem dL_law_808 : decode cL_law 808 = .ok (.iload_n 3, 1) := by decide +kernel
theorem dL_law_809 : decode cL_law 809 = .ok (.iconst 1, 1) := by decide +kernel
theorem dL_law_810 : decode cL_law 810 = .ok (.iadd, 1) := by decide +kernel
theorem dL_law_811 : decode cL_law 811 = .ok (.iaload, 1) := by decide +kernel
theorem dL_law_812 : decode cL_law 812 = .ok (.invokevirtual 90, 3) := by decide +kernel
theorem dL_law_815 : decode cL_law 815 = .ok (.aload_n 2, 1) := by decide +kernel
theorem dL_law_816 : decode cL_law 816 = .ok (.aload_n 0, 1) := by decide +kernel
theorem dL_law_817 : decode cL_law 817 = .ok (.iload_n 3, 1) := by decide +kernel
theorem dL_law_818 : decode cL_law 818 = .ok (.iconst 1, 1) := by decide +kernel
theorem dL_law_819 : decode cL_law 819 = .ok (.iadd, 1) := by decide +kernel
theorem dL_law_820 : decode cL_law 820 = .ok (.iaload, 1) := by decide +kernel
theorem dL_law_821 : decode cL_law 821 = .ok (.invokevirtual 93, 3) := by decide +kernel
theorem dL_law_824 : decode cL_law 824 = .ok (.if_icmp .eq 272, 3) := by decide +kernel
theorem dL_law_827 : decode cL_law 827 = .ok (.iconst 0, 1) := by decide +kernel
theorem dL_law_828 : decode cL_law 828 = .ok (.ireturn, 1) := by decide +kernel
theorem dL_law_829 : decode cL_law 829 = .ok (.aload_n 1, 1) := by decide +kernel
theorem dL_law_830 : decode cL_law 830 = .ok (.aload_n 0, 1) := by decide +kernel
theorem dL_law_831 : decode cL_law 831 = .ok (.iload_n 3, 1) := by decide +kernel
theorem dL_law_832 : decode cL_law 832 = .ok (.iconst 1, 1) := by decide +kernel
theorem dL_law_833 : decode cL_law 833 = .ok (.iadd, 1) := by decide +kernel
theorem dL_law_834 : decode cL_law 834 = .ok (.iaload, 1) := by decide +kernel
theorem dL_law_835 : decode cL_law 835 = .ok (.aload_n 0, 1) := by decide +kernel
theorem dL_law_836 : decode cL_law 836 = .ok (.iload_n 3, 1) := by decide +kernel
theorem dL_law_837 : decode cL_law 837 = .ok (.iconst 2, 1) := by decide +kernel
theorem dL_law_838 : decode cL_law 838 = .ok (.iadd, 1) := by decide +kernel
theorem dL_law_839 : decode cL_law 839 = .ok (.iaload, 1) := by decide +kernel
theorem dL_law_840 : decode cL_law 840 = .ok (.invokevirtual 94, 3) := by decide +kernel
theorem dL_law_843 : decode cL_law 843 = .ok (.aload_n 2, 1) := by decide +kernel
theorem dL_law_844 : decode cL_law 844 = .ok (.aload_n 0, 1) := by decide +kernel
theorem dL_law_845 : decode cL_law 845 = .ok (.iload_n 3, 1) := by decide +kernel
theorem dL_law_846 : decode cL_law 846 = .ok (.iconst 1, 1) := by decide +kernel
theorem dL_law_847 : decode cL_law 847 = .ok (.iadd, 1) := by decide +kernel
theorem dL_law_848 : decode cL_law 848 = .ok (.iaload, 1) := by decide +kernel
theorem dL_law_849 : decode cL_law 849 = .ok (.aload_n 0, 1) := by decide +kernel
theorem dL_law_850 : decode cL_law 850 = .ok (.iload_n 3, 1) := by decide +kernel
theorem dL_law_851 : decode cL_law 851 = .ok (.iconst 2, 1) := by decide +kernel
theorem dL_law_852 : decode cL_law 852 = .ok (.iadd, 1) := by decide +kernel
theorem dL_law_853 : decode cL_law 853 = .ok (.iaload, 1) := by decide +kernel
theorem dL_law_854 : decode cL_law 854 = .ok (.invokevirtual 97, 3) := by decide +kernel
theorem dL_law_857 : decode cL_law 857 = .ok (.if_icmp .eq 239, 3) := by decide +kernel
theorem dL_law_860 : decode cL_law 860 = .ok (.iconst 0, 1) := by decide +kernel
theorem dL_law_861 : decode cL_law 861 = .ok (.ireturn, 1) := by decide +kernel
theorem dL_law_862 : decode cL_law 862 = .ok (.aload_n 1, 1) := by decide +kernel
theorem dL_law_863 : decode cL_law 863 = .ok (.invokevirtual 98, 3) := by decide +kernel
theorem dL_law_866 : decode cL_law 866 = .ok (.aload_n 2, 1) := by decide +kernel
theorem dL_law_867 : decode cL_law 867 = .ok (.invokevirtual 101, 3) := by decide +kernel
theorem dL_law_870 : decode cL_law 870 = .ok (.if_icmp .eq 226, 3) := by decide +kernel
theorem dL_law_873 : decode cL_law 873 = .ok (.iconst 0, 1) := by decide +kernel
theorem dL_law_874 : decode cL_law 874 = .ok (.ireturn, 1) := by decide +kernel
theorem dL_law_875 : decode cL_law 875 = .ok (.aload_n 1, 1) := by decide +kernel
theorem dL_law_876 : decode cL_law 876 = .ok (.aload_n 0, 1) := by decide +kernel
theorem dL_law_877 : decode cL_law 877 = .ok (.iload_n 3, 1) := by decide +kernel
theorem dL_law_878 : decode cL_law 878 = .ok (.iconst 1, 1) := by decide +kernel
theorem dL_law_879 : decode cL_law 879 = .ok (.iadd, 1) := by decide +kernel
theorem dL_law_880 : decode cL_law 880 = .ok (.iaload, 1) := by decide +kernel
theorem dL_law_881 : decode cL_law 881 = .ok (.invokevirtual 102, 3) := by decide +kernel
theorem dL_law_884 : decode cL_law 884 = .ok (.aload_n 2, 1) := by decide +kernel
theorem dL_law_885 : decode cL_law 885 = .ok (.aload_n 0, 1) := by decide +kernel
theorem dL_law_886 : decode cL_law 886 = .ok (.iload_n 3, 1) := by decide +kernel
theorem dL_law_887 : decode cL_law 887 = .ok (.iconst 1, 1) := by decide +kernel
theorem dL_law_888 : decode cL_law 888 = .ok (.iadd, 1) := by decide +kernel
theorem dL_law_889 : decode cL_law 889 = .ok (.iaload, 1) := by decide +kernel
theorem dL_law_890 : decode cL_law 890 = .ok (.invokevirtual 105, 3) := by decide +kernel
theorem dL_law_893 : decode cL_law 893 = .ok (.if_icmp .eq 203, 3) := by decide +kernel
theorem dL_law_896 : decode cL_law 896 = .ok (.iconst 0, 1) := by decide +kernel
theorem dL_law_897 : decode cL_law 897 = .ok (.ireturn, 1) := by decide +kernel
theorem dL_law_898 : decode cL_law 898 = .ok (.aload_n 1, 1) := by decide +kernel
theorem dL_law_899 : decode cL_law 899 = .ok (.aload_n 0, 1) := by decide +kernel
theorem dL_law_900 : decode cL_law 900 = .ok (.iload_n 3, 1) := by decide +kernel
theorem dL_law_901 : decode cL_law 901 = .ok (.iconst 1, 1) := by decide +kernel
theorem dL_law_902 : decode cL_law 902 = .ok (.iadd, 1) := by decide +kernel
theorem dL_law_903 : decode cL_law 903 = .ok (.iaload, 1) := by decide +kernel
theorem dL_law_904 : decode cL_law 904 = .ok (.invokevirtual 106, 3) := by decide +kernel
theorem dL_law_907 : decode cL_law 907 = .ok (.aload_n 2, 1) := by decide +kernel
theorem dL_law_908 : decode cL_law 908 = .ok (.aload_n 0, 1) := by decide +kernel
theorem dL_law_909 : decode cL_law 909 = .ok (.iload_n 3, 1) := by decide +kernel
theorem dL_law_910 : decode cL_law 910 = .ok (.iconst 1, 1) := by decide +kernel
theorem dL_law_911 : decode cL_law 911 = .ok (.iadd, 1) := by decide +kernel
theorem dL_law_912 : decode cL_law 912 = .ok (.iaload, 1) := by decide +kernel
theorem dL_law_913 : decode cL_law 913 = .ok (.invokevirtual 109, 3) := by decide +kernel
theorem dL_law_916 : decode cL_law 916 = .ok (.if_icmp .eq 180, 3) := by decide +kernel
theorem dL_law_919 : decode cL_law 919 = .ok (.iconst 0, 1) := by decide +kernel
theorem dL_law_920 : decode cL_law 920 = .ok (.ireturn, 1) := by decide +kernel
theorem dL_law_921 : decode cL_law 921 = .ok (.aload_n 1, 1) := by decide +kernel
theorem dL_law_922 : decode cL_law 922 = .ok (.aload_n 0, 1) := by decide +kernel
theorem dL_law_923 : decode cL_law 923 = .ok (.iload_n 3, 1) := by decide +kernel
theorem dL_law_924 : decode cL_law 924 = .ok (.iconst 1, 1) := by decide +kernel
theorem dL_law_925 : decode cL_law 925 = .ok (.iadd, 1) := by decide +kernel
theorem dL_law_926 : decode cL_law 926 = .ok (.iaload, 1) := by decide +kernel
theorem dL_law_927 : decode cL_law 927 = .ok (.invokevirtual 110, 3) := by decide +kernel
theorem dL_law_930 : decode cL_law 930 = .ok (.aload_n 2, 1) := by decide +kernel
theorem dL_law_931 : decode cL_law 931 = .ok (.aload_n 0, 1) := by decide +kernel
theorem dL_law_932 : decode cL_law 932 = .ok (.iload_n 3, 1) := by decide +kernel
theorem dL_law_933 : decode cL_law 933 = .ok (.iconst 1, 1) := by decide +kernel
theorem dL_law_934 : decode cL_law 934 = .ok (.iadd, 1) := by decide +kernel
theorem dL_law_935 : decode cL_law 935 = .ok (.iaload, 1) := by decide +kernel
theorem dL_law_936 : decode cL_law 936 = .ok (.invokevirtual 113, 3) := by decide +kernel
theorem dL_law_939 : decode cL_law 939 = .ok (.if_icmp .eq 157, 3) := by decide +kernel
theorem dL_law_942 : decode cL_law 942 = .ok (.iconst 0, 1) := by decide +kernel
theorem dL_law_943 : decode cL_law 943 = .ok (.ireturn, 1) := by decide +kernel
theorem dL_law_944 : decode cL_law 944 = .ok (.aload_n 1, 1) := by decide +kernel
theorem dL_law_945 : decode cL_law 945 = .ok (.aload_n 0, 1) := by decide +kernel
theorem dL_law_946 : decode cL_law 946 = .ok (.iload_n 3, 1) := by decide +kernel
theorem dL_law_947 : decode cL_law 947 = .ok (.iconst 1, 1) := by decide +kernel
theorem dL_law_948 : decode cL_law 948 = .ok (.iadd, 1) := by decide +kernel
theorem dL_law_949 : decode cL_law 949 = .ok (.iaload, 1) := by decide +kernel
theorem dL_law_950 : decode cL_law 950 = .ok (.aload_n 0, 1) := by decide +kernel
theorem dL_law_951 : decode cL_law 951 = .ok (.iload_n 3, 1) := by decide +kernel
theorem dL_law_952 : decode cL_law 952 = .ok (.iconst 2, 1) := by decide +kernel
theorem dL_law_953 : decode cL_law 953 = .ok (.iadd, 1) := by decide +kernel
theorem dL_law_954 : decode cL_law 954 = .ok (.iaload, 1) := by decide +kernel
theorem dL_law_955 : decode cL_law 955 = .ok (.invokevirtual 114, 3) := by decide +kernel
theorem dL_law_958 : decode cL_law 958 = .ok (.aload_n 2, 1) := by decide +kernel
theorem dL_law_959 : decode cL_law 959 = .ok (.aload_n 0, 1) := by decide +kernel
theorem dL_law_960 : decode cL_law 960 = .ok (.iload_n 3, 1) := by decide +kernel
theorem dL_law_961 : decode cL_law 961 = .ok (.iconst 1, 1) := by decide +kernel
theorem dL_law_962 : decode cL_law 962 = .ok (.iadd, 1) := by decide +kernel
theorem dL_law_963 : decode cL_law 963 = .ok (.iaload, 1) := by decide +kernel
theorem dL_law_964 : decode cL_law 964 = .ok (.aload_n 0, 1) := by decide +kernel
theorem dL_law_965 : decode cL_law 965 = .ok (.iload_n 3, 1) := by decide +kernel
theorem dL_law_966 : decode cL_law 966 = .ok (.iconst 2, 1) := by decide +kernel
theorem dL_law_967 : decode cL_law 967 = .ok (.iadd, 1) := by decide +kernel
theorem dL_law_968 : decode cL_law 968 = .ok (.iaload, 1) := by decide +kernel
theorem dL_law_969 : decode cL_law 969 = .ok (.invokevirtual 117, 3) := by decide +kernel
theorem dL_law_972 : decode cL_law 972 = .ok (.if_icmp .eq 124, 3) := by decide +kernel
theorem dL_law_975 : decode cL_law 975 = .ok (.iconst 0, 1) := by decide +kernel
theorem dL_law_976 : decode cL_law 976 = .ok (.ireturn, 1) := by decide +kernel
theorem dL_law_977 : decode cL_law 977 = .ok (.aload_n 1, 1) := by decide +kernel
theorem dL_law_978 : decode cL_law 978 = .ok (.aload_n 0, 1) := by decide +kernel
theorem dL_law_979 : decode cL_law 979 = .ok (.iload_n 3, 1) := by decide +kernel
theorem dL_law_980 : decode cL_law 980 = .ok (.iconst 1, 1) := by decide +kernel
theorem dL_law_981 : decode cL_law 981 = .ok (.iadd, 1) := by decide +kernel
theorem dL_law_982 : decode cL_law 982 = .ok (.iaload, 1) := by decide +kernel
theorem dL_law_983 : decode cL_law 983 = .ok (.invokevirtual 118, 3) := by decide +kernel
theorem dL_law_986 : decode cL_law 986 = .ok (.aload_n 2, 1) := by decide +kernel
theorem dL_law_987 : decode cL_law 987 = .ok (.aload_n 0, 1) := by decide +kernel
theorem dL_law_988 : decode cL_law 988 = .ok (.iload_n 3, 1) := by decide +kernel
theorem dL_law_989 : decode cL_law 989 = .ok (.iconst 1, 1) := by decide +kernel
theorem dL_law_990 : decode cL_law 990 = .ok (.iadd, 1) := by decide +kernel
theorem dL_law_991 : decode cL_law 991 = .ok (.iaload, 1) := by decide +kernel
theorem dL_law_992 : decode cL_law 992 = .ok (.invokevirtual 121, 3) := by decide +kernel
theorem dL_law_995 : decode cL_law 995 = .ok (.if_icmp .eq 101, 3) := by decide +kernel
theorem dL_law_998 : decode cL_law 998 = .ok (.iconst 0, 1) := by decide +kernel
theorem dL_law_999 : decode cL_law 999 = .ok (.ireturn, 1) := by decide +kernel
theorem dL_law_1000 : decode cL_law 1000 = .ok (.aload_n 1, 1) := by decide +kernel
theorem dL_law_1001 : decode cL_law 1001 = .ok (.aload_n 0, 1) := by decide +kernel
theorem dL_law_1002 : decode cL_law 1002 = .ok (.iload_n 3, 1) := by decide +kernel
theorem dL_law_1003 : decode cL_law 1003 = .ok (.iconst 1, 1) := by decide +kernel
theorem dL_law_1004 : decode cL_law 1004 = .ok (.iadd, 1) := by decide +kernel
theorem dL_law_1005 : decode cL_law 1005 = .ok (.iaload, 1) := by decide +kernel
theorem dL_law_1006 : decode cL_law 1006 = .ok (.invokevirtual 122, 3) := by decide +kernel
theorem dL_law_1009 : decode cL_law 1009 = .ok (.aload_n 2, 1) := by decide +kernel
theorem dL_law_1010 : decode cL_law 1010 = .ok (.aload_n 0, 1) := by decide +kernel
theorem dL_law_1011 : decode cL_law 1011 = .ok (.iload_n 3, 1) := by decide +kernel
theorem dL_law_1012 : decode cL_law 1012 = .ok (.iconst 1, 1) := by decide +kernel
theorem dL_law_1013 : decode cL_law 1013 = .ok (.iadd, 1) := by decide +kernel
theorem dL_law_1014 : decode cL_law 1014 = .ok (.iaload, 1) := by decide +kernel
theorem dL_law_1015 : decode cL_law 1015 = .ok (.invokevirtual 125, 3) := by decide +kernel
theorem dL_law_1018 : decode cL_law 1018 = .ok (.if_icmp .eq 78, 3) := by decide +kernel
theorem dL_law_1021 : decode cL_law 1021 = .ok (.iconst 0, 1) := by decide +kernel
theorem dL_law_1022 : decode cL_law 1022 = .ok (.ireturn, 1) := by decide +kernel
theorem dL_law_1023 : decode cL_law 1023 = .ok (.aload_n 1, 1) := by decide +kernel
theorem dL_law_1024 : decode cL_law 1024 = .ok (.aload_n 0, 1) := by decide +kernel
theorem dL_law_1025 : decode cL_law 1025 = .ok (.iload_n 3, 1) := by decide +kernel
theorem dL_law_1026 : decode cL_law 1026 = .ok (.iconst 1, 1) := by decide +kernel
theorem dL_law_1027 : decode cL_law 1027 = .ok (.iadd, 1) := by decide +kernel
theorem dL_law_1028 : decode cL_law 1028 = .ok (.iaload, 1) := by decide +kernel
theorem dL_law_1029 : decode cL_law 1029 = .ok (.invokevirtual 126, 3) := by decide +kernel
theorem dL_law_1032 : decode cL_law 1032 = .ok (.aload_n 2, 1) := by decide +kernel
theorem dL_law_1033 : decode cL_law 1033 = .ok (.aload_n 0, 1) := by decide +kernel
theorem dL_law_1034 : decode cL_law 1034 = .ok (.iload_n 3, 1) := by decide +kernel
theorem dL_law_1035 : decode cL_law 1035 = .ok (.iconst 1, 1) := by decide +kernel
theorem dL_law_1036 : decode cL_law 1036 = .ok (.iadd, 1) := by decide +kernel
theorem dL_law_1037 : decode cL_law 1037 = .ok (.iaload, 1) := by decide +kernel
theorem dL_law_1038 : decode cL_law 1038 = .ok (.invokevirtual 129, 3) := by decide +kernel
theorem dL_law_1041 : decode cL_law 1041 = .ok (.if_icmp .eq 55, 3) := by decide +kernel
theorem dL_law_1044 : decode cL_law 1044 = .ok (.iconst 0, 1) := by decide +kernel
theorem dL_law_1045 : decode cL_law 1045 = .ok (.ireturn, 1) := by decide +kernel
theorem dL_law_1046 : decode cL_law 1046 = .ok (.aload_n 1, 1) := by decide +kernel
theorem dL_law_1047 : decode cL_law 1047 = .ok (.invokevirtual 130, 3) := by decide +kernel
theorem dL_law_1050 : decode cL_law 1050 = .ok (.aload_n 2, 1) := by decide +kernel
theorem dL_law_1051 : decode cL_law 1051 = .ok (.invokevirtual 133, 3) := by decide +kernel
theorem dL_law_1054 : decode cL_law 1054 = .ok (.if_icmp .eq 42, 3) := by decide +kernel
theorem dL_law_1057 : decode cL_law 1057 = .ok (.iconst 0, 1) := by decide +kernel
theorem dL_law_1058 : decode cL_law 1058 = .ok (.ireturn, 1) := by decide +kernel
theorem dL_law_1059 : decode cL_law 1059 = .ok (.aload_n 1, 1) := by decide +kernel
theorem dL_law_1060 : decode cL_law 1060 = .ok (.aload_n 0, 1) := by decide +kernel
theorem dL_law_1061 : decode cL_law 1061 = .ok (.iload_n 3, 1) := by decide +kernel
theorem dL_law_1062 : decode cL_law 1062 = .ok (.iconst 1, 1) := by decide +kernel
theorem dL_law_1063 : decode cL_law 1063 = .ok (.iadd, 1) := by decide +kernel
theorem dL_law_1064 : decode cL_law 1064 = .ok (.iaload, 1) := by decide +kernel
theorem dL_law_1065 : decode cL_law 1065 = .ok (.invokevirtual 134, 3) := by decide +kernel
theorem dL_law_1068 : decode cL_law 1068 = .ok (.aload_n 2, 1) := by decide +kernel
theorem dL_law_1069 : decode cL_law 1069 = .ok (.aload_n 0, 1) := by decide +kernel
theorem dL_law_1070 : decode cL_law 1070 = .ok (.iload_n 3, 1) := by decide +kernel
theorem dL_law_1071 : decode cL_law 1071 = .ok (.iconst 1, 1) := by decide +kernel
theorem dL_law_1072 : decode cL_law 1072 = .ok (.iadd, 1) := by decide +kernel
theorem dL_law_1073 : decode cL_law 1073 = .ok (.iaload, 1) := by decide +kernel
theorem dL_law_1074 : decode cL_law 1074 = .ok (.invokevirtual 137, 3) := by decide +kernel
theorem dL_law_1077 : decode cL_law 1077 = .ok (.if_icmp .eq 19, 3) := by decide +kernel
theorem dL_law_1080 : decode cL_law 1080 = .ok (.iconst 0, 1) := by decide +kernel
theorem dL_law_1081 : decode cL_law 1081 = .ok (.ireturn, 1) := by decide +kernel
theorem dL_law_1082 : decode cL_law 1082 = .ok (.aload_n 1, 1) := by decide +kernel
theorem dL_law_1083 : decode cL_law 1083 = .ok (.invokevirtual 138, 3) := by decide +kernel
theorem dL_law_1086 : decode cL_law 1086 = .ok (.aload_n 2, 1) := by decide +kernel
theorem dL_law_1087 : decode cL_law 1087 = .ok (.invokevirtual 142, 3) := by decide +kernel
theorem dL_law_1090 : decode cL_law 1090 = .ok (.lcmp, 1) := by decide +kernel
theorem dL_law_1091 : decode cL_law 1091 = .ok (.ifCond .eq 5, 3) := by decide +kernel
theorem dL_law_1094 : decode cL_law 1094 = .ok (.iconst 0, 1) := by decide +kernel
theorem dL_law_1095 : decode cL_law 1095 = .ok (.ireturn, 1) := by decide +kernel
theorem dL_law_1096 : decode cL_law 1096 = .ok (.iinc 3 6, 3) := by decide +kernel
theorem dL_law_1099 : decode cL_law 1099 = .ok (.goto (-1081), 3) := by decide +kernel
theorem dL_law_1102 : decode cL_law 1102 = .ok (.iconst 1, 1) := by decide +kernel
theorem dL_law_1103 : decode cL_law 1103 = .ok (.ireturn, 1) := by decide +kernel
end
section
/-! glue between formulas and walks -/
theorem vp_lt {i : Int32} {n : Nat} (h : vp_in i n) : i.toNatClampNeg < n := Nat.not_le.mp fun q => h (Or.inr q)
theorem cs4_at {i : Nat} (h : i < 40) : cs4 i = cA i + 2 := if_pos h
theorem cs140_at {i : Nat} (h : i < 16) : cs140 i = (141 + i) + 2 := by show (if i < 16 then 143 + i else 1) = _; rw [if_pos h]; omega
theorem ord_n {x : Int32} {i : Nat} (hi : i < 40) (h : x = nI (cA i + 1)) : ¬ x = 0 := by rw [h]; exact nI_ne0 (by omega) (by unfold cA; omega)
theorem ord_s {x : Int32} {i : Nat} (hi : i < 40) (h : x = nI (cA i + 1)) : x.toNatClampNeg - 1 = cA i := by rw [h, nI_clamp (by unfold cA; omega)]; rfl
theorem SH_len (a : Nat) : (SH a).2.1 ≤ 480 := by
  by_cases h : a < 197
  · exact (by decide +kernel : ∀ a, a < 197 → (SH a).2.1 ≤ 480) a h
  · have h1 : ¬ a < 5 := by omega
    have h2 : ¬ a < 125 := by omega
    have h3 : ¬ a < 163 := by omega
    unfold SH
    rw [if_neg h1, if_neg h2, if_neg h3, List.getD_eq_getElem?_getD, List.getElem?_eq_none (by show 34 ≤ a - 163; omega)]
    exact Nat.zero_le _
def vPi (P : Int32 → vM → Prop) : Option Value → vSh → vM → Prop := fun r sh m => sh = SH ∧ ∃ x, r = some (.int x) ∧ P x m
def vPl (P : Int64 → vM → Prop) : Option Value → vSh → vM → Prop := fun r sh m => sh = SH ∧ ∃ x, r = some (.long x) ∧ P x m
def vPv (P : vM → Prop) : Option Value → vSh → vM → Prop := fun r sh m => sh = SH ∧ r = none ∧ P m
def cref : Option Nat → Value
  | none => .null
  | some i => .ref (cA i)
def vPc (P : Option Nat → vM → Prop) : Option Value → vSh → vM → Prop := fun r sh m => sh = SH ∧ ∃ o : Option Nat, r = some (cref o) ∧ (∀ i, o = some i → i < 40) ∧ P o m
theorem Ev.mono {Y : vMeth} {fr lo nE n : Nat} {as : List Value} {sh : vSh} {m : vM} {P P' : Option Value → vSh → vM → Prop} (h : Ev Y fr lo nE as n sh m P) (hp : ∀ r sh' m', P r sh' m' → P' r sh' m') : Ev Y fr lo nE as n sh m P' := by
  intro hn hB l D K ad hs
  exact MetFree.mono (h hn hB l D K ad hs) (fun _ _ q => q) (fun _ _ _ _ _ q => q) (fun a s o t _ q => ⟨vQ.mono hp a s o t q.1, q.2⟩)
section VG1
variable {Y : vMeth} {fr lo nE : Nat} {sx : Option (Nat × (Nat → Int32))} {pc : Nat} {ls : List (Nat × Value)} {st : List Value} {n : Nat} {sh : vSh} {m : vM} {P : Option Value → vSh → vM → Prop}
theorem vJ.topi {x : Int32} (k : ∀ y : Int32, y = x → vJ Y fr lo nE sx pc ls (.int y :: st) n sh m P) : vJ Y fr lo nE sx pc ls (.int x :: st) n sh m P := k x rfl
theorem vJ.topl {x : Int64} (k : ∀ y : Int64, y = x → vJ Y fr lo nE sx pc ls (.long y :: st) n sh m P) : vJ Y fr lo nE sx pc ls (.long x :: st) n sh m P := k x rfl
theorem vJ.topm (k : ∀ m2 : vM, m2 = m → vJ Y fr lo nE sx pc ls st n sh m2 P) : vJ Y fr lo nE sx pc ls st n sh m P := k m rfl
theorem Ev.gi {Yc : vMeth} {frc loc : Nat} {as : List Value} {Q : Int32 → vM → Prop} (h : Ev Yc frc loc 197 as 197 SH m (vPi Q)) (k : ∀ x m1, Q x m1 → vJ Y fr lo nE sx pc ls (.int x :: st) 197 SH m1 P) : Ev Yc frc loc 197 as 197 SH m (fun r sh' m' => vJ Y fr lo nE sx pc ls (r.toList ++ st) 197 sh' m' P) := h.mono (by
  rintro r sh' m' ⟨rfl, x, rfl, hq⟩
  exact k x m' hq)
theorem Ev.gl {Yc : vMeth} {frc loc : Nat} {as : List Value} {Q : Int64 → vM → Prop} (h : Ev Yc frc loc 197 as 197 SH m (vPl Q)) (k : ∀ x m1, Q x m1 → vJ Y fr lo nE sx pc ls (.long x :: st) 197 SH m1 P) : Ev Yc frc loc 197 as 197 SH m (fun r sh' m' => vJ Y fr lo nE sx pc ls (r.toList ++ st) 197 sh' m' P) := h.mono (by
  rintro r sh' m' ⟨rfl, x, rfl, hq⟩
  exact k x m' hq)
theorem Ev.gv {Yc : vMeth} {frc loc : Nat} {as : List Value} {Q : vM → Prop} (h : Ev Yc frc loc 197 as 197 SH m (vPv Q)) (k : ∀ m1, Q m1 → vJ Y fr lo nE sx pc ls st 197 SH m1 P) : Ev Yc frc loc 197 as 197 SH m (fun r sh' m' => vJ Y fr lo nE sx pc ls (r.toList ++ st) 197 sh' m' P) := h.mono (by
  rintro r sh' m' ⟨rfl, rfl, hq⟩
  exact k m' hq)
theorem Ev.gc {Yc : vMeth} {frc loc : Nat} {as : List Value} {Q : Option Nat → vM → Prop} (h : Ev Yc frc loc 197 as 197 SH m (vPc Q)) (k0 : ∀ m1, Q none m1 → vJ Y fr lo nE sx pc ls (.null :: st) 197 SH m1 P) (k1 : ∀ i m1, i < 40 → Q (some i) m1 → vJ Y fr lo nE sx pc ls (.ref (cA i) :: st) 197 SH m1 P) : Ev Yc frc loc 197 as 197 SH m (fun r sh' m' => vJ Y fr lo nE sx pc ls (r.toList ++ st) 197 sh' m' P) := h.mono (by
  rintro r sh' m' ⟨rfl, o, rfl, hi, hq⟩
  cases o with
  | none => exact k0 m' hq
  | some i => exact k1 i m' (hi i rfl) hq)
/-- Arrays.fill of an array of ints -/
def fillA (m : vM) (a len : Nat) (v : Int32) : vM := upA m a (fun j => if j < len then v else m.1 a j)
theorem fill_loop {a len : Nat} {cs : Nat → Nat} {v : Int32} {n : Nat} {sh : vSh} {m0 : vM} {P : Option Value → vSh → vM → Prop} (hs : sh a = (0, len, cs)) (ha : a < n) (hlen : len ≤ 1000) (hp : P none sh (fillA m0 a len v)) : ∀ d i : Nat, i + d = len → vJ mJ7_fill_53178 0 0 n none 5 [(0, .ref a), (1, .int v), (2, .int (nI i)), (3, .int (nI len))] [] n sh (upA m0 a (fun j => if j < i then v else m0.1 a j)) P := by
  intro d
  induction d with
  | zero =>
    intro i hi
    have hi' : i = len := hi
    subst hi'
    refine vJ.iload_n dJ7_fill_53178_5 rfl rfl ?_
    refine vJ.iload_n dJ7_fill_53178_6 rfl rfl ?_
    refine vJ.icmp_ge (tgt := 20) dJ7_fill_53178_7 (by decide) (fun _ => ?_) (fun hc => absurd (nI_le (Nat.le_refl _) (by omega)) hc)
    exact vJ.vreturn dJ7_fill_53178_20 rfl rfl hp
  | succ d ih =>
    intro i hi
    refine vJ.iload_n dJ7_fill_53178_5 rfl rfl ?_
    refine vJ.iload_n dJ7_fill_53178_6 rfl rfl ?_
    refine vJ.icmp_ge (tgt := 20) dJ7_fill_53178_7 (by decide) (fun hc => absurd hc (nI_ge (by omega) (by omega))) (fun _ => ?_)
    refine vJ.aload_n dJ7_fill_53178_10 rfl rfl ?_
    refine vJ.iload_n dJ7_fill_53178_11 rfl rfl ?_
    refine vJ.iload_n dJ7_fill_53178_12 rfl rfl ?_
    refine vJ.iast dJ7_fill_53178_13 hs ha (vp_in_nI (by omega) (by omega)) ?_
    refine vJ.iinc (v := nI (i + 1)) (ls2 := [(0, .ref a), (1, .int v), (2, .int (nI (i + 1))), (3, .int (nI len))]) dJ7_fill_53178_14 rfl (by rw [nI_succ]; rfl) (Nat.le_of_ble_eq_true rfl) rfl ?_
    refine vJ.goto (tgt := 5) dJ7_fill_53178_17 (by decide) ?_
    have e : upI (upA m0 a (fun j => if j < i then v else m0.1 a j)) a (nI i).toNatClampNeg v = upA m0 a (fun j => if j < i + 1 then v else m0.1 a j) := by
      rw [nI_clamp (by omega)]
      unfold upI upA
      refine Prod.ext ?_ rfl
      funext b
      by_cases hb : b = a
      · subst hb
        simp only [if_true]
        funext j
        unfold upd
        by_cases hj : j = i
        · subst hj; simp
        · by_cases h2 : j < i
          · simp [hj, h2, Nat.lt_succ_of_lt h2]
          · have : ¬ j < i + 1 := by omega
            simp [hj, h2, this]
      · simp [hb]
    rw [e]
    exact ih (i + 1) (by omega)
theorem ev_fillG {a len : Nat} {cs : Nat → Nat} {v : Int32} {n : Nat} {sh : vSh} {m0 : vM} {P : Option Value → vSh → vM → Prop} (hs : sh a = (0, len, cs)) (ha : a < n) (hlen : len ≤ 1000) (hp : P none sh (fillA m0 a len v)) : Ev mJ7_fill_53178 0 0 n [.ref a, .int v] n sh m0 P := by
  refine Ev.of pn_J7_fill_53178 (Nat.le_of_ble_eq_true rfl) ?_
  show vJ mJ7_fill_53178 0 0 n none 0 [(0, .ref a), (1, .int v)] [] n sh m0 P
  refine vJ.iconst dJ7_fill_53178_0 ci_0 ?_
  refine vJ.istore_n (ls2 := [(0, .ref a), (1, .int v), (2, .int 0)]) dJ7_fill_53178_1 rfl (Nat.le_of_ble_eq_true rfl) rfl ?_
  refine vJ.aload_n dJ7_fill_53178_2 rfl rfl ?_
  refine vJ.alen0 (v := nI len) dJ7_fill_53178_3 hs ha rfl ?_
  refine vJ.istore_n (ls2 := [(0, .ref a), (1, .int v), (2, .int 0), (3, .int (nI len))]) dJ7_fill_53178_4 rfl (Nat.le_of_ble_eq_true rfl) rfl ?_
  have h := fill_loop (v := v) (m0 := m0) hs ha hlen hp len 0 (by omega)
  rw [nI_0] at h
  have e : upA m0 a (fun j => if j < 0 then v else m0.1 a j) = m0 := by
    unfold upA
    refine Prod.ext ?_ rfl
    funext b
    by_cases hb : b = a
    · subst hb; simp
    · simp [hb]
  rw [e] at h
  exact h
theorem ev_fill {a len : Nat} {v : Int32} {m0 : vM} (hs : SH a = (0, len, vz)) (ha : a < 197) (k : ∀ m1 : vM, m1 = fillA m0 a len v → vJ Y fr lo nE sx pc ls st 197 SH m1 P) : Ev mJ7_fill_53178 0 0 197 [.ref a, .int v] 197 SH m0 (fun r sh' m' => vJ Y fr lo nE sx pc ls (r.toList ++ st) 197 sh' m' P) := by
  have hl := SH_len a
  rw [hs] at hl
  exact ev_fillG hs ha (by have : len ≤ 480 := hl; omega) (k _ rfl)
theorem tab_out6 {x : Int32} (h0 : ¬ x = 0) (h1 : ¬ x = 1) (h2 : ¬ x = 2) (h3 : ¬ x = 3) (h4 : ¬ x = 4) (h5 : ¬ x = 5) : x.toInt < 0 ∨ 5 < x.toInt := by
  have k0 : ¬ x.toInt = 0 := fun q => h0 (Int32.toInt_inj.mp q)
  have k1 : ¬ x.toInt = 1 := fun q => h1 (Int32.toInt_inj.mp q)
  have k2 : ¬ x.toInt = 2 := fun q => h2 (Int32.toInt_inj.mp q)
  have k3 : ¬ x.toInt = 3 := fun q => h3 (Int32.toInt_inj.mp q)
  have k4 : ¬ x.toInt = 4 := fun q => h4 (Int32.toInt_inj.mp q)
  have k5 : ¬ x.toInt = 5 := fun q => h5 (Int32.toInt_inj.mp q)
  omega
theorem tab_out7 {x : Int32} (h0 : ¬ x = 0) (h1 : ¬ x = 1) (h2 : ¬ x = 2) (h3 : ¬ x = 3) (h4 : ¬ x = 4) (h5 : ¬ x = 5) (h6 : ¬ x = 6) : x.toInt < 0 ∨ 6 < x.toInt := by
  have k6 : ¬ x.toInt = 6 := fun q => h6 (Int32.toInt_inj.mp q)
  rcases tab_out6 h0 h1 h2 h3 h4 h5 with h | h <;> omega
end VG1
end
