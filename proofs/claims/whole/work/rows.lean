section
-- ===== PART A: goes FIRST, ahead of the names: the tables' words, and 'selects' of the private methods out of them =====
/-- a private method of a class that the tables say can be made, by its rows of tables_1 -/
def lw_okq (q : MethodName × Nat) : Prop := (q.1.cls ≠ "java/lang/invoke/MethodHandle" ∧ q.1.cls ≠ "java/lang/invoke/VarHandle") ∧ Cond.instantiable q.1.cls q.2 ∈ tables_1 ∧ Cond.privateMethod q.1 ∈ tables_1 ∧ Cond.instanceMethod q.1 ∈ tables_1
theorem lw_p0 : lw_okq (⟨"TableSetter", "isPlace", "(II)Z"⟩, 8) := ⟨⟨by decide +kernel, by decide +kernel⟩, List.mem_of_getElem? (i := 13) (by decide +kernel), List.mem_of_getElem? (i := 305) (by decide +kernel), List.mem_of_getElem? (i := 306) (by decide +kernel)⟩
theorem lw_p1 : lw_okq (⟨"TableSetter", "tell", "(I)I"⟩, 8) := ⟨⟨by decide +kernel, by decide +kernel⟩, List.mem_of_getElem? (i := 13) (by decide +kernel), List.mem_of_getElem? (i := 309) (by decide +kernel), List.mem_of_getElem? (i := 310) (by decide +kernel)⟩
theorem lw_p2 : lw_okq (⟨"TableSetter$Cell", "forgetLines", "()V"⟩, 11) := ⟨⟨by decide +kernel, by decide +kernel⟩, List.mem_of_getElem? (i := 28) (by decide +kernel), List.mem_of_getElem? (i := 342) (by decide +kernel), List.mem_of_getElem? (i := 343) (by decide +kernel)⟩
theorem lw_p3 : lw_okq (⟨"TableSetter$Cell", "countLines", "(I)I"⟩, 11) := ⟨⟨by decide +kernel, by decide +kernel⟩, List.mem_of_getElem? (i := 28) (by decide +kernel), List.mem_of_getElem? (i := 427) (by decide +kernel), List.mem_of_getElem? (i := 428) (by decide +kernel)⟩
theorem lw_p4 : lw_okq (⟨"TableSetter$Cell", "longestPiece", "()I"⟩, 11) := ⟨⟨by decide +kernel, by decide +kernel⟩, List.mem_of_getElem? (i := 28) (by decide +kernel), List.mem_of_getElem? (i := 439) (by decide +kernel), List.mem_of_getElem? (i := 440) (by decide +kernel)⟩
theorem lw_p5 : lw_okq (⟨"TableSetter$Widths", "measureFor", "(I[I)V"⟩, 9) := ⟨⟨by decide +kernel, by decide +kernel⟩, List.mem_of_getElem? (i := 153) (by decide +kernel), List.mem_of_getElem? (i := 452) (by decide +kernel), List.mem_of_getElem? (i := 453) (by decide +kernel)⟩
theorem lw_p6 : lw_okq (⟨"TableSetter$Widths", "noteLack", "(LTableSetter$Cell;I)V"⟩, 9) := ⟨⟨by decide +kernel, by decide +kernel⟩, List.mem_of_getElem? (i := 153) (by decide +kernel), List.mem_of_getElem? (i := 465) (by decide +kernel), List.mem_of_getElem? (i := 466) (by decide +kernel)⟩
theorem lw_p7 : lw_okq (⟨"TableSetter$Share", "giveOne", "(II)V"⟩, 2) := ⟨⟨by decide +kernel, by decide +kernel⟩, List.mem_of_getElem? (i := 159) (by decide +kernel), List.mem_of_getElem? (i := 475) (by decide +kernel), List.mem_of_getElem? (i := 476) (by decide +kernel)⟩
theorem lw_p8 : lw_okq (⟨"TableSetter$Widths", "addTo", "([I[I)V"⟩, 9) := ⟨⟨by decide +kernel, by decide +kernel⟩, List.mem_of_getElem? (i := 153) (by decide +kernel), List.mem_of_getElem? (i := 480) (by decide +kernel), List.mem_of_getElem? (i := 481) (by decide +kernel)⟩
theorem lw_p9 : lw_okq (⟨"TableSetter$Widths", "sumOf", "([I)I"⟩, 9) := ⟨⟨by decide +kernel, by decide +kernel⟩, List.mem_of_getElem? (i := 153) (by decide +kernel), List.mem_of_getElem? (i := 496) (by decide +kernel), List.mem_of_getElem? (i := 497) (by decide +kernel)⟩
theorem lw_p10 : lw_okq (⟨"TableSetter", "heightOfTable", "()I"⟩, 8) := ⟨⟨by decide +kernel, by decide +kernel⟩, List.mem_of_getElem? (i := 13) (by decide +kernel), List.mem_of_getElem? (i := 505) (by decide +kernel), List.mem_of_getElem? (i := 506) (by decide +kernel)⟩
theorem lw_p11 : lw_okq (⟨"TableSetter$Heights", "grow", "()V"⟩, 5) := ⟨⟨by decide +kernel, by decide +kernel⟩, List.mem_of_getElem? (i := 128) (by decide +kernel), List.mem_of_getElem? (i := 519) (by decide +kernel), List.mem_of_getElem? (i := 520) (by decide +kernel)⟩
theorem lw_p12 : lw_okq (⟨"TableSetter$Heights", "noteLack", "(LTableSetter$Cell;I)V"⟩, 5) := ⟨⟨by decide +kernel, by decide +kernel⟩, List.mem_of_getElem? (i := 128) (by decide +kernel), List.mem_of_getElem? (i := 525) (by decide +kernel), List.mem_of_getElem? (i := 526) (by decide +kernel)⟩
theorem lw_p13 : lw_okq (⟨"TableSetter$Heights", "sum", "()I"⟩, 5) := ⟨⟨by decide +kernel, by decide +kernel⟩, List.mem_of_getElem? (i := 128) (by decide +kernel), List.mem_of_getElem? (i := 531) (by decide +kernel), List.mem_of_getElem? (i := 532) (by decide +kernel)⟩
theorem lw_p14 : lw_okq (⟨"TableSetter$Widths", "addToLast", "(I)V"⟩, 9) := ⟨⟨by decide +kernel, by decide +kernel⟩, List.mem_of_getElem? (i := 153) (by decide +kernel), List.mem_of_getElem? (i := 547) (by decide +kernel), List.mem_of_getElem? (i := 548) (by decide +kernel)⟩
theorem lw_p15 : lw_okq (⟨"TableSetter$Widths", "tryNext", "()V"⟩, 9) := ⟨⟨by decide +kernel, by decide +kernel⟩, List.mem_of_getElem? (i := 153) (by decide +kernel), List.mem_of_getElem? (i := 553) (by decide +kernel), List.mem_of_getElem? (i := 554) (by decide +kernel)⟩
def lw_privs_1 : List (MethodName × Nat) := [(⟨"TableSetter", "isPlace", "(II)Z"⟩, 8), (⟨"TableSetter", "tell", "(I)I"⟩, 8), (⟨"TableSetter$Cell", "forgetLines", "()V"⟩, 11), (⟨"TableSetter$Cell", "countLines", "(I)I"⟩, 11), (⟨"TableSetter$Cell", "longestPiece", "()I"⟩, 11), (⟨"TableSetter$Widths", "measureFor", "(I[I)V"⟩, 9), (⟨"TableSetter$Widths", "noteLack", "(LTableSetter$Cell;I)V"⟩, 9), (⟨"TableSetter$Share", "giveOne", "(II)V"⟩, 2), (⟨"TableSetter$Widths", "addTo", "([I[I)V"⟩, 9), (⟨"TableSetter$Widths", "sumOf", "([I)I"⟩, 9), (⟨"TableSetter", "heightOfTable", "()I"⟩, 8), (⟨"TableSetter$Heights", "grow", "()V"⟩, 5), (⟨"TableSetter$Heights", "noteLack", "(LTableSetter$Cell;I)V"⟩, 5), (⟨"TableSetter$Heights", "sum", "()I"⟩, 5), (⟨"TableSetter$Widths", "addToLast", "(I)V"⟩, 9), (⟨"TableSetter$Widths", "tryNext", "()V"⟩, 9)]
theorem lw_r1 : ∀ q ∈ lw_privs_1, lw_okq q := List.forall_mem_cons.mpr ⟨lw_p0, List.forall_mem_cons.mpr ⟨lw_p1, List.forall_mem_cons.mpr ⟨lw_p2, List.forall_mem_cons.mpr ⟨lw_p3, List.forall_mem_cons.mpr ⟨lw_p4, List.forall_mem_cons.mpr ⟨lw_p5, List.forall_mem_cons.mpr ⟨lw_p6, List.forall_mem_cons.mpr ⟨lw_p7, List.forall_mem_cons.mpr ⟨lw_p8, List.forall_mem_cons.mpr ⟨lw_p9, List.forall_mem_cons.mpr ⟨lw_p10, List.forall_mem_cons.mpr ⟨lw_p11, List.forall_mem_cons.mpr ⟨lw_p12, List.forall_mem_cons.mpr ⟨lw_p13, List.forall_mem_cons.mpr ⟨lw_p14, List.forall_mem_cons.mpr ⟨lw_p15, fun _ h => absurd h List.not_mem_nil⟩⟩⟩⟩⟩⟩⟩⟩⟩⟩⟩⟩⟩⟩⟩⟩
theorem lw_p16 : lw_okq (⟨"TableSetter$Grid", "hasHead", "(I)Z"⟩, 7) := ⟨⟨by decide +kernel, by decide +kernel⟩, List.mem_of_getElem? (i := 21) (by decide +kernel), List.mem_of_getElem? (i := 582) (by decide +kernel), List.mem_of_getElem? (i := 583) (by decide +kernel)⟩
theorem lw_p17 : lw_okq (⟨"TableSetter$Pager", "findHomes", "()V"⟩, 12) := ⟨⟨by decide +kernel, by decide +kernel⟩, List.mem_of_getElem? (i := 204) (by decide +kernel), List.mem_of_getElem? (i := 591) (by decide +kernel), List.mem_of_getElem? (i := 592) (by decide +kernel)⟩
theorem lw_p18 : lw_okq (⟨"TableSetter$Pager", "planFrom", "(I)V"⟩, 12) := ⟨⟨by decide +kernel, by decide +kernel⟩, List.mem_of_getElem? (i := 204) (by decide +kernel), List.mem_of_getElem? (i := 605) (by decide +kernel), List.mem_of_getElem? (i := 606) (by decide +kernel)⟩
theorem lw_p19 : lw_okq (⟨"TableSetter$Pager", "isAlone", "(II)Z"⟩, 12) := ⟨⟨by decide +kernel, by decide +kernel⟩, List.mem_of_getElem? (i := 204) (by decide +kernel), List.mem_of_getElem? (i := 609) (by decide +kernel), List.mem_of_getElem? (i := 610) (by decide +kernel)⟩
theorem lw_p20 : lw_okq (⟨"TableSetter$Pager", "weigh", "(III)V"⟩, 12) := ⟨⟨by decide +kernel, by decide +kernel⟩, List.mem_of_getElem? (i := 204) (by decide +kernel), List.mem_of_getElem? (i := 613) (by decide +kernel), List.mem_of_getElem? (i := 614) (by decide +kernel)⟩
theorem lw_p21 : lw_okq (⟨"TableSetter$Pager", "layOut", "()V"⟩, 12) := ⟨⟨by decide +kernel, by decide +kernel⟩, List.mem_of_getElem? (i := 204) (by decide +kernel), List.mem_of_getElem? (i := 617) (by decide +kernel), List.mem_of_getElem? (i := 618) (by decide +kernel)⟩
theorem lw_p22 : lw_okq (⟨"TableSetterModel", "begin", "(III)V"⟩, 41) := ⟨⟨by decide +kernel, by decide +kernel⟩, List.mem_of_getElem? (i := 668) (by decide +kernel), List.mem_of_getElem? (i := 674) (by decide +kernel), List.mem_of_getElem? (i := 675) (by decide +kernel)⟩
theorem lw_p23 : lw_okq (⟨"TableSetterModel", "isColumn", "(I)Z"⟩, 41) := ⟨⟨by decide +kernel, by decide +kernel⟩, List.mem_of_getElem? (i := 668) (by decide +kernel), List.mem_of_getElem? (i := 823) (by decide +kernel), List.mem_of_getElem? (i := 824) (by decide +kernel)⟩
theorem lw_p24 : lw_okq (⟨"TableSetterModel", "isRow", "(I)Z"⟩, 41) := ⟨⟨by decide +kernel, by decide +kernel⟩, List.mem_of_getElem? (i := 668) (by decide +kernel), List.mem_of_getElem? (i := 835) (by decide +kernel), List.mem_of_getElem? (i := 836) (by decide +kernel)⟩
theorem lw_p25 : lw_okq (⟨"TableSetterModel", "meets", "(I)I"⟩, 41) := ⟨⟨by decide +kernel, by decide +kernel⟩, List.mem_of_getElem? (i := 668) (by decide +kernel), List.mem_of_getElem? (i := 839) (by decide +kernel), List.mem_of_getElem? (i := 840) (by decide +kernel)⟩
theorem lw_p26 : lw_okq (⟨"TableSetterModel", "cellOn", "(II)I"⟩, 41) := ⟨⟨by decide +kernel, by decide +kernel⟩, List.mem_of_getElem? (i := 668) (by decide +kernel), List.mem_of_getElem? (i := 843) (by decide +kernel), List.mem_of_getElem? (i := 844) (by decide +kernel)⟩
theorem lw_p27 : lw_okq (⟨"TableSetterModel", "liesOn", "(III)Z"⟩, 41) := ⟨⟨by decide +kernel, by decide +kernel⟩, List.mem_of_getElem? (i := 668) (by decide +kernel), List.mem_of_getElem? (i := 847) (by decide +kernel), List.mem_of_getElem? (i := 848) (by decide +kernel)⟩
theorem lw_p28 : lw_okq (⟨"TableSetterModel", "isCell", "(I)Z"⟩, 41) := ⟨⟨by decide +kernel, by decide +kernel⟩, List.mem_of_getElem? (i := 668) (by decide +kernel), List.mem_of_getElem? (i := 859) (by decide +kernel), List.mem_of_getElem? (i := 860) (by decide +kernel)⟩
theorem lw_p29 : lw_okq (⟨"TableSetterModel", "need", "(ZI)I"⟩, 41) := ⟨⟨by decide +kernel, by decide +kernel⟩, List.mem_of_getElem? (i := 668) (by decide +kernel), List.mem_of_getElem? (i := 867) (by decide +kernel), List.mem_of_getElem? (i := 868) (by decide +kernel)⟩
theorem lw_p30 : lw_okq (⟨"TableSetterModel", "toldOf", "(II)I"⟩, 41) := ⟨⟨by decide +kernel, by decide +kernel⟩, List.mem_of_getElem? (i := 668) (by decide +kernel), List.mem_of_getElem? (i := 871) (by decide +kernel), List.mem_of_getElem? (i := 872) (by decide +kernel)⟩
theorem lw_p31 : lw_okq (⟨"TableSetterModel", "lettersOf", "(I)I"⟩, 41) := ⟨⟨by decide +kernel, by decide +kernel⟩, List.mem_of_getElem? (i := 668) (by decide +kernel), List.mem_of_getElem? (i := 899) (by decide +kernel), List.mem_of_getElem? (i := 900) (by decide +kernel)⟩
def lw_privs_2 : List (MethodName × Nat) := [(⟨"TableSetter$Grid", "hasHead", "(I)Z"⟩, 7), (⟨"TableSetter$Pager", "findHomes", "()V"⟩, 12), (⟨"TableSetter$Pager", "planFrom", "(I)V"⟩, 12), (⟨"TableSetter$Pager", "isAlone", "(II)Z"⟩, 12), (⟨"TableSetter$Pager", "weigh", "(III)V"⟩, 12), (⟨"TableSetter$Pager", "layOut", "()V"⟩, 12), (⟨"TableSetterModel", "begin", "(III)V"⟩, 41), (⟨"TableSetterModel", "isColumn", "(I)Z"⟩, 41), (⟨"TableSetterModel", "isRow", "(I)Z"⟩, 41), (⟨"TableSetterModel", "meets", "(I)I"⟩, 41), (⟨"TableSetterModel", "cellOn", "(II)I"⟩, 41), (⟨"TableSetterModel", "liesOn", "(III)Z"⟩, 41), (⟨"TableSetterModel", "isCell", "(I)Z"⟩, 41), (⟨"TableSetterModel", "need", "(ZI)I"⟩, 41), (⟨"TableSetterModel", "toldOf", "(II)I"⟩, 41), (⟨"TableSetterModel", "lettersOf", "(I)I"⟩, 41)]
theorem lw_r2 : ∀ q ∈ lw_privs_2, lw_okq q := List.forall_mem_cons.mpr ⟨lw_p16, List.forall_mem_cons.mpr ⟨lw_p17, List.forall_mem_cons.mpr ⟨lw_p18, List.forall_mem_cons.mpr ⟨lw_p19, List.forall_mem_cons.mpr ⟨lw_p20, List.forall_mem_cons.mpr ⟨lw_p21, List.forall_mem_cons.mpr ⟨lw_p22, List.forall_mem_cons.mpr ⟨lw_p23, List.forall_mem_cons.mpr ⟨lw_p24, List.forall_mem_cons.mpr ⟨lw_p25, List.forall_mem_cons.mpr ⟨lw_p26, List.forall_mem_cons.mpr ⟨lw_p27, List.forall_mem_cons.mpr ⟨lw_p28, List.forall_mem_cons.mpr ⟨lw_p29, List.forall_mem_cons.mpr ⟨lw_p30, List.forall_mem_cons.mpr ⟨lw_p31, fun _ h => absurd h List.not_mem_nil⟩⟩⟩⟩⟩⟩⟩⟩⟩⟩⟩⟩⟩⟩⟩⟩
theorem lw_p32 : lw_okq (⟨"TableSetterModel", "linesOf", "(II)I"⟩, 41) := ⟨⟨by decide +kernel, by decide +kernel⟩, List.mem_of_getElem? (i := 668) (by decide +kernel), List.mem_of_getElem? (i := 915) (by decide +kernel), List.mem_of_getElem? (i := 916) (by decide +kernel)⟩
theorem lw_p33 : lw_okq (⟨"TableSetterModel", "wantOf", "(II)I"⟩, 41) := ⟨⟨by decide +kernel, by decide +kernel⟩, List.mem_of_getElem? (i := 668) (by decide +kernel), List.mem_of_getElem? (i := 923) (by decide +kernel), List.mem_of_getElem? (i := 924) (by decide +kernel)⟩
theorem lw_p34 : lw_okq (⟨"TableSetterModel", "layBoth", "()V"⟩, 41) := ⟨⟨by decide +kernel, by decide +kernel⟩, List.mem_of_getElem? (i := 668) (by decide +kernel), List.mem_of_getElem? (i := 931) (by decide +kernel), List.mem_of_getElem? (i := 932) (by decide +kernel)⟩
theorem lw_p35 : lw_okq (⟨"TableSetterModel", "layWidths", "(I[I)V"⟩, 41) := ⟨⟨by decide +kernel, by decide +kernel⟩, List.mem_of_getElem? (i := 668) (by decide +kernel), List.mem_of_getElem? (i := 935) (by decide +kernel), List.mem_of_getElem? (i := 936) (by decide +kernel)⟩
theorem lw_p36 : lw_okq (⟨"TableSetterModel", "widthOver", "([III)I"⟩, 41) := ⟨⟨by decide +kernel, by decide +kernel⟩, List.mem_of_getElem? (i := 668) (by decide +kernel), List.mem_of_getElem? (i := 939) (by decide +kernel), List.mem_of_getElem? (i := 940) (by decide +kernel)⟩
theorem lw_p37 : lw_okq (⟨"TableSetterModel", "lacks", "(III)V"⟩, 41) := ⟨⟨by decide +kernel, by decide +kernel⟩, List.mem_of_getElem? (i := 668) (by decide +kernel), List.mem_of_getElem? (i := 943) (by decide +kernel), List.mem_of_getElem? (i := 944) (by decide +kernel)⟩
theorem lw_p38 : lw_okq (⟨"TableSetterModel", "share", "(III)V"⟩, 41) := ⟨⟨by decide +kernel, by decide +kernel⟩, List.mem_of_getElem? (i := 668) (by decide +kernel), List.mem_of_getElem? (i := 947) (by decide +kernel), List.mem_of_getElem? (i := 948) (by decide +kernel)⟩
theorem lw_p39 : lw_okq (⟨"TableSetterModel", "sumOf", "([I)I"⟩, 41) := ⟨⟨by decide +kernel, by decide +kernel⟩, List.mem_of_getElem? (i := 668) (by decide +kernel), List.mem_of_getElem? (i := 955) (by decide +kernel), List.mem_of_getElem? (i := 956) (by decide +kernel)⟩
theorem lw_p40 : lw_okq (⟨"TableSetterModel", "heightBy", "([I)I"⟩, 41) := ⟨⟨by decide +kernel, by decide +kernel⟩, List.mem_of_getElem? (i := 668) (by decide +kernel), List.mem_of_getElem? (i := 959) (by decide +kernel), List.mem_of_getElem? (i := 960) (by decide +kernel)⟩
theorem lw_p41 : lw_okq (⟨"TableSetterModel", "layHeights", "([I)V"⟩, 41) := ⟨⟨by decide +kernel, by decide +kernel⟩, List.mem_of_getElem? (i := 668) (by decide +kernel), List.mem_of_getElem? (i := 963) (by decide +kernel), List.mem_of_getElem? (i := 964) (by decide +kernel)⟩
theorem lw_p42 : lw_okq (⟨"TableSetterModel", "next", "()Z"⟩, 41) := ⟨⟨by decide +kernel, by decide +kernel⟩, List.mem_of_getElem? (i := 668) (by decide +kernel), List.mem_of_getElem? (i := 971) (by decide +kernel), List.mem_of_getElem? (i := 972) (by decide +kernel)⟩
theorem lw_p43 : lw_okq (⟨"TableSetterModel", "mayBreakAt", "(I)Z"⟩, 41) := ⟨⟨by decide +kernel, by decide +kernel⟩, List.mem_of_getElem? (i := 668) (by decide +kernel), List.mem_of_getElem? (i := 991) (by decide +kernel), List.mem_of_getElem? (i := 992) (by decide +kernel)⟩
theorem lw_p44 : lw_okq (⟨"TableSetterModel", "headRows", "()I"⟩, 41) := ⟨⟨by decide +kernel, by decide +kernel⟩, List.mem_of_getElem? (i := 668) (by decide +kernel), List.mem_of_getElem? (i := 995) (by decide +kernel), List.mem_of_getElem? (i := 996) (by decide +kernel)⟩
theorem lw_p45 : lw_okq (⟨"TableSetterModel", "emptyOf", "(IIII)I"⟩, 41) := ⟨⟨by decide +kernel, by decide +kernel⟩, List.mem_of_getElem? (i := 668) (by decide +kernel), List.mem_of_getElem? (i := 1003) (by decide +kernel), List.mem_of_getElem? (i := 1004) (by decide +kernel)⟩
theorem lw_p46 : lw_okq (⟨"TableSetterModel", "notesOn", "(III)I"⟩, 41) := ⟨⟨by decide +kernel, by decide +kernel⟩, List.mem_of_getElem? (i := 668) (by decide +kernel), List.mem_of_getElem? (i := 1007) (by decide +kernel), List.mem_of_getElem? (i := 1008) (by decide +kernel)⟩
theorem lw_p47 : lw_okq (⟨"TableSetterModel", "homeOf", "(II)I"⟩, 41) := ⟨⟨by decide +kernel, by decide +kernel⟩, List.mem_of_getElem? (i := 668) (by decide +kernel), List.mem_of_getElem? (i := 1011) (by decide +kernel), List.mem_of_getElem? (i := 1012) (by decide +kernel)⟩
def lw_privs_3 : List (MethodName × Nat) := [(⟨"TableSetterModel", "linesOf", "(II)I"⟩, 41), (⟨"TableSetterModel", "wantOf", "(II)I"⟩, 41), (⟨"TableSetterModel", "layBoth", "()V"⟩, 41), (⟨"TableSetterModel", "layWidths", "(I[I)V"⟩, 41), (⟨"TableSetterModel", "widthOver", "([III)I"⟩, 41), (⟨"TableSetterModel", "lacks", "(III)V"⟩, 41), (⟨"TableSetterModel", "share", "(III)V"⟩, 41), (⟨"TableSetterModel", "sumOf", "([I)I"⟩, 41), (⟨"TableSetterModel", "heightBy", "([I)I"⟩, 41), (⟨"TableSetterModel", "layHeights", "([I)V"⟩, 41), (⟨"TableSetterModel", "next", "()Z"⟩, 41), (⟨"TableSetterModel", "mayBreakAt", "(I)Z"⟩, 41), (⟨"TableSetterModel", "headRows", "()I"⟩, 41), (⟨"TableSetterModel", "emptyOf", "(IIII)I"⟩, 41), (⟨"TableSetterModel", "notesOn", "(III)I"⟩, 41), (⟨"TableSetterModel", "homeOf", "(II)I"⟩, 41)]
theorem lw_r3 : ∀ q ∈ lw_privs_3, lw_okq q := List.forall_mem_cons.mpr ⟨lw_p32, List.forall_mem_cons.mpr ⟨lw_p33, List.forall_mem_cons.mpr ⟨lw_p34, List.forall_mem_cons.mpr ⟨lw_p35, List.forall_mem_cons.mpr ⟨lw_p36, List.forall_mem_cons.mpr ⟨lw_p37, List.forall_mem_cons.mpr ⟨lw_p38, List.forall_mem_cons.mpr ⟨lw_p39, List.forall_mem_cons.mpr ⟨lw_p40, List.forall_mem_cons.mpr ⟨lw_p41, List.forall_mem_cons.mpr ⟨lw_p42, List.forall_mem_cons.mpr ⟨lw_p43, List.forall_mem_cons.mpr ⟨lw_p44, List.forall_mem_cons.mpr ⟨lw_p45, List.forall_mem_cons.mpr ⟨lw_p46, List.forall_mem_cons.mpr ⟨lw_p47, fun _ h => absurd h List.not_mem_nil⟩⟩⟩⟩⟩⟩⟩⟩⟩⟩⟩⟩⟩⟩⟩⟩
theorem lw_p48 : lw_okq (⟨"TableSetterModel", "pageTold", "(II)I"⟩, 41) := ⟨⟨by decide +kernel, by decide +kernel⟩, List.mem_of_getElem? (i := 668) (by decide +kernel), List.mem_of_getElem? (i := 1019) (by decide +kernel), List.mem_of_getElem? (i := 1020) (by decide +kernel)⟩
theorem lw_p49 : lw_okq (⟨"TableSetterModel", "digestCell", "(JI)J"⟩, 41) := ⟨⟨by decide +kernel, by decide +kernel⟩, List.mem_of_getElem? (i := 668) (by decide +kernel), List.mem_of_getElem? (i := 1037) (by decide +kernel), List.mem_of_getElem? (i := 1038) (by decide +kernel)⟩
def lw_privs_4 : List (MethodName × Nat) := [(⟨"TableSetterModel", "pageTold", "(II)I"⟩, 41), (⟨"TableSetterModel", "digestCell", "(JI)J"⟩, 41)]
theorem lw_r4 : ∀ q ∈ lw_privs_4, lw_okq q := List.forall_mem_cons.mpr ⟨lw_p48, List.forall_mem_cons.mpr ⟨lw_p49, fun _ h => absurd h List.not_mem_nil⟩⟩
def lw_privs : List (MethodName × Nat) := lw_privs_1 ++ (lw_privs_2 ++ (lw_privs_3 ++ (lw_privs_4)))
def lw_tbl : List Cond := k2_sels lw_privs ++ tables_1
theorem lw_privs_ok : ∀ q ∈ lw_privs, lw_okq q := by
  show ∀ q ∈ lw_privs_1 ++ (lw_privs_2 ++ (lw_privs_3 ++ (lw_privs_4))), lw_okq q
  exact List.forall_mem_append.mpr ⟨lw_r1, List.forall_mem_append.mpr ⟨lw_r2, List.forall_mem_append.mpr ⟨lw_r3, lw_r4⟩⟩⟩
end
section
def RX0 : String := "TableSetter$Cell"
def TX0 : u_T := fun k => match k with
  | 0 => ("TableSetter$Cell", "kind", "I", false)
  | 1 => ("TableSetter$Cell", "row", "I", false)
  | 2 => ("TableSetter$Cell", "column", "I", false)
  | 3 => ("TableSetter$Cell", "rows", "I", false)
  | 4 => ("TableSetter$Cell", "cols", "I", false)
  | 5 => ("TableSetter$Cell", "called", "I", false)
  | 6 => ("TableSetter$Cell", "fixedWidth", "I", false)
  | 7 => ("TableSetter$Cell", "pieces", "I", false)
  | 8 => ("TableSetter$Cell", "gone", "Z", false)
  | 9 => ("TableSetter$Cell", "letters", "[I", true)
  | _ => ("TableSetter$Cell", "knownLines", "[I", true)
def tyX0 : Nat → FieldType := fun k => match k with
  | 0 => .int
  | 1 => .int
  | 2 => .int
  | 3 => .int
  | 4 => .int
  | 5 => .int
  | 6 => .int
  | 7 => .int
  | 8 => .boolean
  | 9 => .array .int
  | _ => .array .int
abbrev wsX00 : List Cond := u_ws RX0 TX0 11
theorem nmX0 : ∀ a, a < 11 → ∀ b, b < 11 → a ≠ b → (TX0 a).2.1 ≠ (TX0 b).2.1 := by decide +kernel
theorem tyX0_ok : ∀ k, k < 11 → parseFieldDescriptor (TX0 k).2.2.1 = some (tyX0 k) := by decide +kernel
abbrev cX0_init : ByteArray := prog_2_method_1_code
def yX0_init : MethodName := ⟨RX0, "<init>", "()V"⟩
abbrev cX0_begin : ByteArray := prog_2_method_2_code
def yX0_begin : MethodName := ⟨RX0, "begin", "(IIIII)V"⟩
abbrev cX0_fact : ByteArray := prog_2_method_3_code
def yX0_fact : MethodName := ⟨RX0, "fact", "(I)I"⟩
abbrev cX0_meets : ByteArray := prog_2_method_4_code
def yX0_meets : MethodName := ⟨RX0, "meets", "(IIII)Z"⟩
abbrev cX0_liesOnRow : ByteArray := prog_2_method_5_code
def yX0_liesOnRow : MethodName := ⟨RX0, "liesOnRow", "(I)Z"⟩
abbrev cX0_fill : ByteArray := prog_2_method_6_code
def yX0_fill : MethodName := ⟨RX0, "fill", "(I)V"⟩
abbrev cX0_holds : ByteArray := prog_2_method_7_code
def yX0_holds : MethodName := ⟨RX0, "holds", "(II)Z"⟩
abbrev cX0_exchange : ByteArray := prog_2_method_8_code
def yX0_exchange : MethodName := ⟨RX0, "exchange", "(II)I"⟩
abbrev cX0_take : ByteArray := prog_2_method_9_code
def yX0_take : MethodName := ⟨RX0, "take", "(LTableSetter$Cell;III)V"⟩
abbrev cX0_allLetters : ByteArray := prog_2_method_10_code
def yX0_allLetters : MethodName := ⟨RX0, "allLetters", "()I"⟩
abbrev cX0_wanted : ByteArray := prog_2_method_11_code
def yX0_wanted : MethodName := ⟨RX0, "wanted", "(I)I"⟩
abbrev cX0_longestPiece : ByteArray := prog_2_method_12_code
def yX0_longestPiece : MethodName := ⟨RX0, "longestPiece", "()I"⟩
abbrev cX0_linesIn : ByteArray := prog_2_method_13_code
def yX0_linesIn : MethodName := ⟨RX0, "linesIn", "(I)I"⟩
abbrev cX0_countLines : ByteArray := prog_2_method_14_code
def yX0_countLines : MethodName := ⟨RX0, "countLines", "(I)I"⟩
abbrev cX0_forgetLines : ByteArray := prog_2_method_15_code
def yX0_forgetLines : MethodName := ⟨RX0, "forgetLines", "()V"⟩
def RX1 : String := "TableSetter$Grid"
def TX1 : u_T := fun k => match k with
  | 0 => ("TableSetter$Grid", "rows", "I", false)
  | 1 => ("TableSetter$Grid", "columns", "I", false)
  | 2 => ("TableSetter$Grid", "gap", "I", false)
  | 3 => ("TableSetter$Grid", "ever", "I", false)
  | 4 => ("TableSetter$Grid", "weights", "[I", true)
  | 5 => ("TableSetter$Grid", "noteLines", "[I", true)
  | _ => ("TableSetter$Grid", "cells", "[LTableSetter$Cell;", true)
def tyX1 : Nat → FieldType := fun k => match k with
  | 0 => .int
  | 1 => .int
  | 2 => .int
  | 3 => .int
  | 4 => .array .int
  | 5 => .array .int
  | _ => .array (.object "TableSetter$Cell")
abbrev wsX10 : List Cond := u_ws RX1 TX1 7
theorem nmX1 : ∀ a, a < 7 → ∀ b, b < 7 → a ≠ b → (TX1 a).2.1 ≠ (TX1 b).2.1 := by decide +kernel
theorem tyX1_ok : ∀ k, k < 7 → parseFieldDescriptor (TX1 k).2.2.1 = some (tyX1 k) := by decide +kernel
abbrev cX1_init : ByteArray := prog_3_method_1_code
def yX1_init : MethodName := ⟨RX1, "<init>", "()V"⟩
abbrev cX1_begin : ByteArray := prog_3_method_2_code
def yX1_begin : MethodName := ⟨RX1, "begin", "(III)V"⟩
abbrev cX1_numbered : ByteArray := prog_3_method_3_code
def yX1_numbered : MethodName := ⟨RX1, "numbered", "(I)LTableSetter$Cell;"⟩
abbrev cX1_present : ByteArray := prog_3_method_4_code
def yX1_present : MethodName := ⟨RX1, "present", "(I)LTableSetter$Cell;"⟩
abbrev cX1_add : ByteArray := prog_3_method_5_code
def yX1_add : MethodName := ⟨RX1, "add", "(IIIII)I"⟩
abbrev cX1_firstOn : ByteArray := prog_3_method_6_code
def yX1_firstOn : MethodName := ⟨RX1, "firstOn", "(IIII)I"⟩
abbrev cX1_presentCells : ByteArray := prog_3_method_7_code
def yX1_presentCells : MethodName := ⟨RX1, "presentCells", "()I"⟩
abbrev cX1_headRows : ByteArray := prog_3_method_8_code
def yX1_headRows : MethodName := ⟨RX1, "headRows", "()I"⟩
abbrev cX1_hasHead : ByteArray := prog_3_method_9_code
def yX1_hasHead : MethodName := ⟨RX1, "hasHead", "(I)Z"⟩
abbrev cX1_breaksAhead : ByteArray := prog_3_method_10_code
def yX1_breaksAhead : MethodName := ⟨RX1, "breaksAhead", "(II)Z"⟩
abbrev cX1_firstCall : ByteArray := prog_3_method_11_code
def yX1_firstCall : MethodName := ⟨RX1, "firstCall", "(I)I"⟩
abbrev cX1_gaps : ByteArray := prog_3_method_12_code
def yX1_gaps : MethodName := ⟨RX1, "gaps", "()I"⟩
abbrev cX1_spanOf : ByteArray := prog_3_method_13_code
def yX1_spanOf : MethodName := ⟨RX1, "spanOf", "(LTableSetter$Cell;[I)I"⟩
def RX2 : String := "TableSetter$Heights"
def TX2 : u_T := fun k => match k with
  | 0 => ("TableSetter$Heights", "now", "[I", true)
  | 1 => ("TableSetter$Heights", "grid", "LTableSetter$Grid;", true)
  | 2 => ("TableSetter$Heights", "growth", "[I", true)
  | 3 => ("TableSetter$Heights", "order", "[LTableSetter$Cell;", true)
  | _ => ("TableSetter$Heights", "ordered", "I", false)
def tyX2 : Nat → FieldType := fun k => match k with
  | 0 => .array .int
  | 1 => .object "TableSetter$Grid"
  | 2 => .array .int
  | 3 => .array (.object "TableSetter$Cell")
  | _ => .int
abbrev wsX20 : List Cond := u_ws RX2 TX2 5
theorem nmX2 : ∀ a, a < 5 → ∀ b, b < 5 → a ≠ b → (TX2 a).2.1 ≠ (TX2 b).2.1 := by decide +kernel
theorem tyX2_ok : ∀ k, k < 5 → parseFieldDescriptor (TX2 k).2.2.1 = some (tyX2 k) := by decide +kernel
abbrev cX2_init : ByteArray := prog_4_method_1_code
def yX2_init : MethodName := ⟨RX2, "<init>", "(LTableSetter$Grid;)V"⟩
abbrev cX2_sortCells : ByteArray := prog_4_method_2_code
def yX2_sortCells : MethodName := ⟨RX2, "sortCells", "()V"⟩
abbrev cX2_measure : ByteArray := prog_4_method_3_code
def yX2_measure : MethodName := ⟨RX2, "measure", "([I)I"⟩
abbrev cX2_noteLack : ByteArray := prog_4_method_4_code
def yX2_noteLack : MethodName := ⟨RX2, "noteLack", "(LTableSetter$Cell;I)V"⟩
abbrev cX2_grow : ByteArray := prog_4_method_5_code
def yX2_grow : MethodName := ⟨RX2, "grow", "()V"⟩
abbrev cX2_sum : ByteArray := prog_4_method_6_code
def yX2_sum : MethodName := ⟨RX2, "sum", "()I"⟩
def RX3 : String := "TableSetter$Pager"
def TX3 : u_T := fun k => match k with
  | 0 => ("TableSetter$Pager", "made", "I", false)
  | 1 => ("TableSetter$Pager", "facts", "[[I", true)
  | 2 => ("TableSetter$Pager", "grid", "LTableSetter$Grid;", true)
  | 3 => ("TableSetter$Pager", "heights", "LTableSetter$Heights;", true)
  | 4 => ("TableSetter$Pager", "homeNotes", "[I", true)
  | 5 => ("TableSetter$Pager", "homeLines", "[I", true)
  | 6 => ("TableSetter$Pager", "fewest", "[I", true)
  | 7 => ("TableSetter$Pager", "waste", "[I", true)
  | 8 => ("TableSetter$Pager", "ends", "[I", true)
  | 9 => ("TableSetter$Pager", "room", "I", false)
  | 10 => ("TableSetter$Pager", "body", "I", false)
  | _ => ("TableSetter$Pager", "last", "I", false)
def tyX3 : Nat → FieldType := fun k => match k with
  | 0 => .int
  | 1 => .array (.array .int)
  | 2 => .object "TableSetter$Grid"
  | 3 => .object "TableSetter$Heights"
  | 4 => .array .int
  | 5 => .array .int
  | 6 => .array .int
  | 7 => .array .int
  | 8 => .array .int
  | 9 => .int
  | 10 => .int
  | _ => .int
abbrev wsX30 : List Cond := u_ws RX3 TX3 12
theorem nmX3 : ∀ a, a < 12 → ∀ b, b < 12 → a ≠ b → (TX3 a).2.1 ≠ (TX3 b).2.1 := by decide +kernel
theorem tyX3_ok : ∀ k, k < 12 → parseFieldDescriptor (TX3 k).2.2.1 = some (tyX3 k) := by decide +kernel
abbrev cX3_init : ByteArray := prog_5_method_1_code
def yX3_init : MethodName := ⟨RX3, "<init>", "(LTableSetter$Grid;LTableSetter$Heights;)V"⟩
abbrev cX3_forget : ByteArray := prog_5_method_2_code
def yX3_forget : MethodName := ⟨RX3, "forget", "()V"⟩
abbrev cX3_make : ByteArray := prog_5_method_3_code
def yX3_make : MethodName := ⟨RX3, "make", "(I)I"⟩
abbrev cX3_findHomes : ByteArray := prog_5_method_4_code
def yX3_findHomes : MethodName := ⟨RX3, "findHomes", "()V"⟩
abbrev cX3_planFrom : ByteArray := prog_5_method_5_code
def yX3_planFrom : MethodName := ⟨RX3, "planFrom", "(I)V"⟩
abbrev cX3_isAlone : ByteArray := prog_5_method_6_code
def yX3_isAlone : MethodName := ⟨RX3, "isAlone", "(II)Z"⟩
abbrev cX3_weigh : ByteArray := prog_5_method_7_code
def yX3_weigh : MethodName := ⟨RX3, "weigh", "(III)V"⟩
abbrev cX3_layOut : ByteArray := prog_5_method_8_code
def yX3_layOut : MethodName := ⟨RX3, "layOut", "()V"⟩
abbrev cX3_holding : ByteArray := prog_5_method_9_code
def yX3_holding : MethodName := ⟨RX3, "holding", "(I)I"⟩
def RX4 : String := "TableSetter$Share"
def TX4 : u_T := fun k => match k with
  | 0 => ("TableSetter$Share", "parts", "[I", true)
  | _ => ("TableSetter$Share", "cutOff", "[I", true)
def tyX4 : Nat → FieldType := fun k => match k with
  | 0 => .array .int
  | _ => .array .int
abbrev wsX40 : List Cond := u_ws RX4 TX4 2
theorem nmX4 : ∀ a, a < 2 → ∀ b, b < 2 → a ≠ b → (TX4 a).2.1 ≠ (TX4 b).2.1 := by decide +kernel
theorem tyX4_ok : ∀ k, k < 2 → parseFieldDescriptor (TX4 k).2.2.1 = some (tyX4 k) := by decide +kernel
abbrev cX4_init : ByteArray := prog_6_method_1_code
def yX4_init : MethodName := ⟨RX4, "<init>", "()V"⟩
abbrev cX4_divide : ByteArray := prog_6_method_2_code
def yX4_divide : MethodName := ⟨RX4, "divide", "(I[III)V"⟩
abbrev cX4_giveOne : ByteArray := prog_6_method_3_code
def yX4_giveOne : MethodName := ⟨RX4, "giveOne", "(II)V"⟩
def RX5 : String := "TableSetter$Widths"
def TX5 : u_T := fun k => match k with
  | 0 => ("TableSetter$Widths", "now", "[I", true)
  | 1 => ("TableSetter$Widths", "least", "[I", true)
  | 2 => ("TableSetter$Widths", "best", "[I", true)
  | 3 => ("TableSetter$Widths", "grid", "LTableSetter$Grid;", true)
  | 4 => ("TableSetter$Widths", "heights", "LTableSetter$Heights;", true)
  | 5 => ("TableSetter$Widths", "share", "LTableSetter$Share;", true)
  | 6 => ("TableSetter$Widths", "growth", "[I", true)
  | 7 => ("TableSetter$Widths", "more", "[I", true)
  | _ => ("TableSetter$Widths", "trial", "[I", true)
def tyX5 : Nat → FieldType := fun k => match k with
  | 0 => .array .int
  | 1 => .array .int
  | 2 => .array .int
  | 3 => .object "TableSetter$Grid"
  | 4 => .object "TableSetter$Heights"
  | 5 => .object "TableSetter$Share"
  | 6 => .array .int
  | 7 => .array .int
  | _ => .array .int
abbrev wsX50 : List Cond := u_ws RX5 TX5 9
theorem nmX5 : ∀ a, a < 9 → ∀ b, b < 9 → a ≠ b → (TX5 a).2.1 ≠ (TX5 b).2.1 := by decide +kernel
theorem tyX5_ok : ∀ k, k < 9 → parseFieldDescriptor (TX5 k).2.2.1 = some (tyX5 k) := by decide +kernel
abbrev cX5_init : ByteArray := prog_7_method_1_code
def yX5_init : MethodName := ⟨RX5, "<init>", "(LTableSetter$Grid;LTableSetter$Heights;)V"⟩
abbrev cX5_forget : ByteArray := prog_7_method_2_code
def yX5_forget : MethodName := ⟨RX5, "forget", "()V"⟩
abbrev cX5_measure : ByteArray := prog_7_method_3_code
def yX5_measure : MethodName := ⟨RX5, "measure", "()V"⟩
abbrev cX5_measureFor : ByteArray := prog_7_method_4_code
def yX5_measureFor : MethodName := ⟨RX5, "measureFor", "(I[I)V"⟩
abbrev cX5_noteLack : ByteArray := prog_7_method_5_code
def yX5_noteLack : MethodName := ⟨RX5, "noteLack", "(LTableSetter$Cell;I)V"⟩
abbrev cX5_addTo : ByteArray := prog_7_method_6_code
def yX5_addTo : MethodName := ⟨RX5, "addTo", "([I[I)V"⟩
abbrev cX5_spareOf : ByteArray := prog_7_method_7_code
def yX5_spareOf : MethodName := ⟨RX5, "spareOf", "(I)I"⟩
abbrev cX5_sumOf : ByteArray := prog_7_method_8_code
def yX5_sumOf : MethodName := ⟨RX5, "sumOf", "([I)I"⟩
abbrev cX5_spread : ByteArray := prog_7_method_9_code
def yX5_spread : MethodName := ⟨RX5, "spread", "(I)V"⟩
abbrev cX5_waysToSpread : ByteArray := prog_7_method_10_code
def yX5_waysToSpread : MethodName := ⟨RX5, "waysToSpread", "(I)J"⟩
abbrev cX5_tighten : ByteArray := prog_7_method_11_code
def yX5_tighten : MethodName := ⟨RX5, "tighten", "(II)I"⟩
abbrev cX5_tryNext : ByteArray := prog_7_method_12_code
def yX5_tryNext : MethodName := ⟨RX5, "tryNext", "()V"⟩
abbrev cX5_addToLast : ByteArray := prog_7_method_13_code
def yX5_addToLast : MethodName := ⟨RX5, "addToLast", "(I)V"⟩
def RX6 : String := "TableSetter"
def TX6 : u_T := fun k => match k with
  | 0 => ("TableSetter", "grid", "LTableSetter$Grid;", true)
  | 1 => ("TableSetter", "heights", "LTableSetter$Heights;", true)
  | 2 => ("TableSetter", "widths", "LTableSetter$Widths;", true)
  | 3 => ("TableSetter", "pager", "LTableSetter$Pager;", true)
  | 4 => ("TableSetter", "findingCounts", "[I", true)
  | 5 => ("TableSetter", "latestFinding", "I", false)
  | 6 => ("TableSetter", "latestClash", "I", false)
  | _ => ("TableSetter", "latestTries", "I", false)
def tyX6 : Nat → FieldType := fun k => match k with
  | 0 => .object "TableSetter$Grid"
  | 1 => .object "TableSetter$Heights"
  | 2 => .object "TableSetter$Widths"
  | 3 => .object "TableSetter$Pager"
  | 4 => .array .int
  | 5 => .int
  | 6 => .int
  | _ => .int
abbrev wsX60 : List Cond := u_ws RX6 TX6 8
theorem nmX6 : ∀ a, a < 8 → ∀ b, b < 8 → a ≠ b → (TX6 a).2.1 ≠ (TX6 b).2.1 := by decide +kernel
theorem tyX6_ok : ∀ k, k < 8 → parseFieldDescriptor (TX6 k).2.2.1 = some (tyX6 k) := by decide +kernel
abbrev cX6_init : ByteArray := prog_1_method_1_code
def yX6_init : MethodName := ⟨RX6, "<init>", "()V"⟩
abbrev cX6_table : ByteArray := prog_1_method_2_code
def yX6_table : MethodName := ⟨RX6, "table", "(III)I"⟩
abbrev cX6_weight : ByteArray := prog_1_method_3_code
def yX6_weight : MethodName := ⟨RX6, "weight", "(II)I"⟩
abbrev cX6_note : ByteArray := prog_1_method_4_code
def yX6_note : MethodName := ⟨RX6, "note", "(II)I"⟩
abbrev cX6_cell : ByteArray := prog_1_method_5_code
def yX6_cell : MethodName := ⟨RX6, "cell", "(IIIII)I"⟩
abbrev cX6_clash : ByteArray := prog_1_method_6_code
def yX6_clash : MethodName := ⟨RX6, "clash", "()I"⟩
abbrev cX6_drop : ByteArray := prog_1_method_7_code
def yX6_drop : MethodName := ⟨RX6, "drop", "(I)I"⟩
abbrev cX6_told : ByteArray := prog_1_method_8_code
def yX6_told : MethodName := ⟨RX6, "told", "(II)I"⟩
abbrev cX6_is : ByteArray := prog_1_method_9_code
def yX6_is : MethodName := ⟨RX6, "is", "(II)I"⟩
abbrev cX6_on : ByteArray := prog_1_method_10_code
def yX6_on : MethodName := ⟨RX6, "on", "(II)I"⟩
abbrev cX6_words : ByteArray := prog_1_method_11_code
def yX6_words : MethodName := ⟨RX6, "words", "(II)I"⟩
abbrev cX6_word : ByteArray := prog_1_method_12_code
def yX6_word : MethodName := ⟨RX6, "word", "(III)I"⟩
abbrev cX6_copy : ByteArray := prog_1_method_13_code
def yX6_copy : MethodName := ⟨RX6, "copy", "(IIIII)I"⟩
abbrev cX6_mean : ByteArray := prog_1_method_14_code
def yX6_mean : MethodName := ⟨RX6, "mean", "(I)I"⟩
abbrev cX6_calls : ByteArray := prog_1_method_15_code
def yX6_calls : MethodName := ⟨RX6, "calls", "(II)I"⟩
abbrev cX6_fix : ByteArray := prog_1_method_16_code
def yX6_fix : MethodName := ⟨RX6, "fix", "(II)I"⟩
abbrev cX6_lines : ByteArray := prog_1_method_17_code
def yX6_lines : MethodName := ⟨RX6, "lines", "(II)I"⟩
abbrev cX6_want : ByteArray := prog_1_method_18_code
def yX6_want : MethodName := ⟨RX6, "want", "(II)I"⟩
abbrev cX6_natural : ByteArray := prog_1_method_19_code
def yX6_natural : MethodName := ⟨RX6, "natural", "(II)I"⟩
abbrev cX6_set : ByteArray := prog_1_method_20_code
def yX6_set : MethodName := ⟨RX6, "set", "(I)I"⟩
abbrev cX6_tight : ByteArray := prog_1_method_21_code
def yX6_tight : MethodName := ⟨RX6, "tight", "(II)I"⟩
abbrev cX6_tries : ByteArray := prog_1_method_22_code
def yX6_tries : MethodName := ⟨RX6, "tries", "()I"⟩
abbrev cX6_width : ByteArray := prog_1_method_23_code
def yX6_width : MethodName := ⟨RX6, "width", "(I)I"⟩
abbrev cX6_height : ByteArray := prog_1_method_24_code
def yX6_height : MethodName := ⟨RX6, "height", "(I)I"⟩
abbrev cX6_pages : ByteArray := prog_1_method_25_code
def yX6_pages : MethodName := ⟨RX6, "pages", "(I)I"⟩
abbrev cX6_page : ByteArray := prog_1_method_26_code
def yX6_page : MethodName := ⟨RX6, "page", "(II)I"⟩
abbrev cX6_pageOf : ByteArray := prog_1_method_27_code
def yX6_pageOf : MethodName := ⟨RX6, "pageOf", "(I)I"⟩
abbrev cX6_mayBreak : ByteArray := prog_1_method_28_code
def yX6_mayBreak : MethodName := ⟨RX6, "mayBreak", "(I)I"⟩
abbrev cX6_count : ByteArray := prog_1_method_29_code
def yX6_count : MethodName := ⟨RX6, "count", "(I)I"⟩
abbrev cX6_finding : ByteArray := prog_1_method_30_code
def yX6_finding : MethodName := ⟨RX6, "finding", "()I"⟩
abbrev cX6_findings : ByteArray := prog_1_method_31_code
def yX6_findings : MethodName := ⟨RX6, "findings", "(I)I"⟩
abbrev cX6_digest : ByteArray := prog_1_method_32_code
def yX6_digest : MethodName := ⟨RX6, "digest", "()J"⟩
abbrev cX6_mixed : ByteArray := prog_1_method_33_code
def yX6_mixed : MethodName := ⟨RX6, "mixed", "(J[II)J"⟩
abbrev cX6_mixedCell : ByteArray := prog_1_method_34_code
def yX6_mixedCell : MethodName := ⟨RX6, "mixedCell", "(JLTableSetter$Cell;)J"⟩
abbrev cX6_isWithin : ByteArray := prog_1_method_35_code
def yX6_isWithin : MethodName := ⟨RX6, "isWithin", "(III)Z"⟩
abbrev cX6_isPlace : ByteArray := prog_1_method_36_code
def yX6_isPlace : MethodName := ⟨RX6, "isPlace", "(II)Z"⟩
abbrev cX6_tell : ByteArray := prog_1_method_37_code
def yX6_tell : MethodName := ⟨RX6, "tell", "(I)I"⟩
abbrev cX6_heightOfTable : ByteArray := prog_1_method_38_code
def yX6_heightOfTable : MethodName := ⟨RX6, "heightOfTable", "()I"⟩
def RX7 : String := "TableSetterModel"
def TX7 : u_T := fun k => match k with
  | 0 => ("TableSetterModel", "latest", "I", false)
  | 1 => ("TableSetterModel", "came", "[I", true)
  | 2 => ("TableSetterModel", "rows", "I", false)
  | 3 => ("TableSetterModel", "columns", "I", false)
  | 4 => ("TableSetterModel", "gap", "I", false)
  | 5 => ("TableSetterModel", "weights", "[I", true)
  | 6 => ("TableSetterModel", "noteLines", "[I", true)
  | 7 => ("TableSetterModel", "cells", "I", false)
  | 8 => ("TableSetterModel", "kindOf", "[I", true)
  | 9 => ("TableSetterModel", "rowOf", "[I", true)
  | 10 => ("TableSetterModel", "columnOf", "[I", true)
  | 11 => ("TableSetterModel", "rowMany", "[I", true)
  | 12 => ("TableSetterModel", "columnMany", "[I", true)
  | 13 => ("TableSetterModel", "isGone", "[Z", true)
  | 14 => ("TableSetterModel", "wordMany", "[I", true)
  | 15 => ("TableSetterModel", "letters", "[I", true)
  | 16 => ("TableSetterModel", "called", "[I", true)
  | 17 => ("TableSetterModel", "fixed", "[I", true)
  | 18 => ("TableSetterModel", "clash", "I", false)
  | 19 => ("TableSetterModel", "copied", "[I", true)
  | 20 => ("TableSetterModel", "numbers", "[I", true)
  | 21 => ("TableSetterModel", "shares", "[I", true)
  | 22 => ("TableSetterModel", "rests", "[I", true)
  | 23 => ("TableSetterModel", "widths", "[I", true)
  | 24 => ("TableSetterModel", "least", "[I", true)
  | 25 => ("TableSetterModel", "best", "[I", true)
  | 26 => ("TableSetterModel", "grows", "[I", true)
  | 27 => ("TableSetterModel", "heights", "[I", true)
  | 28 => ("TableSetterModel", "rises", "[I", true)
  | 29 => ("TableSetterModel", "tries", "I", false)
  | 30 => ("TableSetterModel", "trial", "[I", true)
  | 31 => ("TableSetterModel", "first", "[I", true)
  | 32 => ("TableSetterModel", "pageMany", "I", false)
  | 33 => ("TableSetterModel", "pageFirst", "[I", true)
  | 34 => ("TableSetterModel", "pageRows", "[I", true)
  | 35 => ("TableSetterModel", "pageEmpty", "[I", true)
  | 36 => ("TableSetterModel", "pageNotes", "[I", true)
  | 37 => ("TableSetterModel", "pageOf", "[I", true)
  | 38 => ("TableSetterModel", "bestPages", "[I", true)
  | 39 => ("TableSetterModel", "bestSquares", "[J", true)
  | _ => ("TableSetterModel", "bestRows", "[I", true)
def tyX7 : Nat → FieldType := fun k => match k with
  | 0 => .int
  | 1 => .array .int
  | 2 => .int
  | 3 => .int
  | 4 => .int
  | 5 => .array .int
  | 6 => .array .int
  | 7 => .int
  | 8 => .array .int
  | 9 => .array .int
  | 10 => .array .int
  | 11 => .array .int
  | 12 => .array .int
  | 13 => .array .boolean
  | 14 => .array .int
  | 15 => .array .int
  | 16 => .array .int
  | 17 => .array .int
  | 18 => .int
  | 19 => .array .int
  | 20 => .array .int
  | 21 => .array .int
  | 22 => .array .int
  | 23 => .array .int
  | 24 => .array .int
  | 25 => .array .int
  | 26 => .array .int
  | 27 => .array .int
  | 28 => .array .int
  | 29 => .int
  | 30 => .array .int
  | 31 => .array .int
  | 32 => .int
  | 33 => .array .int
  | 34 => .array .int
  | 35 => .array .int
  | 36 => .array .int
  | 37 => .array .int
  | 38 => .array .int
  | 39 => .array .long
  | _ => .array .int
abbrev wsX70 : List Cond := u_ws RX7 TX7 41
theorem nmX7 : ∀ a, a < 41 → ∀ b, b < 41 → a ≠ b → (TX7 a).2.1 ≠ (TX7 b).2.1 := by decide +kernel
theorem tyX7_ok : ∀ k, k < 41 → parseFieldDescriptor (TX7 k).2.2.1 = some (tyX7 k) := by decide +kernel
abbrev cX7_init : ByteArray := prog_9_method_1_code
def yX7_init : MethodName := ⟨RX7, "<init>", "()V"⟩
abbrev cX7_in : ByteArray := prog_9_method_2_code
def yX7_in : MethodName := ⟨RX7, "in", "(III)Z"⟩
abbrev cX7_meets : ByteArray := prog_9_method_3_code
def yX7_meets : MethodName := ⟨RX7, "meets", "(I)I"⟩
abbrev cX7_finding : ByteArray := prog_9_method_4_code
def yX7_finding : MethodName := ⟨RX7, "finding", "()I"⟩
abbrev cX7_findings : ByteArray := prog_9_method_5_code
def yX7_findings : MethodName := ⟨RX7, "findings", "(I)I"⟩
abbrev cX7_begin : ByteArray := prog_9_method_6_code
def yX7_begin : MethodName := ⟨RX7, "begin", "(III)V"⟩
abbrev cX7_table : ByteArray := prog_9_method_7_code
def yX7_table : MethodName := ⟨RX7, "table", "(III)I"⟩
abbrev cX7_isRow : ByteArray := prog_9_method_8_code
def yX7_isRow : MethodName := ⟨RX7, "isRow", "(I)Z"⟩
abbrev cX7_isColumn : ByteArray := prog_9_method_9_code
def yX7_isColumn : MethodName := ⟨RX7, "isColumn", "(I)Z"⟩
abbrev cX7_weight : ByteArray := prog_9_method_10_code
def yX7_weight : MethodName := ⟨RX7, "weight", "(II)I"⟩
abbrev cX7_note : ByteArray := prog_9_method_11_code
def yX7_note : MethodName := ⟨RX7, "note", "(II)I"⟩
abbrev cX7_liesOn : ByteArray := prog_9_method_12_code
def yX7_liesOn : MethodName := ⟨RX7, "liesOn", "(III)Z"⟩
abbrev cX7_cellOn : ByteArray := prog_9_method_13_code
def yX7_cellOn : MethodName := ⟨RX7, "cellOn", "(II)I"⟩
abbrev cX7_cell : ByteArray := prog_9_method_14_code
def yX7_cell : MethodName := ⟨RX7, "cell", "(IIIII)I"⟩
abbrev cX7_clash : ByteArray := prog_9_method_15_code
def yX7_clash : MethodName := ⟨RX7, "clash", "()I"⟩
abbrev cX7_isCell : ByteArray := prog_9_method_16_code
def yX7_isCell : MethodName := ⟨RX7, "isCell", "(I)Z"⟩
abbrev cX7_drop : ByteArray := prog_9_method_17_code
def yX7_drop : MethodName := ⟨RX7, "drop", "(I)I"⟩
abbrev cX7_need : ByteArray := prog_9_method_18_code
def yX7_need : MethodName := ⟨RX7, "need", "(ZI)I"⟩
abbrev cX7_toldOf : ByteArray := prog_9_method_19_code
def yX7_toldOf : MethodName := ⟨RX7, "toldOf", "(II)I"⟩
abbrev cX7_told : ByteArray := prog_9_method_20_code
def yX7_told : MethodName := ⟨RX7, "told", "(II)I"⟩
abbrev cX7_is : ByteArray := prog_9_method_21_code
def yX7_is : MethodName := ⟨RX7, "is", "(II)I"⟩
abbrev cX7_on : ByteArray := prog_9_method_22_code
def yX7_on : MethodName := ⟨RX7, "on", "(II)I"⟩
abbrev cX7_words : ByteArray := prog_9_method_23_code
def yX7_words : MethodName := ⟨RX7, "words", "(II)I"⟩
abbrev cX7_word : ByteArray := prog_9_method_24_code
def yX7_word : MethodName := ⟨RX7, "word", "(III)I"⟩
abbrev cX7_copy : ByteArray := prog_9_method_25_code
def yX7_copy : MethodName := ⟨RX7, "copy", "(IIIII)I"⟩
abbrev cX7_lettersOf : ByteArray := prog_9_method_26_code
def yX7_lettersOf : MethodName := ⟨RX7, "lettersOf", "(I)I"⟩
abbrev cX7_mean : ByteArray := prog_9_method_27_code
def yX7_mean : MethodName := ⟨RX7, "mean", "(I)I"⟩
abbrev cX7_calls : ByteArray := prog_9_method_28_code
def yX7_calls : MethodName := ⟨RX7, "calls", "(II)I"⟩
abbrev cX7_fix : ByteArray := prog_9_method_29_code
def yX7_fix : MethodName := ⟨RX7, "fix", "(II)I"⟩
abbrev cX7_linesOf : ByteArray := prog_9_method_30_code
def yX7_linesOf : MethodName := ⟨RX7, "linesOf", "(II)I"⟩
abbrev cX7_lines : ByteArray := prog_9_method_31_code
def yX7_lines : MethodName := ⟨RX7, "lines", "(II)I"⟩
abbrev cX7_wantOf : ByteArray := prog_9_method_32_code
def yX7_wantOf : MethodName := ⟨RX7, "wantOf", "(II)I"⟩
abbrev cX7_want : ByteArray := prog_9_method_33_code
def yX7_want : MethodName := ⟨RX7, "want", "(II)I"⟩
abbrev cX7_share : ByteArray := prog_9_method_34_code
def yX7_share : MethodName := ⟨RX7, "share", "(III)V"⟩
abbrev cX7_widthOver : ByteArray := prog_9_method_35_code
def yX7_widthOver : MethodName := ⟨RX7, "widthOver", "([III)I"⟩
abbrev cX7_layWidths : ByteArray := prog_9_method_36_code
def yX7_layWidths : MethodName := ⟨RX7, "layWidths", "(I[I)V"⟩
abbrev cX7_lacks : ByteArray := prog_9_method_37_code
def yX7_lacks : MethodName := ⟨RX7, "lacks", "(III)V"⟩
abbrev cX7_layBoth : ByteArray := prog_9_method_38_code
def yX7_layBoth : MethodName := ⟨RX7, "layBoth", "()V"⟩
abbrev cX7_natural : ByteArray := prog_9_method_39_code
def yX7_natural : MethodName := ⟨RX7, "natural", "(II)I"⟩
abbrev cX7_sumOf : ByteArray := prog_9_method_40_code
def yX7_sumOf : MethodName := ⟨RX7, "sumOf", "([I)I"⟩
abbrev cX7_set : ByteArray := prog_9_method_41_code
def yX7_set : MethodName := ⟨RX7, "set", "(I)I"⟩
abbrev cX7_layHeights : ByteArray := prog_9_method_42_code
def yX7_layHeights : MethodName := ⟨RX7, "layHeights", "([I)V"⟩
abbrev cX7_heightBy : ByteArray := prog_9_method_43_code
def yX7_heightBy : MethodName := ⟨RX7, "heightBy", "([I)I"⟩
abbrev cX7_next : ByteArray := prog_9_method_44_code
def yX7_next : MethodName := ⟨RX7, "next", "()Z"⟩
abbrev cX7_tight : ByteArray := prog_9_method_45_code
def yX7_tight : MethodName := ⟨RX7, "tight", "(II)I"⟩
abbrev cX7_tries : ByteArray := prog_9_method_46_code
def yX7_tries : MethodName := ⟨RX7, "tries", "()I"⟩
abbrev cX7_width : ByteArray := prog_9_method_47_code
def yX7_width : MethodName := ⟨RX7, "width", "(I)I"⟩
abbrev cX7_height : ByteArray := prog_9_method_48_code
def yX7_height : MethodName := ⟨RX7, "height", "(I)I"⟩
abbrev cX7_headRows : ByteArray := prog_9_method_49_code
def yX7_headRows : MethodName := ⟨RX7, "headRows", "()I"⟩
abbrev cX7_mayBreakAt : ByteArray := prog_9_method_50_code
def yX7_mayBreakAt : MethodName := ⟨RX7, "mayBreakAt", "(I)Z"⟩
abbrev cX7_mayBreak : ByteArray := prog_9_method_51_code
def yX7_mayBreak : MethodName := ⟨RX7, "mayBreak", "(I)I"⟩
abbrev cX7_homeOf : ByteArray := prog_9_method_52_code
def yX7_homeOf : MethodName := ⟨RX7, "homeOf", "(II)I"⟩
abbrev cX7_notesOn : ByteArray := prog_9_method_53_code
def yX7_notesOn : MethodName := ⟨RX7, "notesOn", "(III)I"⟩
abbrev cX7_emptyOf : ByteArray := prog_9_method_54_code
def yX7_emptyOf : MethodName := ⟨RX7, "emptyOf", "(IIII)I"⟩
abbrev cX7_pages : ByteArray := prog_9_method_55_code
def yX7_pages : MethodName := ⟨RX7, "pages", "(I)I"⟩
abbrev cX7_pageTold : ByteArray := prog_9_method_56_code
def yX7_pageTold : MethodName := ⟨RX7, "pageTold", "(II)I"⟩
abbrev cX7_page : ByteArray := prog_9_method_57_code
def yX7_page : MethodName := ⟨RX7, "page", "(II)I"⟩
abbrev cX7_pageOf : ByteArray := prog_9_method_58_code
def yX7_pageOf : MethodName := ⟨RX7, "pageOf", "(I)I"⟩
abbrev cX7_count : ByteArray := prog_9_method_59_code
def yX7_count : MethodName := ⟨RX7, "count", "(I)I"⟩
abbrev cX7_digest : ByteArray := prog_9_method_60_code
def yX7_digest : MethodName := ⟨RX7, "digest", "()J"⟩
abbrev cX7_digestCell : ByteArray := prog_9_method_61_code
def yX7_digestCell : MethodName := ⟨RX7, "digestCell", "(JI)J"⟩
def RJ7 : String := "java/util/Arrays"
def TJ7 : u_T := fun k => match k with
  | _ => ("", "", "", false)
def tyJ7 : Nat → FieldType := fun k => match k with
  | _ => .int
theorem tyJ7_ok : ∀ k, k < 0 → parseFieldDescriptor (TJ7 k).2.2.1 = some (tyJ7 k) := by decide +kernel
abbrev cJ7_fill_53178 : ByteArray := prog_12_method_103_code
def yJ7_fill_53178 : MethodName := ⟨RJ7, "fill", "([II)V"⟩
def RL : String := "TableSetterLaw"
abbrev cL_law : ByteArray := code
def yL_law : MethodName := ⟨RL, "law", "([I)Z"⟩
abbrev vwCl : List vw_C := [(RX0, TX0, 11), (RX1, TX1, 7), (RX2, TX2, 5), (RX3, TX3, 12), (RX4, TX4, 2), (RX5, TX5, 9), (RX6, TX6, 8), (RX7, TX7, 41)]
end
section
def va_AOA (ty : FieldType) (U : State) : Prop := (Cond.arrayOver (.array ty)).before #[] U = true
theorem va_AOA.use {ty : FieldType} {A : Array Value} {U : State} (h : va_AOA ty U) : (Cond.arrayOver (.array ty)).before A U = true := h
/-! ===== BEGIN new T[n][m]: the outer array a place, the inner ones among the pooled ===== -/
/-- f, but v at every address of l -/
def vr_up {α : Type} (f : Nat → α) (l : List Nat) (v : α) : Nat → α := fun a => if a ∈ l then v else f a
theorem vr_up_in {α : Type} {f : Nat → α} {l : List Nat} {v : α} {a : Nat} (h : a ∈ l) : vr_up f l v a = v := if_pos h
theorem vr_up_ne {α : Type} {f : Nat → α} {l : List Nat} {v : α} {a : Nat} (h : a ∉ l) : vr_up f l v a = f a := if_neg h
theorem vr_rows {L l : List Nat} {f : Nat → va_E} {e : va_E} (h : ∀ a, a ∈ l → a ∉ L) : va_pl L f ++ l.map (fun a => (a, e)) = va_pl (L ++ l) (vr_up f l e) := by
  unfold va_pl
  rw [List.map_append]
  congr 1
  · apply List.map_congr_left
    intro a ha
    rw [vr_up_ne (fun q => h a q ha)]
  · apply List.map_congr_left
    intro a ha
    rw [vr_up_in ha]
theorem vr_lay {X rows : va_W} {x : Nat × va_E} {pl : va_W} {D : va_G} {cl : List vw_C} {H : Heap} (hP : va_P D cl (((X ++ pl) ++ [x]) ++ rows) H) : va_P D cl ((X ++ [x]) ++ (pl ++ rows)) H := by
  rw [List.append_assoc (X ++ pl)] at hP
  have h := va_P.swap hP
  rw [← List.append_assoc X] at h
  have h2 := va_P.swap h
  rw [List.append_assoc (X ++ [x])] at h2
  exact h2
theorem vr_layD {X rows : va_W} {x : Nat × va_E} {pl : va_W} {A : Nat → Prop} (hD : va_D A (((X ++ pl) ++ [x]) ++ rows)) : va_D A ((X ++ [x]) ++ (pl ++ rows)) := by
  rw [List.append_assoc (X ++ pl)] at hD
  have h := va_D.swap hD
  rw [← List.append_assoc X] at h
  have h2 := va_D.swap h
  rw [List.append_assoc (X ++ [x])] at h2
  exact h2
theorem vr_outer (c : ClassId) (N h0 : Nat) : ∀ i : Nat, Jvm.Free.Multi.outerC c N h0 i = arrV c N (fun j => va_rf (if j < i then some (h0 + 1 + j) else none))
  | 0 => by
    show ({ cls := c, slots := Array.replicate N .null, vm := .none } : Cell) = _
    rw [arrV_new]
    refine congrArg (arrV c N) (funext fun j => ?_)
    simp [va_rf]
  | i + 1 => by
    show (Jvm.Free.Multi.outerC c N h0 i).setSlot i (.ref (h0 + 1 + i)) = _
    rw [vr_outer c N h0 i, arrV_store]
    refine congrArg (arrV c N) (funext fun j => ?_)
    by_cases e : j = i
    · subst e
      simp [updV, va_rf]
    · by_cases h : j < i
      · simp [updV, e, h, Nat.lt_succ_of_lt h]
      · simp [updV, e, h, show ¬ j < i + 1 by omega]
section VGM
variable {p : Program} {l : Launch} {e : Env} {R : Room} {s : State} {m : MethodId} {args : Array Value} {below : List Frame} {meth : Method} {c : Code} {H : Heap} {locs : List Loc} {cells slots : Nat} {Q : State → Prop}
variable {cc : ByteArray} {pc : Nat} {ls : Array Slot} {rest : List Value} {D : va_G} {cl : List vw_C} {A : Nat → Prop} {a : Nat} {tys : List (ClassId × FieldType)} {ws : va_W} {H0 : Heap}
theorem va_mna {X : va_W} {L : List Nat} {f : Nat → va_E} {cc : ByteArray} (hexec : p.tables.exec = Jvm.exec) (hb : c.code = cc) {own : String} {index : Nat} {ty : FieldType} {cy : ClassId} (hown : s.vm.findClass own = some m.cls) (hclink : (Cond.classLink own index ("[" ++ (FieldType.array ty).toString)).before args s = true) (hover : va_AOA ty s) (harr : (Cond.arrayClass ty).before args s = true) (hcy : s.vm.findClass (FieldType.array ty).toString = some cy)
    (hK : va_K D cl tys s) (hP : va_P D cl (X ++ va_pl L f) H) (hD : va_D A (X ++ va_pl L f)) (hS : va_S A H0 H locs) (hA : ∀ q, H0.size ≤ q → A q) {n k : Int32} {N' K' : Nat} {z : vp_A} (hn : ¬ n < 0) (hk : ¬ k < 0) (hN : n.toNatClampNeg = N') (hM : k.toNatClampNeg = K')
    (hb1 : N' * 4 ≤ 536870912) (hb2 : K' * componentBytes ty ≤ 536870912) (hb3 : K' ≤ 536870912) (hdf : fits ty (defaultValue ty) = true) (hdd : (defaultValue ty).isDefault = true) (hcells : cells + (1 + N') ≤ R.cells) (hslots : slots + (N' + N' * K') ≤ R.slots) (hz : ∀ c : ClassId, Jvm.Free.Multi.innerC c K' (defaultValue ty) = vp_cell c z) (hdg : decode cc pc = .ok (.multianewarray index 2, 4))
    (kk : ∀ (q : Nat) (r : Nat → Nat) (cA : ClassId) (H1 : Heap), (∀ i j : Nat, i < N' → j < N' → r i = r j → i = j) → (∀ i : Nat, i < N' → r i ∉ L) → va_K D cl (tys ++ [(cA, .array ty)]) s →
      va_P D cl ((X ++ [(q, .inl (cA, N', .inr (.inr (.inr (.inr (fun i => if i < N' then some (r i) else none))))))]) ++ va_pl (L ++ (List.range N').map r) (vr_up f ((List.range N').map r) (.inl (cy, z)))) H1 → va_D A ((X ++ [(q, .inl (cA, N', .inr (.inr (.inr (.inr (fun i => if i < N' then some (r i) else none))))))]) ++ va_pl (L ++ (List.range N').map r) (vr_up f ((List.range N').map r) (.inl (cy, z)))) → va_S A H0 H1 locs →
      W p l e R s m args below meth c H1 locs (cells + 1 + N') (slots + N' + N' * K') Q (F0 m (pc + 4) ls (.ref q :: rest))) : W p l e R s m args below meth c H locs cells slots Q (F0 m pc ls (.int k :: .int n :: rest)) := by
  subst hN
  subst hM
  intro T hT Xs
  obtain ⟨vm₁, cA, comp, -, fA, fC, hO, -, X', step⟩ := Xs.multianewarray2F hexec hown hclink (va_AOA.use hover) harr (g := F0 m pc ls (.int k :: .int n :: rest)) rfl (by rw [hb]; exact hdg) rfl hn hk hb1 hb2 hb3 hdf hdd hcells hslots
  have ec : some cy = some comp := hcy.symm.trans fC
  cases ec
  generalize hF : Jvm.Free.Multi.fill (T.setVm vm₁) cA cy n.toNatClampNeg k.toNatClampNeg (defaultValue ty) n.toNatClampNeg = F at X' step
  have hTh : (T.setVm vm₁).heap = H := hT
  obtain ⟨f1, f2, -, -⟩ := Jvm.Free.Multi.fill_facts (T.setVm vm₁) cA cy n.toNatClampNeg k.toNatClampNeg (defaultValue ty) n.toNatClampNeg
  rw [hF, hTh] at f1 f2
  have hold : ∀ x : Nat, x < H.size → F.heap[x]? = H[x]? := fun x hx => by
    have := Jvm.Free.Multi.fill_old (T.setVm vm₁) cA cy n.toNatClampNeg k.toNatClampNeg (defaultValue ty) (a := x) (by rw [hTh]; exact hx) n.toNatClampNeg
    rw [hF, hTh] at this
    exact this
  have hrow : ∀ j : Nat, j < n.toNatClampNeg → F.heap[H.size + 1 + j]? = some (vp_cell cy z) := fun j hj => by
    have := Jvm.Free.Multi.fill_inner (T.setVm vm₁) cA cy n.toNatClampNeg k.toNatClampNeg (defaultValue ty) n.toNatClampNeg j hj
    rw [hF, hTh, hz] at this
    exact this
  have hout : Jvm.Free.Multi.outerC cA n.toNatClampNeg H.size n.toNatClampNeg = vp_cell cA (n.toNatClampNeg, .inr (.inr (.inr (.inr (fun i => if i < n.toNatClampNeg then some (H.size + 1 + i) else none))))) := by
    rw [vp_cell_q]
    exact vr_outer cA n.toNatClampNeg H.size n.toNatClampNeg
  rw [hout] at f2
  have hlt : ∀ a, a ∈ L → a < H.size := fun a ha => by
    obtain ⟨k9, hk9⟩ := va_pl_get (X := X) (f := f) ha
    exact (hP k9 _ hk9).lt
  have hnl : ∀ i : Nat, i < n.toNatClampNeg → H.size + 1 + i ∉ L := fun i _ h => by
    have := hlt _ h
    omega
  have hnm : ∀ a, a ∈ (List.range n.toNatClampNeg).map (fun i => H.size + 1 + i) → a ∉ L := fun a ha h => by
    obtain ⟨i, -, rfl⟩ := List.mem_map.mp ha
    have := hlt _ h
    omega
  have hP0 : va_P D cl (X ++ va_pl L f) F.heap := hP.kept (fun k9 x hx => hold x.1 ((hP k9 x hx).lt))
  have hP1 : va_P D cl ((X ++ va_pl L f) ++ [(H.size, .inl (cA, n.toNatClampNeg, .inr (.inr (.inr (.inr (fun i => if i < n.toNatClampNeg then some (H.size + 1 + i) else none))))))]) F.heap := hP0.app (fun k9 x hx => by
    have h0 : k9 < 1 := (List.getElem?_eq_some_iff.mp hx).1
    rw [show k9 = 0 by omega] at hx
    cases hx
    exact f2)
  have hP2 : va_P D cl (((X ++ va_pl L f) ++ [(H.size, .inl (cA, n.toNatClampNeg, .inr (.inr (.inr (.inr (fun i => if i < n.toNatClampNeg then some (H.size + 1 + i) else none))))))]) ++ ((List.range n.toNatClampNeg).map (fun i => H.size + 1 + i)).map (fun a => (a, .inl (cy, z)))) F.heap := hP1.app (fun k9 x hx => by
    obtain ⟨a, ha, rfl⟩ := List.mem_map.mp (List.mem_of_getElem? hx)
    obtain ⟨i, hi, rfl⟩ := List.mem_map.mp ha
    exact hrow i (List.mem_range.mp hi))
  have hD2 : va_D A (((X ++ va_pl L f) ++ [(H.size, .inl (cA, n.toNatClampNeg, .inr (.inr (.inr (.inr (fun i => if i < n.toNatClampNeg then some (H.size + 1 + i) else none))))))]) ++ ((List.range n.toNatClampNeg).map (fun i => H.size + 1 + i)).map (fun a => (a, .inl (cy, z)))) := by
    have hD1 := hD.push (e := .inl (cA, n.toNatClampNeg, .inr (.inr (.inr (.inr (fun i => if i < n.toNatClampNeg then some (H.size + 1 + i) else none)))))) hP rfl (hA _ hS.1)
    generalize hW1 : (X ++ va_pl L f) ++ [(H.size, .inl (cA, n.toNatClampNeg, .inr (.inr (.inr (.inr (fun i => if i < n.toNatClampNeg then some (H.size + 1 + i) else none))))))] = W1 at hD1 hP1 ⊢
    have hle : ∀ (k9 : Nat) (x : Nat × va_E), W1[k9]? = some x → x.1 ≤ H.size := fun k9 x hx => by
      rw [← hW1] at hx
      by_cases hl : k9 < (X ++ va_pl L f).length
      · rw [List.getElem?_append_left hl] at hx
        exact Nat.le_of_lt ((hP k9 x hx).lt)
      · rw [List.getElem?_append_right (by omega)] at hx
        have h0 : k9 - (X ++ va_pl L f).length < 1 := (List.getElem?_eq_some_iff.mp hx).1
        rw [show k9 - (X ++ va_pl L f).length = 0 by omega] at hx
        cases hx
        exact Nat.le_refl _
    have hr : ∀ (k9 : Nat) (x : Nat × va_E), (((List.range n.toNatClampNeg).map (fun i => H.size + 1 + i)).map (fun a => ((a, .inl (cy, z)) : Nat × va_E)))[k9]? = some x → x.1 = H.size + 1 + k9 := fun k9 x hx => by
      rw [List.getElem?_map, List.getElem?_map] at hx
      by_cases h9 : k9 < n.toNatClampNeg
      · rw [List.getElem?_range h9] at hx
        cases hx
        rfl
      · have hn0 : (List.range n.toNatClampNeg)[k9]? = none := List.getElem?_eq_none (by rw [List.length_range]; omega)
        rw [hn0] at hx
        cases hx
    refine ⟨fun i j x y hi hj hxy => ?_, fun k9 x hx => ?_⟩
    · by_cases h1 : i < W1.length <;> by_cases h2 : j < W1.length
      · rw [List.getElem?_append_left h1] at hi
        rw [List.getElem?_append_left h2] at hj
        exact hD1.1 i j x y hi hj hxy
      · rw [List.getElem?_append_left h1] at hi
        rw [List.getElem?_append_right (by omega)] at hj
        have := hle _ _ hi
        have := hr _ _ hj
        omega
      · rw [List.getElem?_append_right (by omega)] at hi
        rw [List.getElem?_append_left h2] at hj
        have := hle _ _ hj
        have := hr _ _ hi
        omega
      · rw [List.getElem?_append_right (by omega)] at hi hj
        have := hr _ _ hi
        have := hr _ _ hj
        omega
    · by_cases h1 : k9 < W1.length
      · rw [List.getElem?_append_left h1] at hx
        exact hD1.2 k9 x hx
      · rw [List.getElem?_append_right (by omega)] at hx
        have := hr _ _ hx
        exact hA _ (by have := hS.1; omega)
  have hAr : ArrOfT s cA (.array ty) := fun N9 z9 => by
    obtain ⟨-, k9, hk9, cm9, hkk9⟩ := (hO 0 0 0).1
    exact ⟨(fun q hq => by cases hq), k9, hk9, cm9, hkk9⟩
  have hK2 : va_K D cl (tys ++ [(cA, .array ty)]) s := ⟨hK.1, fun k9 x hx => by
    by_cases hl : k9 < tys.length
    · rw [List.getElem?_append_left hl] at hx
      exact hK.2 k9 x hx
    · rw [List.getElem?_append_right (by omega)] at hx
      have h0 : k9 - tys.length < 1 := (List.getElem?_eq_some_iff.mp hx).1
      rw [show k9 - tys.length = 0 by omega] at hx
      cases hx
      exact ⟨hAr, fA⟩⟩
  obtain ⟨t, a1, b1⟩ := kk H.size (fun i => H.size + 1 + i) cA F.heap (fun i j _ _ h => by have h9 : H.size + 1 + i = H.size + 1 + j := h; omega) hnl hK2 (by rw [← vr_rows hnm]; exact vr_lay hP2) (by rw [← vr_rows hnm]; exact vr_layD hD2) ⟨by rw [f1]; have := hS.1; omega, fun x h1 h2 => (hold x (Nat.lt_of_lt_of_le h1 hS.1)).trans (hS.2.1 x h1 h2), hS.2.2⟩ F rfl X'
  refine ⟨t, step t ?_, b1⟩
  have e : T.heap.size = H.size := by rw [hT]
  rw [e]
  exact a1
end VGM
/-! ===== END ===== -/
end
section
/-! the shape of all cells that the law makes, in the order of their making: (kind, length, constants). Kinds: 0 int[], 1 boolean[], 2 long[], 3 Cell[] that stays, 4 Cell[] that changes, 5 int[][], 6 + c an object of class c of vwCl. A constant: 0 a number, 1 null, k + 2 the cell k. -/
def vz : Nat → Nat := fun _ => 0
def cA (i : Nat) : Nat := 5 + 3 * i
def csC (i : Nat) : Nat → Nat := fun j => if j = 9 then cA i + 3 else if j = 10 then cA i + 4 else 0
def cs4 : Nat → Nat := fun j => if j < 40 then cA j + 2 else 1
def cs140 : Nat → Nat := fun j => if j < 16 then 143 + j else 1
def cs0 : Nat → Nat := fun j => ([3, 127, 131, 141, 164, 0, 0, 0] : List Nat).getD j 0
def cs1 : Nat → Nat := fun j => ([0, 0, 0, 0, 4, 5, 6] : List Nat).getD j 0
def cs125 : Nat → Nat := fun j => ([128, 3, 129, 130, 0] : List Nat).getD j 0
def cs129 : Nat → Nat := fun j => ([132, 133, 134, 3, 127, 135, 138, 139, 140] : List Nat).getD j 0
def cs133 : Nat → Nat := fun j => ([136, 137] : List Nat).getD j 0
def cs139 : Nat → Nat := fun j => ([0, 142, 3, 127, 159, 160, 161, 162, 163, 0, 0, 0] : List Nat).getD j 0
def cs163 : Nat → Nat := fun j => ([0, 166, 0, 0, 0, 167, 168, 0, 169, 170, 171, 172, 173, 174, 175, 176, 177, 178, 0, 179, 180, 181, 182, 183, 184, 185, 186, 187, 188, 0, 189, 190, 0, 191, 192, 193, 194, 195, 196, 197, 198] : List Nat).getD j 0
def SHa : List (Nat × Nat × (Nat → Nat)) := [(12, 8, cs0), (7, 7, cs1), (0, 6, vz), (0, 10, vz), (3, 40, cs4)]
def SHb : List (Nat × Nat × (Nat → Nat)) := [(8, 5, cs125), (0, 16, vz), (0, 16, vz), (4, 40, vz), (11, 9, cs129), (0, 6, vz), (0, 6, vz), (0, 6, vz), (10, 2, cs133), (0, 6, vz), (0, 6, vz), (0, 6, vz), (0, 6, vz), (0, 6, vz), (9, 12, cs139), (5, 16, cs140), (0, 4, vz), (0, 4, vz), (0, 4, vz), (0, 4, vz), (0, 4, vz), (0, 4, vz), (0, 4, vz), (0, 4, vz), (0, 4, vz), (0, 4, vz), (0, 4, vz), (0, 4, vz), (0, 4, vz), (0, 4, vz), (0, 4, vz), (0, 4, vz), (0, 16, vz), (0, 16, vz), (0, 17, vz), (0, 17, vz), (0, 17, vz), (0, 7, vz)]
def SHm : List (Nat × Nat × (Nat → Nat)) := [(13, 41, cs163), (0, 7, vz), (0, 6, vz), (0, 10, vz), (0, 40, vz), (0, 40, vz), (0, 40, vz), (0, 40, vz), (0, 40, vz), (1, 40, vz), (0, 40, vz), (0, 480, vz), (0, 40, vz), (0, 40, vz), (0, 12, vz), (0, 6, vz), (0, 6, vz), (0, 6, vz), (0, 6, vz), (0, 6, vz), (0, 6, vz), (0, 6, vz), (0, 16, vz), (0, 16, vz), (0, 6, vz), (0, 6, vz), (0, 16, vz), (0, 16, vz), (0, 16, vz), (0, 16, vz), (0, 16, vz), (0, 17, vz), (2, 17, vz), (0, 17, vz)]
def SH (a : Nat) : Nat × Nat × (Nat → Nat) := if a < 5 then SHa.getD a (0, 0, vz) else if a < 125 then (if (a - 5) % 3 = 0 then (6, 11, csC ((a - 5) / 3)) else if (a - 5) % 3 = 1 then (0, 12, vz) else (0, 252, vz)) else if a < 163 then SHb.getD (a - 125) (0, 0, vz) else SHm.getD (a - 163) (0, 0, vz)
theorem sh_0 : SH 0 = (12, 8, cs0) := rfl
theorem sh_1 : SH 1 = (7, 7, cs1) := rfl
theorem sh_2 : SH 2 = (0, 6, vz) := rfl
theorem sh_3 : SH 3 = (0, 10, vz) := rfl
theorem sh_4 : SH 4 = (3, 40, cs4) := rfl
theorem sh_125 : SH 125 = (8, 5, cs125) := rfl
theorem sh_126 : SH 126 = (0, 16, vz) := rfl
theorem sh_127 : SH 127 = (0, 16, vz) := rfl
theorem sh_128 : SH 128 = (4, 40, vz) := rfl
theorem sh_129 : SH 129 = (11, 9, cs129) := rfl
theorem sh_130 : SH 130 = (0, 6, vz) := rfl
theorem sh_131 : SH 131 = (0, 6, vz) := rfl
theorem sh_132 : SH 132 = (0, 6, vz) := rfl
theorem sh_133 : SH 133 = (10, 2, cs133) := rfl
theorem sh_134 : SH 134 = (0, 6, vz) := rfl
theorem sh_135 : SH 135 = (0, 6, vz) := rfl
theorem sh_136 : SH 136 = (0, 6, vz) := rfl
theorem sh_137 : SH 137 = (0, 6, vz) := rfl
theorem sh_138 : SH 138 = (0, 6, vz) := rfl
theorem sh_139 : SH 139 = (9, 12, cs139) := rfl
theorem sh_140 : SH 140 = (5, 16, cs140) := rfl
theorem sh_141 : SH 141 = (0, 4, vz) := rfl
theorem sh_142 : SH 142 = (0, 4, vz) := rfl
theorem sh_143 : SH 143 = (0, 4, vz) := rfl
theorem sh_144 : SH 144 = (0, 4, vz) := rfl
theorem sh_145 : SH 145 = (0, 4, vz) := rfl
theorem sh_146 : SH 146 = (0, 4, vz) := rfl
theorem sh_147 : SH 147 = (0, 4, vz) := rfl
theorem sh_148 : SH 148 = (0, 4, vz) := rfl
theorem sh_149 : SH 149 = (0, 4, vz) := rfl
theorem sh_150 : SH 150 = (0, 4, vz) := rfl
theorem sh_151 : SH 151 = (0, 4, vz) := rfl
theorem sh_152 : SH 152 = (0, 4, vz) := rfl
theorem sh_153 : SH 153 = (0, 4, vz) := rfl
theorem sh_154 : SH 154 = (0, 4, vz) := rfl
theorem sh_155 : SH 155 = (0, 4, vz) := rfl
theorem sh_156 : SH 156 = (0, 4, vz) := rfl
theorem sh_157 : SH 157 = (0, 16, vz) := rfl
theorem sh_158 : SH 158 = (0, 16, vz) := rfl
theorem sh_159 : SH 159 = (0, 17, vz) := rfl
theorem sh_160 : SH 160 = (0, 17, vz) := rfl
theorem sh_161 : SH 161 = (0, 17, vz) := rfl
theorem sh_162 : SH 162 = (0, 7, vz) := rfl
theorem sh_163 : SH 163 = (13, 41, cs163) := rfl
theorem sh_164 : SH 164 = (0, 7, vz) := rfl
theorem sh_165 : SH 165 = (0, 6, vz) := rfl
theorem sh_166 : SH 166 = (0, 10, vz) := rfl
theorem sh_167 : SH 167 = (0, 40, vz) := rfl
theorem sh_168 : SH 168 = (0, 40, vz) := rfl
theorem sh_169 : SH 169 = (0, 40, vz) := rfl
theorem sh_170 : SH 170 = (0, 40, vz) := rfl
theorem sh_171 : SH 171 = (0, 40, vz) := rfl
theorem sh_172 : SH 172 = (1, 40, vz) := rfl
theorem sh_173 : SH 173 = (0, 40, vz) := rfl
theorem sh_174 : SH 174 = (0, 480, vz) := rfl
theorem sh_175 : SH 175 = (0, 40, vz) := rfl
theorem sh_176 : SH 176 = (0, 40, vz) := rfl
theorem sh_177 : SH 177 = (0, 12, vz) := rfl
theorem sh_178 : SH 178 = (0, 6, vz) := rfl
theorem sh_179 : SH 179 = (0, 6, vz) := rfl
theorem sh_180 : SH 180 = (0, 6, vz) := rfl
theorem sh_181 : SH 181 = (0, 6, vz) := rfl
theorem sh_182 : SH 182 = (0, 6, vz) := rfl
theorem sh_183 : SH 183 = (0, 6, vz) := rfl
theorem sh_184 : SH 184 = (0, 6, vz) := rfl
theorem sh_185 : SH 185 = (0, 16, vz) := rfl
theorem sh_186 : SH 186 = (0, 16, vz) := rfl
theorem sh_187 : SH 187 = (0, 6, vz) := rfl
theorem sh_188 : SH 188 = (0, 6, vz) := rfl
theorem sh_189 : SH 189 = (0, 16, vz) := rfl
theorem sh_190 : SH 190 = (0, 16, vz) := rfl
theorem sh_191 : SH 191 = (0, 16, vz) := rfl
theorem sh_192 : SH 192 = (0, 16, vz) := rfl
theorem sh_193 : SH 193 = (0, 16, vz) := rfl
theorem sh_194 : SH 194 = (0, 17, vz) := rfl
theorem sh_195 : SH 195 = (2, 17, vz) := rfl
theorem sh_196 : SH 196 = (0, 17, vz) := rfl
theorem sh_C {i : Nat} (hi : i < 40) : SH (cA i) = (6, 11, csC i) := by
  have h1 : ¬ cA i < 5 := by unfold cA; omega
  have h2 : cA i < 125 := by unfold cA; omega
  have h3 : (cA i - 5) % 3 = 0 := by unfold cA; omega
  have h4 : (cA i - 5) / 3 = i := by unfold cA; omega
  unfold SH
  rw [if_neg h1, if_pos h2, if_pos h3, h4]
theorem sh_L {i : Nat} (hi : i < 40) : SH (cA i + 1) = (0, 12, vz) := by
  have h1 : ¬ cA i + 1 < 5 := by unfold cA; omega
  have h2 : cA i + 1 < 125 := by unfold cA; omega
  have h3 : ¬ (cA i + 1 - 5) % 3 = 0 := by unfold cA; omega
  have h4 : (cA i + 1 - 5) % 3 = 1 := by unfold cA; omega
  unfold SH
  rw [if_neg h1, if_pos h2, if_neg h3, if_pos h4]
theorem sh_K {i : Nat} (hi : i < 40) : SH (cA i + 2) = (0, 252, vz) := by
  have h1 : ¬ cA i + 2 < 5 := by unfold cA; omega
  have h2 : cA i + 2 < 125 := by unfold cA; omega
  have h3 : ¬ (cA i + 2 - 5) % 3 = 0 := by unfold cA; omega
  have h4 : ¬ (cA i + 2 - 5) % 3 = 1 := by unfold cA; omega
  unfold SH
  rw [if_neg h1, if_pos h2, if_neg h3, if_neg h4]
theorem sh_F {i : Nat} (hi : i < 16) : SH (141 + i) = (0, 4, vz) := by
  have h : ∀ i, i < 16 → SH (141 + i) = (0, 4, vz) := by
    intro i hi
    match i, hi with
    | 0, _ => rfl
    | 1, _ => rfl
    | 2, _ => rfl
    | 3, _ => rfl
    | 4, _ => rfl
    | 5, _ => rfl
    | 6, _ => rfl
    | 7, _ => rfl
    | 8, _ => rfl
    | 9, _ => rfl
    | 10, _ => rfl
    | 11, _ => rfl
    | 12, _ => rfl
    | 13, _ => rfl
    | 14, _ => rfl
    | 15, _ => rfl
    | n + 16, h => exact absurd h (by omega)
  exact h i hi
def vSZ : Nat → Nat
  | 0 => 0
  | n + 1 => vSZ n + (SH n).2.1
theorem vSZ_mono {a b : Nat} (h : a ≤ b) : vSZ a ≤ vSZ b := by
  induction h with
  | refl => exact Nat.le_refl _
  | step _ ih => exact Nat.le_trans ih (Nat.le_add_right _ _)
theorem vSZ_lt {a b : Nat} (h : a < b) : vSZ a + (SH a).2.1 ≤ vSZ b := vSZ_mono (a := a + 1) h
theorem vSZ_all : vSZ 197 = 12522 := by decide +kernel
theorem cA_lt {i : Nat} (hi : i < 40) : cA i < 125 := by unfold cA; omega
end
section
/-! A plain memory: numbers by cell and place; the shape of the cells beside it (03.shape). vJ: from this state of a method the machine comes to a return with P. -/
def vtb : List Cond := lw_tbl.filter goodWord
abbrev vM : Type := (Nat → Nat → Int32) × (Nat → Nat → Int64)
abbrev vSh : Type := Nat → Nat × Nat × (Nat → Nat)
abbrev vMeth : Type := MethodName × ByteArray × Nat × Option FieldType
def vsN : Nat := 1000000
def vtr (ad : Nat → Nat) : Value → Value
  | .ref k => .ref (ad k)
  | .int x => .int x
  | .long x => .long x
  | .float x => .float x
  | .double x => .double x
  | .null => .null
  | .retAddr q => .retAddr q
theorem vtr_cat (ad : Nat → Nat) (v : Value) : (vtr ad v).category = v.category := by cases v <;> rfl
def vls (ad : Nat → Nat) (ls : List (Nat × Value)) : List (Nat × Value) := ls.map (fun q => (q.1, vtr ad q.2))
def vcat (st : List Value) : Nat := (st.map fun v => v.category).sum
theorem vcat_tr (ad : Nat → Nat) (st : List Value) : ((st.map (vtr ad)).map fun v => v.category).sum = vcat st := by
  unfold vcat
  congr 1
  rw [List.map_map]
  exact List.map_congr_left (fun v _ => vtr_cat ad v)
def vtys (K : Nat → ClassId) : List (ClassId × FieldType) := [(K 0, .int), (K 1, .boolean), (K 2, .long), (K 3, .object "TableSetter$Cell"), (K 4, .array .int)]
def vsl (ad : Nat → Nat) (k : Nat) (x : Int32) : Value := match k with
  | 0 => .int x
  | 1 => .null
  | j + 2 => .ref (ad j)
def vrq (ad : Nat → Nat) (k : Nat) : Option Nat := match k with
  | 0 => none
  | 1 => none
  | j + 2 => some (ad j)
def vdq (ad : Nat → Nat) (x : Int32) : Option Nat := if x = 0 then none else some (ad (x.toNatClampNeg - 1))
def venc (K : Nat → ClassId) (ad : Nat → Nat) (q : Nat × Nat × (Nat → Nat)) (f : Nat → Int32) (g : Nat → Int64) : va_E := match q.1 with
  | 0 => .inl (K 0, q.2.1, .inl f)
  | 1 => .inl (K 1, q.2.1, .inl f)
  | 2 => .inl (K 2, q.2.1, .inr (.inl g))
  | 3 => .inl (K 3, q.2.1, .inr (.inr (.inr (.inr (fun j => vrq ad (q.2.2 j))))))
  | 4 => .inl (K 3, q.2.1, .inr (.inr (.inr (.inr (fun j => vdq ad (f j))))))
  | 5 => .inl (K 4, q.2.1, .inr (.inr (.inr (.inr (fun j => vrq ad (q.2.2 j))))))
  | c + 6 => .inr (c, (List.range q.2.1).map (fun j => vsl ad (q.2.2 j) (f j)))
def wld (K : Nat → ClassId) (ad : Nat → Nat) (sh : vSh) (m : vM) (n : Nat) : va_W := (List.range n).map (fun k => (ad k, venc K ad (sh k) (m.1 k) (m.2 k)))
theorem wld_get {K : Nat → ClassId} {ad : Nat → Nat} {sh : vSh} {m : vM} {n k : Nat} (h : k < n) : (wld K ad sh m n)[k]? = some (ad k, venc K ad (sh k) (m.1 k) (m.2 k)) := by
  simp [wld, List.getElem?_map, List.getElem?_range h]
theorem wld_at {K : Nat → ClassId} {ad : Nat → Nat} {sh : vSh} {m : vM} {n k : Nat} {q : Nat × va_E} (h : (wld K ad sh m n)[k]? = some q) : k < n ∧ q = (ad k, venc K ad (sh k) (m.1 k) (m.2 k)) := by
  have hl := (List.getElem?_eq_some_iff.mp h).1
  have hk : k < n := by simpa [wld] using hl
  rw [wld_get hk] at h
  exact ⟨hk, (Option.some.inj h).symm⟩
theorem wld_set {K : Nat → ClassId} {ad : Nat → Nat} {sh sh' : vSh} {m m' : vM} {n k : Nat} {e : va_E} (h : k < n) (he : e = venc K ad (sh' k) (m'.1 k) (m'.2 k)) (ho : ∀ j, j ≠ k → sh' j = sh j ∧ m'.1 j = m.1 j ∧ m'.2 j = m.2 j) : (wld K ad sh m n).set k (ad k, e) = wld K ad sh' m' n := by
  subst he
  apply List.ext_getElem?
  intro i
  rw [List.getElem?_set]
  by_cases hi : k = i
  · subst hi
    rw [if_pos rfl, wld_get h, if_pos (by simpa [wld] using h)]
  · rw [if_neg hi]
    by_cases hn : i < n
    · obtain ⟨h1, h2, h3⟩ := ho i (fun q => hi q.symm)
      rw [wld_get hn, wld_get hn, h1, h2, h3]
    · simp [wld, hn]
def vRB (n : Nat) (sh : vSh) (m : vM) : Prop := ∀ k, k < n → (∀ j x, (sh k).2.2 j = x + 2 → x < n) ∧ ((sh k).1 = 4 → ∀ j, m.1 k j = 0 ∨ (m.1 k j).toNatClampNeg - 1 < n)
def vAg (n : Nat) (ad ad' : Nat → Nat) : Prop := ∀ k, k < n ∨ k = vsN → ad' k = ad k
theorem venc_ag {K : Nat → ClassId} {ad ad' : Nat → Nat} {q : Nat × Nat × (Nat → Nat)} {f : Nat → Int32} {g : Nat → Int64} {n : Nat} (ha : ∀ k, k < n → ad' k = ad k) (h1 : ∀ j x, q.2.2 j = x + 2 → x < n) (h2 : q.1 = 4 → ∀ j, f j = 0 ∨ (f j).toNatClampNeg - 1 < n) : venc K ad' q f g = venc K ad q f g := by
  have hr : ∀ j, vrq ad' (q.2.2 j) = vrq ad (q.2.2 j) := by
    intro j
    have := h1 j
    generalize q.2.2 j = t at this ⊢
    match t, this with
    | 0, _ => rfl
    | 1, _ => rfl
    | x + 2, h => simp only [vrq]; rw [ha x (h x rfl)]
  have hs : ∀ j x, vsl ad' (q.2.2 j) x = vsl ad (q.2.2 j) x := by
    intro j y
    have := h1 j
    generalize q.2.2 j = t at this ⊢
    match t, this with
    | 0, _ => rfl
    | 1, _ => rfl
    | x + 2, h => simp only [vsl]; rw [ha x (h x rfl)]
  unfold venc
  split
  · rfl
  · rfl
  · rfl
  · rw [show (fun j => vrq ad' (q.2.2 j)) = fun j => vrq ad (q.2.2 j) from funext hr]
  · rename_i hq
    have hd : (fun j => vdq ad' (f j)) = fun j => vdq ad (f j) := by
      funext j
      unfold vdq
      rcases h2 hq j with h | h
      · simp [h]
      · split
        · rfl
        · rw [ha _ h]
    rw [hd]
  · rw [show (fun j => vrq ad' (q.2.2 j)) = fun j => vrq ad (q.2.2 j) from funext hr]
  · congr 2; exact List.map_congr_left (fun j _ => hs j (f j))
theorem wld_push {K : Nat → ClassId} {ad ad' : Nat → Nat} {sh sh' : vSh} {m m' : vM} {n q : Nat} {e : va_E} (ha : ∀ k, k < n → ad' k = ad k) (hq : ad' n = q) (he : e = venc K ad' (sh' n) (m'.1 n) (m'.2 n)) (ho : ∀ j, j < n → sh' j = sh j ∧ m'.1 j = m.1 j ∧ m'.2 j = m.2 j) (hB : vRB n sh m) : wld K ad sh m n ++ [(q, e)] = wld K ad' sh' m' (n + 1) := by
  subst hq; subst he
  unfold wld
  rw [List.range_succ, List.map_append]
  congr 1
  apply List.map_congr_left
  intro k hk
  have hk := List.mem_range.mp hk
  obtain ⟨h1, h2, h3⟩ := ho k hk
  rw [h1, h2, h3, ha k hk, venc_ag ha (hB k hk).1 (hB k hk).2]
/-! updates of memory and shape -/
def upI (m : vM) (a j : Nat) (v : Int32) : vM := (fun b => if b = a then upd (m.1 a) j v else m.1 b, m.2)
def upL (m : vM) (a j : Nat) (v : Int64) : vM := (m.1, fun b => if b = a then vp_updL (m.2 a) j v else m.2 b)
def upA (m : vM) (a : Nat) (f : Nat → Int32) : vM := (fun b => if b = a then f else m.1 b, m.2)
def upZ (m : vM) (a : Nat) : vM := (fun b => if b = a then fun _ => 0 else m.1 b, fun b => if b = a then fun _ => 0 else m.2 b)
def upS (sh : vSh) (a : Nat) (q : Nat × Nat × (Nat → Nat)) : vSh := fun b => if b = a then q else sh b
def setC (q : Nat × Nat × (Nat → Nat)) (j c : Nat) : Nat × Nat × (Nat → Nat) := (q.1, q.2.1, fun i => if i = j then c else q.2.2 i)
theorem upI_r (m : vM) (a j b k : Nat) (v : Int32) : (upI m a j v).1 b k = if b = a ∧ k = j then v else m.1 b k := by
  by_cases h : b = a
  · subst h; by_cases h2 : k = j
    · subst h2; simp [upI, upd]
    · simp [upI, upd, h2]
  · simp [upI, h]
theorem upI_s (m : vM) (a j : Nat) (v : Int32) : (upI m a j v).1 a j = v := by rw [upI_r]; simp
theorem upI_n (m : vM) (a j b k : Nat) (v : Int32) (h : b ≠ a ∨ k ≠ j) : (upI m a j v).1 b k = m.1 b k := by
  rw [upI_r, if_neg]; rintro ⟨h1, h2⟩; rcases h with h | h <;> contradiction
theorem upI_l (m : vM) (a j : Nat) (v : Int32) : (upI m a j v).2 = m.2 := rfl
theorem upI_o (m : vM) (a j b : Nat) (v : Int32) (h : b ≠ a) : (upI m a j v).1 b = m.1 b := by simp [upI, h]
theorem upL_i (m : vM) (a j : Nat) (v : Int64) : (upL m a j v).1 = m.1 := rfl
theorem upL_r (m : vM) (a j b k : Nat) (v : Int64) : (upL m a j v).2 b k = if b = a ∧ k = j then v else m.2 b k := by
  by_cases h : b = a
  · subst h; by_cases h2 : k = j
    · subst h2; simp [upL, vp_updL]
    · simp [upL, vp_updL, h2]
  · simp [upL, h]
/-! the judgement -/
theorem va_AOA.moved {ty : FieldType} {u U : State} (hvm : u.vm.Alike U.vm) (h : va_AOA ty u) : va_AOA ty U := (Cond.arrayOver_setVmC (args := #[]) hvm (.array ty)).trans h
/-- what else the tables say: words that go with the machine's tables as they grow -/
def vXt (U : State) : Prop := va_AO "TableSetter$Cell" U ∧ va_AOA .int U ∧ va_Nw (.methodLinkNest RX1 24 yX0_init "TableSetter") U ∧ va_Nw (.methodLinkNest RX5 23 yX4_init "TableSetter") U
theorem vXt.warm {s U : State} (hW : s.WarmedH U.vm) (h : vXt s) : vXt U := ⟨va_AO.moved hW.alike h.1, va_AOA.moved hW.alike h.2.1, va_Nw.warmM hW h.2.2.1, va_Nw.warmM hW h.2.2.2⟩
theorem vXt.same {u U : State} (e : u.vm = U.vm) (h : vXt u) : vXt U := ⟨va_AO.moved (e ▸ Vm.Alike.refl _) h.1, va_AOA.moved (e ▸ Vm.Alike.refl _) h.2.1, va_Nw.same rfl e h.2.2.1, va_Nw.same rfl e h.2.2.2⟩
def vCx (Y : vMeth) (fr lo : Nat) (p : Program) (R : Room) (s : State) (mi : MethodId) (args : Array Value) (meth : Method) (c : Code) (D : va_G) (K : Nat → ClassId) : Prop :=
  p.tables.exec = Jvm.exec ∧ c.code = Y.2.1 ∧ c.maxLocals = Y.2.2.1 ∧ s.vm.findClass Y.1.cls = some mi.cls ∧ (∀ w ∈ vtb, w.before args s = true) ∧ meth.sig.returnType = Y.2.2.2 ∧ meth.locks = false ∧ (Y.1.name = "<init>" → meth.name = "<init>") ∧ fr ≤ R.frames ∧ lo ≤ R.locals ∧ va_K D vwCl (vtys K) s ∧ vXt s
def vDy (sx : Option (Nat × (Nat → Int32))) (D : va_G) (K : Nat → ClassId) (ad : Nat → Nat) (sh : vSh) (m : vM) (n nE : Nat) (A : Nat → Prop) (H0 H : Heap) (locs : List Loc) (R : Room) (cells slots Cm Sm : Nat) (s : State) : Prop :=
  va_P D vwCl (wld K ad sh m n) H ∧ va_D A (wld K ad sh m n) ∧ va_S A H0 H locs ∧ (∀ q, H0.size ≤ q → A q) ∧ vRB n sh m ∧ n ≤ nE ∧ cells + (nE - n) ≤ Cm ∧ slots + (vSZ nE - vSZ n) ≤ Sm ∧ Cm ≤ R.cells ∧ Sm ≤ R.slots ∧ (∀ L xs, sx = some (L, xs) → va_X (ad vsN) L xs s H0 ∧ ad vsN < H0.size ∧ ¬ A (ad vsN))
def vRet (Y : vMeth) (pc : Nat) (r : Option Value) : Prop :=
  (r = none ∧ decode Y.2.1 pc = .ok (.return_, 1) ∧ Y.2.2.2 = none) ∨ (∃ x, r = some (.int x) ∧ decode Y.2.1 pc = .ok (.ireturn, 1) ∧ ∃ ty, Y.2.2.2 = some ty ∧ narrow ty (.int x) = .int x) ∨ (∃ x, r = some (.long x) ∧ decode Y.2.1 pc = .ok (.lreturn, 1) ∧ Y.2.2.2 = some .long) ∨ (∃ v C, r = some v ∧ decode Y.2.1 pc = .ok (.areturn, 1) ∧ Y.2.2.2 = some (.object C) ∧ (v = .null ∨ ∃ a, v = .ref a))
def vJ (Y : vMeth) (fr lo nE : Nat) (sx : Option (Nat × (Nat → Int32))) (pc : Nat) (ls : List (Nat × Value)) (st : List Value) (n : Nat) (sh : vSh) (m : vM) (P : Option Value → vSh → vM → Prop) : Prop :=
  ∀ (p : Program) (l : Launch) (e : Env) (R : Room) (s : State) (mi : MethodId) (args : Array Value) (below : List Frame) (meth : Method) (c : Code) (D : va_G) (K : Nat → ClassId) (ad : Nat → Nat) (A : Nat → Prop) (H0 H : Heap) (locs : List Loc) (cells slots Cm Sm : Nat) (Q : State → Prop) (la : Array Slot),
    vCx Y fr lo p R s mi args meth c D K → vDy sx D K ad sh m n nE A H0 H locs R cells slots Cm Sm s → lv_has la Y.2.2.1 (vls ad ls) →
    (∀ (r : Option Value) (sh' : vSh) (m' : vM) (ad' : Nat → Nat) (H' : Heap) (locs' : List Loc) (cells' slots' : Nat) (la' : Array Slot) (pc' : Nat), vRet Y pc' r → P r sh' m' → vAg n ad ad' → (nE = n → ad' = ad) → vDy sx D K ad' sh' m' nE nE A H0 H' locs' R cells' slots' Cm Sm s → W p l e R s mi args below meth c H' locs' cells' slots' Q (F0 mi pc' la' (r.toList.map (vtr ad')))) →
    W p l e R s mi args below meth c H locs cells slots Q (F0 mi pc la (st.map (vtr ad)))
theorem vlook_at {ad : Nat → Nat} {la : Array Slot} {nL i : Nat} {v : Value} {ls : List (Nat × Value)} (h : lv_has la nL (vls ad ls)) (hl : ls.lookup i = some v) : la[i]? = some (.val (vtr ad v)) := by
  refine h.2.2 (i, vtr ad v) ?_
  clear h
  induction ls with
  | nil => cases hl
  | cons q t ih =>
    obtain ⟨j, w⟩ := q
    rw [List.lookup_cons] at hl
    by_cases hj : i = j
    · subst hj
      simp at hl
      subst hl
      exact List.mem_cons_self
    · simp [show (i == j) = false by simpa using hj] at hl
      exact List.mem_cons_of_mem _ (ih hl)
theorem lv_mono {la : Array Slot} {nL : Nat} {l l' : List (Nat × Value)} (h : lv_has la nL l) (hs : ∀ q ∈ l', q ∈ l) : lv_has la nL l' := ⟨h.1, h.2.1, fun q hq => h.2.2 q (hs q hq)⟩
def vins (i : Nat) (v : Value) : List (Nat × Value) → List (Nat × Value)
  | [] => [(i, v)]
  | q :: t => if i < q.1 then (i, v) :: q :: t else q :: vins i v t
theorem vins_mem {i : Nat} {v : Value} {l : List (Nat × Value)} {q : Nat × Value} (h : q ∈ vins i v l) : q = (i, v) ∨ q ∈ l := by
  induction l with
  | nil => exact Or.inl (List.mem_singleton.mp h)
  | cons a t ih =>
    unfold vins at h
    split at h
    · rcases List.mem_cons.mp h with h | h
      · exact Or.inl h
      · exact Or.inr h
    · rcases List.mem_cons.mp h with h | h
      · exact Or.inr (h ▸ List.mem_cons_self)
      · rcases ih h with h | h
        · exact Or.inl h
        · exact Or.inr (List.mem_cons_of_mem _ h)
def vst (ls : List (Nat × Value)) (i : Nat) (v : Value) : List (Nat × Value) := vins i v (ls.filter (fun q => !(q.1 == i) && !(q.1 + 1 == i && q.2.category == 2)))
def vst2 (ls : List (Nat × Value)) (i : Nat) (v : Value) : List (Nat × Value) := vins i v (ls.filter (fun q => !(q.1 == i) && (!(q.1 == i + 1) && !(q.1 + 1 == i && q.2.category == 2))))
theorem vst_mem {ad : Nat → Nat} {ls : List (Nat × Value)} {i : Nat} {v : Value} : ∀ q ∈ vls ad (vst ls i v), q ∈ (i, vtr ad v) :: (vls ad ls).filter (fun q => !(q.1 == i) && !(q.1 + 1 == i && q.2.category == 2)) := by
  intro q hq
  obtain ⟨q0, h0, rfl⟩ := List.mem_map.mp hq
  rcases vins_mem h0 with rfl | h
  · exact List.mem_cons_self
  · obtain ⟨h1, h2⟩ := List.mem_filter.mp h
    refine List.mem_cons_of_mem _ (List.mem_filter.mpr ⟨List.mem_map.mpr ⟨q0, h1, rfl⟩, ?_⟩)
    simpa only [vtr_cat] using h2
theorem vst2_mem {ad : Nat → Nat} {ls : List (Nat × Value)} {i : Nat} {v : Value} : ∀ q ∈ vls ad (vst2 ls i v), q ∈ (i, vtr ad v) :: (vls ad ls).filter (fun q => !(q.1 == i) && (!(q.1 == i + 1) && !(q.1 + 1 == i && q.2.category == 2))) := by
  intro q hq
  obtain ⟨q0, h0, rfl⟩ := List.mem_map.mp hq
  rcases vins_mem h0 with rfl | h
  · exact List.mem_cons_self
  · obtain ⟨h1, h2⟩ := List.mem_filter.mp h
    refine List.mem_cons_of_mem _ (List.mem_filter.mpr ⟨List.mem_map.mpr ⟨q0, h1, rfl⟩, ?_⟩)
    simpa only [vtr_cat] using h2
section VJ
variable {Y : vMeth} {fr lo nE : Nat} {sx : Option (Nat × (Nat → Int32))} {pc : Nat} {ls : List (Nat × Value)} {st : List Value} {n : Nat} {sh : vSh} {m : vM} {P : Option Value → vSh → vM → Prop}
theorem vJ.mono {P' : Option Value → vSh → vM → Prop} (h : vJ Y fr lo nE sx pc ls st n sh m P) (hp : ∀ r sh' m', P r sh' m' → P' r sh' m') : vJ Y fr lo nE sx pc ls st n sh m P' := by
  intro p l e R s mi args below meth c D K ad A H0 H locs cells slots Cm Sm Q la hC hD hl hR
  exact h p l e R s mi args below meth c D K ad A H0 H locs cells slots Cm Sm Q la hC hD hl (fun r sh' m' ad' H' locs' cells' slots' la' pc' h1 h2 => hR r sh' m' ad' H' locs' cells' slots' la' pc' h1 (hp r sh' m' h2))
theorem vJ.sub (ks : List Nat) {ls' : List (Nat × Value)} (hk : lv_pick ls ks = ls') (k : vJ Y fr lo nE sx pc ls' st n sh m P) : vJ Y fr lo nE sx pc ls st n sh m P := by
  intro p l e R s mi args below meth c D K ad A H0 H locs cells slots Cm Sm Q la hC hD hl hR
  refine k p l e R s mi args below meth c D K ad A H0 H locs cells slots Cm Sm Q la hC hD (lv_mono hl fun q hq => ?_) hR
  subst hk
  obtain ⟨q0, h0, rfl⟩ := List.mem_map.mp hq
  obtain ⟨i, -, hi⟩ := List.mem_filterMap.mp h0
  exact List.mem_map.mpr ⟨q0, List.mem_of_getElem? hi, rfl⟩
theorem vJ.iconst {q : Int} {v : Int32} (hd : decode Y.2.1 pc = .ok (.iconst q, 1)) (hv : Int32.ofInt q = v) (k : vJ Y fr lo nE sx (pc + 1) ls (.int v :: st) n sh m P) : vJ Y fr lo nE sx pc ls st n sh m P := by
  intro p l e R s mi args below meth c D K ad A H0 H locs cells slots Cm Sm Q la hC hD hl hR
  exact lv_iconst hC.1 hC.2.1 hd hv (k p l e R s mi args below meth c D K ad A H0 H locs cells slots Cm Sm Q la hC hD hl hR)
theorem vJ.bipush {q : Int} {v : Int32} (hd : decode Y.2.1 pc = .ok (.bipush q, 2)) (hv : (Int8.ofInt q).toInt32 = v) (k : vJ Y fr lo nE sx (pc + 2) ls (.int v :: st) n sh m P) : vJ Y fr lo nE sx pc ls st n sh m P := by
  intro p l e R s mi args below meth c D K ad A H0 H locs cells slots Cm Sm Q la hC hD hl hR
  exact lv_bipush hC.1 hC.2.1 hd hv (k p l e R s mi args below meth c D K ad A H0 H locs cells slots Cm Sm Q la hC hD hl hR)
theorem vJ.sipush {q : Int} {v : Int32} (hd : decode Y.2.1 pc = .ok (.sipush q, 3)) (hv : (Int16.ofInt q).toInt32 = v) (k : vJ Y fr lo nE sx (pc + 3) ls (.int v :: st) n sh m P) : vJ Y fr lo nE sx pc ls st n sh m P := by
  intro p l e R s mi args below meth c D K ad A H0 H locs cells slots Cm Sm Q la hC hD hl hR
  exact lv_sipush hC.1 hC.2.1 hd hv (k p l e R s mi args below meth c D K ad A H0 H locs cells slots Cm Sm Q la hC hD hl hR)
theorem vJ.lconst {q : Fin 2} {v : Int64} (hd : decode Y.2.1 pc = .ok (.lconst q, 1)) (hv : Int64.ofNat (q : Nat) = v) (k : vJ Y fr lo nE sx (pc + 1) ls (.long v :: st) n sh m P) : vJ Y fr lo nE sx pc ls st n sh m P := by
  intro p l e R s mi args below meth c D K ad A H0 H locs cells slots Cm Sm Q la hC hD hl hR
  exact lv_lconst hC.1 hC.2.1 hd hv (k p l e R s mi args below meth c D K ad A H0 H locs cells slots Cm Sm Q la hC hD hl hR)
theorem vJ.ldc2 {index : Nat} {v : Int64} (hd : decode Y.2.1 pc = .ok (.ldc2_w index, 3)) (hw : Cond.constantLong Y.1.cls index v ∈ vtb) (k : vJ Y fr lo nE sx (pc + 3) ls (.long v :: st) n sh m P) : vJ Y fr lo nE sx pc ls st n sh m P := by
  intro p l e R s mi args below meth c D K ad A H0 H locs cells slots Cm Sm Q la hC hD hl hR
  exact lv_ldc2 hC.1 hC.2.1 hC.2.2.2.1 (hC.2.2.2.2.1 _ hw) hd (k p l e R s mi args below meth c D K ad A H0 H locs cells slots Cm Sm Q la hC hD hl hR)
theorem vJ.null (hd : decode Y.2.1 pc = .ok (.aconst_null, 1)) (k : vJ Y fr lo nE sx (pc + 1) ls (.null :: st) n sh m P) : vJ Y fr lo nE sx pc ls st n sh m P := by
  intro p l e R s mi args below meth c D K ad A H0 H locs cells slots Cm Sm Q la hC hD hl hR
  exact lv_null hC.1 hC.2.1 hd (k p l e R s mi args below meth c D K ad A H0 H locs cells slots Cm Sm Q la hC hD hl hR)
theorem vJ.iload_n {q : Fin 4} {i : Nat} {x : Int32} (hd : decode Y.2.1 pc = .ok (.iload_n q, 1)) (hi : (q : Nat) = i) (hx : ls.lookup i = some (.int x)) (k : vJ Y fr lo nE sx (pc + 1) ls (.int x :: st) n sh m P) : vJ Y fr lo nE sx pc ls st n sh m P := by
  intro p l e R s mi args below meth c D K ad A H0 H locs cells slots Cm Sm Q la hC hD hl hR
  exact lv_iload_n hC.1 hC.2.1 hd hi (vlook_at hl hx) (k p l e R s mi args below meth c D K ad A H0 H locs cells slots Cm Sm Q la hC hD hl hR)
theorem vJ.iload {i : Nat} {x : Int32} (hd : decode Y.2.1 pc = .ok (.iload i, 2)) (hx : ls.lookup i = some (.int x)) (k : vJ Y fr lo nE sx (pc + 2) ls (.int x :: st) n sh m P) : vJ Y fr lo nE sx pc ls st n sh m P := by
  intro p l e R s mi args below meth c D K ad A H0 H locs cells slots Cm Sm Q la hC hD hl hR
  exact lv_iload hC.1 hC.2.1 hd (vlook_at hl hx) (k p l e R s mi args below meth c D K ad A H0 H locs cells slots Cm Sm Q la hC hD hl hR)
theorem vJ.lload_n {q : Fin 4} {i : Nat} {x : Int64} (hd : decode Y.2.1 pc = .ok (.lload_n q, 1)) (hi : (q : Nat) = i) (hx : ls.lookup i = some (.long x)) (k : vJ Y fr lo nE sx (pc + 1) ls (.long x :: st) n sh m P) : vJ Y fr lo nE sx pc ls st n sh m P := by
  intro p l e R s mi args below meth c D K ad A H0 H locs cells slots Cm Sm Q la hC hD hl hR
  exact lv_lload_n hC.1 hC.2.1 hd hi (vlook_at hl hx) (k p l e R s mi args below meth c D K ad A H0 H locs cells slots Cm Sm Q la hC hD hl hR)
theorem vJ.lload {i : Nat} {x : Int64} (hd : decode Y.2.1 pc = .ok (.lload i, 2)) (hx : ls.lookup i = some (.long x)) (k : vJ Y fr lo nE sx (pc + 2) ls (.long x :: st) n sh m P) : vJ Y fr lo nE sx pc ls st n sh m P := by
  intro p l e R s mi args below meth c D K ad A H0 H locs cells slots Cm Sm Q la hC hD hl hR
  exact lv_lload hC.1 hC.2.1 hd (vlook_at hl hx) (k p l e R s mi args below meth c D K ad A H0 H locs cells slots Cm Sm Q la hC hD hl hR)
theorem vJ.aload_n {q : Fin 4} {i a : Nat} (hd : decode Y.2.1 pc = .ok (.aload_n q, 1)) (hi : (q : Nat) = i) (hx : ls.lookup i = some (.ref a)) (k : vJ Y fr lo nE sx (pc + 1) ls (.ref a :: st) n sh m P) : vJ Y fr lo nE sx pc ls st n sh m P := by
  intro p l e R s mi args below meth c D K ad A H0 H locs cells slots Cm Sm Q la hC hD hl hR
  exact lv_aload_n hC.1 hC.2.1 hd hi (vlook_at hl hx) (k p l e R s mi args below meth c D K ad A H0 H locs cells slots Cm Sm Q la hC hD hl hR)
theorem vJ.aload {i a : Nat} (hd : decode Y.2.1 pc = .ok (.aload i, 2)) (hx : ls.lookup i = some (.ref a)) (k : vJ Y fr lo nE sx (pc + 2) ls (.ref a :: st) n sh m P) : vJ Y fr lo nE sx pc ls st n sh m P := by
  intro p l e R s mi args below meth c D K ad A H0 H locs cells slots Cm Sm Q la hC hD hl hR
  exact lv_aload hC.1 hC.2.1 hd (vlook_at hl hx) (k p l e R s mi args below meth c D K ad A H0 H locs cells slots Cm Sm Q la hC hD hl hR)
theorem vJ.aload_nN {q : Fin 4} {i : Nat} (hd : decode Y.2.1 pc = .ok (.aload_n q, 1)) (hi : (q : Nat) = i) (hx : ls.lookup i = some .null) (k : vJ Y fr lo nE sx (pc + 1) ls (.null :: st) n sh m P) : vJ Y fr lo nE sx pc ls st n sh m P := by
  intro p l e R s mi args below meth c D K ad A H0 H locs cells slots Cm Sm Q la hC hD hl hR
  exact lv_aload_nN hC.1 hC.2.1 hd hi (vlook_at hl hx) (k p l e R s mi args below meth c D K ad A H0 H locs cells slots Cm Sm Q la hC hD hl hR)
theorem vJ.aloadN {i : Nat} (hd : decode Y.2.1 pc = .ok (.aload i, 2)) (hx : ls.lookup i = some .null) (k : vJ Y fr lo nE sx (pc + 2) ls (.null :: st) n sh m P) : vJ Y fr lo nE sx pc ls st n sh m P := by
  intro p l e R s mi args below meth c D K ad A H0 H locs cells slots Cm Sm Q la hC hD hl hR
  exact lv_aloadN hC.1 hC.2.1 hd (vlook_at hl hx) (k p l e R s mi args below meth c D K ad A H0 H locs cells slots Cm Sm Q la hC hD hl hR)
theorem vJ.istore_n {q : Fin 4} {i : Nat} {x : Int32} {ls2 : List (Nat × Value)} (hd : decode Y.2.1 pc = .ok (.istore_n q, 1)) (hi : (q : Nat) = i) (hn : i < Y.2.2.1) (hls : vst ls i (.int x) = ls2) (k : vJ Y fr lo nE sx (pc + 1) ls2 st n sh m P) : vJ Y fr lo nE sx pc ls (.int x :: st) n sh m P := by
  intro p l e R s mi args below meth c D K ad A H0 H locs cells slots Cm Sm Q la hC hD hl hR
  subst hls
  exact lv_istore_n hC.1 hC.2.1 hd hi hl hn rfl (fun la2 hl2 => k p l e R s mi args below meth c D K ad A H0 H locs cells slots Cm Sm Q la2 hC hD (lv_mono hl2 vst_mem) hR)
theorem vJ.istore {i : Nat} {x : Int32} {ls2 : List (Nat × Value)} (hd : decode Y.2.1 pc = .ok (.istore i, 2)) (hn : i < Y.2.2.1) (hls : vst ls i (.int x) = ls2) (k : vJ Y fr lo nE sx (pc + 2) ls2 st n sh m P) : vJ Y fr lo nE sx pc ls (.int x :: st) n sh m P := by
  intro p l e R s mi args below meth c D K ad A H0 H locs cells slots Cm Sm Q la hC hD hl hR
  subst hls
  exact lv_istore hC.1 hC.2.1 hd hl hn rfl (fun la2 hl2 => k p l e R s mi args below meth c D K ad A H0 H locs cells slots Cm Sm Q la2 hC hD (lv_mono hl2 vst_mem) hR)
theorem vJ.lstore_n {q : Fin 4} {i : Nat} {x : Int64} {ls2 : List (Nat × Value)} (hd : decode Y.2.1 pc = .ok (.lstore_n q, 1)) (hi : (q : Nat) = i) (hn : i + 1 < Y.2.2.1) (hls : vst2 ls i (.long x) = ls2) (k : vJ Y fr lo nE sx (pc + 1) ls2 st n sh m P) : vJ Y fr lo nE sx pc ls (.long x :: st) n sh m P := by
  intro p l e R s mi args below meth c D K ad A H0 H locs cells slots Cm Sm Q la hC hD hl hR
  subst hls
  exact lv_lstore_n hC.1 hC.2.1 hd hi hl hn rfl (fun la2 hl2 => k p l e R s mi args below meth c D K ad A H0 H locs cells slots Cm Sm Q la2 hC hD (lv_mono hl2 vst2_mem) hR)
theorem vJ.lstore {i : Nat} {x : Int64} {ls2 : List (Nat × Value)} (hd : decode Y.2.1 pc = .ok (.lstore i, 2)) (hn : i + 1 < Y.2.2.1) (hls : vst2 ls i (.long x) = ls2) (k : vJ Y fr lo nE sx (pc + 2) ls2 st n sh m P) : vJ Y fr lo nE sx pc ls (.long x :: st) n sh m P := by
  intro p l e R s mi args below meth c D K ad A H0 H locs cells slots Cm Sm Q la hC hD hl hR
  subst hls
  exact lv_lstore hC.1 hC.2.1 hd hl hn rfl (fun la2 hl2 => k p l e R s mi args below meth c D K ad A H0 H locs cells slots Cm Sm Q la2 hC hD (lv_mono hl2 vst2_mem) hR)
theorem vJ.astore_n {q : Fin 4} {i : Nat} {x : Nat} {ls2 : List (Nat × Value)} (hd : decode Y.2.1 pc = .ok (.astore_n q, 1)) (hi : (q : Nat) = i) (hn : i < Y.2.2.1) (hls : vst ls i (.ref x) = ls2) (k : vJ Y fr lo nE sx (pc + 1) ls2 st n sh m P) : vJ Y fr lo nE sx pc ls (.ref x :: st) n sh m P := by
  intro p l e R s mi args below meth c D K ad A H0 H locs cells slots Cm Sm Q la hC hD hl hR
  subst hls
  exact lv_astore_n hC.1 hC.2.1 hd hi hl hn rfl (fun la2 hl2 => k p l e R s mi args below meth c D K ad A H0 H locs cells slots Cm Sm Q la2 hC hD (lv_mono hl2 vst_mem) hR)
theorem vJ.astore {i : Nat} {x : Nat} {ls2 : List (Nat × Value)} (hd : decode Y.2.1 pc = .ok (.astore i, 2)) (hn : i < Y.2.2.1) (hls : vst ls i (.ref x) = ls2) (k : vJ Y fr lo nE sx (pc + 2) ls2 st n sh m P) : vJ Y fr lo nE sx pc ls (.ref x :: st) n sh m P := by
  intro p l e R s mi args below meth c D K ad A H0 H locs cells slots Cm Sm Q la hC hD hl hR
  subst hls
  exact lv_astore hC.1 hC.2.1 hd hl hn rfl (fun la2 hl2 => k p l e R s mi args below meth c D K ad A H0 H locs cells slots Cm Sm Q la2 hC hD (lv_mono hl2 vst_mem) hR)
theorem vJ.astore_nN {q : Fin 4} {i : Nat} {ls2 : List (Nat × Value)} (hd : decode Y.2.1 pc = .ok (.astore_n q, 1)) (hi : (q : Nat) = i) (hn : i < Y.2.2.1) (hls : vst ls i (.null) = ls2) (k : vJ Y fr lo nE sx (pc + 1) ls2 st n sh m P) : vJ Y fr lo nE sx pc ls (.null :: st) n sh m P := by
  intro p l e R s mi args below meth c D K ad A H0 H locs cells slots Cm Sm Q la hC hD hl hR
  subst hls
  exact lv_astore_nN hC.1 hC.2.1 hd hi hl hn rfl (fun la2 hl2 => k p l e R s mi args below meth c D K ad A H0 H locs cells slots Cm Sm Q la2 hC hD (lv_mono hl2 vst_mem) hR)
theorem vJ.astoreN {i : Nat} {ls2 : List (Nat × Value)} (hd : decode Y.2.1 pc = .ok (.astore i, 2)) (hn : i < Y.2.2.1) (hls : vst ls i (.null) = ls2) (k : vJ Y fr lo nE sx (pc + 2) ls2 st n sh m P) : vJ Y fr lo nE sx pc ls (.null :: st) n sh m P := by
  intro p l e R s mi args below meth c D K ad A H0 H locs cells slots Cm Sm Q la hC hD hl hR
  subst hls
  exact lv_astoreN hC.1 hC.2.1 hd hl hn rfl (fun la2 hl2 => k p l e R s mi args below meth c D K ad A H0 H locs cells slots Cm Sm Q la2 hC hD (lv_mono hl2 vst_mem) hR)
theorem vJ.iinc {i : Nat} {q : Int} {x v : Int32} {ls2 : List (Nat × Value)} (hd : decode Y.2.1 pc = .ok (.iinc i q, 3)) (hx : ls.lookup i = some (.int x)) (hv : x + Int32.ofInt q = v) (hn : i < Y.2.2.1) (hls : vst ls i (.int v) = ls2) (k : vJ Y fr lo nE sx (pc + 3) ls2 st n sh m P) : vJ Y fr lo nE sx pc ls st n sh m P := by
  intro p l e R s mi args below meth c D K ad A H0 H locs cells slots Cm Sm Q la hC hD hl hR
  subst hls
  have hm : (i, Value.int x) ∈ vls ad ls := by
    clear k hl
    induction ls with
    | nil => cases hx
    | cons q0 t ih =>
      obtain ⟨j, w⟩ := q0
      rw [List.lookup_cons] at hx
      by_cases hj : i = j
      · subst hj
        simp at hx
        subst hx
        exact List.mem_cons_self
      · simp [show (i == j) = false by simpa using hj] at hx
        exact List.mem_cons_of_mem _ (ih hx)
  obtain ⟨k9, hk9⟩ := List.getElem?_of_mem hm
  exact lv_iinc hC.1 hC.2.1 hd hl hk9 hv hn rfl (fun la2 hl2 => k p l e R s mi args below meth c D K ad A H0 H locs cells slots Cm Sm Q la2 hC hD (lv_mono hl2 vst_mem) hR)
theorem vJ.iadd {x y : Int32} (hd : decode Y.2.1 pc = .ok (.iadd, 1)) (k : vJ Y fr lo nE sx (pc + 1) ls (.int (x + y) :: st) n sh m P) : vJ Y fr lo nE sx pc ls (.int y :: .int x :: st) n sh m P := by
  intro p l e R s mi args below meth c D K ad A H0 H locs cells slots Cm Sm Q la hC hD hl hR
  exact lv_iadd hC.1 hC.2.1 hd (k p l e R s mi args below meth c D K ad A H0 H locs cells slots Cm Sm Q la hC hD hl hR)
theorem vJ.isub {x y : Int32} (hd : decode Y.2.1 pc = .ok (.isub, 1)) (k : vJ Y fr lo nE sx (pc + 1) ls (.int (x - y) :: st) n sh m P) : vJ Y fr lo nE sx pc ls (.int y :: .int x :: st) n sh m P := by
  intro p l e R s mi args below meth c D K ad A H0 H locs cells slots Cm Sm Q la hC hD hl hR
  exact lv_isub hC.1 hC.2.1 hd (k p l e R s mi args below meth c D K ad A H0 H locs cells slots Cm Sm Q la hC hD hl hR)
theorem vJ.imul {x y : Int32} (hd : decode Y.2.1 pc = .ok (.imul, 1)) (k : vJ Y fr lo nE sx (pc + 1) ls (.int (x * y) :: st) n sh m P) : vJ Y fr lo nE sx pc ls (.int y :: .int x :: st) n sh m P := by
  intro p l e R s mi args below meth c D K ad A H0 H locs cells slots Cm Sm Q la hC hD hl hR
  exact lv_imul hC.1 hC.2.1 hd (k p l e R s mi args below meth c D K ad A H0 H locs cells slots Cm Sm Q la hC hD hl hR)
theorem vJ.iand {x y : Int32} (hd : decode Y.2.1 pc = .ok (.iand, 1)) (k : vJ Y fr lo nE sx (pc + 1) ls (.int (x &&& y) :: st) n sh m P) : vJ Y fr lo nE sx pc ls (.int y :: .int x :: st) n sh m P := by
  intro p l e R s mi args below meth c D K ad A H0 H locs cells slots Cm Sm Q la hC hD hl hR
  exact lv_iand hC.1 hC.2.1 hd (k p l e R s mi args below meth c D K ad A H0 H locs cells slots Cm Sm Q la hC hD hl hR)
theorem vJ.ior {x y : Int32} (hd : decode Y.2.1 pc = .ok (.ior, 1)) (k : vJ Y fr lo nE sx (pc + 1) ls (.int (x ||| y) :: st) n sh m P) : vJ Y fr lo nE sx pc ls (.int y :: .int x :: st) n sh m P := by
  intro p l e R s mi args below meth c D K ad A H0 H locs cells slots Cm Sm Q la hC hD hl hR
  exact lv_ior hC.1 hC.2.1 hd (k p l e R s mi args below meth c D K ad A H0 H locs cells slots Cm Sm Q la hC hD hl hR)
theorem vJ.ishl {x y : Int32} (hd : decode Y.2.1 pc = .ok (.ishl, 1)) (k : vJ Y fr lo nE sx (pc + 1) ls (.int (x <<< (y &&& 31)) :: st) n sh m P) : vJ Y fr lo nE sx pc ls (.int y :: .int x :: st) n sh m P := by
  intro p l e R s mi args below meth c D K ad A H0 H locs cells slots Cm Sm Q la hC hD hl hR
  exact lv_ishl hC.1 hC.2.1 hd (k p l e R s mi args below meth c D K ad A H0 H locs cells slots Cm Sm Q la hC hD hl hR)
theorem vJ.ishr {x y : Int32} (hd : decode Y.2.1 pc = .ok (.ishr, 1)) (k : vJ Y fr lo nE sx (pc + 1) ls (.int (x >>> (y &&& 31)) :: st) n sh m P) : vJ Y fr lo nE sx pc ls (.int y :: .int x :: st) n sh m P := by
  intro p l e R s mi args below meth c D K ad A H0 H locs cells slots Cm Sm Q la hC hD hl hR
  exact lv_ishr hC.1 hC.2.1 hd (k p l e R s mi args below meth c D K ad A H0 H locs cells slots Cm Sm Q la hC hD hl hR)
theorem vJ.idiv {x y : Int32} (hd : decode Y.2.1 pc = .ok (.idiv, 1)) (hne : ¬ y = 0) (k : vJ Y fr lo nE sx (pc + 1) ls (.int (x / y) :: st) n sh m P) : vJ Y fr lo nE sx pc ls (.int y :: .int x :: st) n sh m P := by
  intro p l e R s mi args below meth c D K ad A H0 H locs cells slots Cm Sm Q la hC hD hl hR
  exact lv_idiv hC.1 hC.2.1 hd hne (k p l e R s mi args below meth c D K ad A H0 H locs cells slots Cm Sm Q la hC hD hl hR)
theorem vJ.irem {x y : Int32} (hd : decode Y.2.1 pc = .ok (.irem, 1)) (hne : ¬ y = 0) (k : vJ Y fr lo nE sx (pc + 1) ls (.int (x - x / y * y) :: st) n sh m P) : vJ Y fr lo nE sx pc ls (.int y :: .int x :: st) n sh m P := by
  intro p l e R s mi args below meth c D K ad A H0 H locs cells slots Cm Sm Q la hC hD hl hR
  exact lv_irem hC.1 hC.2.1 hd hne (k p l e R s mi args below meth c D K ad A H0 H locs cells slots Cm Sm Q la hC hD hl hR)
theorem vJ.ladd {x y : Int64} (hd : decode Y.2.1 pc = .ok (.ladd, 1)) (k : vJ Y fr lo nE sx (pc + 1) ls (.long (x + y) :: st) n sh m P) : vJ Y fr lo nE sx pc ls (.long y :: .long x :: st) n sh m P := by
  intro p l e R s mi args below meth c D K ad A H0 H locs cells slots Cm Sm Q la hC hD hl hR
  exact lv_ladd hC.1 hC.2.1 hd (k p l e R s mi args below meth c D K ad A H0 H locs cells slots Cm Sm Q la hC hD hl hR)
theorem vJ.lsub {x y : Int64} (hd : decode Y.2.1 pc = .ok (.lsub, 1)) (k : vJ Y fr lo nE sx (pc + 1) ls (.long (x - y) :: st) n sh m P) : vJ Y fr lo nE sx pc ls (.long y :: .long x :: st) n sh m P := by
  intro p l e R s mi args below meth c D K ad A H0 H locs cells slots Cm Sm Q la hC hD hl hR
  exact lv_lsub hC.1 hC.2.1 hd (k p l e R s mi args below meth c D K ad A H0 H locs cells slots Cm Sm Q la hC hD hl hR)
theorem vJ.lmul {x y : Int64} (hd : decode Y.2.1 pc = .ok (.lmul, 1)) (k : vJ Y fr lo nE sx (pc + 1) ls (.long (x * y) :: st) n sh m P) : vJ Y fr lo nE sx pc ls (.long y :: .long x :: st) n sh m P := by
  intro p l e R s mi args below meth c D K ad A H0 H locs cells slots Cm Sm Q la hC hD hl hR
  exact lv_lmul hC.1 hC.2.1 hd (k p l e R s mi args below meth c D K ad A H0 H locs cells slots Cm Sm Q la hC hD hl hR)
theorem vJ.ldiv {x y : Int64} (hd : decode Y.2.1 pc = .ok (.ldiv, 1)) (hne : ¬ y = 0) (k : vJ Y fr lo nE sx (pc + 1) ls (.long (x / y) :: st) n sh m P) : vJ Y fr lo nE sx pc ls (.long y :: .long x :: st) n sh m P := by
  intro p l e R s mi args below meth c D K ad A H0 H locs cells slots Cm Sm Q la hC hD hl hR
  exact lv_ldiv hC.1 hC.2.1 hd hne (k p l e R s mi args below meth c D K ad A H0 H locs cells slots Cm Sm Q la hC hD hl hR)
theorem vJ.lcmp {x y : Int64} (hd : decode Y.2.1 pc = .ok (.lcmp, 1)) (k : vJ Y fr lo nE sx (pc + 1) ls (.int (lg_cmp x y) :: st) n sh m P) : vJ Y fr lo nE sx pc ls (.long y :: .long x :: st) n sh m P := by
  intro p l e R s mi args below meth c D K ad A H0 H locs cells slots Cm Sm Q la hC hD hl hR
  exact W.lcmp hC.1 hC.2.1 hd (k p l e R s mi args below meth c D K ad A H0 H locs cells slots Cm Sm Q la hC hD hl hR)
theorem vJ.i2l {x : Int32} (hd : decode Y.2.1 pc = .ok (.i2l, 1)) (k : vJ Y fr lo nE sx (pc + 1) ls (.long x.toInt64 :: st) n sh m P) : vJ Y fr lo nE sx pc ls (.int x :: st) n sh m P := by
  intro p l e R s mi args below meth c D K ad A H0 H locs cells slots Cm Sm Q la hC hD hl hR
  exact lv_i2l hC.1 hC.2.1 hd rfl (k p l e R s mi args below meth c D K ad A H0 H locs cells slots Cm Sm Q la hC hD hl hR)
theorem vJ.l2i {x : Int64} (hd : decode Y.2.1 pc = .ok (.l2i, 1)) (k : vJ Y fr lo nE sx (pc + 1) ls (.int x.toInt32 :: st) n sh m P) : vJ Y fr lo nE sx pc ls (.long x :: st) n sh m P := by
  intro p l e R s mi args below meth c D K ad A H0 H locs cells slots Cm Sm Q la hC hD hl hR
  exact lv_l2i hC.1 hC.2.1 hd rfl (k p l e R s mi args below meth c D K ad A H0 H locs cells slots Cm Sm Q la hC hD hl hR)
theorem vJ.dup {v : Value} (hd : decode Y.2.1 pc = .ok (.dup, 1)) (hv : v.category = 1) (k : vJ Y fr lo nE sx (pc + 1) ls (v :: v :: st) n sh m P) : vJ Y fr lo nE sx pc ls (v :: st) n sh m P := by
  intro p l e R s mi args below meth c D K ad A H0 H locs cells slots Cm Sm Q la hC hD hl hR
  exact lv_dup hC.1 hC.2.1 hd (by rw [vtr_cat]; exact hv) (k p l e R s mi args below meth c D K ad A H0 H locs cells slots Cm Sm Q la hC hD hl hR)
theorem vJ.pop {v : Value} (hd : decode Y.2.1 pc = .ok (.pop, 1)) (hv : v.category = 1) (k : vJ Y fr lo nE sx (pc + 1) ls st n sh m P) : vJ Y fr lo nE sx pc ls (v :: st) n sh m P := by
  intro p l e R s mi args below meth c D K ad A H0 H locs cells slots Cm Sm Q la hC hD hl hR
  exact lv_pop hC.1 hC.2.1 hd (by rw [vtr_cat]; exact hv) (k p l e R s mi args below meth c D K ad A H0 H locs cells slots Cm Sm Q la hC hD hl hR)
theorem vJ.dup2 {v u : Value} (hd : decode Y.2.1 pc = .ok (.dup2, 1)) (hv : v.category = 1) (hu : u.category = 1) (k : vJ Y fr lo nE sx (pc + 1) ls (v :: u :: v :: u :: st) n sh m P) : vJ Y fr lo nE sx pc ls (v :: u :: st) n sh m P := by
  intro p l e R s mi args below meth c D K ad A H0 H locs cells slots Cm Sm Q la hC hD hl hR
  exact lv_dup2_11 hC.1 hC.2.1 hd (by rw [vtr_cat]; exact hv) (by rw [vtr_cat]; exact hu) (k p l e R s mi args below meth c D K ad A H0 H locs cells slots Cm Sm Q la hC hD hl hR)
theorem vJ.if_eq {x : Int32} {off : Int} {tgt : Nat} (hd : decode Y.2.1 pc = .ok (.ifCond .eq off, 3)) (ht : (pc : Int) + off = (tgt : Int)) (kt : x = 0 → vJ Y fr lo nE sx tgt ls st n sh m P) (kf : ¬ x = 0 → vJ Y fr lo nE sx (pc + 3) ls st n sh m P) : vJ Y fr lo nE sx pc ls (.int x :: st) n sh m P := by
  intro p l e R s mi args below meth c D K ad A H0 H locs cells slots Cm Sm Q la hC hD hl hR
  exact lv_if_eq hC.1 hC.2.1 hd ht (fun h => kt h p l e R s mi args below meth c D K ad A H0 H locs cells slots Cm Sm Q la hC hD hl hR) (fun h => kf h p l e R s mi args below meth c D K ad A H0 H locs cells slots Cm Sm Q la hC hD hl hR)
theorem vJ.icmp_eq {x y : Int32} {off : Int} {tgt : Nat} (hd : decode Y.2.1 pc = .ok (.if_icmp .eq off, 3)) (ht : (pc : Int) + off = (tgt : Int)) (kt : x = y → vJ Y fr lo nE sx tgt ls st n sh m P) (kf : ¬ x = y → vJ Y fr lo nE sx (pc + 3) ls st n sh m P) : vJ Y fr lo nE sx pc ls (.int y :: .int x :: st) n sh m P := by
  intro p l e R s mi args below meth c D K ad A H0 H locs cells slots Cm Sm Q la hC hD hl hR
  exact lv_icmp_eq hC.1 hC.2.1 hd ht (fun h => kt h p l e R s mi args below meth c D K ad A H0 H locs cells slots Cm Sm Q la hC hD hl hR) (fun h => kf h p l e R s mi args below meth c D K ad A H0 H locs cells slots Cm Sm Q la hC hD hl hR)
theorem vJ.if_ne {x : Int32} {off : Int} {tgt : Nat} (hd : decode Y.2.1 pc = .ok (.ifCond .ne off, 3)) (ht : (pc : Int) + off = (tgt : Int)) (kt : ¬ x = 0 → vJ Y fr lo nE sx tgt ls st n sh m P) (kf : x = 0 → vJ Y fr lo nE sx (pc + 3) ls st n sh m P) : vJ Y fr lo nE sx pc ls (.int x :: st) n sh m P := by
  intro p l e R s mi args below meth c D K ad A H0 H locs cells slots Cm Sm Q la hC hD hl hR
  exact lv_if_ne hC.1 hC.2.1 hd ht (fun h => kt h p l e R s mi args below meth c D K ad A H0 H locs cells slots Cm Sm Q la hC hD hl hR) (fun h => kf h p l e R s mi args below meth c D K ad A H0 H locs cells slots Cm Sm Q la hC hD hl hR)
theorem vJ.icmp_ne {x y : Int32} {off : Int} {tgt : Nat} (hd : decode Y.2.1 pc = .ok (.if_icmp .ne off, 3)) (ht : (pc : Int) + off = (tgt : Int)) (kt : ¬ x = y → vJ Y fr lo nE sx tgt ls st n sh m P) (kf : x = y → vJ Y fr lo nE sx (pc + 3) ls st n sh m P) : vJ Y fr lo nE sx pc ls (.int y :: .int x :: st) n sh m P := by
  intro p l e R s mi args below meth c D K ad A H0 H locs cells slots Cm Sm Q la hC hD hl hR
  exact lv_icmp_ne hC.1 hC.2.1 hd ht (fun h => kt h p l e R s mi args below meth c D K ad A H0 H locs cells slots Cm Sm Q la hC hD hl hR) (fun h => kf h p l e R s mi args below meth c D K ad A H0 H locs cells slots Cm Sm Q la hC hD hl hR)
theorem vJ.if_lt {x : Int32} {off : Int} {tgt : Nat} (hd : decode Y.2.1 pc = .ok (.ifCond .lt off, 3)) (ht : (pc : Int) + off = (tgt : Int)) (kt : x < 0 → vJ Y fr lo nE sx tgt ls st n sh m P) (kf : ¬ x < 0 → vJ Y fr lo nE sx (pc + 3) ls st n sh m P) : vJ Y fr lo nE sx pc ls (.int x :: st) n sh m P := by
  intro p l e R s mi args below meth c D K ad A H0 H locs cells slots Cm Sm Q la hC hD hl hR
  exact lv_if_lt hC.1 hC.2.1 hd ht (fun h => kt h p l e R s mi args below meth c D K ad A H0 H locs cells slots Cm Sm Q la hC hD hl hR) (fun h => kf h p l e R s mi args below meth c D K ad A H0 H locs cells slots Cm Sm Q la hC hD hl hR)
theorem vJ.icmp_lt {x y : Int32} {off : Int} {tgt : Nat} (hd : decode Y.2.1 pc = .ok (.if_icmp .lt off, 3)) (ht : (pc : Int) + off = (tgt : Int)) (kt : x < y → vJ Y fr lo nE sx tgt ls st n sh m P) (kf : ¬ x < y → vJ Y fr lo nE sx (pc + 3) ls st n sh m P) : vJ Y fr lo nE sx pc ls (.int y :: .int x :: st) n sh m P := by
  intro p l e R s mi args below meth c D K ad A H0 H locs cells slots Cm Sm Q la hC hD hl hR
  exact lv_icmp_lt hC.1 hC.2.1 hd ht (fun h => kt h p l e R s mi args below meth c D K ad A H0 H locs cells slots Cm Sm Q la hC hD hl hR) (fun h => kf h p l e R s mi args below meth c D K ad A H0 H locs cells slots Cm Sm Q la hC hD hl hR)
theorem vJ.if_ge {x : Int32} {off : Int} {tgt : Nat} (hd : decode Y.2.1 pc = .ok (.ifCond .ge off, 3)) (ht : (pc : Int) + off = (tgt : Int)) (kt : 0 ≤ x → vJ Y fr lo nE sx tgt ls st n sh m P) (kf : ¬ 0 ≤ x → vJ Y fr lo nE sx (pc + 3) ls st n sh m P) : vJ Y fr lo nE sx pc ls (.int x :: st) n sh m P := by
  intro p l e R s mi args below meth c D K ad A H0 H locs cells slots Cm Sm Q la hC hD hl hR
  exact lv_if_ge hC.1 hC.2.1 hd ht (fun h => kt h p l e R s mi args below meth c D K ad A H0 H locs cells slots Cm Sm Q la hC hD hl hR) (fun h => kf h p l e R s mi args below meth c D K ad A H0 H locs cells slots Cm Sm Q la hC hD hl hR)
theorem vJ.icmp_ge {x y : Int32} {off : Int} {tgt : Nat} (hd : decode Y.2.1 pc = .ok (.if_icmp .ge off, 3)) (ht : (pc : Int) + off = (tgt : Int)) (kt : y ≤ x → vJ Y fr lo nE sx tgt ls st n sh m P) (kf : ¬ y ≤ x → vJ Y fr lo nE sx (pc + 3) ls st n sh m P) : vJ Y fr lo nE sx pc ls (.int y :: .int x :: st) n sh m P := by
  intro p l e R s mi args below meth c D K ad A H0 H locs cells slots Cm Sm Q la hC hD hl hR
  exact lv_icmp_ge hC.1 hC.2.1 hd ht (fun h => kt h p l e R s mi args below meth c D K ad A H0 H locs cells slots Cm Sm Q la hC hD hl hR) (fun h => kf h p l e R s mi args below meth c D K ad A H0 H locs cells slots Cm Sm Q la hC hD hl hR)
theorem vJ.if_gt {x : Int32} {off : Int} {tgt : Nat} (hd : decode Y.2.1 pc = .ok (.ifCond .gt off, 3)) (ht : (pc : Int) + off = (tgt : Int)) (kt : 0 < x → vJ Y fr lo nE sx tgt ls st n sh m P) (kf : ¬ 0 < x → vJ Y fr lo nE sx (pc + 3) ls st n sh m P) : vJ Y fr lo nE sx pc ls (.int x :: st) n sh m P := by
  intro p l e R s mi args below meth c D K ad A H0 H locs cells slots Cm Sm Q la hC hD hl hR
  exact lv_if_gt hC.1 hC.2.1 hd ht (fun h => kt h p l e R s mi args below meth c D K ad A H0 H locs cells slots Cm Sm Q la hC hD hl hR) (fun h => kf h p l e R s mi args below meth c D K ad A H0 H locs cells slots Cm Sm Q la hC hD hl hR)
theorem vJ.icmp_gt {x y : Int32} {off : Int} {tgt : Nat} (hd : decode Y.2.1 pc = .ok (.if_icmp .gt off, 3)) (ht : (pc : Int) + off = (tgt : Int)) (kt : y < x → vJ Y fr lo nE sx tgt ls st n sh m P) (kf : ¬ y < x → vJ Y fr lo nE sx (pc + 3) ls st n sh m P) : vJ Y fr lo nE sx pc ls (.int y :: .int x :: st) n sh m P := by
  intro p l e R s mi args below meth c D K ad A H0 H locs cells slots Cm Sm Q la hC hD hl hR
  exact lv_icmp_gt hC.1 hC.2.1 hd ht (fun h => kt h p l e R s mi args below meth c D K ad A H0 H locs cells slots Cm Sm Q la hC hD hl hR) (fun h => kf h p l e R s mi args below meth c D K ad A H0 H locs cells slots Cm Sm Q la hC hD hl hR)
theorem vJ.if_le {x : Int32} {off : Int} {tgt : Nat} (hd : decode Y.2.1 pc = .ok (.ifCond .le off, 3)) (ht : (pc : Int) + off = (tgt : Int)) (kt : x ≤ 0 → vJ Y fr lo nE sx tgt ls st n sh m P) (kf : ¬ x ≤ 0 → vJ Y fr lo nE sx (pc + 3) ls st n sh m P) : vJ Y fr lo nE sx pc ls (.int x :: st) n sh m P := by
  intro p l e R s mi args below meth c D K ad A H0 H locs cells slots Cm Sm Q la hC hD hl hR
  exact lv_if_le hC.1 hC.2.1 hd ht (fun h => kt h p l e R s mi args below meth c D K ad A H0 H locs cells slots Cm Sm Q la hC hD hl hR) (fun h => kf h p l e R s mi args below meth c D K ad A H0 H locs cells slots Cm Sm Q la hC hD hl hR)
theorem vJ.icmp_le {x y : Int32} {off : Int} {tgt : Nat} (hd : decode Y.2.1 pc = .ok (.if_icmp .le off, 3)) (ht : (pc : Int) + off = (tgt : Int)) (kt : x ≤ y → vJ Y fr lo nE sx tgt ls st n sh m P) (kf : ¬ x ≤ y → vJ Y fr lo nE sx (pc + 3) ls st n sh m P) : vJ Y fr lo nE sx pc ls (.int y :: .int x :: st) n sh m P := by
  intro p l e R s mi args below meth c D K ad A H0 H locs cells slots Cm Sm Q la hC hD hl hR
  exact lv_icmp_le hC.1 hC.2.1 hd ht (fun h => kt h p l e R s mi args below meth c D K ad A H0 H locs cells slots Cm Sm Q la hC hD hl hR) (fun h => kf h p l e R s mi args below meth c D K ad A H0 H locs cells slots Cm Sm Q la hC hD hl hR)
theorem vJ.ifnonnull {a : Nat} {off : Int} {tgt : Nat} (hd : decode Y.2.1 pc = .ok (.ifnonnull off, 3)) (ht : (pc : Int) + off = (tgt : Int)) (k : vJ Y fr lo nE sx tgt ls st n sh m P) : vJ Y fr lo nE sx pc ls (.ref a :: st) n sh m P := by
  intro p l e R s mi args below meth c D K ad A H0 H locs cells slots Cm Sm Q la hC hD hl hR
  exact lv_ifnonnull hC.1 hC.2.1 hd ht (k p l e R s mi args below meth c D K ad A H0 H locs cells slots Cm Sm Q la hC hD hl hR)
theorem vJ.ifnull {a : Nat} {off : Int} (hd : decode Y.2.1 pc = .ok (.ifnull off, 3)) (k : vJ Y fr lo nE sx (pc + 3) ls st n sh m P) : vJ Y fr lo nE sx pc ls (.ref a :: st) n sh m P := by
  intro p l e R s mi args below meth c D K ad A H0 H locs cells slots Cm Sm Q la hC hD hl hR
  exact lv_ifnull hC.1 hC.2.1 hd (k p l e R s mi args below meth c D K ad A H0 H locs cells slots Cm Sm Q la hC hD hl hR)
theorem vJ.ifnullN {off : Int} {tgt : Nat} (hd : decode Y.2.1 pc = .ok (.ifnull off, 3)) (ht : (pc : Int) + off = (tgt : Int)) (k : vJ Y fr lo nE sx tgt ls st n sh m P) : vJ Y fr lo nE sx pc ls (.null :: st) n sh m P := by
  intro p l e R s mi args below meth c D K ad A H0 H locs cells slots Cm Sm Q la hC hD hl hR
  exact lv_ifnullN hC.1 hC.2.1 hd ht (k p l e R s mi args below meth c D K ad A H0 H locs cells slots Cm Sm Q la hC hD hl hR)
theorem vJ.ifnonnullN {off : Int} (hd : decode Y.2.1 pc = .ok (.ifnonnull off, 3)) (k : vJ Y fr lo nE sx (pc + 3) ls st n sh m P) : vJ Y fr lo nE sx pc ls (.null :: st) n sh m P := by
  intro p l e R s mi args below meth c D K ad A H0 H locs cells slots Cm Sm Q la hC hD hl hR
  exact lv_ifnonnullN hC.1 hC.2.1 hd (k p l e R s mi args below meth c D K ad A H0 H locs cells slots Cm Sm Q la hC hD hl hR)
theorem vJ.goto {off : Int} {tgt : Nat} (hd : decode Y.2.1 pc = .ok (.goto off, 3)) (ht : (pc : Int) + off = (tgt : Int)) (k : vJ Y fr lo nE sx tgt ls st n sh m P) : vJ Y fr lo nE sx pc ls st n sh m P := by
  intro p l e R s mi args below meth c D K ad A H0 H locs cells slots Cm Sm Q la hC hD hl hR
  exact lv_goto hC.1 hC.2.1 hd ht (k p l e R s mi args below meth c D K ad A H0 H locs cells slots Cm Sm Q la hC hD hl hR)
theorem vJ.tabIn {dflt lq hq : Int} {offs : Array Int} {len : Nat} {x : Int32} {off : Int} {tgt : Nat} (hd : decode Y.2.1 pc = .ok (.tableswitch dflt lq hq offs, len)) (h1 : ¬ x.toInt < lq) (h2 : ¬ hq < x.toInt) (ho : offs[(x.toInt - lq).toNat]? = some off) (ht : (pc : Int) + off = (tgt : Int)) (k : vJ Y fr lo nE sx tgt ls st n sh m P) : vJ Y fr lo nE sx pc ls (.int x :: st) n sh m P := by
  intro p l e R s mi args below meth c D K ad A H0 H locs cells slots Cm Sm Q la hC hD hl hR
  exact lv_tableIn hC.1 hC.2.1 hd h1 h2 ho ht (k p l e R s mi args below meth c D K ad A H0 H locs cells slots Cm Sm Q la hC hD hl hR)
theorem vJ.tabOut {dflt lq hq : Int} {offs : Array Int} {len : Nat} {x : Int32} {tgt : Nat} (hd : decode Y.2.1 pc = .ok (.tableswitch dflt lq hq offs, len)) (h1 : x.toInt < lq ∨ hq < x.toInt) (ht : (pc : Int) + dflt = (tgt : Int)) (k : vJ Y fr lo nE sx tgt ls st n sh m P) : vJ Y fr lo nE sx pc ls (.int x :: st) n sh m P := by
  intro p l e R s mi args below meth c D K ad A H0 H locs cells slots Cm Sm Q la hC hD hl hR
  exact lv_tableOut hC.1 hC.2.1 hd h1 ht (k p l e R s mi args below meth c D K ad A H0 H locs cells slots Cm Sm Q la hC hD hl hR)
end VJ
end
section
theorem map_set_r {N k : Nat} {f f' : Nat → Value} {v : Value} (h1 : f' k = v) (h2 : ∀ j, j ≠ k → f' j = f j) : ((List.range N).map f).set k v = (List.range N).map f' := by
  apply List.ext_getElem?
  intro i
  rw [List.getElem?_set]
  by_cases hi : k = i
  · subst hi
    rw [if_pos rfl]
    by_cases hk : k < N
    · rw [if_pos (by simpa using hk), List.getElem?_map, List.getElem?_range hk, ← h1]; rfl
    · rw [if_neg (by simpa using hk)]; simp [hk]
  · rw [if_neg hi]
    by_cases hk : i < N
    · rw [List.getElem?_map, List.getElem?_map, List.getElem?_range hk]
      simp [h2 i (fun q => hi q.symm)]
    · simp [hk]
theorem vRB_upI {n : Nat} {sh : vSh} {m : vM} {a j : Nat} {v : Int32} (h : vRB n sh m) (hv : (sh a).1 = 4 → v = 0 ∨ v.toNatClampNeg - 1 < n) : vRB n sh (upI m a j v) := by
  intro k hk
  refine ⟨(h k hk).1, fun h4 i => ?_⟩
  rw [upI_r]
  split
  · rename_i hq; obtain ⟨rfl, -⟩ := hq; exact hv h4
  · exact (h k hk).2 h4 i
theorem vRB_of1 {n : Nat} {sh : vSh} {m m' : vM} (h : vRB n sh m) (hm : ∀ k, (sh k).1 = 4 → m'.1 k = m.1 k) : vRB n sh m' := fun k hk => ⟨(h k hk).1, fun h4 j => by rw [hm k h4]; exact (h k hk).2 h4 j⟩
theorem vRB_upS {n : Nat} {sh : vSh} {m : vM} {a k c : Nat} (h : vRB n sh m) (hc : ∀ x, c = x + 2 → x < n) : vRB n (upS sh a (setC (sh a) k c)) m := by
  intro b hb
  by_cases hba : b = a
  · subst hba
    refine ⟨fun j x hj => ?_, fun h4 j => ?_⟩
    · simp only [upS, if_true, setC] at hj
      split at hj
      · exact hc x hj
      · exact (h b hb).1 j x hj
    · simp only [upS, if_true, setC] at h4
      exact (h b hb).2 h4 j
  · simp only [upS, if_neg hba]
    exact h b hb
section VM1
variable {Y : vMeth} {fr lo nE : Nat} {sx : Option (Nat × (Nat → Int32))} {pc : Nat} {ls : List (Nat × Value)} {st : List Value} {n : Nat} {sh : vSh} {m : vM} {P : Option Value → vSh → vM → Prop}
theorem vJ.getI {index ci N a k : Nat} {C : String} {T : u_T} {cs : Nat → Nat} (hd : decode Y.2.1 pc = .ok (.getfield index, 3)) (hs : sh a = (ci + 6, N, cs)) (ha : a < n) (hc : vwCl[ci]? = some (C, T, N)) (hin : ∀ w ∈ u_ws C T N, w ∈ vtb) (hk : k < N) (hcs : cs k = 0) (hw : Cond.fieldLink Y.1.cls index (T k).1 (T k).2.1 (T k).2.2.1 ∈ vtb) (kk : vJ Y fr lo nE sx (pc + 3) ls (.int (m.1 a k) :: st) n sh m P) : vJ Y fr lo nE sx pc ls (.ref a :: st) n sh m P := by
  intro p l e R s mi args below meth c D K ad A H0 H locs cells slots Cm Sm Q la hC hD hl hR
  obtain ⟨hx, hb, hml, hown, hts, hrt, hlk, hinit, hfr, hlo, hK, hXt⟩ := id hC
  have he : (wld K ad sh m n)[a]? = some (ad a, .inr (ci, (List.range N).map (fun j => vsl ad (cs j) (m.1 a j)))) := by rw [wld_get ha, hs]; rfl
  refine va_get hx hb hts hin hown hK hD.1 a he hc k hk (hts _ hw) (fun _ h => h) (v := vtr ad (.int (m.1 a k))) ?_ hd (kk p l e R s mi args below meth c D K ad A H0 H locs cells slots Cm Sm Q la hC hD hl hR)
  simp [List.getElem?_map, List.getElem?_range hk, hcs, vsl, vtr]
theorem vJ.getR {index ci N a k j : Nat} {C : String} {T : u_T} {cs : Nat → Nat} (hd : decode Y.2.1 pc = .ok (.getfield index, 3)) (hs : sh a = (ci + 6, N, cs)) (ha : a < n) (hc : vwCl[ci]? = some (C, T, N)) (hin : ∀ w ∈ u_ws C T N, w ∈ vtb) (hk : k < N) (hcs : cs k = j + 2) (hw : Cond.fieldLink Y.1.cls index (T k).1 (T k).2.1 (T k).2.2.1 ∈ vtb) (kk : vJ Y fr lo nE sx (pc + 3) ls (.ref j :: st) n sh m P) : vJ Y fr lo nE sx pc ls (.ref a :: st) n sh m P := by
  intro p l e R s mi args below meth c D K ad A H0 H locs cells slots Cm Sm Q la hC hD hl hR
  obtain ⟨hx, hb, hml, hown, hts, hrt, hlk, hinit, hfr, hlo, hK, hXt⟩ := id hC
  have he : (wld K ad sh m n)[a]? = some (ad a, .inr (ci, (List.range N).map (fun j => vsl ad (cs j) (m.1 a j)))) := by rw [wld_get ha, hs]; rfl
  refine va_get hx hb hts hin hown hK hD.1 a he hc k hk (hts _ hw) (fun _ h => h) (v := vtr ad (.ref j)) ?_ hd (kk p l e R s mi args below meth c D K ad A H0 H locs cells slots Cm Sm Q la hC hD hl hR)
  simp [List.getElem?_map, List.getElem?_range hk, hcs, vsl, vtr]
theorem vJ.putI {index ci N a k : Nat} {C : String} {T : u_T} {cs : Nat → Nat} {x : Int32} (hd : decode Y.2.1 pc = .ok (.putfield index, 3)) (hs : sh a = (ci + 6, N, cs)) (ha : a < n) (hc : vwCl[ci]? = some (C, T, N)) (hin : ∀ w ∈ u_ws C T N, w ∈ vtb) (ty0 : Nat → FieldType) (hty : ∀ k, k < N → parseFieldDescriptor (T k).2.2.1 = some (ty0 k)) (hnm : ∀ a, a < N → ∀ b, b < N → a ≠ b → (T a).2.1 ≠ (T b).2.1) (hk : k < N) (hcs : cs k = 0) (hfin : (T k).2.2.2 = false) (hw : Cond.fieldLink Y.1.cls index (T k).1 (T k).2.1 (T k).2.2.1 ∈ vtb) (hnr : narrow (ty0 k) (.int x) = .int x) (hft : fits (ty0 k) (.int x) = true) (kk : vJ Y fr lo nE sx (pc + 3) ls st n sh (upI m a k x) P) : vJ Y fr lo nE sx pc ls (.int x :: .ref a :: st) n sh m P := by
  intro p l e R s mi args below meth c D K ad A H0 H locs cells slots Cm Sm Q la hC hD hl hR
  obtain ⟨hx, hb, hml, hown, hts, hrt, hlk, hinit, hfr, hlo, hK, hXt⟩ := id hC
  obtain ⟨hP, hDd, hS, hA, hB, hn, hc1, hs1, hc2, hs2, hsx⟩ := id hD
  have he : (wld K ad sh m n)[a]? = some (ad a, .inr (ci, (List.range N).map (fun j => vsl ad (cs j) (m.1 a j)))) := by rw [wld_get ha, hs]; rfl
  refine va_put (v := .int x) hx hb hts hin ty0 hty hnm hown hK hP hDd hS a he hc k hk (hts _ hw) (fun _ h => h) hfin (hty k hk) hnr hft (by simpa using hk) hd (fun H1 locs1 hP1 hD1 hS1 => ?_)
  have e9 : (wld K ad sh m n).set a (ad a, .inr (ci, ((List.range N).map (fun j => vsl ad (cs j) (m.1 a j))).set k (.int x))) = wld K ad sh (upI m a k x) n := by
    refine wld_set ha ?_ (fun j hj => ⟨rfl, upI_o m a k j x hj, rfl⟩)
    rw [hs]
    show _ = Sum.inr (ci, _)
    rw [map_set_r (f' := fun j => vsl ad (cs j) ((upI m a k x).1 a j))]
    · show vsl ad (cs k) _ = _
      rw [hcs, upI_s]; rfl
    · intro j hj
      show vsl ad (cs j) _ = _
      rw [upI_n m a k a j x (Or.inr hj)]
  rw [e9] at hP1 hD1
  exact kk p l e R s mi args below meth c D K ad A H0 H1 locs1 cells slots Cm Sm Q la hC ⟨hP1, hD1, hS1, hA, vRB_upI hB (fun h4 => by rw [hs] at h4; exact absurd h4 (by show ¬ ci + 6 = 4; omega)), hn, hc1, hs1, hc2, hs2, hsx⟩ hl hR
theorem vJ.putF {index ci N a k j : Nat} {C : String} {T : u_T} {cs : Nat → Nat} (hd : decode Y.2.1 pc = .ok (.putfield index, 3)) (hs : sh a = (ci + 6, N, cs)) (ha : a < n) (hj : j < n) (hc : vwCl[ci]? = some (C, T, N)) (hin : ∀ w ∈ u_ws C T N, w ∈ vtb) (ty0 : Nat → FieldType) (hty : ∀ k, k < N → parseFieldDescriptor (T k).2.2.1 = some (ty0 k)) (hnm : ∀ a, a < N → ∀ b, b < N → a ≠ b → (T a).2.1 ≠ (T b).2.1) (hk : k < N) (hfin : (T k).2.2.2 = true) (hi : Y.1.name = "<init>") (hdecl : (T k).1 = Y.1.cls) (hw : Cond.fieldLink Y.1.cls index (T k).1 (T k).2.1 (T k).2.2.1 ∈ vtb) (hft : ∀ b : Nat, narrow (ty0 k) (.ref b) = .ref b ∧ fits (ty0 k) (.ref b) = true) (kk : vJ Y fr lo nE sx (pc + 3) ls st n (upS sh a (setC (sh a) k (j + 2))) m P) : vJ Y fr lo nE sx pc ls (.ref j :: .ref a :: st) n sh m P := by
  intro p l e R s mi args below meth c D K ad A H0 H locs cells slots Cm Sm Q la hC hD hl hR
  obtain ⟨hx, hb, hml, hown, hts, hrt, hlk, hinit, hfr, hlo, hK, hXt⟩ := id hC
  obtain ⟨hP, hDd, hS, hA, hB, hn, hc1, hs1, hc2, hs2, hsx⟩ := id hD
  have he : (wld K ad sh m n)[a]? = some (ad a, .inr (ci, (List.range N).map (fun j => vsl ad (cs j) (m.1 a j)))) := by rw [wld_get ha, hs]; rfl
  refine va_putF (v := .ref (ad j)) hx hb hts hin ty0 hty hnm hown hK hP hDd hS a he hc k hk (hts _ hw) (fun _ h => h) hfin (hinit hi) hdecl (hty k hk) (hft _).1 (hft _).2 (by simpa using hk) hd (fun H1 locs1 hP1 hD1 hS1 => ?_)
  have e9 : (wld K ad sh m n).set a (ad a, .inr (ci, ((List.range N).map (fun j => vsl ad (cs j) (m.1 a j))).set k (.ref (ad j)))) = wld K ad (upS sh a (setC (sh a) k (j + 2))) m n := by
    refine wld_set ha ?_ (fun i hi => ⟨by simp [upS, hi], rfl, rfl⟩)
    have e8 : upS sh a (setC (sh a) k (j + 2)) a = (ci + 6, N, fun i => if i = k then j + 2 else cs i) := by
      simp [upS, setC, hs]
    rw [e8]
    show _ = Sum.inr (ci, _)
    rw [map_set_r (f' := fun i => vsl ad (if i = k then j + 2 else cs i) (m.1 a i))]
    · simp [vsl]
    · intro i hi
      simp [hi]
  rw [e9] at hP1 hD1
  exact kk p l e R s mi args below meth c D K ad A H0 H1 locs1 cells slots Cm Sm Q la hC ⟨hP1, hD1, hS1, hA, vRB_upS hB (fun x h => by omega), hn, hc1, hs1, hc2, hs2, hsx⟩ hl hR
theorem vJ.iald {a len : Nat} {cs : Nat → Nat} {i : Int32} (hd : decode Y.2.1 pc = .ok (.iaload, 1)) (hs : sh a = (0, len, cs)) (ha : a < n) (hi : vp_in i len)  (kk : vJ Y fr lo nE sx (pc + 1) ls (.int (m.1 a i.toNatClampNeg) :: st) n sh m P) : vJ Y fr lo nE sx pc ls (.int i :: .ref a :: st) n sh m P := by
  intro p l e R s mi args below meth c D K ad A H0 H locs cells slots Cm Sm Q la hC hD hl hR
  obtain ⟨hx, hb, hml, hown, hts, hrt, hlk, hinit, hfr, hlo, hK, hXt⟩ := id hC
  have he : (wld K ad sh m n)[a]? = some (ad a, .inl (K 0, len, .inl (m.1 a))) := by rw [wld_get ha, hs]; rfl
  exact va_iald hx hb hK hD.1 a 0 he rfl hi hd (kk p l e R s mi args below meth c D K ad A H0 H locs cells slots Cm Sm Q la hC hD hl hR)
theorem vJ.zald {a len : Nat} {cs : Nat → Nat} {i : Int32} (hd : decode Y.2.1 pc = .ok (.baload, 1)) (hs : sh a = (1, len, cs)) (ha : a < n) (hi : vp_in i len)  (kk : vJ Y fr lo nE sx (pc + 1) ls (.int (m.1 a i.toNatClampNeg) :: st) n sh m P) : vJ Y fr lo nE sx pc ls (.int i :: .ref a :: st) n sh m P := by
  intro p l e R s mi args below meth c D K ad A H0 H locs cells slots Cm Sm Q la hC hD hl hR
  obtain ⟨hx, hb, hml, hown, hts, hrt, hlk, hinit, hfr, hlo, hK, hXt⟩ := id hC
  have he : (wld K ad sh m n)[a]? = some (ad a, .inl (K 1, len, .inl (m.1 a))) := by rw [wld_get ha, hs]; rfl
  exact va_zald hx hb hK hD.1 a 1 he rfl hi hd (kk p l e R s mi args below meth c D K ad A H0 H locs cells slots Cm Sm Q la hC hD hl hR)
theorem vJ.lald {a len : Nat} {cs : Nat → Nat} {i : Int32} (hd : decode Y.2.1 pc = .ok (.laload, 1)) (hs : sh a = (2, len, cs)) (ha : a < n) (hi : vp_in i len)  (kk : vJ Y fr lo nE sx (pc + 1) ls (.long (m.2 a i.toNatClampNeg) :: st) n sh m P) : vJ Y fr lo nE sx pc ls (.int i :: .ref a :: st) n sh m P := by
  intro p l e R s mi args below meth c D K ad A H0 H locs cells slots Cm Sm Q la hC hD hl hR
  obtain ⟨hx, hb, hml, hown, hts, hrt, hlk, hinit, hfr, hlo, hK, hXt⟩ := id hC
  have he : (wld K ad sh m n)[a]? = some (ad a, .inl (K 2, len, .inr (.inl (m.2 a)))) := by rw [wld_get ha, hs]; rfl
  exact va_lald hx hb hK hD.1 a 2 he rfl hi hd (kk p l e R s mi args below meth c D K ad A H0 H locs cells slots Cm Sm Q la hC hD hl hR)
theorem vJ.aaldS {a len j : Nat} {cs : Nat → Nat} {i : Int32} (hd : decode Y.2.1 pc = .ok (.aaload, 1)) (hs : sh a = (3, len, cs)) (ha : a < n) (hi : vp_in i len) (hcs : cs i.toNatClampNeg = j + 2) (kk : vJ Y fr lo nE sx (pc + 1) ls (.ref j :: st) n sh m P) : vJ Y fr lo nE sx pc ls (.int i :: .ref a :: st) n sh m P := by
  intro p l e R s mi args below meth c D K ad A H0 H locs cells slots Cm Sm Q la hC hD hl hR
  obtain ⟨hx, hb, hml, hown, hts, hrt, hlk, hinit, hfr, hlo, hK, hXt⟩ := id hC
  have he : (wld K ad sh m n)[a]? = some (ad a, .inl (K 3, len, .inr (.inr (.inr (.inr (fun j => vrq ad (cs j))))))) := by rw [wld_get ha, hs]; rfl
  refine va_aldq hx hb hK hD.1 a 3 he rfl hi hd ?_
  show W p l e R s mi args below meth c H locs cells slots Q (F0 mi (pc + 1) la (va_rf (vrq ad (cs i.toNatClampNeg)) :: st.map (vtr ad)))
  rw [hcs]
  exact kk p l e R s mi args below meth c D K ad A H0 H locs cells slots Cm Sm Q la hC hD hl hR
theorem vJ.aald5 {a len j : Nat} {cs : Nat → Nat} {i : Int32} (hd : decode Y.2.1 pc = .ok (.aaload, 1)) (hs : sh a = (5, len, cs)) (ha : a < n) (hi : vp_in i len) (hcs : cs i.toNatClampNeg = j + 2) (kk : vJ Y fr lo nE sx (pc + 1) ls (.ref j :: st) n sh m P) : vJ Y fr lo nE sx pc ls (.int i :: .ref a :: st) n sh m P := by
  intro p l e R s mi args below meth c D K ad A H0 H locs cells slots Cm Sm Q la hC hD hl hR
  obtain ⟨hx, hb, hml, hown, hts, hrt, hlk, hinit, hfr, hlo, hK, hXt⟩ := id hC
  have he : (wld K ad sh m n)[a]? = some (ad a, .inl (K 4, len, .inr (.inr (.inr (.inr (fun j => vrq ad (cs j))))))) := by rw [wld_get ha, hs]; rfl
  have hlt : i.toNatClampNeg < len := Nat.not_le.mp fun q => hi (Or.inr q)
  refine W.aald (v := va_rf (vrq ad (cs i.toNatClampNeg))) (ty := .array .int) hx hb (hD.1 a _ he) ((hK.2 4 _ rfl).1 len (fun j => va_rf (vrq ad (cs j)))) rfl (fun q => by cases q) (by show ¬ (i < 0 ∨ (arrV _ _ _).slots.size ≤ _); rw [arrV_size]; exact hi) (by show (arrV _ _ _).slots[_]? = _; rw [arrV_read _ _ hlt]) rfl rfl hd ?_
  show W p l e R s mi args below meth c H locs cells slots Q (F0 mi (pc + 1) la (va_rf (vrq ad (cs i.toNatClampNeg)) :: st.map (vtr ad)))
  rw [hcs]
  exact kk p l e R s mi args below meth c D K ad A H0 H locs cells slots Cm Sm Q la hC hD hl hR
theorem vJ.aaldD0 {a len : Nat} {cs : Nat → Nat} {i : Int32} (hd : decode Y.2.1 pc = .ok (.aaload, 1)) (hs : sh a = (4, len, cs)) (ha : a < n) (hi : vp_in i len) (hv : m.1 a i.toNatClampNeg = 0) (kk : vJ Y fr lo nE sx (pc + 1) ls (.null :: st) n sh m P) : vJ Y fr lo nE sx pc ls (.int i :: .ref a :: st) n sh m P := by
  intro p l e R s mi args below meth c D K ad A H0 H locs cells slots Cm Sm Q la hC hD hl hR
  obtain ⟨hx, hb, hml, hown, hts, hrt, hlk, hinit, hfr, hlo, hK, hXt⟩ := id hC
  have he : (wld K ad sh m n)[a]? = some (ad a, .inl (K 3, len, .inr (.inr (.inr (.inr (fun j => vdq ad (m.1 a j))))))) := by rw [wld_get ha, hs]; rfl
  refine va_aldq hx hb hK hD.1 a 3 he rfl hi hd ?_
  show W p l e R s mi args below meth c H locs cells slots Q (F0 mi (pc + 1) la (va_rf (vdq ad (m.1 a i.toNatClampNeg)) :: st.map (vtr ad)))
  rw [show vdq ad (m.1 a i.toNatClampNeg) = none by unfold vdq; rw [if_pos hv]]
  exact kk p l e R s mi args below meth c D K ad A H0 H locs cells slots Cm Sm Q la hC hD hl hR
theorem vJ.aaldD1 {a len j : Nat} {cs : Nat → Nat} {i : Int32} (hd : decode Y.2.1 pc = .ok (.aaload, 1)) (hs : sh a = (4, len, cs)) (ha : a < n) (hi : vp_in i len) (hv : ¬ m.1 a i.toNatClampNeg = 0) (hj : (m.1 a i.toNatClampNeg).toNatClampNeg - 1 = j) (kk : vJ Y fr lo nE sx (pc + 1) ls (.ref j :: st) n sh m P) : vJ Y fr lo nE sx pc ls (.int i :: .ref a :: st) n sh m P := by
  intro p l e R s mi args below meth c D K ad A H0 H locs cells slots Cm Sm Q la hC hD hl hR
  obtain ⟨hx, hb, hml, hown, hts, hrt, hlk, hinit, hfr, hlo, hK, hXt⟩ := id hC
  have he : (wld K ad sh m n)[a]? = some (ad a, .inl (K 3, len, .inr (.inr (.inr (.inr (fun j => vdq ad (m.1 a j))))))) := by rw [wld_get ha, hs]; rfl
  refine va_aldq hx hb hK hD.1 a 3 he rfl hi hd ?_
  show W p l e R s mi args below meth c H locs cells slots Q (F0 mi (pc + 1) la (va_rf (vdq ad (m.1 a i.toNatClampNeg)) :: st.map (vtr ad)))
  rw [show vdq ad (m.1 a i.toNatClampNeg) = some (ad j) by unfold vdq; rw [if_neg hv, hj]]
  exact kk p l e R s mi args below meth c D K ad A H0 H locs cells slots Cm Sm Q la hC hD hl hR
theorem vJ.alen0 {a len : Nat} {cs : Nat → Nat} {v : Int32} (hd : decode Y.2.1 pc = .ok (.arraylength, 1)) (hs : sh a = (0, len, cs)) (ha : a < n) (hv : Int32.ofNat len = v) (kk : vJ Y fr lo nE sx (pc + 1) ls (.int v :: st) n sh m P) : vJ Y fr lo nE sx pc ls (.ref a :: st) n sh m P := by
  intro p l e R s mi args below meth c D K ad A H0 H locs cells slots Cm Sm Q la hC hD hl hR
  obtain ⟨hx, hb, hml, hown, hts, hrt, hlk, hinit, hfr, hlo, hK, hXt⟩ := id hC
  have he : (wld K ad sh m n)[a]? = some (ad a, .inl (K 0, len, .inl (m.1 a))) := by rw [wld_get ha, hs]; rfl
  exact va_alen hx hb hK hD.1 a 0 he rfl hv hd (kk p l e R s mi args below meth c D K ad A H0 H locs cells slots Cm Sm Q la hC hD hl hR)
theorem vJ.alen3 {a len : Nat} {cs : Nat → Nat} {v : Int32} (hd : decode Y.2.1 pc = .ok (.arraylength, 1)) (hs : sh a = (3, len, cs)) (ha : a < n) (hv : Int32.ofNat len = v) (kk : vJ Y fr lo nE sx (pc + 1) ls (.int v :: st) n sh m P) : vJ Y fr lo nE sx pc ls (.ref a :: st) n sh m P := by
  intro p l e R s mi args below meth c D K ad A H0 H locs cells slots Cm Sm Q la hC hD hl hR
  obtain ⟨hx, hb, hml, hown, hts, hrt, hlk, hinit, hfr, hlo, hK, hXt⟩ := id hC
  have he : (wld K ad sh m n)[a]? = some (ad a, .inl (K 3, len, .inr (.inr (.inr (.inr (fun j => vrq ad (cs j))))))) := by rw [wld_get ha, hs]; rfl
  exact va_alen hx hb hK hD.1 a 3 he rfl hv hd (kk p l e R s mi args below meth c D K ad A H0 H locs cells slots Cm Sm Q la hC hD hl hR)
theorem vJ.alen4 {a len : Nat} {cs : Nat → Nat} {v : Int32} (hd : decode Y.2.1 pc = .ok (.arraylength, 1)) (hs : sh a = (4, len, cs)) (ha : a < n) (hv : Int32.ofNat len = v) (kk : vJ Y fr lo nE sx (pc + 1) ls (.int v :: st) n sh m P) : vJ Y fr lo nE sx pc ls (.ref a :: st) n sh m P := by
  intro p l e R s mi args below meth c D K ad A H0 H locs cells slots Cm Sm Q la hC hD hl hR
  obtain ⟨hx, hb, hml, hown, hts, hrt, hlk, hinit, hfr, hlo, hK, hXt⟩ := id hC
  have he : (wld K ad sh m n)[a]? = some (ad a, .inl (K 3, len, .inr (.inr (.inr (.inr (fun j => vdq ad (m.1 a j))))))) := by rw [wld_get ha, hs]; rfl
  exact va_alen hx hb hK hD.1 a 3 he rfl hv hd (kk p l e R s mi args below meth c D K ad A H0 H locs cells slots Cm Sm Q la hC hD hl hR)
theorem vJ.iast {a len : Nat} {cs : Nat → Nat} {i x : Int32} (hd : decode Y.2.1 pc = .ok (.iastore, 1)) (hs : sh a = (0, len, cs)) (ha : a < n) (hi : vp_in i len) (kk : vJ Y fr lo nE sx (pc + 1) ls st n sh (upI m a i.toNatClampNeg x) P) : vJ Y fr lo nE sx pc ls (.int x :: .int i :: .ref a :: st) n sh m P := by
  intro p l e R s mi args below meth c D K ad A H0 H locs cells slots Cm Sm Q la hC hD hl hR
  obtain ⟨hx, hb, hml, hown, hts, hrt, hlk, hinit, hfr, hlo, hK, hXt⟩ := id hC
  obtain ⟨hP, hDd, hS, hA, hB, hn, hc1, hs1, hc2, hs2, hsx⟩ := id hD
  have he : (wld K ad sh m n)[a]? = some (ad a, .inl (K 0, len, .inl (m.1 a))) := by rw [wld_get ha, hs]; rfl
  refine va_iast hx hb hK hP hDd hS a 0 he rfl hi hd (fun H1 locs1 hP1 hD1 hS1 => ?_)
  have e9 : (wld K ad sh m n).set a (ad a, .inl (K 0, len, .inl (upd (m.1 a) i.toNatClampNeg x))) = wld K ad sh (upI m a i.toNatClampNeg x) n := by
    refine wld_set ha ?_ (fun j hj => ⟨rfl, upI_o m a _ j x hj, rfl⟩)
    rw [hs]
    show _ = Sum.inl (K 0, len, Sum.inl ((upI m a i.toNatClampNeg x).1 a))
    simp [upI]
  rw [e9] at hP1 hD1
  exact kk p l e R s mi args below meth c D K ad A H0 H1 locs1 cells slots Cm Sm Q la hC ⟨hP1, hD1, hS1, hA, vRB_upI hB (fun h4 => by rw [hs] at h4; exact absurd h4 (by show ¬ (0 : Nat) = 4; omega)), hn, hc1, hs1, hc2, hs2, hsx⟩ hl hR
theorem vJ.zast {a len : Nat} {cs : Nat → Nat} {i x : Int32} (hd : decode Y.2.1 pc = .ok (.bastore, 1)) (hs : sh a = (1, len, cs)) (ha : a < n) (hi : vp_in i len) (hx0 : vp_nar .boolean x = x) (kk : vJ Y fr lo nE sx (pc + 1) ls st n sh (upI m a i.toNatClampNeg x) P) : vJ Y fr lo nE sx pc ls (.int x :: .int i :: .ref a :: st) n sh m P := by
  intro p l e R s mi args below meth c D K ad A H0 H locs cells slots Cm Sm Q la hC hD hl hR
  obtain ⟨hx, hb, hml, hown, hts, hrt, hlk, hinit, hfr, hlo, hK, hXt⟩ := id hC
  obtain ⟨hP, hDd, hS, hA, hB, hn, hc1, hs1, hc2, hs2, hsx⟩ := id hD
  have he : (wld K ad sh m n)[a]? = some (ad a, .inl (K 1, len, .inl (m.1 a))) := by rw [wld_get ha, hs]; rfl
  refine va_zast hx hb hK hP hDd hS a 1 he rfl hi hd (fun H1 locs1 hP1 hD1 hS1 => ?_)
  rw [hx0] at hP1 hD1
  have e9 : (wld K ad sh m n).set a (ad a, .inl (K 1, len, .inl (upd (m.1 a) i.toNatClampNeg x))) = wld K ad sh (upI m a i.toNatClampNeg x) n := by
    refine wld_set ha ?_ (fun j hj => ⟨rfl, upI_o m a _ j x hj, rfl⟩)
    rw [hs]
    show _ = Sum.inl (K 1, len, Sum.inl ((upI m a i.toNatClampNeg x).1 a))
    simp [upI]
  rw [e9] at hP1 hD1
  exact kk p l e R s mi args below meth c D K ad A H0 H1 locs1 cells slots Cm Sm Q la hC ⟨hP1, hD1, hS1, hA, vRB_upI hB (fun h4 => by rw [hs] at h4; exact absurd h4 (by show ¬ (1 : Nat) = 4; omega)), hn, hc1, hs1, hc2, hs2, hsx⟩ hl hR
theorem vJ.last {a len : Nat} {cs : Nat → Nat} {i : Int32} {x : Int64} (hd : decode Y.2.1 pc = .ok (.lastore, 1)) (hs : sh a = (2, len, cs)) (ha : a < n) (hi : vp_in i len) (kk : vJ Y fr lo nE sx (pc + 1) ls st n sh (upL m a i.toNatClampNeg x) P) : vJ Y fr lo nE sx pc ls (.long x :: .int i :: .ref a :: st) n sh m P := by
  intro p l e R s mi args below meth c D K ad A H0 H locs cells slots Cm Sm Q la hC hD hl hR
  obtain ⟨hx, hb, hml, hown, hts, hrt, hlk, hinit, hfr, hlo, hK, hXt⟩ := id hC
  obtain ⟨hP, hDd, hS, hA, hB, hn, hc1, hs1, hc2, hs2, hsx⟩ := id hD
  have he : (wld K ad sh m n)[a]? = some (ad a, .inl (K 2, len, .inr (.inl (m.2 a)))) := by rw [wld_get ha, hs]; rfl
  refine va_last hx hb hK hP hDd hS a 2 he rfl hi hd (fun H1 locs1 hP1 hD1 hS1 => ?_)
  have e9 : (wld K ad sh m n).set a (ad a, .inl (K 2, len, .inr (.inl (vp_updL (m.2 a) i.toNatClampNeg x)))) = wld K ad sh (upL m a i.toNatClampNeg x) n := by
    refine wld_set ha ?_ (fun j hj => ⟨rfl, rfl, by simp [upL, hj]⟩)
    rw [hs]
    show _ = Sum.inl (K 2, len, Sum.inr (Sum.inl ((upL m a i.toNatClampNeg x).2 a)))
    simp [upL]
  rw [e9] at hP1 hD1
  exact kk p l e R s mi args below meth c D K ad A H0 H1 locs1 cells slots Cm Sm Q la hC ⟨hP1, hD1, hS1, hA, vRB_of1 hB (fun k _ => rfl), hn, hc1, hs1, hc2, hs2, hsx⟩ hl hR
theorem vdq_some {ad : Nat → Nat} {v : Nat} (h : v < 1000000) : vdq ad (nI (v + 1)) = some (ad v) := by
  unfold vdq
  rw [if_neg (nI_ne0 (by omega) (by omega)), nI_clamp (by omega)]
  rfl
theorem vJ.aastD {a len v cN : Nat} {cs cv : Nat → Nat} {i : Int32} (hd : decode Y.2.1 pc = .ok (.aastore, 1)) (hs : sh a = (4, len, cs)) (ha : a < n) (hv : v < n) (hn0 : v < 1000000) (hsv : sh v = (6, cN, cv)) (hi : vp_in i len) (kk : vJ Y fr lo nE sx (pc + 1) ls st n sh (upI m a i.toNatClampNeg (nI (v + 1))) P) : vJ Y fr lo nE sx pc ls (.ref v :: .int i :: .ref a :: st) n sh m P := by
  intro p l e R s mi args below meth c D K ad A H0 H locs cells slots Cm Sm Q la hC hD hl hR
  obtain ⟨hx, hb, hml, hown, hts, hrt, hlk, hinit, hfr, hlo, hK, hXt⟩ := id hC
  obtain ⟨hP, hDd, hS, hA, hB, hn, hc1, hs1, hc2, hs2, hsx⟩ := id hD
  have he : (wld K ad sh m n)[a]? = some (ad a, .inl (K 3, len, .inr (.inr (.inr (.inr (fun j => vdq ad (m.1 a j))))))) := by rw [wld_get ha, hs]; rfl
  have hev : (wld K ad sh m n)[v]? = some (ad v, .inr (0, (List.range cN).map (fun j => vsl ad (cv j) (m.1 v j)))) := by rw [wld_get hv, hsv]; rfl
  refine va_astq hx hb hK hP hDd hS a 3 v 0 (r := (RX0, TX0, 11)) he rfl hev rfl hi hd (fun H1 locs1 hP1 hD1 hS1 => ?_)
  have e9 : (wld K ad sh m n).set a (ad a, .inl (K 3, len, .inr (.inr (.inr (.inr (va_up (fun j => vdq ad (m.1 a j)) i.toNatClampNeg (some (ad v)))))))) = wld K ad sh (upI m a i.toNatClampNeg (nI (v + 1))) n := by
    refine wld_set ha ?_ (fun j hj => ⟨rfl, upI_o m a _ j _ hj, rfl⟩)
    rw [hs]
    show _ = Sum.inl (K 3, len, Sum.inr (Sum.inr (Sum.inr (Sum.inr (fun j => vdq ad ((upI m a i.toNatClampNeg (nI (v + 1))).1 a j))))))
    have e7 : va_up (fun j => vdq ad (m.1 a j)) i.toNatClampNeg (some (ad v)) = fun j => vdq ad ((upI m a i.toNatClampNeg (nI (v + 1))).1 a j) := by
      funext j
      rw [upI_r]
      by_cases hj : j = i.toNatClampNeg
      · simp [va_up, hj, vdq_some hn0]
      · simp [va_up, hj]
    rw [e7]
  rw [e9] at hP1 hD1
  exact kk p l e R s mi args below meth c D K ad A H0 H1 locs1 cells slots Cm Sm Q la hC ⟨hP1, hD1, hS1, hA, vRB_upI hB (fun _ => Or.inr (by rw [nI_clamp (by omega)]; omega)), hn, hc1, hs1, hc2, hs2, hsx⟩ hl hR
theorem vJ.aastS {a len v cN : Nat} {cs cv : Nat → Nat} {i : Int32} (hd : decode Y.2.1 pc = .ok (.aastore, 1)) (hs : sh a = (3, len, cs)) (ha : a < n) (hv : v < n) (hsv : sh v = (6, cN, cv)) (hi : vp_in i len) (kk : vJ Y fr lo nE sx (pc + 1) ls st n (upS sh a (setC (sh a) i.toNatClampNeg (v + 2))) m P) : vJ Y fr lo nE sx pc ls (.ref v :: .int i :: .ref a :: st) n sh m P := by
  intro p l e R s mi args below meth c D K ad A H0 H locs cells slots Cm Sm Q la hC hD hl hR
  obtain ⟨hx, hb, hml, hown, hts, hrt, hlk, hinit, hfr, hlo, hK, hXt⟩ := id hC
  obtain ⟨hP, hDd, hS, hA, hB, hn, hc1, hs1, hc2, hs2, hsx⟩ := id hD
  have he : (wld K ad sh m n)[a]? = some (ad a, .inl (K 3, len, .inr (.inr (.inr (.inr (fun j => vrq ad (cs j))))))) := by rw [wld_get ha, hs]; rfl
  have hev : (wld K ad sh m n)[v]? = some (ad v, .inr (0, (List.range cN).map (fun j => vsl ad (cv j) (m.1 v j)))) := by rw [wld_get hv, hsv]; rfl
  refine va_astq hx hb hK hP hDd hS a 3 v 0 (r := (RX0, TX0, 11)) he rfl hev rfl hi hd (fun H1 locs1 hP1 hD1 hS1 => ?_)
  have e9 : (wld K ad sh m n).set a (ad a, .inl (K 3, len, .inr (.inr (.inr (.inr (va_up (fun j => vrq ad (cs j)) i.toNatClampNeg (some (ad v)))))))) = wld K ad (upS sh a (setC (sh a) i.toNatClampNeg (v + 2))) m n := by
    refine wld_set ha ?_ (fun j hj => ⟨by simp [upS, hj], rfl, rfl⟩)
    have e8 : upS sh a (setC (sh a) i.toNatClampNeg (v + 2)) a = (3, len, fun j => if j = i.toNatClampNeg then v + 2 else cs j) := by
      simp [upS, setC, hs]
    rw [e8]
    show _ = Sum.inl (K 3, len, Sum.inr (Sum.inr (Sum.inr (Sum.inr (fun j => vrq ad (if j = i.toNatClampNeg then v + 2 else cs j))))))
    have e7 : va_up (fun j => vrq ad (cs j)) i.toNatClampNeg (some (ad v)) = fun j => vrq ad (if j = i.toNatClampNeg then v + 2 else cs j) := by
      funext j
      by_cases hj : j = i.toNatClampNeg
      · simp [va_up, hj, vrq]
      · simp [va_up, hj]
    rw [e7]
  rw [e9] at hP1 hD1
  exact kk p l e R s mi args below meth c D K ad A H0 H1 locs1 cells slots Cm Sm Q la hC ⟨hP1, hD1, hS1, hA, vRB_upS hB (fun x h => by omega), hn, hc1, hs1, hc2, hs2, hsx⟩ hl hR
theorem vJ.acopy {index a a0 len len0 : Nat} {cs cs0 : Nat → Nat} {sp dp q : Int32} (hd : decode Y.2.1 pc = .ok (.invokestatic index, 3)) (hs : sh a = (0, len, cs)) (hs0 : sh a0 = (0, len0, cs0)) (ha : a < n) (ha0 : a0 < n) (h1 : ¬ sp < 0) (h2 : ¬ dp < 0) (h3 : ¬ q < 0) (h4 : sp.toNatClampNeg + q.toNatClampNeg ≤ len0) (h5 : dp.toNatClampNeg + q.toNatClampNeg ≤ len) (hw : Cond.methodLink Y.1.cls index arraycopyName ∈ vtb) (hw2 : Cond.native arraycopyName ∈ vtb) (hw3 : Cond.static arraycopyName ∈ vtb) (hw4 : Cond.initialized "java/lang/System" ∈ vtb) (hf : 1 ≤ fr) (ho : vcat st + (nativeFrameWords "java/lang/System" "arraycopy" 5 + 11) ≤ lo) (kk : vJ Y fr lo nE sx (pc + 3) ls st n sh (upA m a (va_cpy (m.1 a0) (m.1 a) sp.toNatClampNeg dp.toNatClampNeg q.toNatClampNeg)) P) : vJ Y fr lo nE sx pc ls (.int q :: .int dp :: .ref a :: .int sp :: .ref a0 :: st) n sh m P := by
  intro p l e R s mi args below meth c D K ad A H0 H locs cells slots Cm Sm Q la hC hD hl hR
  obtain ⟨hx, hb, hml, hown, hts, hrt, hlk, hinit, hfr, hlo, hK, hXt⟩ := id hC
  obtain ⟨hP, hDd, hS, hA, hB, hn, hc1, hs1, hc2, hs2, hsx⟩ := id hD
  have he : (wld K ad sh m n)[a]? = some (ad a, .inl (K 0, len, .inl (m.1 a))) := by rw [wld_get ha, hs]; rfl
  have he0 : (wld K ad sh m n)[a0]? = some (ad a0, .inl (K 0, len0, .inl (m.1 a0))) := by rw [wld_get ha0, hs0]; rfl
  refine va_copyi hx hb (hml.trans hl.1.symm) hown (hts _ hw) (hts _ hw2) (hts _ hw3) (hts _ hw4) hK hP hDd hS a0 a 0 0 he0 he rfl rfl rfl h1 h2 h3 h4 h5 (fun i _ => rfl) (by omega) (by rw [vcat_tr]; omega) hd (fun H1 locs1 hP1 hD1 hS1 => ?_)
  have e9 : (wld K ad sh m n).set a (ad a, .inl (K 0, len, .inl (va_cpy (m.1 a0) (m.1 a) sp.toNatClampNeg dp.toNatClampNeg q.toNatClampNeg))) = wld K ad sh (upA m a (va_cpy (m.1 a0) (m.1 a) sp.toNatClampNeg dp.toNatClampNeg q.toNatClampNeg)) n := by
    refine wld_set ha ?_ (fun j hj => ⟨rfl, by simp [upA, hj], rfl⟩)
    rw [hs]
    show _ = Sum.inl (K 0, len, Sum.inl ((upA m a _).1 a))
    simp [upA]
  rw [e9] at hP1 hD1
  exact kk p l e R s mi args below meth c D K ad A H0 H1 locs1 cells slots Cm Sm Q la hC ⟨hP1, hD1, hS1, hA, vRB_of1 hB (fun k h4 => by
    have : k ≠ a := fun q => by rw [q, hs] at h4; exact absurd h4 (by show ¬ (0 : Nat) = 4; omega)
    simp [upA, this]), hn, hc1, hs1, hc2, hs2, hsx⟩ hl hR
theorem vJ.mmax {index : Nat} {x y : Int32} (hd : decode Y.2.1 pc = .ok (.invokestatic index, 3)) (hw : Cond.methodLink Y.1.cls index Lib.Math.max.name ∈ vtb) (hw2 : Cond.static Lib.Math.max.name ∈ vtb) (hw3 : Cond.initialized "java/lang/Math" ∈ vtb) (hw4 : Cond.code Lib.Math.max.name Lib.Math.max.code 2 (some .int) ∈ vtb) (hf : 1 ≤ fr) (ho : vcat st + 13 ≤ lo) (kk : vJ Y fr lo nE sx (pc + 3) ls (.int (if x < y then y else x) :: st) n sh m P) : vJ Y fr lo nE sx pc ls (.int y :: .int x :: st) n sh m P := by
  intro p l e R s mi args below meth c D K ad A H0 H locs cells slots Cm Sm Q la hC hD hl hR
  obtain ⟨hx, hb, hml, hown, hts, hrt, hlk, hinit, hfr, hlo, hK, hXt⟩ := id hC
  obtain ⟨hP, hDd, hS, hA, hB, hn, hc1, hs1, hc2, hs2, hsx⟩ := id hD
  exact va_mmax hx hb (hml.trans hl.1.symm) hown (hts _ hw) (hts _ hw2) (hts _ hw3) (hts _ hw4) (by omega) (by rw [vcat_tr]; omega) (by omega) (by omega) hd (kk p l e R s mi args below meth c D K ad A H0 H locs cells slots Cm Sm Q la hC hD hl hR)
theorem vJ.mmin {index : Nat} {x y : Int32} (hd : decode Y.2.1 pc = .ok (.invokestatic index, 3)) (hw : Cond.methodLink Y.1.cls index Lib.Math.min.name ∈ vtb) (hw2 : Cond.static Lib.Math.min.name ∈ vtb) (hw3 : Cond.initialized "java/lang/Math" ∈ vtb) (hw4 : Cond.code Lib.Math.min.name Lib.Math.min.code 2 (some .int) ∈ vtb) (hf : 1 ≤ fr) (ho : vcat st + 13 ≤ lo) (kk : vJ Y fr lo nE sx (pc + 3) ls (.int (if y < x then y else x) :: st) n sh m P) : vJ Y fr lo nE sx pc ls (.int y :: .int x :: st) n sh m P := by
  intro p l e R s mi args below meth c D K ad A H0 H locs cells slots Cm Sm Q la hC hD hl hR
  obtain ⟨hx, hb, hml, hown, hts, hrt, hlk, hinit, hfr, hlo, hK, hXt⟩ := id hC
  obtain ⟨hP, hDd, hS, hA, hB, hn, hc1, hs1, hc2, hs2, hsx⟩ := id hD
  exact va_mmin hx hb (hml.trans hl.1.symm) hown (hts _ hw) (hts _ hw2) (hts _ hw3) (hts _ hw4) (by omega) (by rw [vcat_tr]; omega) (by omega) (by omega) hd (kk p l e R s mi args below meth c D K ad A H0 H locs cells slots Cm Sm Q la hC hD hl hR)
theorem vJ.objInit {index a : Nat} (hd : decode Y.2.1 pc = .ok (.invokespecial index, 3)) (hw : Cond.methodLink Y.1.cls index objectInit ∈ vtb) (hw2 : Cond.instanceMethod objectInit ∈ vtb) (hw3 : Cond.code objectInit ⟨#[0xb1]⟩ 1 none ∈ vtb) (hf : 1 ≤ fr) (ho : vcat st + 12 ≤ lo) (kk : vJ Y fr lo nE sx (pc + 3) ls st n sh m P) : vJ Y fr lo nE sx pc ls (.ref a :: st) n sh m P := by
  intro p l e R s mi args below meth c D K ad A H0 H locs cells slots Cm Sm Q la hC hD hl hR
  obtain ⟨hx, hb, hml, hown, hts, hrt, hlk, hinit, hfr, hlo, hK, hXt⟩ := id hC
  refine W.objInit hx hb hown (hts _ hw) (hts _ hw2) (hts _ hw3) rfl (by show la.size = _; rw [hml]; exact hl.1) rfl hd (by omega) ?_ (kk p l e R s mi args below meth c D K ad A H0 H locs cells slots Cm Sm Q la hC hD hl hR)
  have h9 := lv_room (m := mi) (pc := pc) (ls := la) (rest := st.map (vtr ad)) (st := []) (by simp)
  have h8 := vcat_tr ad st
  show 2 * (F0 mi pc la ((Value.ref (ad a)) :: st.map (vtr ad))).monitorRoom + _ + 12 ≤ _
  have h7 : (F0 mi pc la ((Value.ref (ad a)) :: st.map (vtr ad))).monitorRoom = 0 := rfl
  rw [h7, h8]
  omega
theorem vJ.ireturn {x : Int32} {ty : FieldType} (hd : decode Y.2.1 pc = .ok (.ireturn, 1)) (hr : Y.2.2.2 = some ty) (hnr : narrow ty (.int x) = .int x) (hE : nE = n) (hp : P (some (.int x)) sh m) : vJ Y fr lo nE sx pc ls [.int x] n sh m P := by
  intro p l e R s mi args below meth c D K ad A H0 H locs cells slots Cm Sm Q la hC hD hl hR
  subst hE
  exact hR (some (.int x)) sh m ad H locs cells slots la pc (Or.inr (Or.inl ⟨x, rfl, hd, ty, hr, hnr⟩)) hp (fun _ _ => rfl) (fun _ => rfl) hD
theorem vJ.lreturn {x : Int64} (hd : decode Y.2.1 pc = .ok (.lreturn, 1)) (hr : Y.2.2.2 = some .long) (hE : nE = n) (hp : P (some (.long x)) sh m) : vJ Y fr lo nE sx pc ls [.long x] n sh m P := by
  intro p l e R s mi args below meth c D K ad A H0 H locs cells slots Cm Sm Q la hC hD hl hR
  subst hE
  exact hR (some (.long x)) sh m ad H locs cells slots la pc (Or.inr (Or.inr (Or.inl ⟨x, rfl, hd, hr⟩))) hp (fun _ _ => rfl) (fun _ => rfl) hD
theorem vJ.areturn {v : Value} {C : String} (hd : decode Y.2.1 pc = .ok (.areturn, 1)) (hr : Y.2.2.2 = some (.object C)) (hv : v = .null ∨ ∃ a, v = .ref a) (hE : nE = n) (hp : P (some v) sh m) : vJ Y fr lo nE sx pc ls [v] n sh m P := by
  intro p l e R s mi args below meth c D K ad A H0 H locs cells slots Cm Sm Q la hC hD hl hR
  subst hE
  exact hR (some v) sh m ad H locs cells slots la pc (Or.inr (Or.inr (Or.inr ⟨v, C, rfl, hd, hr, hv⟩))) hp (fun _ _ => rfl) (fun _ => rfl) hD
theorem vJ.vreturn (hd : decode Y.2.1 pc = .ok (.return_, 1)) (hr : Y.2.2.2 = none) (hE : nE = n) (hp : P none sh m) : vJ Y fr lo nE sx pc ls [] n sh m P := by
  intro p l e R s mi args below meth c D K ad A H0 H locs cells slots Cm Sm Q la hC hD hl hR
  subst hE
  exact hR none sh m ad H locs cells slots la pc (Or.inl ⟨rfl, hd, hr⟩) hp (fun _ _ => rfl) (fun _ => rfl) hD
theorem vJ.sld {L : Nat} {xs : Nat → Int32} {i : Int32} (hsx0 : sx = some (L, xs)) (hd : decode Y.2.1 pc = .ok (.iaload, 1)) (hi : vp_in i L) (kk : vJ Y fr lo nE sx (pc + 1) ls (.int (xs i.toNatClampNeg) :: st) n sh m P) : vJ Y fr lo nE sx pc ls (.int i :: .ref vsN :: st) n sh m P := by
  intro p l e R s mi args below meth c D K ad A H0 H locs cells slots Cm Sm Q la hC hD hl hR
  obtain ⟨hx, hb, hml, hown, hts, hrt, hlk, hinit, hfr, hlo, hK, hXt⟩ := id hC
  obtain ⟨hP, hDd, hS, hA, hB, hn, hc1, hs1, hc2, hs2, hsx⟩ := id hD
  obtain ⟨h1, h2, h3⟩ := hsx L xs hsx0
  exact va_sld hx hb h1 h2 h3 hS hi hd (kk p l e R s mi args below meth c D K ad A H0 H locs cells slots Cm Sm Q la hC hD hl hR)
theorem vJ.slen {L : Nat} {xs : Nat → Int32} (hsx0 : sx = some (L, xs)) (hd : decode Y.2.1 pc = .ok (.arraylength, 1)) (kk : vJ Y fr lo nE sx (pc + 1) ls (.int (Int32.ofNat L) :: st) n sh m P) : vJ Y fr lo nE sx pc ls (.ref vsN :: st) n sh m P := by
  intro p l e R s mi args below meth c D K ad A H0 H locs cells slots Cm Sm Q la hC hD hl hR
  obtain ⟨hx, hb, hml, hown, hts, hrt, hlk, hinit, hfr, hlo, hK, hXt⟩ := id hC
  obtain ⟨hP, hDd, hS, hA, hB, hn, hc1, hs1, hc2, hs2, hsx⟩ := id hD
  obtain ⟨h1, h2, h3⟩ := hsx L xs hsx0
  exact va_slen hx hb h1 h2 h3 hS hd (kk p l e R s mi args below meth c D K ad A H0 H locs cells slots Cm Sm Q la hC hD hl hR)
end VM1
end
section
def vrf (n : Nat) (v : Value) : Prop := ∀ k, v = .ref k → k < n ∨ k = vsN
def vOK (n : Nat) (ls : List (Nat × Value)) (st : List Value) : Prop := (∀ q ∈ ls, vrf n q.2) ∧ ∀ v ∈ st, vrf n v
theorem vrf_ref {n k : Nat} (h : k < n) : vrf n (.ref k) := fun j hj => by cases hj; exact Or.inl h
theorem vrf_int {n : Nat} {x : Int32} : vrf n (.int x) := fun _ h => by cases h
theorem vrf_long {n : Nat} {x : Int64} : vrf n (.long x) := fun _ h => by cases h
theorem vrf_null {n : Nat} : vrf n .null := fun _ h => by cases h
theorem vrf_sN {n : Nat} : vrf n (.ref vsN) := fun j hj => by cases hj; exact Or.inr rfl
theorem fa_nil {α : Type} {p : α → Prop} : ∀ q ∈ ([] : List α), p q := fun _ h => by cases h
theorem fa_cons {α : Type} {p : α → Prop} {a : α} {l : List α} (h : p a) (t : ∀ q ∈ l, p q) : ∀ q ∈ a :: l, p q := fun q hq => by
  rcases List.mem_cons.mp hq with rfl | h1
  · exact h
  · exact t q h1
theorem vtr_ag {n : Nat} {ad ad' : Nat → Nat} {v : Value} (h : vAg n ad ad') (hv : vrf n v) : vtr ad' v = vtr ad v := by
  cases v with
  | ref k => simp only [vtr]; rw [h k (hv k rfl)]
  | _ => rfl
theorem vls_ag {n : Nat} {ad ad' : Nat → Nat} {ls : List (Nat × Value)} (h : vAg n ad ad') (hv : ∀ q ∈ ls, vrf n q.2) : vls ad' ls = vls ad ls := by
  unfold vls
  exact List.map_congr_left (fun q hq => by rw [vtr_ag h (hv q hq)])
theorem vst_ag {n : Nat} {ad ad' : Nat → Nat} {st : List Value} (h : vAg n ad ad') (hv : ∀ v ∈ st, vrf n v) : st.map (vtr ad') = st.map (vtr ad) := List.map_congr_left (fun q hq => vtr_ag h (hv q hq))
theorem vAg_up {n q : Nat} {ad : Nat → Nat} (hn : n < 1000000) : vAg n ad (va_up ad n q) := by
  intro k hk
  have : k ≠ n := by rcases hk with h | h <;> (try subst h) <;> (try unfold vsN) <;> omega
  simp [va_up, this]
theorem vAg_tr {n n' : Nat} {ad ad1 ad2 : Nat → Nat} (h1 : vAg n ad ad1) (h2 : vAg n' ad1 ad2) (h : n ≤ n') : vAg n ad ad2 := fun k hk => (h2 k (by rcases hk with h | h <;> omega)).trans (h1 k hk)
theorem vRB_new {n : Nat} {sh sh' : vSh} {m m' : vM} (hB : vRB n sh m) (ho : ∀ j, j < n → sh' j = sh j ∧ m'.1 j = m.1 j) (h1 : ∀ j x, (sh' n).2.2 j = x + 2 → x < n + 1) (h2 : (sh' n).1 = 4 → ∀ j, m'.1 n j = 0) : vRB (n + 1) sh' m' := by
  intro k hk
  by_cases hkn : k = n
  · subst hkn
    exact ⟨h1, fun h4 j => Or.inl (h2 h4 j)⟩
  · obtain ⟨e1, e2⟩ := ho k (by omega)
    rw [e1, e2]
    refine ⟨fun j x h => Nat.lt_succ_of_lt ((hB k (by omega)).1 j x h), fun h4 j => ?_⟩
    rcases (hB k (by omega)).2 h4 j with h | h
    · exact Or.inl h
    · exact Or.inr (Nat.lt_succ_of_lt h)
theorem vK_int {D : va_G} {K : Nat → ClassId} {s : State} {cA : ClassId} (h : va_K D vwCl (vtys K) s) (h' : va_K D vwCl (vtys K ++ [(cA, .int)]) s) : cA = K 0 := Option.some.inj ((h'.2 5 (cA, .int) rfl).2.symm.trans (h.2 0 _ rfl).2)
theorem vK_bool {D : va_G} {K : Nat → ClassId} {s : State} {cA : ClassId} (h : va_K D vwCl (vtys K) s) (h' : va_K D vwCl (vtys K ++ [(cA, .boolean)]) s) : cA = K 1 := Option.some.inj ((h'.2 5 (cA, .boolean) rfl).2.symm.trans (h.2 1 _ rfl).2)
theorem vK_long {D : va_G} {K : Nat → ClassId} {s : State} {cA : ClassId} (h : va_K D vwCl (vtys K) s) (h' : va_K D vwCl (vtys K ++ [(cA, .long)]) s) : cA = K 2 := Option.some.inj ((h'.2 5 (cA, .long) rfl).2.symm.trans (h.2 2 _ rfl).2)
theorem vK_cell {D : va_G} {K : Nat → ClassId} {s : State} {cA : ClassId} (h : va_K D vwCl (vtys K) s) (h' : va_K D vwCl (vtys K ++ [(cA, .object "TableSetter$Cell")]) s) : cA = K 3 := by
  obtain ⟨_, _, -, -, -, h1⟩ := (h.2 3 _ rfl).2
  obtain ⟨_, _, -, -, -, h2⟩ := (h'.2 5 (cA, .object "TableSetter$Cell") rfl).2
  exact Option.some.inj (h2.symm.trans h1)
theorem vK_arr {D : va_G} {K : Nat → ClassId} {s : State} {cA : ClassId} (h : va_K D vwCl (vtys K) s) (h' : va_K D vwCl (vtys K ++ [(cA, .array .int)]) s) : cA = K 4 := Option.some.inj ((h'.2 5 (cA, .array .int) rfl).2.symm.trans (h.2 4 _ rfl).2)
section VC1
variable {Y : vMeth} {fr lo nE : Nat} {sx : Option (Nat × (Nat → Int32))} {pc : Nat} {ls : List (Nat × Value)} {st : List Value} {n : Nat} {sh : vSh} {m : vM} {P : Option Value → vSh → vM → Prop}
theorem vJ.new {index ci N : Nat} {C : String} {T : u_T} (hd : decode Y.2.1 pc = .ok (.new index, 3)) (hc : vwCl[ci]? = some (C, T, N)) (hin : ∀ w ∈ u_ws C T N, w ∈ vtb) (ty0 : Nat → FieldType) (hty : ∀ k, k < N → parseFieldDescriptor (T k).2.2.1 = some (ty0 k)) (cs : Nat → Nat) (hcs : ∀ j, j < N → (cs j = 0 ∧ defaultValue (ty0 j) = .int 0) ∨ (cs j = 1 ∧ defaultValue (ty0 j) = .null)) (hcs2 : ∀ j, cs j ≤ 1) (hw1 : Cond.classLink Y.1.cls index C ∈ vtb) (hw2 : Cond.instantiable C N ∈ vtb) (hw3 : Cond.initialized C ∈ vtb) (hn1 : n + 1 ≤ nE) (hnn : n < 1000000) (hsz : (SH n).2.1 = N) (hok : vOK n ls st) (kk : vJ Y fr lo nE sx (pc + 3) ls (.ref n :: st) (n + 1) (upS sh n (ci + 6, N, cs)) (upZ m n) P) : vJ Y fr lo nE sx pc ls st n sh m P := by
  intro p l e R s mi args below meth c D K ad A H0 H locs cells slots Cm Sm Q la hC hD hl hR
  obtain ⟨hx, hb, hml, hown, hts, hrt, hlk, hinit, hfr, hlo, hK, hXt⟩ := id hC
  obtain ⟨hP, hDd, hS, hA, hB, hn, hc1, hs1, hc2, hs2, hsx⟩ := id hD
  have hzq := vSZ_lt (a := n) (b := nE) hn1
  rw [hsz] at hzq
  refine va_new hx hb hts hin ty0 hty hown (hts _ hw1) (hts _ hw2) (hts _ hw3) hK hP hDd hS hA hc (fs := (List.range N).map (fun j => vsl ad (cs j) 0)) (fun j hj => ?_) (by omega) (by omega) hd (fun q H1 hP1 hD1 hS1 => ?_)
  · simp only [vp_V, List.getD_eq_getElem?_getD, List.getElem?_map, List.getElem?_range hj]
    rcases hcs j hj with ⟨h1, h2⟩ | ⟨h1, h2⟩
    · simp [h1, h2, vsl]
    · simp [h1, h2, vsl]
  have hag : vAg n ad (va_up ad n q) := vAg_up hnn
  have e9 : wld K ad sh m n ++ [(q, .inr (ci, (List.range N).map (fun j => vsl ad (cs j) 0)))] = wld K (va_up ad n q) (upS sh n (ci + 6, N, cs)) (upZ m n) (n + 1) := by
    refine wld_push (fun k hk => hag k (Or.inl hk)) (by simp [va_up]) ?_ (fun j hj => ⟨by simp [upS, Nat.ne_of_lt hj], by simp [upZ, Nat.ne_of_lt hj], by simp [upZ, Nat.ne_of_lt hj]⟩) hB
    simp only [upS, if_true, upZ]
    show _ = Sum.inr (ci, _)
    congr 2
    apply List.map_congr_left
    intro j _
    have := hcs2 j
    show vsl ad (cs j) 0 = vsl (va_up ad n q) (cs j) 0
    generalize cs j = t at this ⊢
    match t, this with
    | 0, _ => rfl
    | 1, _ => rfl
    | x + 2, h => exact absurd h (by omega)
  rw [e9] at hP1 hD1
  have hz := vSZ_lt (a := n) (b := nE) hn1
  rw [hsz] at hz
  have hz1 : vSZ (n + 1) = vSZ n + N := by show vSZ n + _ = _; rw [hsz]
  have hz2 := vSZ_mono hn1
  have hl1 : lv_has la Y.2.2.1 (vls (va_up ad n q) ls) := by rw [vls_ag hag hok.1]; exact hl
  have k1 := kk p l e R s mi args below meth c D K (va_up ad n q) A H0 H1 locs (cells + 1) (slots + N) Cm Sm Q la hC ⟨hP1, hD1, hS1, hA, vRB_new hB (fun j hj => ⟨by simp [upS, Nat.ne_of_lt hj], by simp [upZ, Nat.ne_of_lt hj]⟩) (fun j x h => by simp [upS] at h; have := hcs2 j; omega) (fun h4 => by simp [upS] at h4), hn1, by omega, by omega, hc2, hs2, fun L xs h => by rw [hag vsN (Or.inr rfl)]; exact hsx L xs h⟩ hl1 (fun r sh' m' ad2 H' locs' cells' slots' la' pc' h1 h2 h3 h4 h5 => hR r sh' m' ad2 H' locs' cells' slots' la' pc' h1 h2 (vAg_tr hag h3 (Nat.le_succ n)) (fun e => absurd e (by omega)) h5)
  simp only [List.map_cons, vst_ag hag hok.2] at k1
  have e8 : vtr (va_up ad n q) (.ref n) = .ref q := by simp [vtr, va_up]
  rw [e8] at k1
  exact k1
theorem vJ.newaI {N : Nat} {q0 : Int32} (hd : decode Y.2.1 pc = .ok (.newarray .int, 2)) (hq : ¬ q0 < 0) (hN : q0.toNatClampNeg = N) (hN2 : N ≤ 1000) (hw : Cond.arrayClass .int ∈ vtb) (hn1 : n + 1 ≤ nE) (hnn : n < 1000000) (hsz : (SH n).2.1 = N) (hok : vOK n ls st) (kk : vJ Y fr lo nE sx (pc + 2) ls (.ref n :: st) (n + 1) (upS sh n (0, N, vz)) (upZ m n) P) : vJ Y fr lo nE sx pc ls (.int q0 :: st) n sh m P := by
  intro p l e R s mi args below meth c D K ad A H0 H locs cells slots Cm Sm Q la hC hD hl hR
  obtain ⟨hx, hb, hml, hown, hts, hrt, hlk, hinit, hfr, hlo, hK, hXt⟩ := id hC
  obtain ⟨hP, hDd, hS, hA, hB, hn, hc1, hs1, hc2, hs2, hsx⟩ := id hD
  have hzq := vSZ_lt (a := n) (b := nE) hn1
  rw [hsz] at hzq
  refine va_newa (atype := .int) (ty := .int) hx hb (hts _ hw) rfl hK hP hDd hS hA (a0 := (N, .inl (fun _ => 0))) (fun _ => rfl) hq hN (by simp only [componentBytes]; omega) (by omega) (by omega) hd (fun q cA H1 hK1 hP1 hD1 hS1 => ?_)
  have hcA := vK_int hK hK1
  subst hcA
  have hag : vAg n ad (va_up ad n q) := vAg_up hnn
  have e9 : wld K ad sh m n ++ [(q, .inl (K 0, N, .inl (fun _ => 0)))] = wld K (va_up ad n q) (upS sh n (0, N, vz)) (upZ m n) (n + 1) := by
    refine wld_push (fun k hk => hag k (Or.inl hk)) (by simp [va_up]) ?_ (fun j hj => ⟨by simp [upS, Nat.ne_of_lt hj], by simp [upZ, Nat.ne_of_lt hj], by simp [upZ, Nat.ne_of_lt hj]⟩) hB
    simp only [upS, if_true, upZ]
    rfl
  rw [e9] at hP1 hD1
  have hz := vSZ_lt (a := n) (b := nE) hn1
  rw [hsz] at hz
  have hz1 : vSZ (n + 1) = vSZ n + N := by show vSZ n + _ = _; rw [hsz]
  have hz2 := vSZ_mono hn1
  have hl1 : lv_has la Y.2.2.1 (vls (va_up ad n q) ls) := by rw [vls_ag hag hok.1]; exact hl
  have k1 := kk p l e R s mi args below meth c D K (va_up ad n q) A H0 H1 locs (cells + 1) (slots + N) Cm Sm Q la hC ⟨hP1, hD1, hS1, hA, vRB_new hB (fun j hj => ⟨by simp [upS, Nat.ne_of_lt hj], by simp [upZ, Nat.ne_of_lt hj]⟩) (fun j x h => by simp [upS, vz] at h) (fun h4 => by simp [upS] at h4), hn1, by omega, by omega, hc2, hs2, fun L xs h => by rw [hag vsN (Or.inr rfl)]; exact hsx L xs h⟩ hl1 (fun r sh' m' ad2 H' locs' cells' slots' la' pc' h1 h2 h3 h4 h5 => hR r sh' m' ad2 H' locs' cells' slots' la' pc' h1 h2 (vAg_tr hag h3 (Nat.le_succ n)) (fun e => absurd e (by omega)) h5)
  simp only [List.map_cons, vst_ag hag hok.2] at k1
  have e8 : vtr (va_up ad n q) (.ref n) = .ref q := by simp [vtr, va_up]
  rw [e8] at k1
  exact k1
theorem vJ.newaZ {N : Nat} {q0 : Int32} (hd : decode Y.2.1 pc = .ok (.newarray .boolean, 2)) (hq : ¬ q0 < 0) (hN : q0.toNatClampNeg = N) (hN2 : N ≤ 1000) (hw : Cond.arrayClass .boolean ∈ vtb) (hn1 : n + 1 ≤ nE) (hnn : n < 1000000) (hsz : (SH n).2.1 = N) (hok : vOK n ls st) (kk : vJ Y fr lo nE sx (pc + 2) ls (.ref n :: st) (n + 1) (upS sh n (1, N, vz)) (upZ m n) P) : vJ Y fr lo nE sx pc ls (.int q0 :: st) n sh m P := by
  intro p l e R s mi args below meth c D K ad A H0 H locs cells slots Cm Sm Q la hC hD hl hR
  obtain ⟨hx, hb, hml, hown, hts, hrt, hlk, hinit, hfr, hlo, hK, hXt⟩ := id hC
  obtain ⟨hP, hDd, hS, hA, hB, hn, hc1, hs1, hc2, hs2, hsx⟩ := id hD
  have hzq := vSZ_lt (a := n) (b := nE) hn1
  rw [hsz] at hzq
  refine va_newa (atype := .boolean) (ty := .boolean) hx hb (hts _ hw) rfl hK hP hDd hS hA (a0 := (N, .inl (fun _ => 0))) (fun _ => rfl) hq hN (by simp only [componentBytes]; omega) (by omega) (by omega) hd (fun q cA H1 hK1 hP1 hD1 hS1 => ?_)
  have hcA := vK_bool hK hK1
  subst hcA
  have hag : vAg n ad (va_up ad n q) := vAg_up hnn
  have e9 : wld K ad sh m n ++ [(q, .inl (K 1, N, .inl (fun _ => 0)))] = wld K (va_up ad n q) (upS sh n (1, N, vz)) (upZ m n) (n + 1) := by
    refine wld_push (fun k hk => hag k (Or.inl hk)) (by simp [va_up]) ?_ (fun j hj => ⟨by simp [upS, Nat.ne_of_lt hj], by simp [upZ, Nat.ne_of_lt hj], by simp [upZ, Nat.ne_of_lt hj]⟩) hB
    simp only [upS, if_true, upZ]
    rfl
  rw [e9] at hP1 hD1
  have hz := vSZ_lt (a := n) (b := nE) hn1
  rw [hsz] at hz
  have hz1 : vSZ (n + 1) = vSZ n + N := by show vSZ n + _ = _; rw [hsz]
  have hz2 := vSZ_mono hn1
  have hl1 : lv_has la Y.2.2.1 (vls (va_up ad n q) ls) := by rw [vls_ag hag hok.1]; exact hl
  have k1 := kk p l e R s mi args below meth c D K (va_up ad n q) A H0 H1 locs (cells + 1) (slots + N) Cm Sm Q la hC ⟨hP1, hD1, hS1, hA, vRB_new hB (fun j hj => ⟨by simp [upS, Nat.ne_of_lt hj], by simp [upZ, Nat.ne_of_lt hj]⟩) (fun j x h => by simp [upS, vz] at h) (fun h4 => by simp [upS] at h4), hn1, by omega, by omega, hc2, hs2, fun L xs h => by rw [hag vsN (Or.inr rfl)]; exact hsx L xs h⟩ hl1 (fun r sh' m' ad2 H' locs' cells' slots' la' pc' h1 h2 h3 h4 h5 => hR r sh' m' ad2 H' locs' cells' slots' la' pc' h1 h2 (vAg_tr hag h3 (Nat.le_succ n)) (fun e => absurd e (by omega)) h5)
  simp only [List.map_cons, vst_ag hag hok.2] at k1
  have e8 : vtr (va_up ad n q) (.ref n) = .ref q := by simp [vtr, va_up]
  rw [e8] at k1
  exact k1
theorem vJ.newaJ {N : Nat} {q0 : Int32} (hd : decode Y.2.1 pc = .ok (.newarray .long, 2)) (hq : ¬ q0 < 0) (hN : q0.toNatClampNeg = N) (hN2 : N ≤ 1000) (hw : Cond.arrayClass .long ∈ vtb) (hn1 : n + 1 ≤ nE) (hnn : n < 1000000) (hsz : (SH n).2.1 = N) (hok : vOK n ls st) (kk : vJ Y fr lo nE sx (pc + 2) ls (.ref n :: st) (n + 1) (upS sh n (2, N, vz)) (upZ m n) P) : vJ Y fr lo nE sx pc ls (.int q0 :: st) n sh m P := by
  intro p l e R s mi args below meth c D K ad A H0 H locs cells slots Cm Sm Q la hC hD hl hR
  obtain ⟨hx, hb, hml, hown, hts, hrt, hlk, hinit, hfr, hlo, hK, hXt⟩ := id hC
  obtain ⟨hP, hDd, hS, hA, hB, hn, hc1, hs1, hc2, hs2, hsx⟩ := id hD
  have hzq := vSZ_lt (a := n) (b := nE) hn1
  rw [hsz] at hzq
  refine va_newa (atype := .long) (ty := .long) hx hb (hts _ hw) rfl hK hP hDd hS hA (a0 := (N, .inr (.inl (fun _ => 0)))) (fun _ => rfl) hq hN (by simp only [componentBytes]; omega) (by omega) (by omega) hd (fun q cA H1 hK1 hP1 hD1 hS1 => ?_)
  have hcA := vK_long hK hK1
  subst hcA
  have hag : vAg n ad (va_up ad n q) := vAg_up hnn
  have e9 : wld K ad sh m n ++ [(q, .inl (K 2, N, .inr (.inl (fun _ => 0))))] = wld K (va_up ad n q) (upS sh n (2, N, vz)) (upZ m n) (n + 1) := by
    refine wld_push (fun k hk => hag k (Or.inl hk)) (by simp [va_up]) ?_ (fun j hj => ⟨by simp [upS, Nat.ne_of_lt hj], by simp [upZ, Nat.ne_of_lt hj], by simp [upZ, Nat.ne_of_lt hj]⟩) hB
    simp only [upS, if_true, upZ]
    rfl
  rw [e9] at hP1 hD1
  have hz := vSZ_lt (a := n) (b := nE) hn1
  rw [hsz] at hz
  have hz1 : vSZ (n + 1) = vSZ n + N := by show vSZ n + _ = _; rw [hsz]
  have hz2 := vSZ_mono hn1
  have hl1 : lv_has la Y.2.2.1 (vls (va_up ad n q) ls) := by rw [vls_ag hag hok.1]; exact hl
  have k1 := kk p l e R s mi args below meth c D K (va_up ad n q) A H0 H1 locs (cells + 1) (slots + N) Cm Sm Q la hC ⟨hP1, hD1, hS1, hA, vRB_new hB (fun j hj => ⟨by simp [upS, Nat.ne_of_lt hj], by simp [upZ, Nat.ne_of_lt hj]⟩) (fun j x h => by simp [upS, vz] at h) (fun h4 => by simp [upS] at h4), hn1, by omega, by omega, hc2, hs2, fun L xs h => by rw [hag vsN (Or.inr rfl)]; exact hsx L xs h⟩ hl1 (fun r sh' m' ad2 H' locs' cells' slots' la' pc' h1 h2 h3 h4 h5 => hR r sh' m' ad2 H' locs' cells' slots' la' pc' h1 h2 (vAg_tr hag h3 (Nat.le_succ n)) (fun e => absurd e (by omega)) h5)
  simp only [List.map_cons, vst_ag hag hok.2] at k1
  have e8 : vtr (va_up ad n q) (.ref n) = .ref q := by simp [vtr, va_up]
  rw [e8] at k1
  exact k1
theorem vJ.newaC {index N : Nat} {q0 : Int32} (hd : decode Y.2.1 pc = .ok (.anewarray index, 3)) (hq : ¬ q0 < 0) (hN : q0.toNatClampNeg = N) (hN2 : N ≤ 1000) (hw : Cond.classLink Y.1.cls index "TableSetter$Cell" ∈ vtb) (hn1 : n + 1 ≤ nE) (hnn : n < 1000000) (hsz : (SH n).2.1 = N) (hok : vOK n ls st) (kk : vJ Y fr lo nE sx (pc + 3) ls (.ref n :: st) (n + 1) (upS sh n (3, N, fun _ => 1)) (upZ m n) P) : vJ Y fr lo nE sx pc ls (.int q0 :: st) n sh m P := by
  intro p l e R s mi args below meth c D K ad A H0 H locs cells slots Cm Sm Q la hC hD hl hR
  obtain ⟨hx, hb, hml, hown, hts, hrt, hlk, hinit, hfr, hlo, hK, hXt⟩ := id hC
  obtain ⟨hP, hDd, hS, hA, hB, hn, hc1, hs1, hc2, hs2, hsx⟩ := id hD
  have hzq := vSZ_lt (a := n) (b := nE) hn1
  rw [hsz] at hzq
  refine va_newq hx hb hown (hts _ hw) hXt.1 hK hP hDd hS hA hq hN (by omega) (by omega) (by omega) hd (fun q cA H1 hK1 hP1 hD1 hS1 => ?_)
  have hcA := vK_cell hK hK1
  subst hcA
  have hag : vAg n ad (va_up ad n q) := vAg_up hnn
  have e9 : wld K ad sh m n ++ [(q, .inl (K 3, N, .inr (.inr (.inr (.inr (fun _ => none))))))] = wld K (va_up ad n q) (upS sh n (3, N, fun _ => 1)) (upZ m n) (n + 1) := by
    refine wld_push (fun k hk => hag k (Or.inl hk)) (by simp [va_up]) ?_ (fun j hj => ⟨by simp [upS, Nat.ne_of_lt hj], by simp [upZ, Nat.ne_of_lt hj], by simp [upZ, Nat.ne_of_lt hj]⟩) hB
    simp only [upS, if_true, upZ]
    rfl
  rw [e9] at hP1 hD1
  have hz := vSZ_lt (a := n) (b := nE) hn1
  rw [hsz] at hz
  have hz1 : vSZ (n + 1) = vSZ n + N := by show vSZ n + _ = _; rw [hsz]
  have hz2 := vSZ_mono hn1
  have hl1 : lv_has la Y.2.2.1 (vls (va_up ad n q) ls) := by rw [vls_ag hag hok.1]; exact hl
  have k1 := kk p l e R s mi args below meth c D K (va_up ad n q) A H0 H1 locs (cells + 1) (slots + N) Cm Sm Q la hC ⟨hP1, hD1, hS1, hA, vRB_new hB (fun j hj => ⟨by simp [upS, Nat.ne_of_lt hj], by simp [upZ, Nat.ne_of_lt hj]⟩) (fun j x h => by simp [upS] at h) (fun h4 => by simp [upS] at h4), hn1, by omega, by omega, hc2, hs2, fun L xs h => by rw [hag vsN (Or.inr rfl)]; exact hsx L xs h⟩ hl1 (fun r sh' m' ad2 H' locs' cells' slots' la' pc' h1 h2 h3 h4 h5 => hR r sh' m' ad2 H' locs' cells' slots' la' pc' h1 h2 (vAg_tr hag h3 (Nat.le_succ n)) (fun e => absurd e (by omega)) h5)
  simp only [List.map_cons, vst_ag hag hok.2] at k1
  have e8 : vtr (va_up ad n q) (.ref n) = .ref q := by simp [vtr, va_up]
  rw [e8] at k1
  exact k1
theorem vJ.newaD {index N : Nat} {q0 : Int32} (hd : decode Y.2.1 pc = .ok (.anewarray index, 3)) (hq : ¬ q0 < 0) (hN : q0.toNatClampNeg = N) (hN2 : N ≤ 1000) (hw : Cond.classLink Y.1.cls index "TableSetter$Cell" ∈ vtb) (hn1 : n + 1 ≤ nE) (hnn : n < 1000000) (hsz : (SH n).2.1 = N) (hok : vOK n ls st) (kk : vJ Y fr lo nE sx (pc + 3) ls (.ref n :: st) (n + 1) (upS sh n (4, N, vz)) (upZ m n) P) : vJ Y fr lo nE sx pc ls (.int q0 :: st) n sh m P := by
  intro p l e R s mi args below meth c D K ad A H0 H locs cells slots Cm Sm Q la hC hD hl hR
  obtain ⟨hx, hb, hml, hown, hts, hrt, hlk, hinit, hfr, hlo, hK, hXt⟩ := id hC
  obtain ⟨hP, hDd, hS, hA, hB, hn, hc1, hs1, hc2, hs2, hsx⟩ := id hD
  have hzq := vSZ_lt (a := n) (b := nE) hn1
  rw [hsz] at hzq
  refine va_newq hx hb hown (hts _ hw) hXt.1 hK hP hDd hS hA hq hN (by omega) (by omega) (by omega) hd (fun q cA H1 hK1 hP1 hD1 hS1 => ?_)
  have hcA := vK_cell hK hK1
  subst hcA
  have hag : vAg n ad (va_up ad n q) := vAg_up hnn
  have e9 : wld K ad sh m n ++ [(q, .inl (K 3, N, .inr (.inr (.inr (.inr (fun _ => none))))))] = wld K (va_up ad n q) (upS sh n (4, N, vz)) (upZ m n) (n + 1) := by
    refine wld_push (fun k hk => hag k (Or.inl hk)) (by simp [va_up]) ?_ (fun j hj => ⟨by simp [upS, Nat.ne_of_lt hj], by simp [upZ, Nat.ne_of_lt hj], by simp [upZ, Nat.ne_of_lt hj]⟩) hB
    simp only [upS, if_true, upZ]
    rfl
  rw [e9] at hP1 hD1
  have hz := vSZ_lt (a := n) (b := nE) hn1
  rw [hsz] at hz
  have hz1 : vSZ (n + 1) = vSZ n + N := by show vSZ n + _ = _; rw [hsz]
  have hz2 := vSZ_mono hn1
  have hl1 : lv_has la Y.2.2.1 (vls (va_up ad n q) ls) := by rw [vls_ag hag hok.1]; exact hl
  have k1 := kk p l e R s mi args below meth c D K (va_up ad n q) A H0 H1 locs (cells + 1) (slots + N) Cm Sm Q la hC ⟨hP1, hD1, hS1, hA, vRB_new hB (fun j hj => ⟨by simp [upS, Nat.ne_of_lt hj], by simp [upZ, Nat.ne_of_lt hj]⟩) (fun j x h => by simp [upS, vz] at h) (fun _ j => by simp [upZ]), hn1, by omega, by omega, hc2, hs2, fun L xs h => by rw [hag vsN (Or.inr rfl)]; exact hsx L xs h⟩ hl1 (fun r sh' m' ad2 H' locs' cells' slots' la' pc' h1 h2 h3 h4 h5 => hR r sh' m' ad2 H' locs' cells' slots' la' pc' h1 h2 (vAg_tr hag h3 (Nat.le_succ n)) (fun e => absurd e (by omega)) h5)
  simp only [List.map_cons, vst_ag hag hok.2] at k1
  have e8 : vtr (va_up ad n q) (.ref n) = .ref q := by simp [vtr, va_up]
  rw [e8] at k1
  exact k1
theorem vJ.mna {index : Nat} (hd : decode Y.2.1 pc = .ok (.multianewarray index 2, 4)) (hw : Cond.classLink Y.1.cls index ("[" ++ (FieldType.array .int).toString) ∈ vtb) (hw3 : Cond.arrayClass .int ∈ vtb) (hn1 : n + 17 ≤ nE) (hnn : n < 100000) (hsz : vSZ (n + 17) = vSZ n + 80) (hok : vOK n ls st) (kk : vJ Y fr lo nE sx (pc + 4) ls (.ref n :: st) (n + 17) (fun b => if b = n then (5, 16, fun j => if j < 16 then n + 3 + j else 1) else if n < b ∧ b < n + 17 then (0, 4, vz) else sh b) (fun b => if n ≤ b ∧ b < n + 17 then fun _ => 0 else m.1 b, fun b => if n ≤ b ∧ b < n + 17 then fun _ => 0 else m.2 b) P) : vJ Y fr lo nE sx pc ls (.int 4 :: .int 16 :: st) n sh m P := by
  intro p l e R s mi args below meth c D K ad A H0 H locs cells slots Cm Sm Q la hC hD hl hR
  obtain ⟨hx, hb, hml, hown, hts, hrt, hlk, hinit, hfr, hlo, hK, hXt⟩ := id hC
  obtain ⟨hP, hDd, hS, hA, hB, hn, hc1, hs1, hc2, hs2, hsx⟩ := id hD
  have hz2 := vSZ_mono hn1
  rw [hsz] at hz2
  refine va_mna (X := wld K ad sh m n) (L := []) (f := fun _ => .inl (0, 0, .inl (fun _ => 0))) (n := 16) (k := 4) (N' := 16) (K' := 4) (z := (4, .inl (fun _ => 0))) (ty := .int) (cy := K 0) hx hb hown (hts _ hw) hXt.2.1 (hts _ hw3) (hK.2 0 _ rfl).2 hK (by simpa [va_pl] using hP) (by simpa [va_pl] using hDd) hS hA (by decide) (by decide) (by decide) (by decide) (by decide) (by decide) (by decide) rfl rfl (by omega) (by omega) (fun c => by show ({ cls := c, slots := Array.replicate 4 _, vm := .none } : Cell) = _; rw [arrV_new]; rfl) hd (fun q r cA H1 hinj _ hK1 hP1 hD1 hS1 => ?_)
  have hcA := vK_arr hK hK1
  subst hcA
  have hag : vAg n ad (fun k => if k = n then q else if n < k ∧ k < n + 17 then r (k - n - 1) else ad k) := by
    intro k hk
    have h1 : k ≠ n := by rcases hk with h | h <;> (try subst h) <;> (try unfold vsN) <;> omega
    have h2 : ¬ (n < k ∧ k < n + 17) := by rcases hk with h | h <;> (try subst h) <;> (try unfold vsN) <;> omega
    simp only [h1, h2, if_false]
  generalize hadd : (fun k => if k = n then q else if n < k ∧ k < n + 17 then r (k - n - 1) else ad k) = ad2 at hag
  have e9 : (wld K ad sh m n ++ [(q, .inl (K 4, 16, .inr (.inr (.inr (.inr (fun i => if i < 16 then some (r i) else none))))))]) ++ va_pl ([] ++ (List.range 16).map r) (vr_up (fun _ => .inl (0, 0, .inl (fun _ => 0))) ((List.range 16).map r) (.inl (K 0, (4, .inl (fun _ => 0))))) = wld K ad2 (fun b => if b = n then (5, 16, fun j => if j < 16 then n + 3 + j else 1) else if n < b ∧ b < n + 17 then (0, 4, vz) else sh b) (fun b => if n ≤ b ∧ b < n + 17 then fun _ => 0 else m.1 b, fun b => if n ≤ b ∧ b < n + 17 then fun _ => 0 else m.2 b) (n + 17) := by
    unfold wld
    rw [show n + 17 = n + (1 + 16) from rfl, List.range_add, List.map_append, List.append_assoc]
    congr 1
    · apply List.map_congr_left
      intro k hk
      have hk := List.mem_range.mp hk
      have h1 : k ≠ n := Nat.ne_of_lt hk
      have h2 : ¬ (n < k ∧ k < n + 17) := by omega
      have h3 : ¬ (n ≤ k ∧ k < n + 17) := by omega
      simp only [h1, h2, h3, if_false]
      rw [hag k (Or.inl hk), venc_ag (fun j hj => hag j (Or.inl hj)) (hB k hk).1 (hB k hk).2]
    · rw [show List.range (1 + 16) = 0 :: (List.range 16).map (1 + ·) from rfl]
      simp only [List.map_cons, List.map_map, Nat.add_zero, List.singleton_append, List.nil_append]
      congr 1
      · subst hadd
        simp only [if_true]
        refine congrArg (fun z => (q, z)) ?_
        show Sum.inl (K 4, 16, _) = Sum.inl (K 4, 16, _)
        refine congrArg (fun z => (Sum.inl (K 4, 16, Sum.inr (Sum.inr (Sum.inr (Sum.inr z)))) : va_E)) ?_
        funext i
        by_cases hi : i < 16
        · simp only [hi, if_true]
          rw [show n + 3 + i = (n + 1 + i) + 2 by omega]
          simp only [vrq]
          have h1 : ¬ n + 1 + i = n := by omega
          have h2 : n < n + 1 + i ∧ n + 1 + i < n + 17 := by omega
          simp only [h1, h2, if_true, if_false, and_self]
          rw [show n + 1 + i - n - 1 = i by omega]
        · simp only [hi, if_false, vrq]
      · unfold va_pl
        rw [List.map_map]
        apply List.map_congr_left
        intro i hi
        have hi := List.mem_range.mp hi
        subst hadd
        have h1 : ¬ n + (1 + i) = n := by omega
        have h2 : n < n + (1 + i) ∧ n + (1 + i) < n + 17 := by omega
        have h3 : n ≤ n + (1 + i) ∧ n + (1 + i) < n + 17 := by omega
        simp only [Function.comp, h1, h2, h3, if_true, if_false, and_self]
        rw [show n + (1 + i) - n - 1 = i by omega, vr_up_in (List.mem_map.mpr ⟨i, List.mem_range.mpr hi, rfl⟩)]
        rfl
  rw [e9] at hP1 hD1
  have hl1 : lv_has la Y.2.2.1 (vls ad2 ls) := by rw [vls_ag hag hok.1]; exact hl
  have hB2 : vRB (n + 17) (fun b => if b = n then (5, 16, fun j => if j < 16 then n + 3 + j else 1) else if n < b ∧ b < n + 17 then (0, 4, vz) else sh b) (fun b => if n ≤ b ∧ b < n + 17 then fun _ => 0 else m.1 b, fun b => if n ≤ b ∧ b < n + 17 then fun _ => 0 else m.2 b) := by
    intro b hb9
    by_cases h1 : b = n
    · simp only [h1, if_true]
      refine ⟨fun j x hj => ?_, fun h4 => absurd h4 (by decide)⟩
      split at hj <;> omega
    · by_cases h2 : n < b ∧ b < n + 17
      · simp only [h1, h2, if_true, if_false, and_self]
        exact ⟨fun j x hj => by simp [vz] at hj, fun h4 => absurd h4 (by decide)⟩
      · have h3 : ¬ (n ≤ b ∧ b < n + 17) := by omega
        have hbn : b < n := by omega
        simp only [h1, h2, h3, if_false]
        exact ⟨fun j x hj => Nat.lt_of_lt_of_le ((hB b hbn).1 j x hj) (by omega), fun h4 j => by
          rcases (hB b hbn).2 h4 j with h | h
          · exact Or.inl h
          · exact Or.inr (by omega)⟩
  have k1 := kk p l e R s mi args below meth c D K ad2 A H0 H1 locs (cells + 1 + 16) (slots + 16 + 16 * 4) Cm Sm Q la hC ⟨hP1, hD1, hS1, hA, hB2, hn1, by omega, by omega, hc2, hs2, fun L xs h => by rw [hag vsN (Or.inr rfl)]; exact hsx L xs h⟩ hl1 (fun r1 sh' m' ad3 H' locs' cells' slots' la' pc' h1 h2 h3 h4 h5 => hR r1 sh' m' ad3 H' locs' cells' slots' la' pc' h1 h2 (vAg_tr hag h3 (by omega)) (fun e => absurd e (by omega)) h5)
  simp only [List.map_cons, vst_ag hag hok.2] at k1
  have e8 : vtr ad2 (.ref n) = .ref q := by subst hadd; simp [vtr]
  rw [e8] at k1
  exact k1

end VC1
end
section
def vws (Y : vMeth) : List Cond := .code Y.1 Y.2.1 Y.2.2.1 Y.2.2.2 :: vtb
def vQ (D : va_G) (K : Nat → ClassId) (ad : Nat → Nat) (n nE : Nat) (P : Option Value → vSh → vM → Prop) (A : Nat → Prop) : Array Value → State → Outcome → State → Prop := fun _ st oc t =>
  (∃ (r : Option Value) (ad' : Nat → Nat) (sh' : vSh) (m' : vM), oc = .returned (r.map (vtr ad')) ∧ P r sh' m' ∧ vRB nE sh' m' ∧ vAg n ad ad' ∧ (nE = n → ad' = ad) ∧ va_P D vwCl (wld K ad' sh' m' nE) t.heap ∧ va_K D vwCl (vtys K) t ∧ va_D A (wld K ad' sh' m' nE)) ∧ va_F A st t
def Ev (Y : vMeth) (fr lo nE : Nat) (as : List Value) (n : Nat) (sh : vSh) (m : vM) (P : Option Value → vSh → vM → Prop) : Prop :=
  n ≤ nE → vRB n sh m → ∀ (l : Launch) (D : va_G) (K : Nat → ClassId) (ad : Nat → Nat) (hs : Nat), Met l Y.1 (vws Y) { frames := fr, cells := nE - n, slots := vSZ nE - vSZ n, locals := lo }
    (va_Pc (as.map (vtr ad)) (fun U => U.heap.size = hs ∧ va_P D vwCl (wld K ad sh m n) U.heap ∧ va_K D vwCl (vtys K) U ∧ vXt U ∧ va_D (fun _ => True) (wld K ad sh m n)))
    (vQ D K ad n nE P (va_A (wld K ad sh m n) hs)) (nE - n) (vSZ nE - vSZ n) (va_A (wld K ad sh m n) hs)
theorem vQ.mono {D : va_G} {K : Nat → ClassId} {ad : Nat → Nat} {n nE : Nat} {P P' : Option Value → vSh → vM → Prop} {A : Nat → Prop} (h : ∀ r sh' m', P r sh' m' → P' r sh' m') : ∀ a st oc t, vQ D K ad n nE P A a st oc t → vQ D K ad n nE P' A a st oc t := by
  rintro a st oc t ⟨⟨r, ad', sh', m', h1, h2, h3⟩, h4⟩
  exact ⟨⟨r, ad', sh', m', h1, h r sh' m' h2, h3⟩, h4⟩
theorem lg_len (ad : Nat → Nat) (as : List Value) : (lg_sl (as.map (vtr ad))).length = (lg_sl as).length := by
  unfold lg_sl
  induction as with
  | nil => rfl
  | cons v t ih =>
    simp only [List.map_cons, List.flatMap_cons, List.length_append, ih, vtr_cat]
    split <;> rfl
theorem lv_args_tr (ad : Nat → Nat) (as : List Value) : ∀ i, lv_args i (as.map (vtr ad)) = vls ad (lv_args i as) := by
  induction as with
  | nil => intro i; rfl
  | cons v t ih =>
    intro i
    show (i, vtr ad v) :: lv_args (if (vtr ad v).category = 2 then i + 2 else i + 1) (t.map (vtr ad)) = _
    rw [ih, vtr_cat]
    rfl
theorem Ev.of {Y : vMeth} {fr lo nE : Nat} {as : List Value} {n : Nat} {sh : vSh} {m : vM} {P : Option Value → vSh → vM → Prop} (hcls : plainName Y.1.cls = true) (hlen : (lg_sl as).length ≤ Y.2.2.1) (h : vJ Y fr lo nE none 0 (lv_args 0 as) [] n sh m P) : Ev Y fr lo nE as n sh m P := by
  intro hn hB l D K ad hs
  refine Met.ofW (cc := Y.2.1) (maxL := Y.2.2.1) (ret := Y.2.2.2) hcls rfl ?_
  intro p e s mi args below meth c s₁ B hml hv
  obtain ⟨rfl, hsz, hP, hK, hXt, hD0⟩ := hv
  have hx := B.exec
  have hb := B.bytes
  have hr := B.returns
  have hts := atoms_spec (ws := vws Y) B.pre
  have hown : s.vm.findClass Y.1.cls = some mi.cls := findClass_of_methodNamed B.named
  have hlk : meth.locks = false := B.notSynchronized
  have hname : meth.name = Y.1.name := (name_of_methodNamed B.named B.method).1
  subst hsz
  have hD := hD0.self (sz := s.heap.size)
  rw [lg_entry_eq]
  have hl := lv_entry (as.map (vtr ad)) (n := Y.2.2.1) (by rw [lg_len]; exact hlen)
  rw [lv_args_tr] at hl
  generalize (lg_sl (as.map (vtr ad)) ++ List.replicate (Y.2.2.1 - (lg_sl (as.map (vtr ad))).length) Slot.unset).toArray = la at hl ⊢
  refine h p l e { frames := fr, cells := nE - n, slots := vSZ nE - vSZ n, locals := lo } s mi _ below meth c D K ad (va_A (wld K ad sh m n) s.heap.size) s.heap s.heap [] 0 0 (nE - n) (vSZ nE - vSZ n) _ la ⟨hx, hb, hml, hown, fun w hw => hts w (List.mem_cons_of_mem _ hw), hr, hlk, fun q => hname.trans q, Nat.le_refl _, Nat.le_refl _, hK, hXt⟩ ⟨hP, hD, va_S.rf, fun q hq => Or.inr hq, hB, hn, by omega, by omega, Nat.le_refl _, Nat.le_refl _, fun L xs q => by cases q⟩ hl ?_
  intro r sh' m' ad' H' locs' cells' slots' la' pc' hret hp hag hne hDy
  obtain ⟨hP', hDd', hS', hA', hB', hn', hc1, hs1, hc2, hs2, -⟩ := hDy
  refine W.widen (k := nE - n) (n := vSZ nE - vSZ n) (by omega) (by omega) ?_
  have hq : ∀ t : State, t.heap = H' → s.WarmedH t.vm → vQ D K ad n nE P (va_A (wld K ad sh m n) s.heap.size) (as.map (vtr ad)).toArray s (.returned (r.map (vtr ad'))) t := fun t ht hW => ⟨⟨r, ad', sh', m', rfl, hp, hB', hag, hne, by rw [ht]; exact hP', va_K.moved hW.alike hK, hDd'⟩, hS'.F ht⟩
  rcases hret with ⟨rfl, hd, hty⟩ | ⟨x, rfl, hd, ty, hty, hnr⟩ | ⟨x, rfl, hd, hty⟩ | ⟨v, C, rfl, hd, hty, hv⟩
  · exact W.vret hx hb (hr.trans hty) hq hS'.2.2 hd
  · exact W.zret hx hb (hr.trans hty) hnr hq hS'.2.2 hd
  · exact W.lret hx hb (hr.trans hty) hq hS'.2.2 hd
  · refine W.aret (v := vtr ad' v) hx hb (hr.trans hty) (Or.inl ⟨C, rfl⟩) ?_ hq hS'.2.2 hd
    rcases hv with rfl | ⟨a, rfl⟩
    · exact Or.inl rfl
    · exact Or.inr ⟨_, rfl⟩
theorem tbl_good : ∀ w ∈ vtb, goodWord w = true := fun w h => (List.mem_filter.mp h).2
theorem vtb_in {w : Cond} (i : Nat) (h : lw_tbl[i]? = some w) (hg : goodWord w = true) : w ∈ vtb := List.mem_filter.mpr ⟨List.mem_of_getElem? h, hg⟩
theorem tbl_in {ws : List Cond} (h : ∀ w ∈ ws, w ∈ vtb) : GoodIn vtb ws := fun w hw => ⟨h w hw, good_of_word (tbl_good w (h w hw))⟩
theorem tbl_code {Y : vMeth} (h : Cond.code Y.1 Y.2.1 Y.2.2.1 Y.2.2.2 ∈ vtb) : GoodIn vtb (vws Y) := tbl_in (fun w hw => by
  rcases List.mem_cons.mp hw with rfl | q
  · exact h
  · exact q)
theorem vblind {D : va_G} {K : Nat → ClassId} {ad : Nat → Nat} {sh : vSh} {m : vM} {n hs : Nat} {av : List Value} : FrameBlind (va_Pc av (fun U => U.heap.size = hs ∧ va_P D vwCl (wld K ad sh m n) U.heap ∧ va_K D vwCl (vtys K) U ∧ vXt U ∧ va_D (fun _ => True) (wld K ad sh m n))) := fun a U g mk q => by
  obtain ⟨q0, q1, qP, qK, qX, qD⟩ := q
  exact ⟨q0, q1, qP, va_K.moved (u := U) (U := U.calling g mk a) (Vm.Alike.refl U.vm) qK, vXt.same (u := U) (U := U.calling g mk a) rfl qX, qD⟩
section VE1
variable {Y : vMeth} {fr lo nE : Nat} {sx : Option (Nat × (Nat → Int32))} {pc : Nat} {ls : List (Nat × Value)} {st : List Value} {n : Nat} {sh : vSh} {m : vM} {P : Option Value → vSh → vM → Prop}
theorem vRun_vJ {p : Program} {l : Launch} {e : Env} {R : Room} {s : State} {mi : MethodId} {args : Array Value} {below : List Frame} {meth : Method} {c : Code} {D : va_G} {K : Nat → ClassId} {ad : Nat → Nat} {A : Nat → Prop} {H0 H : Heap} {locs : List Loc} {cells slots Cm Sm : Nat} {Q : State → Prop} {la : Array Slot} {st0 : List Value} {a9 : Array Value} {n2 : Nat} (hn2 : n ≤ n2) (hnE : n2 ≤ nE) (hok : n2 = n ∨ vOK n ls st)
    (hC : vCx Y fr lo p R s mi args meth c D K) (hD : vDy sx D K ad sh m n nE A H0 H locs R cells slots Cm Sm s) (hl : lv_has la Y.2.2.1 (vls ad ls))
    (hR : ∀ (r : Option Value) (sh' : vSh) (m' : vM) (ad' : Nat → Nat) (H' : Heap) (locs' : List Loc) (cells' slots' : Nat) (la' : Array Slot) (pc' : Nat), vRet Y pc' r → P r sh' m' → vAg n ad ad' → (nE = n → ad' = ad) → vDy sx D K ad' sh' m' nE nE A H0 H' locs' R cells' slots' Cm Sm s → W p l e R s mi args below meth c H' locs' cells' slots' Q (F0 mi pc' la' (r.toList.map (vtr ad'))))
    (hr : va_Run p l e R s mi args below meth c H locs cells slots (n2 - n) (vSZ n2 - vSZ n) (F0 mi pc la st0) (st.map (vtr ad)) (vQ D K ad n n2 (fun r sh' m' => vJ Y fr lo nE sx (pc + 3) ls (r.toList ++ st) n2 sh' m' P) (va_A (wld K ad sh m n) H.size) a9) (va_A (wld K ad sh m n) H.size)) :
    W p l e R s mi args below meth c H locs cells slots Q (F0 mi pc la st0) := by
  obtain ⟨hP, hDd, hS, hA, hB, hn, hc1, hs1, hc2, hs2, hsx⟩ := hD
  have hfA : ∀ q, va_A (wld K ad sh m n) H.size q → A q := by
    intro q hq
    rcases hq with ⟨k, e9, hk⟩ | hq
    · exact hDd.2 k _ hk
    · exact hA q (Nat.le_trans hS.1 hq)
  intro T hT X
  obtain ⟨v, st₀, t, T', L, h0, X', hL, e1, e2, ⟨⟨r, ad', sh', m', hv, hp, hB', hag, hne, hP', hK', hD'⟩, hz, hk⟩, stp⟩ := hr T hT X
  cases hv
  rw [h0] at hz hk
  have hS' : va_S A H0 T'.heap (locs ++ L) := ⟨Nat.le_trans hS.1 (by rw [e1]; exact hz), fun q h1 h2 => by rw [e1, hk q (Nat.lt_of_lt_of_le h1 hS.1) (fun z => h2 (hfA q z))]; exact hS.2.1 q h1 h2, fun q hq => by
      rcases List.mem_append.mp hq with h | h
      · exact hS.2.2 q h
      · exact hfA _ (hL q h)⟩
  have hm1 := vSZ_mono hn2
  have hm2 := vSZ_mono hnE
  have hls : vls ad' ls = vls ad ls := by
    rcases hok with h | h
    · rw [hne h]
    · exact vls_ag hag h.1
  have hst : st.map (vtr ad') = st.map (vtr ad) := by
    rcases hok with h | h
    · rw [hne h]
    · exact vst_ag hag h.2
  have k1 := hp p l e R s mi args below meth c D K ad' A H0 T'.heap (locs ++ L) (cells + (n2 - n)) (slots + (vSZ n2 - vSZ n)) Cm Sm Q la hC ⟨by rw [e1]; exact hP', hD'.weaken (fun _ q _ h => hfA q.1 h), hS', hA, hB', hnE, by omega, by omega, hc2, hs2, fun L xs h => by rw [hag vsN (Or.inr rfl)]; exact hsx L xs h⟩ (by rw [hls]; exact hl) (fun r1 sh1 m1 ad2 H' locs' cells' slots' la' pc' h1 h2 h3 h4 h5 => hR r1 sh1 m1 ad2 H' locs' cells' slots' la' pc' h1 h2 (vAg_tr hag h3 hn2) (fun q => (h4 (by omega)).trans (hne (by omega))) h5)
  obtain ⟨t2, a1, b1⟩ := k1 T' rfl X'
  refine ⟨t2, stp t2 ?_, b1⟩
  rw [List.map_append, hst] at a1
  cases r with
  | none => exact a1
  | some r => exact a1
theorem vJ.callV {index ci N b frc loc : Nat} {Yc : vMeth} {T : u_T} {cs : Nat → Nat} {as st0 : List Value} (hd : decode Y.2.1 pc = .ok (.invokevirtual index, 3)) (hst : st0 = as.reverse ++ .ref b :: st) (hs : sh b = (ci + 6, N, cs)) (hb0 : b < n) (hc : vwCl[ci]? = some (Yc.1.cls, T, N)) (hlink : Cond.methodLink Y.1.cls index Yc.1 ∈ vtb) (hinst : Cond.instanceMethod Yc.1 ∈ vtb) (hsel : Cond.selects Yc.1.cls Yc.1 Yc.1 ∈ vtb) (hcode : Cond.code Yc.1 Yc.2.1 Yc.2.2.1 Yc.2.2.2 ∈ vtb) (hini : Cond.initialized Yc.1.cls ∈ vtb) (hpl : Yc.1.cls ≠ "java/lang/invoke/MethodHandle" ∧ Yc.1.cls ≠ "java/lang/invoke/VarHandle" ∧ (parseMethodDescriptor Yc.1.desc).map (fun d => d.parameters.length) = some as.length) (hfr2 : frc + 1 ≤ fr) (hlo2 : 8 + (Yc.2.2.1 + 11) + loc ≤ lo) (hcat : vcat st ≤ 8)
    (hE : Ev Yc frc loc n (.ref b :: as) n sh m (fun r sh' m' => vJ Y fr lo nE sx (pc + 3) ls (r.toList ++ st) n sh' m' P)) : vJ Y fr lo nE sx pc ls st0 n sh m P := by
  intro p l e R s mi args below meth c D K ad A H0 H locs cells slots Cm Sm Q la hC hD hl hR
  subst hst
  obtain ⟨hx, hb, hml, hown, hts, hrt, hlk, hinit, hfr, hlo, hK, hXt⟩ := id hC
  obtain ⟨hP, hDd, hS, hA, hB, hn, hc1, hs1, hc2, hs2, hsx⟩ := id hD
  have hM := hE (Nat.le_refl n) hB l D K ad H.size
  have hrec : FrameBlind (va_Pc ((.ref b :: as).map (vtr ad)) (fun U => U.heap.size = H.size ∧ va_P D vwCl (wld K ad sh m n) U.heap ∧ va_K D vwCl (vtys K) U ∧ vXt U ∧ va_D (fun _ => True) (wld K ad sh m n))) := vblind
  have hpre : ∀ U : State, U.heap = H → s.WarmedH U.vm → va_Pc ((.ref b :: as).map (vtr ad)) (fun U => U.heap.size = H.size ∧ va_P D vwCl (wld K ad sh m n) U.heap ∧ va_K D vwCl (vtys K) U ∧ vXt U ∧ va_D (fun _ => True) (wld K ad sh m n)) ((.ref b :: as).map (vtr ad)).toArray U := fun U hU hW => ⟨rfl, by rw [hU], by rw [hU]; exact hP, va_K.moved hW.alike hK, vXt.warm hW hXt, hDd.weaken (fun _ _ _ _ => trivial)⟩
  have he : (wld K ad sh m n)[b]? = some (ad b, .inr (ci, (List.range N).map (fun j => vsl ad (cs j) (m.1 b j)))) := by rw [wld_get hb0, hs]; rfl
  have hcw : CallW R s args Y.1.cls Yc.1.cls index Yc.1 Yc.2.1 Yc.2.2.1 Yc.2.2.2 (vws Yc) { frames := frc, cells := n - n, slots := vSZ n - vSZ n, locals := loc } (n - n) (vSZ n - vSZ n) as.length := by
    refine cwV as.length hts ?_ rfl rfl rfl ⟨rfl, hpl⟩ ⟨by show frc + 1 ≤ _; omega, by show 8 + (Yc.2.2.1 + 11) + loc ≤ _; omega⟩
    refine tbl_in (fun w hw => ?_)
    rcases List.mem_append.mp hw with h | h
    · simp only [List.mem_cons, List.not_mem_nil, or_false] at h
      rcases h with rfl | rfl | rfl | rfl
      · exact hlink
      · exact hinst
      · exact hsel
      · exact hini
    · exact ((tbl_code hcode) w h).1
  have hrun := va_runV (cells := cells) (slots := slots) (locs := locs) (e := e) (below := below) (meth := meth) (g := F0 mi pc la ((as.reverse ++ .ref b :: st).map (vtr ad))) (b := ad b) (As := as.map (vtr ad)) (rest := st.map (vtr ad)) ⟨hx, hb, hml, hown, hts⟩ hM hcw ⟨hrec, va_recv hK hP hc he, hpre⟩ rfl (by simp) hl.1 (by simp [vtr]) (lv_room (by rw [vcat_tr]; exact hcat)) hd ⟨by omega, by omega⟩
  exact vRun_vJ (Nat.le_refl n) hn (Or.inl rfl) hC hD hl hR hrun
theorem vJ.callS {index frc loc : Nat} {Yc : vMeth} {as st0 : List Value} (hd : decode Y.2.1 pc = .ok (.invokestatic index, 3)) (hst : st0 = as.reverse ++ st) (hlink : Cond.methodLink Y.1.cls index Yc.1 ∈ vtb) (hstat : Cond.static Yc.1 ∈ vtb) (hcode : Cond.code Yc.1 Yc.2.1 Yc.2.2.1 Yc.2.2.2 ∈ vtb) (hini : Cond.initialized Yc.1.cls ∈ vtb) (hpl : Yc.1.cls ≠ "java/lang/invoke/MethodHandle" ∧ Yc.1.cls ≠ "java/lang/invoke/VarHandle" ∧ (parseMethodDescriptor Yc.1.desc).map (fun d => d.parameters.length) = some as.length) (hfr2 : frc + 1 ≤ fr) (hlo2 : 8 + (Yc.2.2.1 + 11) + loc ≤ lo) (hcat : vcat st ≤ 8)
    (hE : Ev Yc frc loc n as n sh m (fun r sh' m' => vJ Y fr lo nE sx (pc + 3) ls (r.toList ++ st) n sh' m' P)) : vJ Y fr lo nE sx pc ls st0 n sh m P := by
  intro p l e R s mi args below meth c D K ad A H0 H locs cells slots Cm Sm Q la hC hD hl hR
  subst hst
  obtain ⟨hx, hb, hml, hown, hts, hrt, hlk, hinit, hfr, hlo, hK, hXt⟩ := id hC
  obtain ⟨hP, hDd, hS, hA, hB, hn, hc1, hs1, hc2, hs2, hsx⟩ := id hD
  have hM := hE (Nat.le_refl n) hB l D K ad H.size
  have hrec : FrameBlind (va_Pc (as.map (vtr ad)) (fun U => U.heap.size = H.size ∧ va_P D vwCl (wld K ad sh m n) U.heap ∧ va_K D vwCl (vtys K) U ∧ vXt U ∧ va_D (fun _ => True) (wld K ad sh m n))) := vblind
  have hpre : ∀ U : State, U.heap = H → s.WarmedH U.vm → va_Pc (as.map (vtr ad)) (fun U => U.heap.size = H.size ∧ va_P D vwCl (wld K ad sh m n) U.heap ∧ va_K D vwCl (vtys K) U ∧ vXt U ∧ va_D (fun _ => True) (wld K ad sh m n)) (as.map (vtr ad)).toArray U := fun U hU hW => ⟨rfl, by rw [hU], by rw [hU]; exact hP, va_K.moved hW.alike hK, vXt.warm hW hXt, hDd.weaken (fun _ _ _ _ => trivial)⟩
  have hcw : CallB R s args Y.1.cls index Yc.1 Yc.2.1 Yc.2.2.1 Yc.2.2.2 (vws Yc) { frames := frc, cells := n - n, slots := vSZ n - vSZ n, locals := loc } (n - n) (vSZ n - vSZ n) as.length :=
    callB_of as.length hts (tbl_code hcode) rfl rfl rfl (hts _ hini) (hts _ hlink) hpl ⟨by show frc + 1 ≤ _; omega, by show 8 + (Yc.2.2.1 + 11) + loc ≤ _; omega⟩
  have hrun := va_runS (cells := cells) (slots := slots) (locs := locs) (e := e) (below := below) (meth := meth) (g := F0 mi pc la ((as.reverse ++ st).map (vtr ad))) (As := as.map (vtr ad)) (rest := st.map (vtr ad)) ⟨hx, hb, hml, hown, hts⟩ hM ⟨hcw, hts _ hstat⟩ ⟨hrec, hpre⟩ rfl (by simp) hl.1 (by simp) (lv_room (by rw [vcat_tr]; exact hcat)) hd ⟨by omega, by omega⟩
  exact vRun_vJ (Nat.le_refl n) hn (Or.inl rfl) hC hD hl hR hrun
theorem vJ.callI {index b frc loc n2 : Nat} {Yc : vMeth} {as st0 : List Value} (hd : decode Y.2.1 pc = .ok (.invokespecial index, 3)) (hst : st0 = as.reverse ++ .ref b :: st) (hlink : Cond.methodLink Y.1.cls index Yc.1 ∈ vtb) (hinst : Cond.instanceMethod Yc.1 ∈ vtb) (hin2 : Yc.1.name = "<init>") (hret : Yc.2.2.2 = none) (hcode : Cond.code Yc.1 Yc.2.1 Yc.2.2.1 Yc.2.2.2 ∈ vtb) (hini : Cond.initialized Yc.1.cls ∈ vtb) (hpl : Yc.1.cls ≠ "java/lang/invoke/MethodHandle" ∧ Yc.1.cls ≠ "java/lang/invoke/VarHandle" ∧ (parseMethodDescriptor Yc.1.desc).map (fun d => d.parameters.length) = some as.length) (hfr2 : frc + 1 ≤ fr) (hlo2 : 8 + (Yc.2.2.1 + 11) + loc ≤ lo) (hcat : vcat st ≤ 8) (hn2 : n ≤ n2) (hnE : n2 ≤ nE) (hok : vOK n ls st)
    (hE : Ev Yc frc loc n2 (.ref b :: as) n sh m (fun r sh' m' => vJ Y fr lo nE sx (pc + 3) ls (r.toList ++ st) n2 sh' m' P)) : vJ Y fr lo nE sx pc ls st0 n sh m P := by
  intro p l e R s mi args below meth c D K ad A H0 H locs cells slots Cm Sm Q la hC hD hl hR
  subst hst
  obtain ⟨hx, hb, hml, hown, hts, hrt, hlk, hinit, hfr, hlo, hK, hXt⟩ := id hC
  obtain ⟨hP, hDd, hS, hA, hB, hn, hc1, hs1, hc2, hs2, hsx⟩ := id hD
  have hm1 := vSZ_mono hn2
  have hm2 := vSZ_mono hnE
  have hM := hE hn2 hB l D K ad H.size
  have hrec : FrameBlind (va_Pc ((.ref b :: as).map (vtr ad)) (fun U => U.heap.size = H.size ∧ va_P D vwCl (wld K ad sh m n) U.heap ∧ va_K D vwCl (vtys K) U ∧ vXt U ∧ va_D (fun _ => True) (wld K ad sh m n))) := vblind
  have hpre : ∀ U : State, U.heap = H → s.WarmedH U.vm → va_Pc ((.ref b :: as).map (vtr ad)) (fun U => U.heap.size = H.size ∧ va_P D vwCl (wld K ad sh m n) U.heap ∧ va_K D vwCl (vtys K) U ∧ vXt U ∧ va_D (fun _ => True) (wld K ad sh m n)) ((.ref b :: as).map (vtr ad)).toArray U := fun U hU hW => ⟨rfl, by rw [hU], by rw [hU]; exact hP, va_K.moved hW.alike hK, vXt.warm hW hXt, hDd.weaken (fun _ _ _ _ => trivial)⟩
  have hcw := cwI (R := R) (own := Y.1.cls) (index := index) (y := Yc.1) (bytes := Yc.2.1) (maxL := Yc.2.2.1) (ws := vws Yc) (rm := { frames := frc, cells := n2 - n, slots := vSZ n2 - vSZ n, locals := loc }) (mc := n2 - n) (ms := vSZ n2 - vSZ n) as.length hts (tbl_code hcode) (by rw [← hret]; rfl) rfl rfl (hts _ hini) (hts _ hlink) (hts _ hinst) hin2 hpl ⟨by show frc + 1 ≤ _; omega, by show 8 + (Yc.2.2.1 + 11) + loc ≤ _; omega⟩
  have hrun := va_runI (cells := cells) (slots := slots) (locs := locs) (e := e) (below := below) (meth := meth) (g := F0 mi pc la ((as.reverse ++ .ref b :: st).map (vtr ad))) (b := ad b) (As := as.map (vtr ad)) (rest := st.map (vtr ad)) ⟨hx, hb, hml, hown, hts⟩ hM hcw ⟨hrec, hpre⟩ rfl (by simp) hl.1 (by simp [vtr]) (lv_room (by rw [vcat_tr]; exact hcat)) hd ⟨by omega, by omega⟩
  exact vRun_vJ hn2 hnE (Or.inr hok) hC hD hl hR hrun
theorem vJ.callIN {index b frc loc n2 : Nat} {Yc : vMeth} {as st0 : List Value} (hd : decode Y.2.1 pc = .ok (.invokespecial index, 3)) (hst : st0 = as.reverse ++ .ref b :: st) {host : String} (hlink : ∀ U : State, vXt U → va_Nw (.methodLinkNest Y.1.cls index Yc.1 host) U) (hinst : Cond.instanceMethod Yc.1 ∈ vtb) (hin2 : Yc.1.name = "<init>") (hret : Yc.2.2.2 = none) (hcode : Cond.code Yc.1 Yc.2.1 Yc.2.2.1 Yc.2.2.2 ∈ vtb) (hini : Cond.initialized Yc.1.cls ∈ vtb) (hpl : Yc.1.cls ≠ "java/lang/invoke/MethodHandle" ∧ Yc.1.cls ≠ "java/lang/invoke/VarHandle" ∧ (parseMethodDescriptor Yc.1.desc).map (fun d => d.parameters.length) = some as.length) (hfr2 : frc + 1 ≤ fr) (hlo2 : 8 + (Yc.2.2.1 + 11) + loc ≤ lo) (hcat : vcat st ≤ 8) (hn2 : n ≤ n2) (hnE : n2 ≤ nE) (hok : vOK n ls st)
    (hE : Ev Yc frc loc n2 (.ref b :: as) n sh m (fun r sh' m' => vJ Y fr lo nE sx (pc + 3) ls (r.toList ++ st) n2 sh' m' P)) : vJ Y fr lo nE sx pc ls st0 n sh m P := by
  intro p l e R s mi args below meth c D K ad A H0 H locs cells slots Cm Sm Q la hC hD hl hR
  subst hst
  obtain ⟨hx, hb, hml, hown, hts, hrt, hlk, hinit, hfr, hlo, hK, hXt⟩ := id hC
  obtain ⟨hP, hDd, hS, hA, hB, hn, hc1, hs1, hc2, hs2, hsx⟩ := id hD
  have hm1 := vSZ_mono hn2
  have hm2 := vSZ_mono hnE
  have hM := hE hn2 hB l D K ad H.size
  have hrec : FrameBlind (va_Pc ((.ref b :: as).map (vtr ad)) (fun U => U.heap.size = H.size ∧ va_P D vwCl (wld K ad sh m n) U.heap ∧ va_K D vwCl (vtys K) U ∧ vXt U ∧ va_D (fun _ => True) (wld K ad sh m n))) := vblind
  have hpre : ∀ U : State, U.heap = H → s.WarmedH U.vm → va_Pc ((.ref b :: as).map (vtr ad)) (fun U => U.heap.size = H.size ∧ va_P D vwCl (wld K ad sh m n) U.heap ∧ va_K D vwCl (vtys K) U ∧ vXt U ∧ va_D (fun _ => True) (wld K ad sh m n)) ((.ref b :: as).map (vtr ad)).toArray U := fun U hU hW => ⟨rfl, by rw [hU], by rw [hU]; exact hP, va_K.moved hW.alike hK, vXt.warm hW hXt, hDd.weaken (fun _ _ _ _ => trivial)⟩
  have hcw := va_cnB (R := R) (own := Y.1.cls) (host := host) (index := index) (y := Yc.1) (bytes := Yc.2.1) (maxL := Yc.2.2.1) (ret := none) (ws := vws Yc) (rm := { frames := frc, cells := n2 - n, slots := vSZ n2 - vSZ n, locals := loc }) (mc := n2 - n) (ms := vSZ n2 - vSZ n) as.length hts (tbl_code hcode) (by rw [← hret]; rfl) rfl rfl (hlink s hXt) (hts _ hini) hpl ⟨by show frc + 1 ≤ _; omega, by show 8 + (Yc.2.2.1 + 11) + loc ≤ _; omega⟩
  have hrun := va_runIN (cells := cells) (slots := slots) (locs := locs) (e := e) (below := below) (meth := meth) (g := F0 mi pc la ((as.reverse ++ .ref b :: st).map (vtr ad))) (b := ad b) (As := as.map (vtr ad)) (rest := st.map (vtr ad)) ⟨hx, hb, hml, hown, hts⟩ hM ⟨hcw, hin2, hts _ hinst⟩ ⟨hrec, hpre⟩ rfl (by simp) hl.1 (by simp [vtr]) (lv_room (by rw [vcat_tr]; exact hcat)) hd ⟨by omega, by omega⟩
  exact vRun_vJ hn2 hnE (Or.inr hok) hC hD hl hR hrun
end VE1
end
section
/-! the methods; each word by its place in lw_tbl -/
def mX6_init : vMeth := (yX6_init, cX6_init, 1, none)
theorem co_X6_init : Cond.code yX6_init cX6_init 1 none ∈ vtb := vtb_in 66 (by decide +kernel) rfl
def mX1_init : vMeth := (yX1_init, cX1_init, 2, none)
theorem co_X1_init : Cond.code yX1_init cX1_init 2 none ∈ vtb := vtb_in 74 (by decide +kernel) rfl
def mX0_init : vMeth := (yX0_init, cX0_init, 1, none)
theorem co_X0_init : Cond.code yX0_init cX0_init 1 none ∈ vtb := vtb_in 81 (by decide +kernel) rfl
def mJ7_fill_53178 : vMeth := (yJ7_fill_53178, cJ7_fill_53178, 4, none)
theorem co_J7_fill_53178 : Cond.code yJ7_fill_53178 cJ7_fill_53178 4 none ∈ vtb := vtb_in 137 (by decide +kernel) rfl
def mX1_begin : vMeth := (yX1_begin, cX1_begin, 4, none)
theorem co_X1_begin : Cond.code yX1_begin cX1_begin 4 none ∈ vtb := vtb_in 141 (by decide +kernel) rfl
def mX2_init : vMeth := (yX2_init, cX2_init, 2, none)
theorem co_X2_init : Cond.code yX2_init cX2_init 2 none ∈ vtb := vtb_in 181 (by decide +kernel) rfl
def mX5_init : vMeth := (yX5_init, cX5_init, 3, none)
theorem co_X5_init : Cond.code yX5_init cX5_init 3 none ∈ vtb := vtb_in 206 (by decide +kernel) rfl
def mX4_init : vMeth := (yX4_init, cX4_init, 1, none)
theorem co_X4_init : Cond.code yX4_init cX4_init 1 none ∈ vtb := vtb_in 212 (by decide +kernel) rfl
def mX3_init : vMeth := (yX3_init, cX3_init, 3, none)
theorem co_X3_init : Cond.code yX3_init cX3_init 3 none ∈ vtb := vtb_in 257 (by decide +kernel) rfl
def mX6_table : vMeth := (yX6_table, cX6_table, 4, (some .int))
theorem co_X6_table : Cond.code yX6_table cX6_table 4 (some .int) ∈ vtb := vtb_in 328 (by decide +kernel) rfl
def mX6_isWithin : vMeth := (yX6_isWithin, cX6_isWithin, 3, (some .boolean))
theorem co_X6_isWithin : Cond.code yX6_isWithin cX6_isWithin 3 (some .boolean) ∈ vtb := vtb_in 331 (by decide +kernel) rfl
def mX5_forget : vMeth := (yX5_forget, cX5_forget, 1, none)
theorem co_X5_forget : Cond.code yX5_forget cX5_forget 1 none ∈ vtb := vtb_in 336 (by decide +kernel) rfl
def mX3_forget : vMeth := (yX3_forget, cX3_forget, 1, none)
theorem co_X3_forget : Cond.code yX3_forget cX3_forget 1 none ∈ vtb := vtb_in 341 (by decide +kernel) rfl
def mX6_weight : vMeth := (yX6_weight, cX6_weight, 4, (some .int))
theorem co_X6_weight : Cond.code yX6_weight cX6_weight 4 (some .int) ∈ vtb := vtb_in 345 (by decide +kernel) rfl
def mX6_note : vMeth := (yX6_note, cX6_note, 4, (some .int))
theorem co_X6_note : Cond.code yX6_note cX6_note 4 (some .int) ∈ vtb := vtb_in 349 (by decide +kernel) rfl
def mX6_cell : vMeth := (yX6_cell, cX6_cell, 7, (some .int))
theorem co_X6_cell : Cond.code yX6_cell cX6_cell 7 (some .int) ∈ vtb := vtb_in 353 (by decide +kernel) rfl
def mX6_isPlace : vMeth := (yX6_isPlace, cX6_isPlace, 3, (some .boolean))
theorem co_X6_isPlace : Cond.code yX6_isPlace cX6_isPlace 3 (some .boolean) ∈ vtb := vtb_in 357 (by decide +kernel) rfl
def mX6_tell : vMeth := (yX6_tell, cX6_tell, 2, (some .int))
theorem co_X6_tell : Cond.code yX6_tell cX6_tell 2 (some .int) ∈ vtb := vtb_in 361 (by decide +kernel) rfl
def mX1_firstOn : vMeth := (yX1_firstOn, cX1_firstOn, 7, (some .int))
theorem co_X1_firstOn : Cond.code yX1_firstOn cX1_firstOn 7 (some .int) ∈ vtb := vtb_in 365 (by decide +kernel) rfl
def mX1_present : vMeth := (yX1_present, cX1_present, 3, (some (.object "TableSetter$Cell")))
theorem co_X1_present : Cond.code yX1_present cX1_present 3 (some (.object "TableSetter$Cell")) ∈ vtb := vtb_in 369 (by decide +kernel) rfl
def mX1_numbered : vMeth := (yX1_numbered, cX1_numbered, 2, (some (.object "TableSetter$Cell")))
theorem co_X1_numbered : Cond.code yX1_numbered cX1_numbered 2 (some (.object "TableSetter$Cell")) ∈ vtb := vtb_in 373 (by decide +kernel) rfl
def mX0_meets : vMeth := (yX0_meets, cX0_meets, 5, (some .boolean))
theorem co_X0_meets : Cond.code yX0_meets cX0_meets 5 (some .boolean) ∈ vtb := vtb_in 377 (by decide +kernel) rfl
def mX1_add : vMeth := (yX1_add, cX1_add, 6, (some .int))
theorem co_X1_add : Cond.code yX1_add cX1_add 6 (some .int) ∈ vtb := vtb_in 381 (by decide +kernel) rfl
def mX0_begin : vMeth := (yX0_begin, cX0_begin, 6, none)
theorem co_X0_begin : Cond.code yX0_begin cX0_begin 6 none ∈ vtb := vtb_in 385 (by decide +kernel) rfl
def mX0_fill : vMeth := (yX0_fill, cX0_fill, 2, none)
theorem co_X0_fill : Cond.code yX0_fill cX0_fill 2 none ∈ vtb := vtb_in 389 (by decide +kernel) rfl
def mX0_forgetLines : vMeth := (yX0_forgetLines, cX0_forgetLines, 1, none)
theorem co_X0_forgetLines : Cond.code yX0_forgetLines cX0_forgetLines 1 none ∈ vtb := vtb_in 394 (by decide +kernel) rfl
def mX6_clash : vMeth := (yX6_clash, cX6_clash, 1, (some .int))
theorem co_X6_clash : Cond.code yX6_clash cX6_clash 1 (some .int) ∈ vtb := vtb_in 398 (by decide +kernel) rfl
def mX6_drop : vMeth := (yX6_drop, cX6_drop, 3, (some .int))
theorem co_X6_drop : Cond.code yX6_drop cX6_drop 3 (some .int) ∈ vtb := vtb_in 402 (by decide +kernel) rfl
def mX6_told : vMeth := (yX6_told, cX6_told, 4, (some .int))
theorem co_X6_told : Cond.code yX6_told cX6_told 4 (some .int) ∈ vtb := vtb_in 407 (by decide +kernel) rfl
def mX0_fact : vMeth := (yX0_fact, cX0_fact, 2, (some .int))
theorem co_X0_fact : Cond.code yX0_fact cX0_fact 2 (some .int) ∈ vtb := vtb_in 411 (by decide +kernel) rfl
def mX6_is : vMeth := (yX6_is, cX6_is, 4, (some .int))
theorem co_X6_is : Cond.code yX6_is cX6_is 4 (some .int) ∈ vtb := vtb_in 415 (by decide +kernel) rfl
def mX6_on : vMeth := (yX6_on, cX6_on, 3, (some .int))
theorem co_X6_on : Cond.code yX6_on cX6_on 3 (some .int) ∈ vtb := vtb_in 419 (by decide +kernel) rfl
def mX6_words : vMeth := (yX6_words, cX6_words, 4, (some .int))
theorem co_X6_words : Cond.code yX6_words cX6_words 4 (some .int) ∈ vtb := vtb_in 423 (by decide +kernel) rfl
def mX6_word : vMeth := (yX6_word, cX6_word, 5, (some .int))
theorem co_X6_word : Cond.code yX6_word cX6_word 5 (some .int) ∈ vtb := vtb_in 428 (by decide +kernel) rfl
def mX0_holds : vMeth := (yX0_holds, cX0_holds, 3, (some .boolean))
theorem co_X0_holds : Cond.code yX0_holds cX0_holds 3 (some .boolean) ∈ vtb := vtb_in 432 (by decide +kernel) rfl
def mX0_exchange : vMeth := (yX0_exchange, cX0_exchange, 4, (some .int))
theorem co_X0_exchange : Cond.code yX0_exchange cX0_exchange 4 (some .int) ∈ vtb := vtb_in 436 (by decide +kernel) rfl
def mX6_copy : vMeth := (yX6_copy, cX6_copy, 8, (some .int))
theorem co_X6_copy : Cond.code yX6_copy cX6_copy 8 (some .int) ∈ vtb := vtb_in 440 (by decide +kernel) rfl
def mX0_take : vMeth := (yX0_take, cX0_take, 5, none)
theorem co_X0_take : Cond.code yX0_take cX0_take 5 none ∈ vtb := vtb_in 444 (by decide +kernel) rfl
def mX6_mean : vMeth := (yX6_mean, cX6_mean, 3, (some .int))
theorem co_X6_mean : Cond.code yX6_mean cX6_mean 3 (some .int) ∈ vtb := vtb_in 452 (by decide +kernel) rfl
def mX0_allLetters : vMeth := (yX0_allLetters, cX0_allLetters, 3, (some .int))
theorem co_X0_allLetters : Cond.code yX0_allLetters cX0_allLetters 3 (some .int) ∈ vtb := vtb_in 456 (by decide +kernel) rfl
def mX6_calls : vMeth := (yX6_calls, cX6_calls, 5, (some .int))
theorem co_X6_calls : Cond.code yX6_calls cX6_calls 5 (some .int) ∈ vtb := vtb_in 460 (by decide +kernel) rfl
def mX6_fix : vMeth := (yX6_fix, cX6_fix, 5, (some .int))
theorem co_X6_fix : Cond.code yX6_fix cX6_fix 5 (some .int) ∈ vtb := vtb_in 464 (by decide +kernel) rfl
def mX6_lines : vMeth := (yX6_lines, cX6_lines, 4, (some .int))
theorem co_X6_lines : Cond.code yX6_lines cX6_lines 4 (some .int) ∈ vtb := vtb_in 468 (by decide +kernel) rfl
def mX0_linesIn : vMeth := (yX0_linesIn, cX0_linesIn, 3, (some .int))
theorem co_X0_linesIn : Cond.code yX0_linesIn cX0_linesIn 3 (some .int) ∈ vtb := vtb_in 472 (by decide +kernel) rfl
def mX0_countLines : vMeth := (yX0_countLines, cX0_countLines, 7, (some .int))
theorem co_X0_countLines : Cond.code yX0_countLines cX0_countLines 7 (some .int) ∈ vtb := vtb_in 479 (by decide +kernel) rfl
def mX6_want : vMeth := (yX6_want, cX6_want, 4, (some .int))
theorem co_X6_want : Cond.code yX6_want cX6_want 4 (some .int) ∈ vtb := vtb_in 483 (by decide +kernel) rfl
def mX0_wanted : vMeth := (yX0_wanted, cX0_wanted, 2, (some .int))
theorem co_X0_wanted : Cond.code yX0_wanted cX0_wanted 2 (some .int) ∈ vtb := vtb_in 487 (by decide +kernel) rfl
def mX0_longestPiece : vMeth := (yX0_longestPiece, cX0_longestPiece, 3, (some .int))
theorem co_X0_longestPiece : Cond.code yX0_longestPiece cX0_longestPiece 3 (some .int) ∈ vtb := vtb_in 491 (by decide +kernel) rfl
def mX6_natural : vMeth := (yX6_natural, cX6_natural, 3, (some .int))
theorem co_X6_natural : Cond.code yX6_natural cX6_natural 3 (some .int) ∈ vtb := vtb_in 496 (by decide +kernel) rfl
def mX5_measure : vMeth := (yX5_measure, cX5_measure, 2, none)
theorem co_X5_measure : Cond.code yX5_measure cX5_measure 2 none ∈ vtb := vtb_in 500 (by decide +kernel) rfl
def mX5_measureFor : vMeth := (yX5_measureFor, cX5_measureFor, 6, none)
theorem co_X5_measureFor : Cond.code yX5_measureFor cX5_measureFor 6 none ∈ vtb := vtb_in 504 (by decide +kernel) rfl
def mX1_spanOf : vMeth := (yX1_spanOf, cX1_spanOf, 6, (some .int))
theorem co_X1_spanOf : Cond.code yX1_spanOf cX1_spanOf 6 (some .int) ∈ vtb := vtb_in 510 (by decide +kernel) rfl
def mX5_noteLack : vMeth := (yX5_noteLack, cX5_noteLack, 4, none)
theorem co_X5_noteLack : Cond.code yX5_noteLack cX5_noteLack 4 none ∈ vtb := vtb_in 517 (by decide +kernel) rfl
def mX4_divide : vMeth := (yX4_divide, cX4_divide, 9, none)
theorem co_X4_divide : Cond.code yX4_divide cX4_divide 9 none ∈ vtb := vtb_in 521 (by decide +kernel) rfl
def mX4_giveOne : vMeth := (yX4_giveOne, cX4_giveOne, 5, none)
theorem co_X4_giveOne : Cond.code yX4_giveOne cX4_giveOne 5 none ∈ vtb := vtb_in 527 (by decide +kernel) rfl
def mX5_addTo : vMeth := (yX5_addTo, cX5_addTo, 4, none)
theorem co_X5_addTo : Cond.code yX5_addTo cX5_addTo 4 none ∈ vtb := vtb_in 532 (by decide +kernel) rfl
def mX6_set : vMeth := (yX6_set, cX6_set, 3, (some .int))
theorem co_X6_set : Cond.code yX6_set cX6_set 3 (some .int) ∈ vtb := vtb_in 536 (by decide +kernel) rfl
def mX5_spareOf : vMeth := (yX5_spareOf, cX5_spareOf, 2, (some .int))
theorem co_X5_spareOf : Cond.code yX5_spareOf cX5_spareOf 2 (some .int) ∈ vtb := vtb_in 540 (by decide +kernel) rfl
def mX1_gaps : vMeth := (yX1_gaps, cX1_gaps, 1, (some .int))
theorem co_X1_gaps : Cond.code yX1_gaps cX1_gaps 1 (some .int) ∈ vtb := vtb_in 544 (by decide +kernel) rfl
def mX5_sumOf : vMeth := (yX5_sumOf, cX5_sumOf, 4, (some .int))
theorem co_X5_sumOf : Cond.code yX5_sumOf cX5_sumOf 4 (some .int) ∈ vtb := vtb_in 548 (by decide +kernel) rfl
def mX5_spread : vMeth := (yX5_spread, cX5_spread, 4, none)
theorem co_X5_spread : Cond.code yX5_spread cX5_spread 4 none ∈ vtb := vtb_in 552 (by decide +kernel) rfl
def mX6_heightOfTable : vMeth := (yX6_heightOfTable, cX6_heightOfTable, 1, (some .int))
theorem co_X6_heightOfTable : Cond.code yX6_heightOfTable cX6_heightOfTable 1 (some .int) ∈ vtb := vtb_in 557 (by decide +kernel) rfl
def mX2_sortCells : vMeth := (yX2_sortCells, cX2_sortCells, 4, none)
theorem co_X2_sortCells : Cond.code yX2_sortCells cX2_sortCells 4 none ∈ vtb := vtb_in 561 (by decide +kernel) rfl
def mX2_measure : vMeth := (yX2_measure, cX2_measure, 5, (some .int))
theorem co_X2_measure : Cond.code yX2_measure cX2_measure 5 (some .int) ∈ vtb := vtb_in 566 (by decide +kernel) rfl
def mX2_grow : vMeth := (yX2_grow, cX2_grow, 2, none)
theorem co_X2_grow : Cond.code yX2_grow cX2_grow 2 none ∈ vtb := vtb_in 571 (by decide +kernel) rfl
def mX2_noteLack : vMeth := (yX2_noteLack, cX2_noteLack, 6, none)
theorem co_X2_noteLack : Cond.code yX2_noteLack cX2_noteLack 6 none ∈ vtb := vtb_in 577 (by decide +kernel) rfl
def mX2_sum : vMeth := (yX2_sum, cX2_sum, 3, (some .int))
theorem co_X2_sum : Cond.code yX2_sum cX2_sum 3 (some .int) ∈ vtb := vtb_in 583 (by decide +kernel) rfl
def mX6_tight : vMeth := (yX6_tight, cX6_tight, 6, (some .int))
theorem co_X6_tight : Cond.code yX6_tight cX6_tight 6 (some .int) ∈ vtb := vtb_in 587 (by decide +kernel) rfl
def mX5_waysToSpread : vMeth := (yX5_waysToSpread, cX5_waysToSpread, 5, (some .long))
theorem co_X5_waysToSpread : Cond.code yX5_waysToSpread cX5_waysToSpread 5 (some .long) ∈ vtb := vtb_in 591 (by decide +kernel) rfl
def mX5_tighten : vMeth := (yX5_tighten, cX5_tighten, 6, (some .int))
theorem co_X5_tighten : Cond.code yX5_tighten cX5_tighten 6 (some .int) ∈ vtb := vtb_in 595 (by decide +kernel) rfl
def mX5_addToLast : vMeth := (yX5_addToLast, cX5_addToLast, 3, none)
theorem co_X5_addToLast : Cond.code yX5_addToLast cX5_addToLast 3 none ∈ vtb := vtb_in 599 (by decide +kernel) rfl
def mX5_tryNext : vMeth := (yX5_tryNext, cX5_tryNext, 3, none)
theorem co_X5_tryNext : Cond.code yX5_tryNext cX5_tryNext 3 none ∈ vtb := vtb_in 605 (by decide +kernel) rfl
def mX6_tries : vMeth := (yX6_tries, cX6_tries, 1, (some .int))
theorem co_X6_tries : Cond.code yX6_tries cX6_tries 1 (some .int) ∈ vtb := vtb_in 610 (by decide +kernel) rfl
def mX6_width : vMeth := (yX6_width, cX6_width, 2, (some .int))
theorem co_X6_width : Cond.code yX6_width cX6_width 2 (some .int) ∈ vtb := vtb_in 614 (by decide +kernel) rfl
def mX6_height : vMeth := (yX6_height, cX6_height, 2, (some .int))
theorem co_X6_height : Cond.code yX6_height cX6_height 2 (some .int) ∈ vtb := vtb_in 618 (by decide +kernel) rfl
def mX6_pages : vMeth := (yX6_pages, cX6_pages, 2, (some .int))
theorem co_X6_pages : Cond.code yX6_pages cX6_pages 2 (some .int) ∈ vtb := vtb_in 622 (by decide +kernel) rfl
def mX3_make : vMeth := (yX3_make, cX3_make, 3, (some .int))
theorem co_X3_make : Cond.code yX3_make cX3_make 3 (some .int) ∈ vtb := vtb_in 626 (by decide +kernel) rfl
def mX1_headRows : vMeth := (yX1_headRows, cX1_headRows, 2, (some .int))
theorem co_X1_headRows : Cond.code yX1_headRows cX1_headRows 2 (some .int) ∈ vtb := vtb_in 630 (by decide +kernel) rfl
def mX1_hasHead : vMeth := (yX1_hasHead, cX1_hasHead, 4, (some .boolean))
theorem co_X1_hasHead : Cond.code yX1_hasHead cX1_hasHead 4 (some .boolean) ∈ vtb := vtb_in 634 (by decide +kernel) rfl
def mX0_liesOnRow : vMeth := (yX0_liesOnRow, cX0_liesOnRow, 2, (some .boolean))
theorem co_X0_liesOnRow : Cond.code yX0_liesOnRow cX0_liesOnRow 2 (some .boolean) ∈ vtb := vtb_in 638 (by decide +kernel) rfl
def mX3_findHomes : vMeth := (yX3_findHomes, cX3_findHomes, 4, none)
theorem co_X3_findHomes : Cond.code yX3_findHomes cX3_findHomes 4 none ∈ vtb := vtb_in 643 (by decide +kernel) rfl
def mX1_firstCall : vMeth := (yX1_firstCall, cX1_firstCall, 5, (some .int))
theorem co_X1_firstCall : Cond.code yX1_firstCall cX1_firstCall 5 (some .int) ∈ vtb := vtb_in 648 (by decide +kernel) rfl
def mX1_breaksAhead : vMeth := (yX1_breaksAhead, cX1_breaksAhead, 5, (some .boolean))
theorem co_X1_breaksAhead : Cond.code yX1_breaksAhead cX1_breaksAhead 5 (some .boolean) ∈ vtb := vtb_in 653 (by decide +kernel) rfl
def mX3_planFrom : vMeth := (yX3_planFrom, cX3_planFrom, 5, none)
theorem co_X3_planFrom : Cond.code yX3_planFrom cX3_planFrom 5 none ∈ vtb := vtb_in 657 (by decide +kernel) rfl
def mX3_isAlone : vMeth := (yX3_isAlone, cX3_isAlone, 3, (some .boolean))
theorem co_X3_isAlone : Cond.code yX3_isAlone cX3_isAlone 3 (some .boolean) ∈ vtb := vtb_in 661 (by decide +kernel) rfl
def mX3_weigh : vMeth := (yX3_weigh, cX3_weigh, 7, none)
theorem co_X3_weigh : Cond.code yX3_weigh cX3_weigh 7 none ∈ vtb := vtb_in 665 (by decide +kernel) rfl
def mX3_layOut : vMeth := (yX3_layOut, cX3_layOut, 5, none)
theorem co_X3_layOut : Cond.code yX3_layOut cX3_layOut 5 none ∈ vtb := vtb_in 669 (by decide +kernel) rfl
def mX6_page : vMeth := (yX6_page, cX6_page, 3, (some .int))
theorem co_X6_page : Cond.code yX6_page cX6_page 3 (some .int) ∈ vtb := vtb_in 673 (by decide +kernel) rfl
def mX6_pageOf : vMeth := (yX6_pageOf, cX6_pageOf, 2, (some .int))
theorem co_X6_pageOf : Cond.code yX6_pageOf cX6_pageOf 2 (some .int) ∈ vtb := vtb_in 677 (by decide +kernel) rfl
def mX3_holding : vMeth := (yX3_holding, cX3_holding, 3, (some .int))
theorem co_X3_holding : Cond.code yX3_holding cX3_holding 3 (some .int) ∈ vtb := vtb_in 681 (by decide +kernel) rfl
def mX6_mayBreak : vMeth := (yX6_mayBreak, cX6_mayBreak, 2, (some .int))
theorem co_X6_mayBreak : Cond.code yX6_mayBreak cX6_mayBreak 2 (some .int) ∈ vtb := vtb_in 685 (by decide +kernel) rfl
def mX6_count : vMeth := (yX6_count, cX6_count, 2, (some .int))
theorem co_X6_count : Cond.code yX6_count cX6_count 2 (some .int) ∈ vtb := vtb_in 691 (by decide +kernel) rfl
def mX1_presentCells : vMeth := (yX1_presentCells, cX1_presentCells, 3, (some .int))
theorem co_X1_presentCells : Cond.code yX1_presentCells cX1_presentCells 3 (some .int) ∈ vtb := vtb_in 695 (by decide +kernel) rfl
def mX6_finding : vMeth := (yX6_finding, cX6_finding, 1, (some .int))
theorem co_X6_finding : Cond.code yX6_finding cX6_finding 1 (some .int) ∈ vtb := vtb_in 699 (by decide +kernel) rfl
def mX6_findings : vMeth := (yX6_findings, cX6_findings, 2, (some .int))
theorem co_X6_findings : Cond.code yX6_findings cX6_findings 2 (some .int) ∈ vtb := vtb_in 703 (by decide +kernel) rfl
def mX6_digest : vMeth := (yX6_digest, cX6_digest, 5, (some .long))
theorem co_X6_digest : Cond.code yX6_digest cX6_digest 5 (some .long) ∈ vtb := vtb_in 707 (by decide +kernel) rfl
def mX6_mixed : vMeth := (yX6_mixed, cX6_mixed, 7, (some .long))
theorem co_X6_mixed : Cond.code yX6_mixed cX6_mixed 7 (some .long) ∈ vtb := vtb_in 712 (by decide +kernel) rfl
def mX6_mixedCell : vMeth := (yX6_mixedCell, cX6_mixedCell, 6, (some .long))
theorem co_X6_mixedCell : Cond.code yX6_mixedCell cX6_mixedCell 6 (some .long) ∈ vtb := vtb_in 716 (by decide +kernel) rfl
def mX7_init : vMeth := (yX7_init, cX7_init, 2, none)
theorem co_X7_init : Cond.code yX7_init cX7_init 2 none ∈ vtb := vtb_in 721 (by decide +kernel) rfl
def mX7_begin : vMeth := (yX7_begin, cX7_begin, 5, none)
theorem co_X7_begin : Cond.code yX7_begin cX7_begin 5 none ∈ vtb := vtb_in 726 (by decide +kernel) rfl
def mX7_finding : vMeth := (yX7_finding, cX7_finding, 1, (some .int))
theorem co_X7_finding : Cond.code yX7_finding cX7_finding 1 (some .int) ∈ vtb := vtb_in 856 (by decide +kernel) rfl
def mX7_findings : vMeth := (yX7_findings, cX7_findings, 2, (some .int))
theorem co_X7_findings : Cond.code yX7_findings cX7_findings 2 (some .int) ∈ vtb := vtb_in 860 (by decide +kernel) rfl
def mX7_in : vMeth := (yX7_in, cX7_in, 3, (some .boolean))
theorem co_X7_in : Cond.code yX7_in cX7_in 3 (some .boolean) ∈ vtb := vtb_in 863 (by decide +kernel) rfl
def mX7_table : vMeth := (yX7_table, cX7_table, 4, (some .int))
theorem co_X7_table : Cond.code yX7_table cX7_table 4 (some .int) ∈ vtb := vtb_in 867 (by decide +kernel) rfl
def mX7_weight : vMeth := (yX7_weight, cX7_weight, 4, (some .int))
theorem co_X7_weight : Cond.code yX7_weight cX7_weight 4 (some .int) ∈ vtb := vtb_in 871 (by decide +kernel) rfl
def mX7_isColumn : vMeth := (yX7_isColumn, cX7_isColumn, 2, (some .boolean))
theorem co_X7_isColumn : Cond.code yX7_isColumn cX7_isColumn 2 (some .boolean) ∈ vtb := vtb_in 875 (by decide +kernel) rfl
def mX7_note : vMeth := (yX7_note, cX7_note, 4, (some .int))
theorem co_X7_note : Cond.code yX7_note cX7_note 4 (some .int) ∈ vtb := vtb_in 879 (by decide +kernel) rfl
def mX7_cell : vMeth := (yX7_cell, cX7_cell, 10, (some .int))
theorem co_X7_cell : Cond.code yX7_cell cX7_cell 10 (some .int) ∈ vtb := vtb_in 883 (by decide +kernel) rfl
def mX7_isRow : vMeth := (yX7_isRow, cX7_isRow, 2, (some .boolean))
theorem co_X7_isRow : Cond.code yX7_isRow cX7_isRow 2 (some .boolean) ∈ vtb := vtb_in 887 (by decide +kernel) rfl
def mX7_meets : vMeth := (yX7_meets, cX7_meets, 2, (some .int))
theorem co_X7_meets : Cond.code yX7_meets cX7_meets 2 (some .int) ∈ vtb := vtb_in 891 (by decide +kernel) rfl
def mX7_cellOn : vMeth := (yX7_cellOn, cX7_cellOn, 4, (some .int))
theorem co_X7_cellOn : Cond.code yX7_cellOn cX7_cellOn 4 (some .int) ∈ vtb := vtb_in 895 (by decide +kernel) rfl
def mX7_liesOn : vMeth := (yX7_liesOn, cX7_liesOn, 4, (some .boolean))
theorem co_X7_liesOn : Cond.code yX7_liesOn cX7_liesOn 4 (some .boolean) ∈ vtb := vtb_in 899 (by decide +kernel) rfl
def mX7_clash : vMeth := (yX7_clash, cX7_clash, 1, (some .int))
theorem co_X7_clash : Cond.code yX7_clash cX7_clash 1 (some .int) ∈ vtb := vtb_in 903 (by decide +kernel) rfl
def mX7_drop : vMeth := (yX7_drop, cX7_drop, 2, (some .int))
theorem co_X7_drop : Cond.code yX7_drop cX7_drop 2 (some .int) ∈ vtb := vtb_in 907 (by decide +kernel) rfl
def mX7_isCell : vMeth := (yX7_isCell, cX7_isCell, 2, (some .boolean))
theorem co_X7_isCell : Cond.code yX7_isCell cX7_isCell 2 (some .boolean) ∈ vtb := vtb_in 911 (by decide +kernel) rfl
def mX7_told : vMeth := (yX7_told, cX7_told, 4, (some .int))
theorem co_X7_told : Cond.code yX7_told cX7_told 4 (some .int) ∈ vtb := vtb_in 915 (by decide +kernel) rfl
def mX7_need : vMeth := (yX7_need, cX7_need, 3, (some .int))
theorem co_X7_need : Cond.code yX7_need cX7_need 3 (some .int) ∈ vtb := vtb_in 919 (by decide +kernel) rfl
def mX7_toldOf : vMeth := (yX7_toldOf, cX7_toldOf, 3, (some .int))
theorem co_X7_toldOf : Cond.code yX7_toldOf cX7_toldOf 3 (some .int) ∈ vtb := vtb_in 923 (by decide +kernel) rfl
def mX7_is : vMeth := (yX7_is, cX7_is, 4, (some .int))
theorem co_X7_is : Cond.code yX7_is cX7_is 4 (some .int) ∈ vtb := vtb_in 927 (by decide +kernel) rfl
def mX7_on : vMeth := (yX7_on, cX7_on, 3, (some .int))
theorem co_X7_on : Cond.code yX7_on cX7_on 3 (some .int) ∈ vtb := vtb_in 931 (by decide +kernel) rfl
def mX7_words : vMeth := (yX7_words, cX7_words, 5, (some .int))
theorem co_X7_words : Cond.code yX7_words cX7_words 5 (some .int) ∈ vtb := vtb_in 935 (by decide +kernel) rfl
def mX7_word : vMeth := (yX7_word, cX7_word, 6, (some .int))
theorem co_X7_word : Cond.code yX7_word cX7_word 6 (some .int) ∈ vtb := vtb_in 939 (by decide +kernel) rfl
def mX7_copy : vMeth := (yX7_copy, cX7_copy, 7, (some .int))
theorem co_X7_copy : Cond.code yX7_copy cX7_copy 7 (some .int) ∈ vtb := vtb_in 943 (by decide +kernel) rfl
def mX7_mean : vMeth := (yX7_mean, cX7_mean, 3, (some .int))
theorem co_X7_mean : Cond.code yX7_mean cX7_mean 3 (some .int) ∈ vtb := vtb_in 947 (by decide +kernel) rfl
def mX7_lettersOf : vMeth := (yX7_lettersOf, cX7_lettersOf, 4, (some .int))
theorem co_X7_lettersOf : Cond.code yX7_lettersOf cX7_lettersOf 4 (some .int) ∈ vtb := vtb_in 951 (by decide +kernel) rfl
def mX7_calls : vMeth := (yX7_calls, cX7_calls, 5, (some .int))
theorem co_X7_calls : Cond.code yX7_calls cX7_calls 5 (some .int) ∈ vtb := vtb_in 955 (by decide +kernel) rfl
def mX7_fix : vMeth := (yX7_fix, cX7_fix, 5, (some .int))
theorem co_X7_fix : Cond.code yX7_fix cX7_fix 5 (some .int) ∈ vtb := vtb_in 959 (by decide +kernel) rfl
def mX7_lines : vMeth := (yX7_lines, cX7_lines, 4, (some .int))
theorem co_X7_lines : Cond.code yX7_lines cX7_lines 4 (some .int) ∈ vtb := vtb_in 963 (by decide +kernel) rfl
def mX7_linesOf : vMeth := (yX7_linesOf, cX7_linesOf, 9, (some .int))
theorem co_X7_linesOf : Cond.code yX7_linesOf cX7_linesOf 9 (some .int) ∈ vtb := vtb_in 967 (by decide +kernel) rfl
def mX7_want : vMeth := (yX7_want, cX7_want, 4, (some .int))
theorem co_X7_want : Cond.code yX7_want cX7_want 4 (some .int) ∈ vtb := vtb_in 971 (by decide +kernel) rfl
def mX7_wantOf : vMeth := (yX7_wantOf, cX7_wantOf, 5, (some .int))
theorem co_X7_wantOf : Cond.code yX7_wantOf cX7_wantOf 5 (some .int) ∈ vtb := vtb_in 975 (by decide +kernel) rfl
def mX7_natural : vMeth := (yX7_natural, cX7_natural, 3, (some .int))
theorem co_X7_natural : Cond.code yX7_natural cX7_natural 3 (some .int) ∈ vtb := vtb_in 979 (by decide +kernel) rfl
def mX7_layBoth : vMeth := (yX7_layBoth, cX7_layBoth, 2, none)
theorem co_X7_layBoth : Cond.code yX7_layBoth cX7_layBoth 2 none ∈ vtb := vtb_in 983 (by decide +kernel) rfl
def mX7_layWidths : vMeth := (yX7_layWidths, cX7_layWidths, 5, none)
theorem co_X7_layWidths : Cond.code yX7_layWidths cX7_layWidths 5 none ∈ vtb := vtb_in 987 (by decide +kernel) rfl
def mX7_widthOver : vMeth := (yX7_widthOver, cX7_widthOver, 6, (some .int))
theorem co_X7_widthOver : Cond.code yX7_widthOver cX7_widthOver 6 (some .int) ∈ vtb := vtb_in 991 (by decide +kernel) rfl
def mX7_lacks : vMeth := (yX7_lacks, cX7_lacks, 5, none)
theorem co_X7_lacks : Cond.code yX7_lacks cX7_lacks 5 none ∈ vtb := vtb_in 995 (by decide +kernel) rfl
def mX7_share : vMeth := (yX7_share, cX7_share, 8, none)
theorem co_X7_share : Cond.code yX7_share cX7_share 8 none ∈ vtb := vtb_in 999 (by decide +kernel) rfl
def mX7_set : vMeth := (yX7_set, cX7_set, 6, (some .int))
theorem co_X7_set : Cond.code yX7_set cX7_set 6 (some .int) ∈ vtb := vtb_in 1003 (by decide +kernel) rfl
def mX7_sumOf : vMeth := (yX7_sumOf, cX7_sumOf, 4, (some .int))
theorem co_X7_sumOf : Cond.code yX7_sumOf cX7_sumOf 4 (some .int) ∈ vtb := vtb_in 1007 (by decide +kernel) rfl
def mX7_heightBy : vMeth := (yX7_heightBy, cX7_heightBy, 4, (some .int))
theorem co_X7_heightBy : Cond.code yX7_heightBy cX7_heightBy 4 (some .int) ∈ vtb := vtb_in 1011 (by decide +kernel) rfl
def mX7_layHeights : vMeth := (yX7_layHeights, cX7_layHeights, 6, none)
theorem co_X7_layHeights : Cond.code yX7_layHeights cX7_layHeights 6 none ∈ vtb := vtb_in 1015 (by decide +kernel) rfl
def mX7_tight : vMeth := (yX7_tight, cX7_tight, 8, (some .int))
theorem co_X7_tight : Cond.code yX7_tight cX7_tight 8 (some .int) ∈ vtb := vtb_in 1019 (by decide +kernel) rfl
def mX7_next : vMeth := (yX7_next, cX7_next, 3, (some .boolean))
theorem co_X7_next : Cond.code yX7_next cX7_next 3 (some .boolean) ∈ vtb := vtb_in 1023 (by decide +kernel) rfl
def mX7_tries : vMeth := (yX7_tries, cX7_tries, 1, (some .int))
theorem co_X7_tries : Cond.code yX7_tries cX7_tries 1 (some .int) ∈ vtb := vtb_in 1027 (by decide +kernel) rfl
def mX7_width : vMeth := (yX7_width, cX7_width, 2, (some .int))
theorem co_X7_width : Cond.code yX7_width cX7_width 2 (some .int) ∈ vtb := vtb_in 1031 (by decide +kernel) rfl
def mX7_height : vMeth := (yX7_height, cX7_height, 2, (some .int))
theorem co_X7_height : Cond.code yX7_height cX7_height 2 (some .int) ∈ vtb := vtb_in 1035 (by decide +kernel) rfl
def mX7_mayBreak : vMeth := (yX7_mayBreak, cX7_mayBreak, 2, (some .int))
theorem co_X7_mayBreak : Cond.code yX7_mayBreak cX7_mayBreak 2 (some .int) ∈ vtb := vtb_in 1039 (by decide +kernel) rfl
def mX7_mayBreakAt : vMeth := (yX7_mayBreakAt, cX7_mayBreakAt, 5, (some .boolean))
theorem co_X7_mayBreakAt : Cond.code yX7_mayBreakAt cX7_mayBreakAt 5 (some .boolean) ∈ vtb := vtb_in 1043 (by decide +kernel) rfl
def mX7_headRows : vMeth := (yX7_headRows, cX7_headRows, 6, (some .int))
theorem co_X7_headRows : Cond.code yX7_headRows cX7_headRows 6 (some .int) ∈ vtb := vtb_in 1047 (by decide +kernel) rfl
def mX7_pages : vMeth := (yX7_pages, cX7_pages, 11, (some .int))
theorem co_X7_pages : Cond.code yX7_pages cX7_pages 11 (some .int) ∈ vtb := vtb_in 1051 (by decide +kernel) rfl
def mX7_emptyOf : vMeth := (yX7_emptyOf, cX7_emptyOf, 8, (some .int))
theorem co_X7_emptyOf : Cond.code yX7_emptyOf cX7_emptyOf 8 (some .int) ∈ vtb := vtb_in 1055 (by decide +kernel) rfl
def mX7_notesOn : vMeth := (yX7_notesOn, cX7_notesOn, 7, (some .int))
theorem co_X7_notesOn : Cond.code yX7_notesOn cX7_notesOn 7 (some .int) ∈ vtb := vtb_in 1059 (by decide +kernel) rfl
def mX7_homeOf : vMeth := (yX7_homeOf, cX7_homeOf, 6, (some .int))
theorem co_X7_homeOf : Cond.code yX7_homeOf cX7_homeOf 6 (some .int) ∈ vtb := vtb_in 1063 (by decide +kernel) rfl
def mX7_page : vMeth := (yX7_page, cX7_page, 3, (some .int))
theorem co_X7_page : Cond.code yX7_page cX7_page 3 (some .int) ∈ vtb := vtb_in 1067 (by decide +kernel) rfl
def mX7_pageTold : vMeth := (yX7_pageTold, cX7_pageTold, 3, (some .int))
theorem co_X7_pageTold : Cond.code yX7_pageTold cX7_pageTold 3 (some .int) ∈ vtb := vtb_in 1071 (by decide +kernel) rfl
def mX7_pageOf : vMeth := (yX7_pageOf, cX7_pageOf, 2, (some .int))
theorem co_X7_pageOf : Cond.code yX7_pageOf cX7_pageOf 2 (some .int) ∈ vtb := vtb_in 1075 (by decide +kernel) rfl
def mX7_count : vMeth := (yX7_count, cX7_count, 4, (some .int))
theorem co_X7_count : Cond.code yX7_count cX7_count 4 (some .int) ∈ vtb := vtb_in 1079 (by decide +kernel) rfl
def mX7_digest : vMeth := (yX7_digest, cX7_digest, 5, (some .long))
theorem co_X7_digest : Cond.code yX7_digest cX7_digest 5 (some .long) ∈ vtb := vtb_in 1083 (by decide +kernel) rfl
def mX7_digestCell : vMeth := (yX7_digestCell, cX7_digestCell, 7, (some .long))
theorem co_X7_digestCell : Cond.code yX7_digestCell cX7_digestCell 7 (some .long) ∈ vtb := vtb_in 1089 (by decide +kernel) rfl
theorem se_yX6_isPlace : Cond.selects RX6 yX6_isPlace yX6_isPlace ∈ vtb := vtb_in 0 (by decide +kernel) rfl
theorem se_yX6_tell : Cond.selects RX6 yX6_tell yX6_tell ∈ vtb := vtb_in 1 (by decide +kernel) rfl
theorem se_yX0_forgetLines : Cond.selects RX0 yX0_forgetLines yX0_forgetLines ∈ vtb := vtb_in 2 (by decide +kernel) rfl
theorem se_yX0_countLines : Cond.selects RX0 yX0_countLines yX0_countLines ∈ vtb := vtb_in 3 (by decide +kernel) rfl
theorem se_yX0_longestPiece : Cond.selects RX0 yX0_longestPiece yX0_longestPiece ∈ vtb := vtb_in 4 (by decide +kernel) rfl
theorem se_yX5_measureFor : Cond.selects RX5 yX5_measureFor yX5_measureFor ∈ vtb := vtb_in 5 (by decide +kernel) rfl
theorem se_yX5_noteLack : Cond.selects RX5 yX5_noteLack yX5_noteLack ∈ vtb := vtb_in 6 (by decide +kernel) rfl
theorem se_yX4_giveOne : Cond.selects RX4 yX4_giveOne yX4_giveOne ∈ vtb := vtb_in 7 (by decide +kernel) rfl
theorem se_yX5_addTo : Cond.selects RX5 yX5_addTo yX5_addTo ∈ vtb := vtb_in 8 (by decide +kernel) rfl
theorem se_yX5_sumOf : Cond.selects RX5 yX5_sumOf yX5_sumOf ∈ vtb := vtb_in 9 (by decide +kernel) rfl
theorem se_yX6_heightOfTable : Cond.selects RX6 yX6_heightOfTable yX6_heightOfTable ∈ vtb := vtb_in 10 (by decide +kernel) rfl
theorem se_yX2_grow : Cond.selects RX2 yX2_grow yX2_grow ∈ vtb := vtb_in 11 (by decide +kernel) rfl
theorem se_yX2_noteLack : Cond.selects RX2 yX2_noteLack yX2_noteLack ∈ vtb := vtb_in 12 (by decide +kernel) rfl
theorem se_yX2_sum : Cond.selects RX2 yX2_sum yX2_sum ∈ vtb := vtb_in 13 (by decide +kernel) rfl
theorem se_yX5_addToLast : Cond.selects RX5 yX5_addToLast yX5_addToLast ∈ vtb := vtb_in 14 (by decide +kernel) rfl
theorem se_yX5_tryNext : Cond.selects RX5 yX5_tryNext yX5_tryNext ∈ vtb := vtb_in 15 (by decide +kernel) rfl
theorem se_yX1_hasHead : Cond.selects RX1 yX1_hasHead yX1_hasHead ∈ vtb := vtb_in 16 (by decide +kernel) rfl
theorem se_yX3_findHomes : Cond.selects RX3 yX3_findHomes yX3_findHomes ∈ vtb := vtb_in 17 (by decide +kernel) rfl
theorem se_yX3_planFrom : Cond.selects RX3 yX3_planFrom yX3_planFrom ∈ vtb := vtb_in 18 (by decide +kernel) rfl
theorem se_yX3_isAlone : Cond.selects RX3 yX3_isAlone yX3_isAlone ∈ vtb := vtb_in 19 (by decide +kernel) rfl
theorem se_yX3_weigh : Cond.selects RX3 yX3_weigh yX3_weigh ∈ vtb := vtb_in 20 (by decide +kernel) rfl
theorem se_yX3_layOut : Cond.selects RX3 yX3_layOut yX3_layOut ∈ vtb := vtb_in 21 (by decide +kernel) rfl
theorem se_yX7_begin : Cond.selects RX7 yX7_begin yX7_begin ∈ vtb := vtb_in 22 (by decide +kernel) rfl
theorem se_yX7_isColumn : Cond.selects RX7 yX7_isColumn yX7_isColumn ∈ vtb := vtb_in 23 (by decide +kernel) rfl
theorem se_yX7_isRow : Cond.selects RX7 yX7_isRow yX7_isRow ∈ vtb := vtb_in 24 (by decide +kernel) rfl
theorem se_yX7_meets : Cond.selects RX7 yX7_meets yX7_meets ∈ vtb := vtb_in 25 (by decide +kernel) rfl
theorem se_yX7_cellOn : Cond.selects RX7 yX7_cellOn yX7_cellOn ∈ vtb := vtb_in 26 (by decide +kernel) rfl
theorem se_yX7_liesOn : Cond.selects RX7 yX7_liesOn yX7_liesOn ∈ vtb := vtb_in 27 (by decide +kernel) rfl
theorem se_yX7_isCell : Cond.selects RX7 yX7_isCell yX7_isCell ∈ vtb := vtb_in 28 (by decide +kernel) rfl
theorem se_yX7_need : Cond.selects RX7 yX7_need yX7_need ∈ vtb := vtb_in 29 (by decide +kernel) rfl
theorem se_yX7_toldOf : Cond.selects RX7 yX7_toldOf yX7_toldOf ∈ vtb := vtb_in 30 (by decide +kernel) rfl
theorem se_yX7_lettersOf : Cond.selects RX7 yX7_lettersOf yX7_lettersOf ∈ vtb := vtb_in 31 (by decide +kernel) rfl
theorem se_yX7_linesOf : Cond.selects RX7 yX7_linesOf yX7_linesOf ∈ vtb := vtb_in 32 (by decide +kernel) rfl
theorem se_yX7_wantOf : Cond.selects RX7 yX7_wantOf yX7_wantOf ∈ vtb := vtb_in 33 (by decide +kernel) rfl
theorem se_yX7_layBoth : Cond.selects RX7 yX7_layBoth yX7_layBoth ∈ vtb := vtb_in 34 (by decide +kernel) rfl
theorem se_yX7_layWidths : Cond.selects RX7 yX7_layWidths yX7_layWidths ∈ vtb := vtb_in 35 (by decide +kernel) rfl
theorem se_yX7_widthOver : Cond.selects RX7 yX7_widthOver yX7_widthOver ∈ vtb := vtb_in 36 (by decide +kernel) rfl
theorem se_yX7_lacks : Cond.selects RX7 yX7_lacks yX7_lacks ∈ vtb := vtb_in 37 (by decide +kernel) rfl
theorem se_yX7_share : Cond.selects RX7 yX7_share yX7_share ∈ vtb := vtb_in 38 (by decide +kernel) rfl
theorem se_yX7_sumOf : Cond.selects RX7 yX7_sumOf yX7_sumOf ∈ vtb := vtb_in 39 (by decide +kernel) rfl
theorem se_yX7_heightBy : Cond.selects RX7 yX7_heightBy yX7_heightBy ∈ vtb := vtb_in 40 (by decide +kernel) rfl
theorem se_yX7_layHeights : Cond.selects RX7 yX7_layHeights yX7_layHeights ∈ vtb := vtb_in 41 (by decide +kernel) rfl
theorem se_yX7_next : Cond.selects RX7 yX7_next yX7_next ∈ vtb := vtb_in 42 (by decide +kernel) rfl
theorem se_yX7_mayBreakAt : Cond.selects RX7 yX7_mayBreakAt yX7_mayBreakAt ∈ vtb := vtb_in 43 (by decide +kernel) rfl
theorem se_yX7_headRows : Cond.selects RX7 yX7_headRows yX7_headRows ∈ vtb := vtb_in 44 (by decide +kernel) rfl
theorem se_yX7_emptyOf : Cond.selects RX7 yX7_emptyOf yX7_emptyOf ∈ vtb := vtb_in 45 (by decide +kernel) rfl
theorem se_yX7_notesOn : Cond.selects RX7 yX7_notesOn yX7_notesOn ∈ vtb := vtb_in 46 (by decide +kernel) rfl
theorem se_yX7_homeOf : Cond.selects RX7 yX7_homeOf yX7_homeOf ∈ vtb := vtb_in 47 (by decide +kernel) rfl
theorem se_yX7_pageTold : Cond.selects RX7 yX7_pageTold yX7_pageTold ∈ vtb := vtb_in 48 (by decide +kernel) rfl
theorem se_yX7_digestCell : Cond.selects RX7 yX7_digestCell yX7_digestCell ∈ vtb := vtb_in 49 (by decide +kernel) rfl
theorem in_TableSetterLaw : Cond.initialized RL ∈ vtb := vtb_in 50 (by decide +kernel) rfl
theorem in_TableSetter : Cond.initialized RX6 ∈ vtb := vtb_in 51 (by decide +kernel) rfl
theorem in_TableSetter_Grid : Cond.initialized RX1 ∈ vtb := vtb_in 52 (by decide +kernel) rfl
theorem in_TableSetter_Cell : Cond.initialized RX0 ∈ vtb := vtb_in 53 (by decide +kernel) rfl
theorem in_java_util_Arrays : Cond.initialized RJ7 ∈ vtb := vtb_in 54 (by decide +kernel) rfl
theorem in_TableSetter_Heights : Cond.initialized RX2 ∈ vtb := vtb_in 55 (by decide +kernel) rfl
theorem in_TableSetter_Widths : Cond.initialized RX5 ∈ vtb := vtb_in 56 (by decide +kernel) rfl
theorem in_TableSetter_Share : Cond.initialized RX4 ∈ vtb := vtb_in 57 (by decide +kernel) rfl
theorem in_TableSetter_Pager : Cond.initialized RX3 ∈ vtb := vtb_in 58 (by decide +kernel) rfl
theorem in_TableSetterModel : Cond.initialized RX7 ∈ vtb := vtb_in 59 (by decide +kernel) rfl
theorem in_java_lang_System : Cond.initialized "java/lang/System" ∈ vtb := vtb_in 60 (by decide +kernel) rfl
theorem in_java_lang_Math : Cond.initialized "java/lang/Math" ∈ vtb := vtb_in 61 (by decide +kernel) rfl
theorem cl_RL_7 : Cond.classLink RL 7 RX6 ∈ vtb := vtb_in 62 (by decide +kernel) rfl
theorem it_RX6 : Cond.instantiable RX6 8 ∈ vtb := vtb_in 63 (by decide +kernel) rfl
theorem ml_RL_9 : Cond.methodLink RL 9 yX6_init ∈ vtb := vtb_in 64 (by decide +kernel) rfl
theorem im_yX6_init : Cond.instanceMethod yX6_init ∈ vtb := vtb_in 65 (by decide +kernel) rfl
theorem ml_RX6_1 : Cond.methodLink RX6 1 objectInit ∈ vtb := vtb_in 67 (by decide +kernel) rfl
theorem im_objectInit : Cond.instanceMethod objectInit ∈ vtb := vtb_in 68 (by decide +kernel) rfl
theorem cl_RX6_7 : Cond.classLink RX6 7 RX1 ∈ vtb := vtb_in 70 (by decide +kernel) rfl
theorem it_RX1 : Cond.instantiable RX1 7 ∈ vtb := vtb_in 71 (by decide +kernel) rfl
theorem ml_RX6_9 : Cond.methodLink RX6 9 yX1_init ∈ vtb := vtb_in 72 (by decide +kernel) rfl
theorem im_yX1_init : Cond.instanceMethod yX1_init ∈ vtb := vtb_in 73 (by decide +kernel) rfl
theorem ml_RX1_3 : Cond.methodLink RX1 3 objectInit ∈ vtb := vtb_in 75 (by decide +kernel) rfl
theorem cl_RX1_18 : Cond.classLink RX1 18 RX0 ∈ vtb := vtb_in 76 (by decide +kernel) rfl
theorem it_RX0 : Cond.instantiable RX0 11 ∈ vtb := vtb_in 78 (by decide +kernel) rfl
theorem im_yX0_init : Cond.instanceMethod yX0_init ∈ vtb := vtb_in 80 (by decide +kernel) rfl
theorem ml_RX0_3 : Cond.methodLink RX0 3 objectInit ∈ vtb := vtb_in 82 (by decide +kernel) rfl
theorem fl_RX0_18 : Cond.fieldLink RX0 18 "TableSetter$Cell" "kind" "I" ∈ vtb := vtb_in 83 (by decide +kernel) rfl
theorem fl_RX1_70 : Cond.fieldLink RX1 70 "TableSetter$Cell" "kind" "I" ∈ vtb := vtb_in 84 (by decide +kernel) rfl
theorem fl_RX6_111 : Cond.fieldLink RX6 111 "TableSetter$Cell" "kind" "I" ∈ vtb := vtb_in 85 (by decide +kernel) rfl
theorem fl_RX0_22 : Cond.fieldLink RX0 22 "TableSetter$Cell" "row" "I" ∈ vtb := vtb_in 86 (by decide +kernel) rfl
theorem fl_RX2_73 : Cond.fieldLink RX2 73 "TableSetter$Cell" "row" "I" ∈ vtb := vtb_in 87 (by decide +kernel) rfl
theorem fl_RX1_79 : Cond.fieldLink RX1 79 "TableSetter$Cell" "row" "I" ∈ vtb := vtb_in 88 (by decide +kernel) rfl
theorem fl_RX0_25 : Cond.fieldLink RX0 25 "TableSetter$Cell" "column" "I" ∈ vtb := vtb_in 89 (by decide +kernel) rfl
theorem fl_RX5_98 : Cond.fieldLink RX5 98 "TableSetter$Cell" "column" "I" ∈ vtb := vtb_in 90 (by decide +kernel) rfl
theorem fl_RX1_82 : Cond.fieldLink RX1 82 "TableSetter$Cell" "column" "I" ∈ vtb := vtb_in 91 (by decide +kernel) rfl
theorem fl_RX0_28 : Cond.fieldLink RX0 28 "TableSetter$Cell" "rows" "I" ∈ vtb := vtb_in 92 (by decide +kernel) rfl
theorem fl_RX2_44 : Cond.fieldLink RX2 44 "TableSetter$Cell" "rows" "I" ∈ vtb := vtb_in 93 (by decide +kernel) rfl
theorem fl_RX0_31 : Cond.fieldLink RX0 31 "TableSetter$Cell" "cols" "I" ∈ vtb := vtb_in 94 (by decide +kernel) rfl
theorem fl_RX5_74 : Cond.fieldLink RX5 74 "TableSetter$Cell" "cols" "I" ∈ vtb := vtb_in 95 (by decide +kernel) rfl
theorem fl_RX1_85 : Cond.fieldLink RX1 85 "TableSetter$Cell" "cols" "I" ∈ vtb := vtb_in 96 (by decide +kernel) rfl
theorem fl_RX0_34 : Cond.fieldLink RX0 34 "TableSetter$Cell" "called" "I" ∈ vtb := vtb_in 97 (by decide +kernel) rfl
theorem fl_RX1_76 : Cond.fieldLink RX1 76 "TableSetter$Cell" "called" "I" ∈ vtb := vtb_in 98 (by decide +kernel) rfl
theorem fl_RX6_136 : Cond.fieldLink RX6 136 "TableSetter$Cell" "called" "I" ∈ vtb := vtb_in 99 (by decide +kernel) rfl
theorem fl_RX0_37 : Cond.fieldLink RX0 37 "TableSetter$Cell" "fixedWidth" "I" ∈ vtb := vtb_in 100 (by decide +kernel) rfl
theorem fl_RX6_139 : Cond.fieldLink RX6 139 "TableSetter$Cell" "fixedWidth" "I" ∈ vtb := vtb_in 101 (by decide +kernel) rfl
theorem fl_RX2_45 : Cond.fieldLink RX2 45 "TableSetter$Cell" "pieces" "I" ∈ vtb := vtb_in 102 (by decide +kernel) rfl
theorem fl_RX0_48 : Cond.fieldLink RX0 48 "TableSetter$Cell" "pieces" "I" ∈ vtb := vtb_in 103 (by decide +kernel) rfl
theorem fl_RX6_129 : Cond.fieldLink RX6 129 "TableSetter$Cell" "pieces" "I" ∈ vtb := vtb_in 104 (by decide +kernel) rfl
theorem fl_RX0_40 : Cond.fieldLink RX0 40 "TableSetter$Cell" "gone" "Z" ∈ vtb := vtb_in 105 (by decide +kernel) rfl
theorem fl_RX1_52 : Cond.fieldLink RX1 52 "TableSetter$Cell" "gone" "Z" ∈ vtb := vtb_in 106 (by decide +kernel) rfl
theorem fl_RX6_102 : Cond.fieldLink RX6 102 "TableSetter$Cell" "gone" "Z" ∈ vtb := vtb_in 107 (by decide +kernel) rfl
theorem fl_RX0_9 : Cond.fieldLink RX0 9 "TableSetter$Cell" "letters" "[I" ∈ vtb := vtb_in 108 (by decide +kernel) rfl
theorem fl_RX6_217 : Cond.fieldLink RX6 217 "TableSetter$Cell" "letters" "[I" ∈ vtb := vtb_in 109 (by decide +kernel) rfl
theorem fl_RX0_15 : Cond.fieldLink RX0 15 "TableSetter$Cell" "knownLines" "[I" ∈ vtb := vtb_in 110 (by decide +kernel) rfl
theorem ac_int : Cond.arrayClass .int ∈ vtb := vtb_in 134 (by decide +kernel) rfl
theorem ml_RX1_25 : Cond.methodLink RX1 25 yJ7_fill_53178 ∈ vtb := vtb_in 135 (by decide +kernel) rfl
theorem st_yJ7_fill_53178 : Cond.static yJ7_fill_53178 ∈ vtb := vtb_in 136 (by decide +kernel) rfl
theorem ml_RX1_31 : Cond.methodLink RX1 31 yX1_begin ∈ vtb := vtb_in 138 (by decide +kernel) rfl
theorem im_yX1_begin : Cond.instanceMethod yX1_begin ∈ vtb := vtb_in 139 (by decide +kernel) rfl
theorem se_yX1_begin : Cond.selects RX1 yX1_begin yX1_begin ∈ vtb := vtb_in 140 (by decide +kernel) rfl
theorem fl_RX1_35 : Cond.fieldLink RX1 35 "TableSetter$Grid" "rows" "I" ∈ vtb := vtb_in 142 (by decide +kernel) rfl
theorem fl_RX2_32 : Cond.fieldLink RX2 32 "TableSetter$Grid" "rows" "I" ∈ vtb := vtb_in 143 (by decide +kernel) rfl
theorem fl_RX3_53 : Cond.fieldLink RX3 53 "TableSetter$Grid" "rows" "I" ∈ vtb := vtb_in 144 (by decide +kernel) rfl
theorem fl_RX6_83 : Cond.fieldLink RX6 83 "TableSetter$Grid" "rows" "I" ∈ vtb := vtb_in 145 (by decide +kernel) rfl
theorem fl_RX1_39 : Cond.fieldLink RX1 39 "TableSetter$Grid" "columns" "I" ∈ vtb := vtb_in 146 (by decide +kernel) rfl
theorem fl_RX6_67 : Cond.fieldLink RX6 67 "TableSetter$Grid" "columns" "I" ∈ vtb := vtb_in 147 (by decide +kernel) rfl
theorem fl_RX5_61 : Cond.fieldLink RX5 61 "TableSetter$Grid" "columns" "I" ∈ vtb := vtb_in 148 (by decide +kernel) rfl
theorem fl_RX1_42 : Cond.fieldLink RX1 42 "TableSetter$Grid" "gap" "I" ∈ vtb := vtb_in 149 (by decide +kernel) rfl
theorem fl_RX6_203 : Cond.fieldLink RX6 203 "TableSetter$Grid" "gap" "I" ∈ vtb := vtb_in 150 (by decide +kernel) rfl
theorem fl_RX1_45 : Cond.fieldLink RX1 45 "TableSetter$Grid" "ever" "I" ∈ vtb := vtb_in 151 (by decide +kernel) rfl
theorem fl_RX2_37 : Cond.fieldLink RX2 37 "TableSetter$Grid" "ever" "I" ∈ vtb := vtb_in 152 (by decide +kernel) rfl
theorem fl_RX5_67 : Cond.fieldLink RX5 67 "TableSetter$Grid" "ever" "I" ∈ vtb := vtb_in 153 (by decide +kernel) rfl
theorem fl_RX6_80 : Cond.fieldLink RX6 80 "TableSetter$Grid" "ever" "I" ∈ vtb := vtb_in 154 (by decide +kernel) rfl
theorem fl_RX1_9 : Cond.fieldLink RX1 9 "TableSetter$Grid" "weights" "[I" ∈ vtb := vtb_in 155 (by decide +kernel) rfl
theorem fl_RX6_70 : Cond.fieldLink RX6 70 "TableSetter$Grid" "weights" "[I" ∈ vtb := vtb_in 156 (by decide +kernel) rfl
theorem fl_RX5_95 : Cond.fieldLink RX5 95 "TableSetter$Grid" "weights" "[I" ∈ vtb := vtb_in 157 (by decide +kernel) rfl
theorem fl_RX1_15 : Cond.fieldLink RX1 15 "TableSetter$Grid" "noteLines" "[I" ∈ vtb := vtb_in 158 (by decide +kernel) rfl
theorem fl_RX6_73 : Cond.fieldLink RX6 73 "TableSetter$Grid" "noteLines" "[I" ∈ vtb := vtb_in 159 (by decide +kernel) rfl
theorem fl_RX3_100 : Cond.fieldLink RX3 100 "TableSetter$Grid" "noteLines" "[I" ∈ vtb := vtb_in 160 (by decide +kernel) rfl
theorem fl_RX1_20 : Cond.fieldLink RX1 20 "TableSetter$Grid" "cells" "[LTableSetter$Cell;" ∈ vtb := vtb_in 161 (by decide +kernel) rfl
theorem cl_RX6_16 : Cond.classLink RX6 16 RX2 ∈ vtb := vtb_in 177 (by decide +kernel) rfl
theorem it_RX2 : Cond.instantiable RX2 5 ∈ vtb := vtb_in 178 (by decide +kernel) rfl
theorem ml_RX6_18 : Cond.methodLink RX6 18 yX2_init ∈ vtb := vtb_in 179 (by decide +kernel) rfl
theorem im_yX2_init : Cond.instanceMethod yX2_init ∈ vtb := vtb_in 180 (by decide +kernel) rfl
theorem ml_RX2_3 : Cond.methodLink RX2 3 objectInit ∈ vtb := vtb_in 182 (by decide +kernel) rfl
theorem cl_RX2_18 : Cond.classLink RX2 18 RX0 ∈ vtb := vtb_in 183 (by decide +kernel) rfl
theorem fl_RX2_9 : Cond.fieldLink RX2 9 "TableSetter$Heights" "now" "[I" ∈ vtb := vtb_in 184 (by decide +kernel) rfl
theorem fl_RX3_68 : Cond.fieldLink RX3 68 "TableSetter$Heights" "now" "[I" ∈ vtb := vtb_in 185 (by decide +kernel) rfl
theorem fl_RX6_176 : Cond.fieldLink RX6 176 "TableSetter$Heights" "now" "[I" ∈ vtb := vtb_in 186 (by decide +kernel) rfl
theorem fl_RX2_28 : Cond.fieldLink RX2 28 "TableSetter$Heights" "grid" "LTableSetter$Grid;" ∈ vtb := vtb_in 187 (by decide +kernel) rfl
theorem fl_RX2_15 : Cond.fieldLink RX2 15 "TableSetter$Heights" "growth" "[I" ∈ vtb := vtb_in 188 (by decide +kernel) rfl
theorem fl_RX2_20 : Cond.fieldLink RX2 20 "TableSetter$Heights" "order" "[LTableSetter$Cell;" ∈ vtb := vtb_in 189 (by decide +kernel) rfl
theorem fl_RX2_24 : Cond.fieldLink RX2 24 "TableSetter$Heights" "ordered" "I" ∈ vtb := vtb_in 190 (by decide +kernel) rfl
theorem cl_RX6_25 : Cond.classLink RX6 25 RX5 ∈ vtb := vtb_in 202 (by decide +kernel) rfl
theorem it_RX5 : Cond.instantiable RX5 9 ∈ vtb := vtb_in 203 (by decide +kernel) rfl
theorem ml_RX6_27 : Cond.methodLink RX6 27 yX5_init ∈ vtb := vtb_in 204 (by decide +kernel) rfl
theorem im_yX5_init : Cond.instanceMethod yX5_init ∈ vtb := vtb_in 205 (by decide +kernel) rfl
theorem ml_RX5_3 : Cond.methodLink RX5 3 objectInit ∈ vtb := vtb_in 207 (by decide +kernel) rfl
theorem cl_RX5_21 : Cond.classLink RX5 21 RX4 ∈ vtb := vtb_in 208 (by decide +kernel) rfl
theorem it_RX4 : Cond.instantiable RX4 2 ∈ vtb := vtb_in 209 (by decide +kernel) rfl
theorem im_yX4_init : Cond.instanceMethod yX4_init ∈ vtb := vtb_in 211 (by decide +kernel) rfl
theorem ml_RX4_3 : Cond.methodLink RX4 3 objectInit ∈ vtb := vtb_in 213 (by decide +kernel) rfl
theorem fl_RX4_9 : Cond.fieldLink RX4 9 "TableSetter$Share" "parts" "[I" ∈ vtb := vtb_in 214 (by decide +kernel) rfl
theorem fl_RX5_105 : Cond.fieldLink RX5 105 "TableSetter$Share" "parts" "[I" ∈ vtb := vtb_in 215 (by decide +kernel) rfl
theorem fl_RX4_15 : Cond.fieldLink RX4 15 "TableSetter$Share" "cutOff" "[I" ∈ vtb := vtb_in 216 (by decide +kernel) rfl
theorem fl_RX5_9 : Cond.fieldLink RX5 9 "TableSetter$Widths" "now" "[I" ∈ vtb := vtb_in 222 (by decide +kernel) rfl
theorem fl_RX6_173 : Cond.fieldLink RX6 173 "TableSetter$Widths" "now" "[I" ∈ vtb := vtb_in 223 (by decide +kernel) rfl
theorem fl_RX5_15 : Cond.fieldLink RX5 15 "TableSetter$Widths" "least" "[I" ∈ vtb := vtb_in 224 (by decide +kernel) rfl
theorem fl_RX6_151 : Cond.fieldLink RX6 151 "TableSetter$Widths" "least" "[I" ∈ vtb := vtb_in 225 (by decide +kernel) rfl
theorem fl_RX5_18 : Cond.fieldLink RX5 18 "TableSetter$Widths" "best" "[I" ∈ vtb := vtb_in 226 (by decide +kernel) rfl
theorem fl_RX6_154 : Cond.fieldLink RX6 154 "TableSetter$Widths" "best" "[I" ∈ vtb := vtb_in 227 (by decide +kernel) rfl
theorem fl_RX5_37 : Cond.fieldLink RX5 37 "TableSetter$Widths" "grid" "LTableSetter$Grid;" ∈ vtb := vtb_in 228 (by decide +kernel) rfl
theorem fl_RX5_41 : Cond.fieldLink RX5 41 "TableSetter$Widths" "heights" "LTableSetter$Heights;" ∈ vtb := vtb_in 229 (by decide +kernel) rfl
theorem fl_RX5_24 : Cond.fieldLink RX5 24 "TableSetter$Widths" "share" "LTableSetter$Share;" ∈ vtb := vtb_in 230 (by decide +kernel) rfl
theorem fl_RX5_28 : Cond.fieldLink RX5 28 "TableSetter$Widths" "growth" "[I" ∈ vtb := vtb_in 231 (by decide +kernel) rfl
theorem fl_RX5_31 : Cond.fieldLink RX5 31 "TableSetter$Widths" "more" "[I" ∈ vtb := vtb_in 232 (by decide +kernel) rfl
theorem fl_RX5_34 : Cond.fieldLink RX5 34 "TableSetter$Widths" "trial" "[I" ∈ vtb := vtb_in 233 (by decide +kernel) rfl
theorem cl_RX6_34 : Cond.classLink RX6 34 RX3 ∈ vtb := vtb_in 253 (by decide +kernel) rfl
theorem it_RX3 : Cond.instantiable RX3 12 ∈ vtb := vtb_in 254 (by decide +kernel) rfl
theorem ml_RX6_36 : Cond.methodLink RX6 36 yX3_init ∈ vtb := vtb_in 255 (by decide +kernel) rfl
theorem im_yX3_init : Cond.instanceMethod yX3_init ∈ vtb := vtb_in 256 (by decide +kernel) rfl
theorem ml_RX3_3 : Cond.methodLink RX3 3 objectInit ∈ vtb := vtb_in 258 (by decide +kernel) rfl
theorem cl_RX3_15 : Cond.classLink RX3 15 "[[I" ∈ vtb := vtb_in 259 (by decide +kernel) rfl
theorem fl_RX3_9 : Cond.fieldLink RX3 9 "TableSetter$Pager" "made" "I" ∈ vtb := vtb_in 261 (by decide +kernel) rfl
theorem fl_RX6_180 : Cond.fieldLink RX6 180 "TableSetter$Pager" "made" "I" ∈ vtb := vtb_in 262 (by decide +kernel) rfl
theorem fl_RX3_17 : Cond.fieldLink RX3 17 "TableSetter$Pager" "facts" "[[I" ∈ vtb := vtb_in 263 (by decide +kernel) rfl
theorem fl_RX6_183 : Cond.fieldLink RX6 183 "TableSetter$Pager" "facts" "[[I" ∈ vtb := vtb_in 264 (by decide +kernel) rfl
theorem fl_RX3_36 : Cond.fieldLink RX3 36 "TableSetter$Pager" "grid" "LTableSetter$Grid;" ∈ vtb := vtb_in 265 (by decide +kernel) rfl
theorem fl_RX3_40 : Cond.fieldLink RX3 40 "TableSetter$Pager" "heights" "LTableSetter$Heights;" ∈ vtb := vtb_in 266 (by decide +kernel) rfl
theorem fl_RX3_20 : Cond.fieldLink RX3 20 "TableSetter$Pager" "homeNotes" "[I" ∈ vtb := vtb_in 267 (by decide +kernel) rfl
theorem fl_RX3_24 : Cond.fieldLink RX3 24 "TableSetter$Pager" "homeLines" "[I" ∈ vtb := vtb_in 268 (by decide +kernel) rfl
theorem fl_RX3_27 : Cond.fieldLink RX3 27 "TableSetter$Pager" "fewest" "[I" ∈ vtb := vtb_in 269 (by decide +kernel) rfl
theorem fl_RX3_30 : Cond.fieldLink RX3 30 "TableSetter$Pager" "waste" "[I" ∈ vtb := vtb_in 270 (by decide +kernel) rfl
theorem fl_RX3_33 : Cond.fieldLink RX3 33 "TableSetter$Pager" "ends" "[I" ∈ vtb := vtb_in 271 (by decide +kernel) rfl
theorem fl_RX3_65 : Cond.fieldLink RX3 65 "TableSetter$Pager" "room" "I" ∈ vtb := vtb_in 272 (by decide +kernel) rfl
theorem fl_RX3_50 : Cond.fieldLink RX3 50 "TableSetter$Pager" "body" "I" ∈ vtb := vtb_in 273 (by decide +kernel) rfl
theorem fl_RX3_62 : Cond.fieldLink RX3 62 "TableSetter$Pager" "last" "I" ∈ vtb := vtb_in 274 (by decide +kernel) rfl
theorem fl_RX6_10 : Cond.fieldLink RX6 10 "TableSetter" "grid" "LTableSetter$Grid;" ∈ vtb := vtb_in 300 (by decide +kernel) rfl
theorem fl_RX6_21 : Cond.fieldLink RX6 21 "TableSetter" "heights" "LTableSetter$Heights;" ∈ vtb := vtb_in 301 (by decide +kernel) rfl
theorem fl_RX6_30 : Cond.fieldLink RX6 30 "TableSetter" "widths" "LTableSetter$Widths;" ∈ vtb := vtb_in 302 (by decide +kernel) rfl
theorem fl_RX6_37 : Cond.fieldLink RX6 37 "TableSetter" "pager" "LTableSetter$Pager;" ∈ vtb := vtb_in 303 (by decide +kernel) rfl
theorem fl_RX6_41 : Cond.fieldLink RX6 41 "TableSetter" "findingCounts" "[I" ∈ vtb := vtb_in 304 (by decide +kernel) rfl
theorem fl_RX6_45 : Cond.fieldLink RX6 45 "TableSetter" "latestFinding" "I" ∈ vtb := vtb_in 305 (by decide +kernel) rfl
theorem fl_RX6_49 : Cond.fieldLink RX6 49 "TableSetter" "latestClash" "I" ∈ vtb := vtb_in 306 (by decide +kernel) rfl
theorem fl_RX6_52 : Cond.fieldLink RX6 52 "TableSetter" "latestTries" "I" ∈ vtb := vtb_in 307 (by decide +kernel) rfl
theorem ml_RL_13 : Cond.methodLink RL 13 yX6_table ∈ vtb := vtb_in 325 (by decide +kernel) rfl
theorem im_yX6_table : Cond.instanceMethod yX6_table ∈ vtb := vtb_in 326 (by decide +kernel) rfl
theorem se_yX6_table : Cond.selects RX6 yX6_table yX6_table ∈ vtb := vtb_in 327 (by decide +kernel) rfl
theorem ml_RX6_55 : Cond.methodLink RX6 55 yX6_isWithin ∈ vtb := vtb_in 329 (by decide +kernel) rfl
theorem st_yX6_isWithin : Cond.static yX6_isWithin ∈ vtb := vtb_in 330 (by decide +kernel) rfl
theorem ml_RX6_59 : Cond.methodLink RX6 59 yX1_begin ∈ vtb := vtb_in 332 (by decide +kernel) rfl
theorem ml_RX6_63 : Cond.methodLink RX6 63 yX5_forget ∈ vtb := vtb_in 333 (by decide +kernel) rfl
theorem im_yX5_forget : Cond.instanceMethod yX5_forget ∈ vtb := vtb_in 334 (by decide +kernel) rfl
theorem se_yX5_forget : Cond.selects RX5 yX5_forget yX5_forget ∈ vtb := vtb_in 335 (by decide +kernel) rfl
theorem ml_RX5_45 : Cond.methodLink RX5 45 yJ7_fill_53178 ∈ vtb := vtb_in 337 (by decide +kernel) rfl
theorem ml_RX6_66 : Cond.methodLink RX6 66 yX3_forget ∈ vtb := vtb_in 338 (by decide +kernel) rfl
theorem im_yX3_forget : Cond.instanceMethod yX3_forget ∈ vtb := vtb_in 339 (by decide +kernel) rfl
theorem se_yX3_forget : Cond.selects RX3 yX3_forget yX3_forget ∈ vtb := vtb_in 340 (by decide +kernel) rfl
theorem ml_RL_18 : Cond.methodLink RL 18 yX6_weight ∈ vtb := vtb_in 342 (by decide +kernel) rfl
theorem im_yX6_weight : Cond.instanceMethod yX6_weight ∈ vtb := vtb_in 343 (by decide +kernel) rfl
theorem se_yX6_weight : Cond.selects RX6 yX6_weight yX6_weight ∈ vtb := vtb_in 344 (by decide +kernel) rfl
theorem ml_RL_23 : Cond.methodLink RL 23 yX6_note ∈ vtb := vtb_in 346 (by decide +kernel) rfl
theorem im_yX6_note : Cond.instanceMethod yX6_note ∈ vtb := vtb_in 347 (by decide +kernel) rfl
theorem se_yX6_note : Cond.selects RX6 yX6_note yX6_note ∈ vtb := vtb_in 348 (by decide +kernel) rfl
theorem ml_RL_27 : Cond.methodLink RL 27 yX6_cell ∈ vtb := vtb_in 350 (by decide +kernel) rfl
theorem im_yX6_cell : Cond.instanceMethod yX6_cell ∈ vtb := vtb_in 351 (by decide +kernel) rfl
theorem se_yX6_cell : Cond.selects RX6 yX6_cell yX6_cell ∈ vtb := vtb_in 352 (by decide +kernel) rfl
theorem ml_RX6_76 : Cond.methodLink RX6 76 yX6_isPlace ∈ vtb := vtb_in 354 (by decide +kernel) rfl
theorem im_yX6_isPlace : Cond.instanceMethod yX6_isPlace ∈ vtb := vtb_in 356 (by decide +kernel) rfl
theorem ml_RX6_86 : Cond.methodLink RX6 86 yX6_tell ∈ vtb := vtb_in 358 (by decide +kernel) rfl
theorem im_yX6_tell : Cond.instanceMethod yX6_tell ∈ vtb := vtb_in 360 (by decide +kernel) rfl
theorem ml_RX6_90 : Cond.methodLink RX6 90 yX1_firstOn ∈ vtb := vtb_in 362 (by decide +kernel) rfl
theorem im_yX1_firstOn : Cond.instanceMethod yX1_firstOn ∈ vtb := vtb_in 363 (by decide +kernel) rfl
theorem se_yX1_firstOn : Cond.selects RX1 yX1_firstOn yX1_firstOn ∈ vtb := vtb_in 364 (by decide +kernel) rfl
theorem ml_RX1_59 : Cond.methodLink RX1 59 yX1_present ∈ vtb := vtb_in 366 (by decide +kernel) rfl
theorem im_yX1_present : Cond.instanceMethod yX1_present ∈ vtb := vtb_in 367 (by decide +kernel) rfl
theorem se_yX1_present : Cond.selects RX1 yX1_present yX1_present ∈ vtb := vtb_in 368 (by decide +kernel) rfl
theorem ml_RX1_48 : Cond.methodLink RX1 48 yX1_numbered ∈ vtb := vtb_in 370 (by decide +kernel) rfl
theorem im_yX1_numbered : Cond.instanceMethod yX1_numbered ∈ vtb := vtb_in 371 (by decide +kernel) rfl
theorem se_yX1_numbered : Cond.selects RX1 yX1_numbered yX1_numbered ∈ vtb := vtb_in 372 (by decide +kernel) rfl
theorem ml_RX1_62 : Cond.methodLink RX1 62 yX0_meets ∈ vtb := vtb_in 374 (by decide +kernel) rfl
theorem im_yX0_meets : Cond.instanceMethod yX0_meets ∈ vtb := vtb_in 375 (by decide +kernel) rfl
theorem se_yX0_meets : Cond.selects RX0 yX0_meets yX0_meets ∈ vtb := vtb_in 376 (by decide +kernel) rfl
theorem ml_RX6_94 : Cond.methodLink RX6 94 yX1_add ∈ vtb := vtb_in 378 (by decide +kernel) rfl
theorem im_yX1_add : Cond.instanceMethod yX1_add ∈ vtb := vtb_in 379 (by decide +kernel) rfl
theorem se_yX1_add : Cond.selects RX1 yX1_add yX1_add ∈ vtb := vtb_in 380 (by decide +kernel) rfl
theorem ml_RX1_56 : Cond.methodLink RX1 56 yX0_begin ∈ vtb := vtb_in 382 (by decide +kernel) rfl
theorem im_yX0_begin : Cond.instanceMethod yX0_begin ∈ vtb := vtb_in 383 (by decide +kernel) rfl
theorem se_yX0_begin : Cond.selects RX0 yX0_begin yX0_begin ∈ vtb := vtb_in 384 (by decide +kernel) rfl
theorem ml_RX0_44 : Cond.methodLink RX0 44 yX0_fill ∈ vtb := vtb_in 386 (by decide +kernel) rfl
theorem im_yX0_fill : Cond.instanceMethod yX0_fill ∈ vtb := vtb_in 387 (by decide +kernel) rfl
theorem se_yX0_fill : Cond.selects RX0 yX0_fill yX0_fill ∈ vtb := vtb_in 388 (by decide +kernel) rfl
theorem ml_RX0_51 : Cond.methodLink RX0 51 yJ7_fill_53178 ∈ vtb := vtb_in 390 (by decide +kernel) rfl
theorem ml_RX0_56 : Cond.methodLink RX0 56 yX0_forgetLines ∈ vtb := vtb_in 391 (by decide +kernel) rfl
theorem im_yX0_forgetLines : Cond.instanceMethod yX0_forgetLines ∈ vtb := vtb_in 393 (by decide +kernel) rfl
theorem ml_RL_32 : Cond.methodLink RL 32 yX6_clash ∈ vtb := vtb_in 395 (by decide +kernel) rfl
theorem im_yX6_clash : Cond.instanceMethod yX6_clash ∈ vtb := vtb_in 396 (by decide +kernel) rfl
theorem se_yX6_clash : Cond.selects RX6 yX6_clash yX6_clash ∈ vtb := vtb_in 397 (by decide +kernel) rfl
theorem ml_RL_37 : Cond.methodLink RL 37 yX6_drop ∈ vtb := vtb_in 399 (by decide +kernel) rfl
theorem im_yX6_drop : Cond.instanceMethod yX6_drop ∈ vtb := vtb_in 400 (by decide +kernel) rfl
theorem se_yX6_drop : Cond.selects RX6 yX6_drop yX6_drop ∈ vtb := vtb_in 401 (by decide +kernel) rfl
theorem ml_RX6_98 : Cond.methodLink RX6 98 yX1_numbered ∈ vtb := vtb_in 403 (by decide +kernel) rfl
theorem ml_RL_42 : Cond.methodLink RL 42 yX6_told ∈ vtb := vtb_in 404 (by decide +kernel) rfl
theorem im_yX6_told : Cond.instanceMethod yX6_told ∈ vtb := vtb_in 405 (by decide +kernel) rfl
theorem se_yX6_told : Cond.selects RX6 yX6_told yX6_told ∈ vtb := vtb_in 406 (by decide +kernel) rfl
theorem ml_RX6_108 : Cond.methodLink RX6 108 yX0_fact ∈ vtb := vtb_in 408 (by decide +kernel) rfl
theorem im_yX0_fact : Cond.instanceMethod yX0_fact ∈ vtb := vtb_in 409 (by decide +kernel) rfl
theorem se_yX0_fact : Cond.selects RX0 yX0_fact yX0_fact ∈ vtb := vtb_in 410 (by decide +kernel) rfl
theorem ml_RL_46 : Cond.methodLink RL 46 yX6_is ∈ vtb := vtb_in 412 (by decide +kernel) rfl
theorem im_yX6_is : Cond.instanceMethod yX6_is ∈ vtb := vtb_in 413 (by decide +kernel) rfl
theorem se_yX6_is : Cond.selects RX6 yX6_is yX6_is ∈ vtb := vtb_in 414 (by decide +kernel) rfl
theorem ml_RL_50 : Cond.methodLink RL 50 yX6_on ∈ vtb := vtb_in 416 (by decide +kernel) rfl
theorem im_yX6_on : Cond.instanceMethod yX6_on ∈ vtb := vtb_in 417 (by decide +kernel) rfl
theorem se_yX6_on : Cond.selects RX6 yX6_on yX6_on ∈ vtb := vtb_in 418 (by decide +kernel) rfl
theorem ml_RL_54 : Cond.methodLink RL 54 yX6_words ∈ vtb := vtb_in 420 (by decide +kernel) rfl
theorem im_yX6_words : Cond.instanceMethod yX6_words ∈ vtb := vtb_in 421 (by decide +kernel) rfl
theorem se_yX6_words : Cond.selects RX6 yX6_words yX6_words ∈ vtb := vtb_in 422 (by decide +kernel) rfl
theorem ml_RX6_114 : Cond.methodLink RX6 114 yX0_fill ∈ vtb := vtb_in 424 (by decide +kernel) rfl
theorem ml_RL_58 : Cond.methodLink RL 58 yX6_word ∈ vtb := vtb_in 425 (by decide +kernel) rfl
theorem im_yX6_word : Cond.instanceMethod yX6_word ∈ vtb := vtb_in 426 (by decide +kernel) rfl
theorem se_yX6_word : Cond.selects RX6 yX6_word yX6_word ∈ vtb := vtb_in 427 (by decide +kernel) rfl
theorem ml_RX6_118 : Cond.methodLink RX6 118 yX0_holds ∈ vtb := vtb_in 429 (by decide +kernel) rfl
theorem im_yX0_holds : Cond.instanceMethod yX0_holds ∈ vtb := vtb_in 430 (by decide +kernel) rfl
theorem se_yX0_holds : Cond.selects RX0 yX0_holds yX0_holds ∈ vtb := vtb_in 431 (by decide +kernel) rfl
theorem ml_RX6_121 : Cond.methodLink RX6 121 yX0_exchange ∈ vtb := vtb_in 433 (by decide +kernel) rfl
theorem im_yX0_exchange : Cond.instanceMethod yX0_exchange ∈ vtb := vtb_in 434 (by decide +kernel) rfl
theorem se_yX0_exchange : Cond.selects RX0 yX0_exchange yX0_exchange ∈ vtb := vtb_in 435 (by decide +kernel) rfl
theorem ml_RL_62 : Cond.methodLink RL 62 yX6_copy ∈ vtb := vtb_in 437 (by decide +kernel) rfl
theorem im_yX6_copy : Cond.instanceMethod yX6_copy ∈ vtb := vtb_in 438 (by decide +kernel) rfl
theorem se_yX6_copy : Cond.selects RX6 yX6_copy yX6_copy ∈ vtb := vtb_in 439 (by decide +kernel) rfl
theorem ml_RX6_125 : Cond.methodLink RX6 125 yX0_take ∈ vtb := vtb_in 441 (by decide +kernel) rfl
theorem im_yX0_take : Cond.instanceMethod yX0_take ∈ vtb := vtb_in 442 (by decide +kernel) rfl
theorem se_yX0_take : Cond.selects RX0 yX0_take yX0_take ∈ vtb := vtb_in 443 (by decide +kernel) rfl
theorem ml_RX0_59 : Cond.methodLink RX0 59 yX0_holds ∈ vtb := vtb_in 445 (by decide +kernel) rfl
theorem ml_RX0_63 : Cond.methodLink RX0 63 arraycopyName ∈ vtb := vtb_in 446 (by decide +kernel) rfl
theorem st_arraycopyName : Cond.static arraycopyName ∈ vtb := vtb_in 447 (by decide +kernel) rfl
theorem na_arraycopyName : Cond.native arraycopyName ∈ vtb := vtb_in 448 (by decide +kernel) rfl
theorem ml_RL_66 : Cond.methodLink RL 66 yX6_mean ∈ vtb := vtb_in 449 (by decide +kernel) rfl
theorem im_yX6_mean : Cond.instanceMethod yX6_mean ∈ vtb := vtb_in 450 (by decide +kernel) rfl
theorem se_yX6_mean : Cond.selects RX6 yX6_mean yX6_mean ∈ vtb := vtb_in 451 (by decide +kernel) rfl
theorem ml_RX6_132 : Cond.methodLink RX6 132 yX0_allLetters ∈ vtb := vtb_in 453 (by decide +kernel) rfl
theorem im_yX0_allLetters : Cond.instanceMethod yX0_allLetters ∈ vtb := vtb_in 454 (by decide +kernel) rfl
theorem se_yX0_allLetters : Cond.selects RX0 yX0_allLetters yX0_allLetters ∈ vtb := vtb_in 455 (by decide +kernel) rfl
theorem ml_RL_70 : Cond.methodLink RL 70 yX6_calls ∈ vtb := vtb_in 457 (by decide +kernel) rfl
theorem im_yX6_calls : Cond.instanceMethod yX6_calls ∈ vtb := vtb_in 458 (by decide +kernel) rfl
theorem se_yX6_calls : Cond.selects RX6 yX6_calls yX6_calls ∈ vtb := vtb_in 459 (by decide +kernel) rfl
theorem ml_RL_74 : Cond.methodLink RL 74 yX6_fix ∈ vtb := vtb_in 461 (by decide +kernel) rfl
theorem im_yX6_fix : Cond.instanceMethod yX6_fix ∈ vtb := vtb_in 462 (by decide +kernel) rfl
theorem se_yX6_fix : Cond.selects RX6 yX6_fix yX6_fix ∈ vtb := vtb_in 463 (by decide +kernel) rfl
theorem ml_RL_78 : Cond.methodLink RL 78 yX6_lines ∈ vtb := vtb_in 465 (by decide +kernel) rfl
theorem im_yX6_lines : Cond.instanceMethod yX6_lines ∈ vtb := vtb_in 466 (by decide +kernel) rfl
theorem se_yX6_lines : Cond.selects RX6 yX6_lines yX6_lines ∈ vtb := vtb_in 467 (by decide +kernel) rfl
theorem ml_RX6_142 : Cond.methodLink RX6 142 yX0_linesIn ∈ vtb := vtb_in 469 (by decide +kernel) rfl
theorem im_yX0_linesIn : Cond.instanceMethod yX0_linesIn ∈ vtb := vtb_in 470 (by decide +kernel) rfl
theorem se_yX0_linesIn : Cond.selects RX0 yX0_linesIn yX0_linesIn ∈ vtb := vtb_in 471 (by decide +kernel) rfl
theorem ml_RX0_76 : Cond.methodLink RX0 76 Lib.Math.max.name ∈ vtb := vtb_in 473 (by decide +kernel) rfl
theorem st_Lib_Math_max_name : Cond.static Lib.Math.max.name ∈ vtb := vtb_in 474 (by decide +kernel) rfl
theorem ml_RX0_82 : Cond.methodLink RX0 82 yX0_countLines ∈ vtb := vtb_in 476 (by decide +kernel) rfl
theorem im_yX0_countLines : Cond.instanceMethod yX0_countLines ∈ vtb := vtb_in 478 (by decide +kernel) rfl
theorem ml_RL_82 : Cond.methodLink RL 82 yX6_want ∈ vtb := vtb_in 480 (by decide +kernel) rfl
theorem im_yX6_want : Cond.instanceMethod yX6_want ∈ vtb := vtb_in 481 (by decide +kernel) rfl
theorem se_yX6_want : Cond.selects RX6 yX6_want yX6_want ∈ vtb := vtb_in 482 (by decide +kernel) rfl
theorem ml_RX6_145 : Cond.methodLink RX6 145 yX0_wanted ∈ vtb := vtb_in 484 (by decide +kernel) rfl
theorem im_yX0_wanted : Cond.instanceMethod yX0_wanted ∈ vtb := vtb_in 485 (by decide +kernel) rfl
theorem se_yX0_wanted : Cond.selects RX0 yX0_wanted yX0_wanted ∈ vtb := vtb_in 486 (by decide +kernel) rfl
theorem ml_RX0_69 : Cond.methodLink RX0 69 yX0_longestPiece ∈ vtb := vtb_in 488 (by decide +kernel) rfl
theorem im_yX0_longestPiece : Cond.instanceMethod yX0_longestPiece ∈ vtb := vtb_in 490 (by decide +kernel) rfl
theorem ml_RX0_73 : Cond.methodLink RX0 73 yX0_allLetters ∈ vtb := vtb_in 492 (by decide +kernel) rfl
theorem ml_RL_86 : Cond.methodLink RL 86 yX6_natural ∈ vtb := vtb_in 493 (by decide +kernel) rfl
theorem im_yX6_natural : Cond.instanceMethod yX6_natural ∈ vtb := vtb_in 494 (by decide +kernel) rfl
theorem se_yX6_natural : Cond.selects RX6 yX6_natural yX6_natural ∈ vtb := vtb_in 495 (by decide +kernel) rfl
theorem ml_RX6_148 : Cond.methodLink RX6 148 yX5_measure ∈ vtb := vtb_in 497 (by decide +kernel) rfl
theorem im_yX5_measure : Cond.instanceMethod yX5_measure ∈ vtb := vtb_in 498 (by decide +kernel) rfl
theorem se_yX5_measure : Cond.selects RX5 yX5_measure yX5_measure ∈ vtb := vtb_in 499 (by decide +kernel) rfl
theorem ml_RX5_51 : Cond.methodLink RX5 51 yX5_measureFor ∈ vtb := vtb_in 501 (by decide +kernel) rfl
theorem im_yX5_measureFor : Cond.instanceMethod yX5_measureFor ∈ vtb := vtb_in 503 (by decide +kernel) rfl
theorem ml_RX5_70 : Cond.methodLink RX5 70 yX1_present ∈ vtb := vtb_in 505 (by decide +kernel) rfl
theorem ml_RX5_79 : Cond.methodLink RX5 79 yX0_wanted ∈ vtb := vtb_in 506 (by decide +kernel) rfl
theorem ml_RX5_83 : Cond.methodLink RX5 83 yX1_spanOf ∈ vtb := vtb_in 507 (by decide +kernel) rfl
theorem im_yX1_spanOf : Cond.instanceMethod yX1_spanOf ∈ vtb := vtb_in 508 (by decide +kernel) rfl
theorem se_yX1_spanOf : Cond.selects RX1 yX1_spanOf yX1_spanOf ∈ vtb := vtb_in 509 (by decide +kernel) rfl
theorem ml_RX1_88 : Cond.methodLink RX1 88 Lib.Math.min.name ∈ vtb := vtb_in 511 (by decide +kernel) rfl
theorem st_Lib_Math_min_name : Cond.static Lib.Math.min.name ∈ vtb := vtb_in 512 (by decide +kernel) rfl
theorem ml_RX5_87 : Cond.methodLink RX5 87 yX5_noteLack ∈ vtb := vtb_in 514 (by decide +kernel) rfl
theorem im_yX5_noteLack : Cond.instanceMethod yX5_noteLack ∈ vtb := vtb_in 516 (by decide +kernel) rfl
theorem ml_RX5_101 : Cond.methodLink RX5 101 yX4_divide ∈ vtb := vtb_in 518 (by decide +kernel) rfl
theorem im_yX4_divide : Cond.instanceMethod yX4_divide ∈ vtb := vtb_in 519 (by decide +kernel) rfl
theorem se_yX4_divide : Cond.selects RX4 yX4_divide yX4_divide ∈ vtb := vtb_in 520 (by decide +kernel) rfl
theorem ml_RX4_18 : Cond.methodLink RX4 18 yJ7_fill_53178 ∈ vtb := vtb_in 522 (by decide +kernel) rfl
theorem ml_RX4_24 : Cond.methodLink RX4 24 Lib.Math.min.name ∈ vtb := vtb_in 523 (by decide +kernel) rfl
theorem ml_RX4_30 : Cond.methodLink RX4 30 yX4_giveOne ∈ vtb := vtb_in 524 (by decide +kernel) rfl
theorem im_yX4_giveOne : Cond.instanceMethod yX4_giveOne ∈ vtb := vtb_in 526 (by decide +kernel) rfl
theorem ml_RX5_55 : Cond.methodLink RX5 55 Lib.Math.max.name ∈ vtb := vtb_in 528 (by decide +kernel) rfl
theorem ml_RX5_91 : Cond.methodLink RX5 91 yX5_addTo ∈ vtb := vtb_in 529 (by decide +kernel) rfl
theorem im_yX5_addTo : Cond.instanceMethod yX5_addTo ∈ vtb := vtb_in 531 (by decide +kernel) rfl
theorem ml_RL_90 : Cond.methodLink RL 90 yX6_set ∈ vtb := vtb_in 533 (by decide +kernel) rfl
theorem im_yX6_set : Cond.instanceMethod yX6_set ∈ vtb := vtb_in 534 (by decide +kernel) rfl
theorem se_yX6_set : Cond.selects RX6 yX6_set yX6_set ∈ vtb := vtb_in 535 (by decide +kernel) rfl
theorem ml_RX6_157 : Cond.methodLink RX6 157 yX5_spareOf ∈ vtb := vtb_in 537 (by decide +kernel) rfl
theorem im_yX5_spareOf : Cond.instanceMethod yX5_spareOf ∈ vtb := vtb_in 538 (by decide +kernel) rfl
theorem se_yX5_spareOf : Cond.selects RX5 yX5_spareOf yX5_spareOf ∈ vtb := vtb_in 539 (by decide +kernel) rfl
theorem ml_RX5_108 : Cond.methodLink RX5 108 yX1_gaps ∈ vtb := vtb_in 541 (by decide +kernel) rfl
theorem im_yX1_gaps : Cond.instanceMethod yX1_gaps ∈ vtb := vtb_in 542 (by decide +kernel) rfl
theorem se_yX1_gaps : Cond.selects RX1 yX1_gaps yX1_gaps ∈ vtb := vtb_in 543 (by decide +kernel) rfl
theorem ml_RX5_112 : Cond.methodLink RX5 112 yX5_sumOf ∈ vtb := vtb_in 545 (by decide +kernel) rfl
theorem im_yX5_sumOf : Cond.instanceMethod yX5_sumOf ∈ vtb := vtb_in 547 (by decide +kernel) rfl
theorem ml_RX6_160 : Cond.methodLink RX6 160 yX5_spread ∈ vtb := vtb_in 549 (by decide +kernel) rfl
theorem im_yX5_spread : Cond.instanceMethod yX5_spread ∈ vtb := vtb_in 550 (by decide +kernel) rfl
theorem se_yX5_spread : Cond.selects RX5 yX5_spread yX5_spread ∈ vtb := vtb_in 551 (by decide +kernel) rfl
theorem ml_RX5_116 : Cond.methodLink RX5 116 arraycopyName ∈ vtb := vtb_in 553 (by decide +kernel) rfl
theorem ml_RX6_163 : Cond.methodLink RX6 163 yX6_heightOfTable ∈ vtb := vtb_in 554 (by decide +kernel) rfl
theorem im_yX6_heightOfTable : Cond.instanceMethod yX6_heightOfTable ∈ vtb := vtb_in 556 (by decide +kernel) rfl
theorem ml_RX6_220 : Cond.methodLink RX6 220 yX2_sortCells ∈ vtb := vtb_in 558 (by decide +kernel) rfl
theorem im_yX2_sortCells : Cond.instanceMethod yX2_sortCells ∈ vtb := vtb_in 559 (by decide +kernel) rfl
theorem se_yX2_sortCells : Cond.selects RX2 yX2_sortCells yX2_sortCells ∈ vtb := vtb_in 560 (by decide +kernel) rfl
theorem ml_RX2_40 : Cond.methodLink RX2 40 yX1_present ∈ vtb := vtb_in 562 (by decide +kernel) rfl
theorem ml_RX6_223 : Cond.methodLink RX6 223 yX2_measure ∈ vtb := vtb_in 563 (by decide +kernel) rfl
theorem im_yX2_measure : Cond.instanceMethod yX2_measure ∈ vtb := vtb_in 564 (by decide +kernel) rfl
theorem se_yX2_measure : Cond.selects RX2 yX2_measure yX2_measure ∈ vtb := vtb_in 565 (by decide +kernel) rfl
theorem ml_RX2_48 : Cond.methodLink RX2 48 yJ7_fill_53178 ∈ vtb := vtb_in 567 (by decide +kernel) rfl
theorem ml_RX2_54 : Cond.methodLink RX2 54 yX2_grow ∈ vtb := vtb_in 568 (by decide +kernel) rfl
theorem im_yX2_grow : Cond.instanceMethod yX2_grow ∈ vtb := vtb_in 570 (by decide +kernel) rfl
theorem ml_RX2_57 : Cond.methodLink RX2 57 yX1_spanOf ∈ vtb := vtb_in 572 (by decide +kernel) rfl
theorem ml_RX2_61 : Cond.methodLink RX2 61 yX0_linesIn ∈ vtb := vtb_in 573 (by decide +kernel) rfl
theorem ml_RX2_65 : Cond.methodLink RX2 65 yX2_noteLack ∈ vtb := vtb_in 574 (by decide +kernel) rfl
theorem im_yX2_noteLack : Cond.instanceMethod yX2_noteLack ∈ vtb := vtb_in 576 (by decide +kernel) rfl
theorem ml_RX2_76 : Cond.methodLink RX2 76 Lib.Math.min.name ∈ vtb := vtb_in 578 (by decide +kernel) rfl
theorem ml_RX2_82 : Cond.methodLink RX2 82 Lib.Math.max.name ∈ vtb := vtb_in 579 (by decide +kernel) rfl
theorem ml_RX2_69 : Cond.methodLink RX2 69 yX2_sum ∈ vtb := vtb_in 580 (by decide +kernel) rfl
theorem im_yX2_sum : Cond.instanceMethod yX2_sum ∈ vtb := vtb_in 582 (by decide +kernel) rfl
theorem ml_RL_94 : Cond.methodLink RL 94 yX6_tight ∈ vtb := vtb_in 584 (by decide +kernel) rfl
theorem im_yX6_tight : Cond.instanceMethod yX6_tight ∈ vtb := vtb_in 585 (by decide +kernel) rfl
theorem se_yX6_tight : Cond.selects RX6 yX6_tight yX6_tight ∈ vtb := vtb_in 586 (by decide +kernel) rfl
theorem ml_RX6_166 : Cond.methodLink RX6 166 yX5_waysToSpread ∈ vtb := vtb_in 588 (by decide +kernel) rfl
theorem im_yX5_waysToSpread : Cond.instanceMethod yX5_waysToSpread ∈ vtb := vtb_in 589 (by decide +kernel) rfl
theorem se_yX5_waysToSpread : Cond.selects RX5 yX5_waysToSpread yX5_waysToSpread ∈ vtb := vtb_in 590 (by decide +kernel) rfl
theorem ml_RX6_170 : Cond.methodLink RX6 170 yX5_tighten ∈ vtb := vtb_in 592 (by decide +kernel) rfl
theorem im_yX5_tighten : Cond.instanceMethod yX5_tighten ∈ vtb := vtb_in 593 (by decide +kernel) rfl
theorem se_yX5_tighten : Cond.selects RX5 yX5_tighten yX5_tighten ∈ vtb := vtb_in 594 (by decide +kernel) rfl
theorem ml_RX5_122 : Cond.methodLink RX5 122 yX5_addToLast ∈ vtb := vtb_in 596 (by decide +kernel) rfl
theorem im_yX5_addToLast : Cond.instanceMethod yX5_addToLast ∈ vtb := vtb_in 598 (by decide +kernel) rfl
theorem ml_RX5_126 : Cond.methodLink RX5 126 yX2_sortCells ∈ vtb := vtb_in 600 (by decide +kernel) rfl
theorem ml_RX5_131 : Cond.methodLink RX5 131 yX2_measure ∈ vtb := vtb_in 601 (by decide +kernel) rfl
theorem ml_RX5_134 : Cond.methodLink RX5 134 yX5_tryNext ∈ vtb := vtb_in 602 (by decide +kernel) rfl
theorem im_yX5_tryNext : Cond.instanceMethod yX5_tryNext ∈ vtb := vtb_in 604 (by decide +kernel) rfl
theorem ml_RX5_137 : Cond.methodLink RX5 137 Lib.Math.min.name ∈ vtb := vtb_in 606 (by decide +kernel) rfl
theorem ml_RL_98 : Cond.methodLink RL 98 yX6_tries ∈ vtb := vtb_in 607 (by decide +kernel) rfl
theorem im_yX6_tries : Cond.instanceMethod yX6_tries ∈ vtb := vtb_in 608 (by decide +kernel) rfl
theorem se_yX6_tries : Cond.selects RX6 yX6_tries yX6_tries ∈ vtb := vtb_in 609 (by decide +kernel) rfl
theorem ml_RL_102 : Cond.methodLink RL 102 yX6_width ∈ vtb := vtb_in 611 (by decide +kernel) rfl
theorem im_yX6_width : Cond.instanceMethod yX6_width ∈ vtb := vtb_in 612 (by decide +kernel) rfl
theorem se_yX6_width : Cond.selects RX6 yX6_width yX6_width ∈ vtb := vtb_in 613 (by decide +kernel) rfl
theorem ml_RL_106 : Cond.methodLink RL 106 yX6_height ∈ vtb := vtb_in 615 (by decide +kernel) rfl
theorem im_yX6_height : Cond.instanceMethod yX6_height ∈ vtb := vtb_in 616 (by decide +kernel) rfl
theorem se_yX6_height : Cond.selects RX6 yX6_height yX6_height ∈ vtb := vtb_in 617 (by decide +kernel) rfl
theorem ml_RL_110 : Cond.methodLink RL 110 yX6_pages ∈ vtb := vtb_in 619 (by decide +kernel) rfl
theorem im_yX6_pages : Cond.instanceMethod yX6_pages ∈ vtb := vtb_in 620 (by decide +kernel) rfl
theorem se_yX6_pages : Cond.selects RX6 yX6_pages yX6_pages ∈ vtb := vtb_in 621 (by decide +kernel) rfl
theorem ml_RX6_177 : Cond.methodLink RX6 177 yX3_make ∈ vtb := vtb_in 623 (by decide +kernel) rfl
theorem im_yX3_make : Cond.instanceMethod yX3_make ∈ vtb := vtb_in 624 (by decide +kernel) rfl
theorem se_yX3_make : Cond.selects RX3 yX3_make yX3_make ∈ vtb := vtb_in 625 (by decide +kernel) rfl
theorem ml_RX3_44 : Cond.methodLink RX3 44 yX1_headRows ∈ vtb := vtb_in 627 (by decide +kernel) rfl
theorem im_yX1_headRows : Cond.instanceMethod yX1_headRows ∈ vtb := vtb_in 628 (by decide +kernel) rfl
theorem se_yX1_headRows : Cond.selects RX1 yX1_headRows yX1_headRows ∈ vtb := vtb_in 629 (by decide +kernel) rfl
theorem ml_RX1_66 : Cond.methodLink RX1 66 yX1_hasHead ∈ vtb := vtb_in 631 (by decide +kernel) rfl
theorem im_yX1_hasHead : Cond.instanceMethod yX1_hasHead ∈ vtb := vtb_in 633 (by decide +kernel) rfl
theorem ml_RX1_73 : Cond.methodLink RX1 73 yX0_liesOnRow ∈ vtb := vtb_in 635 (by decide +kernel) rfl
theorem im_yX0_liesOnRow : Cond.instanceMethod yX0_liesOnRow ∈ vtb := vtb_in 636 (by decide +kernel) rfl
theorem se_yX0_liesOnRow : Cond.selects RX0 yX0_liesOnRow yX0_liesOnRow ∈ vtb := vtb_in 637 (by decide +kernel) rfl
theorem ml_RX3_56 : Cond.methodLink RX3 56 Lib.Math.min.name ∈ vtb := vtb_in 639 (by decide +kernel) rfl
theorem ml_RX3_73 : Cond.methodLink RX3 73 yX3_findHomes ∈ vtb := vtb_in 640 (by decide +kernel) rfl
theorem im_yX3_findHomes : Cond.instanceMethod yX3_findHomes ∈ vtb := vtb_in 642 (by decide +kernel) rfl
theorem ml_RX3_76 : Cond.methodLink RX3 76 yJ7_fill_53178 ∈ vtb := vtb_in 644 (by decide +kernel) rfl
theorem ml_RX3_93 : Cond.methodLink RX3 93 yX1_firstCall ∈ vtb := vtb_in 645 (by decide +kernel) rfl
theorem im_yX1_firstCall : Cond.instanceMethod yX1_firstCall ∈ vtb := vtb_in 646 (by decide +kernel) rfl
theorem se_yX1_firstCall : Cond.selects RX1 yX1_firstCall yX1_firstCall ∈ vtb := vtb_in 647 (by decide +kernel) rfl
theorem ml_RX3_97 : Cond.methodLink RX3 97 Lib.Math.max.name ∈ vtb := vtb_in 649 (by decide +kernel) rfl
theorem ml_RX3_82 : Cond.methodLink RX3 82 yX1_breaksAhead ∈ vtb := vtb_in 650 (by decide +kernel) rfl
theorem im_yX1_breaksAhead : Cond.instanceMethod yX1_breaksAhead ∈ vtb := vtb_in 651 (by decide +kernel) rfl
theorem se_yX1_breaksAhead : Cond.selects RX1 yX1_breaksAhead yX1_breaksAhead ∈ vtb := vtb_in 652 (by decide +kernel) rfl
theorem ml_RX3_86 : Cond.methodLink RX3 86 yX3_planFrom ∈ vtb := vtb_in 654 (by decide +kernel) rfl
theorem im_yX3_planFrom : Cond.instanceMethod yX3_planFrom ∈ vtb := vtb_in 656 (by decide +kernel) rfl
theorem ml_RX3_103 : Cond.methodLink RX3 103 yX3_isAlone ∈ vtb := vtb_in 658 (by decide +kernel) rfl
theorem im_yX3_isAlone : Cond.instanceMethod yX3_isAlone ∈ vtb := vtb_in 660 (by decide +kernel) rfl
theorem ml_RX3_106 : Cond.methodLink RX3 106 yX3_weigh ∈ vtb := vtb_in 662 (by decide +kernel) rfl
theorem im_yX3_weigh : Cond.instanceMethod yX3_weigh ∈ vtb := vtb_in 664 (by decide +kernel) rfl
theorem ml_RX3_90 : Cond.methodLink RX3 90 yX3_layOut ∈ vtb := vtb_in 666 (by decide +kernel) rfl
theorem im_yX3_layOut : Cond.instanceMethod yX3_layOut ∈ vtb := vtb_in 668 (by decide +kernel) rfl
theorem ml_RL_114 : Cond.methodLink RL 114 yX6_page ∈ vtb := vtb_in 670 (by decide +kernel) rfl
theorem im_yX6_page : Cond.instanceMethod yX6_page ∈ vtb := vtb_in 671 (by decide +kernel) rfl
theorem se_yX6_page : Cond.selects RX6 yX6_page yX6_page ∈ vtb := vtb_in 672 (by decide +kernel) rfl
theorem ml_RL_118 : Cond.methodLink RL 118 yX6_pageOf ∈ vtb := vtb_in 674 (by decide +kernel) rfl
theorem im_yX6_pageOf : Cond.instanceMethod yX6_pageOf ∈ vtb := vtb_in 675 (by decide +kernel) rfl
theorem se_yX6_pageOf : Cond.selects RX6 yX6_pageOf yX6_pageOf ∈ vtb := vtb_in 676 (by decide +kernel) rfl
theorem ml_RX6_187 : Cond.methodLink RX6 187 yX3_holding ∈ vtb := vtb_in 678 (by decide +kernel) rfl
theorem im_yX3_holding : Cond.instanceMethod yX3_holding ∈ vtb := vtb_in 679 (by decide +kernel) rfl
theorem se_yX3_holding : Cond.selects RX3 yX3_holding yX3_holding ∈ vtb := vtb_in 680 (by decide +kernel) rfl
theorem ml_RL_122 : Cond.methodLink RL 122 yX6_mayBreak ∈ vtb := vtb_in 682 (by decide +kernel) rfl
theorem im_yX6_mayBreak : Cond.instanceMethod yX6_mayBreak ∈ vtb := vtb_in 683 (by decide +kernel) rfl
theorem se_yX6_mayBreak : Cond.selects RX6 yX6_mayBreak yX6_mayBreak ∈ vtb := vtb_in 684 (by decide +kernel) rfl
theorem ml_RX6_190 : Cond.methodLink RX6 190 yX1_headRows ∈ vtb := vtb_in 686 (by decide +kernel) rfl
theorem ml_RX6_193 : Cond.methodLink RX6 193 yX1_breaksAhead ∈ vtb := vtb_in 687 (by decide +kernel) rfl
theorem ml_RL_126 : Cond.methodLink RL 126 yX6_count ∈ vtb := vtb_in 688 (by decide +kernel) rfl
theorem im_yX6_count : Cond.instanceMethod yX6_count ∈ vtb := vtb_in 689 (by decide +kernel) rfl
theorem se_yX6_count : Cond.selects RX6 yX6_count yX6_count ∈ vtb := vtb_in 690 (by decide +kernel) rfl
theorem ml_RX6_196 : Cond.methodLink RX6 196 yX1_presentCells ∈ vtb := vtb_in 692 (by decide +kernel) rfl
theorem im_yX1_presentCells : Cond.instanceMethod yX1_presentCells ∈ vtb := vtb_in 693 (by decide +kernel) rfl
theorem se_yX1_presentCells : Cond.selects RX1 yX1_presentCells yX1_presentCells ∈ vtb := vtb_in 694 (by decide +kernel) rfl
theorem ml_RL_130 : Cond.methodLink RL 130 yX6_finding ∈ vtb := vtb_in 696 (by decide +kernel) rfl
theorem im_yX6_finding : Cond.instanceMethod yX6_finding ∈ vtb := vtb_in 697 (by decide +kernel) rfl
theorem se_yX6_finding : Cond.selects RX6 yX6_finding yX6_finding ∈ vtb := vtb_in 698 (by decide +kernel) rfl
theorem ml_RL_134 : Cond.methodLink RL 134 yX6_findings ∈ vtb := vtb_in 700 (by decide +kernel) rfl
theorem im_yX6_findings : Cond.instanceMethod yX6_findings ∈ vtb := vtb_in 701 (by decide +kernel) rfl
theorem se_yX6_findings : Cond.selects RX6 yX6_findings yX6_findings ∈ vtb := vtb_in 702 (by decide +kernel) rfl
theorem ml_RL_138 : Cond.methodLink RL 138 yX6_digest ∈ vtb := vtb_in 704 (by decide +kernel) rfl
theorem im_yX6_digest : Cond.instanceMethod yX6_digest ∈ vtb := vtb_in 705 (by decide +kernel) rfl
theorem se_yX6_digest : Cond.selects RX6 yX6_digest yX6_digest ∈ vtb := vtb_in 706 (by decide +kernel) rfl
theorem kl_RX6_199 : Cond.constantLong RX6 199 (17) ∈ vtb := vtb_in 708 (by decide +kernel) rfl
theorem kl_RX6_201 : Cond.constantLong RX6 201 (31) ∈ vtb := vtb_in 709 (by decide +kernel) rfl
theorem ml_RX6_206 : Cond.methodLink RX6 206 yX6_mixed ∈ vtb := vtb_in 710 (by decide +kernel) rfl
theorem st_yX6_mixed : Cond.static yX6_mixed ∈ vtb := vtb_in 711 (by decide +kernel) rfl
theorem ml_RX6_210 : Cond.methodLink RX6 210 yX1_present ∈ vtb := vtb_in 713 (by decide +kernel) rfl
theorem ml_RX6_213 : Cond.methodLink RX6 213 yX6_mixedCell ∈ vtb := vtb_in 714 (by decide +kernel) rfl
theorem st_yX6_mixedCell : Cond.static yX6_mixedCell ∈ vtb := vtb_in 715 (by decide +kernel) rfl
theorem cl_RL_10 : Cond.classLink RL 10 RX7 ∈ vtb := vtb_in 717 (by decide +kernel) rfl
theorem it_RX7 : Cond.instantiable RX7 41 ∈ vtb := vtb_in 718 (by decide +kernel) rfl
theorem ml_RL_12 : Cond.methodLink RL 12 yX7_init ∈ vtb := vtb_in 719 (by decide +kernel) rfl
theorem im_yX7_init : Cond.instanceMethod yX7_init ∈ vtb := vtb_in 720 (by decide +kernel) rfl
theorem ml_RX7_1 : Cond.methodLink RX7 1 objectInit ∈ vtb := vtb_in 722 (by decide +kernel) rfl
theorem ml_RX7_111 : Cond.methodLink RX7 111 yX7_begin ∈ vtb := vtb_in 723 (by decide +kernel) rfl
theorem im_yX7_begin : Cond.instanceMethod yX7_begin ∈ vtb := vtb_in 725 (by decide +kernel) rfl
theorem fl_RX7_115 : Cond.fieldLink RX7 115 "TableSetterModel" "latest" "I" ∈ vtb := vtb_in 727 (by decide +kernel) rfl
theorem fl_RX7_7 : Cond.fieldLink RX7 7 "TableSetterModel" "came" "[I" ∈ vtb := vtb_in 728 (by decide +kernel) rfl
theorem fl_RX7_123 : Cond.fieldLink RX7 123 "TableSetterModel" "rows" "I" ∈ vtb := vtb_in 729 (by decide +kernel) rfl
theorem fl_RX7_126 : Cond.fieldLink RX7 126 "TableSetterModel" "columns" "I" ∈ vtb := vtb_in 730 (by decide +kernel) rfl
theorem fl_RX7_129 : Cond.fieldLink RX7 129 "TableSetterModel" "gap" "I" ∈ vtb := vtb_in 731 (by decide +kernel) rfl
theorem fl_RX7_13 : Cond.fieldLink RX7 13 "TableSetterModel" "weights" "[I" ∈ vtb := vtb_in 732 (by decide +kernel) rfl
theorem fl_RX7_16 : Cond.fieldLink RX7 16 "TableSetterModel" "noteLines" "[I" ∈ vtb := vtb_in 733 (by decide +kernel) rfl
theorem fl_RX7_132 : Cond.fieldLink RX7 132 "TableSetterModel" "cells" "I" ∈ vtb := vtb_in 734 (by decide +kernel) rfl
theorem fl_RX7_19 : Cond.fieldLink RX7 19 "TableSetterModel" "kindOf" "[I" ∈ vtb := vtb_in 735 (by decide +kernel) rfl
theorem fl_RX7_22 : Cond.fieldLink RX7 22 "TableSetterModel" "rowOf" "[I" ∈ vtb := vtb_in 736 (by decide +kernel) rfl
theorem fl_RX7_25 : Cond.fieldLink RX7 25 "TableSetterModel" "columnOf" "[I" ∈ vtb := vtb_in 737 (by decide +kernel) rfl
theorem fl_RX7_28 : Cond.fieldLink RX7 28 "TableSetterModel" "rowMany" "[I" ∈ vtb := vtb_in 738 (by decide +kernel) rfl
theorem fl_RX7_31 : Cond.fieldLink RX7 31 "TableSetterModel" "columnMany" "[I" ∈ vtb := vtb_in 739 (by decide +kernel) rfl
theorem fl_RX7_34 : Cond.fieldLink RX7 34 "TableSetterModel" "isGone" "[Z" ∈ vtb := vtb_in 740 (by decide +kernel) rfl
theorem fl_RX7_38 : Cond.fieldLink RX7 38 "TableSetterModel" "wordMany" "[I" ∈ vtb := vtb_in 741 (by decide +kernel) rfl
theorem fl_RX7_41 : Cond.fieldLink RX7 41 "TableSetterModel" "letters" "[I" ∈ vtb := vtb_in 742 (by decide +kernel) rfl
theorem fl_RX7_44 : Cond.fieldLink RX7 44 "TableSetterModel" "called" "[I" ∈ vtb := vtb_in 743 (by decide +kernel) rfl
theorem fl_RX7_47 : Cond.fieldLink RX7 47 "TableSetterModel" "fixed" "[I" ∈ vtb := vtb_in 744 (by decide +kernel) rfl
theorem fl_RX7_135 : Cond.fieldLink RX7 135 "TableSetterModel" "clash" "I" ∈ vtb := vtb_in 745 (by decide +kernel) rfl
theorem fl_RX7_50 : Cond.fieldLink RX7 50 "TableSetterModel" "copied" "[I" ∈ vtb := vtb_in 746 (by decide +kernel) rfl
theorem fl_RX7_53 : Cond.fieldLink RX7 53 "TableSetterModel" "numbers" "[I" ∈ vtb := vtb_in 747 (by decide +kernel) rfl
theorem fl_RX7_56 : Cond.fieldLink RX7 56 "TableSetterModel" "shares" "[I" ∈ vtb := vtb_in 748 (by decide +kernel) rfl
theorem fl_RX7_59 : Cond.fieldLink RX7 59 "TableSetterModel" "rests" "[I" ∈ vtb := vtb_in 749 (by decide +kernel) rfl
theorem fl_RX7_62 : Cond.fieldLink RX7 62 "TableSetterModel" "widths" "[I" ∈ vtb := vtb_in 750 (by decide +kernel) rfl
theorem fl_RX7_65 : Cond.fieldLink RX7 65 "TableSetterModel" "least" "[I" ∈ vtb := vtb_in 751 (by decide +kernel) rfl
theorem fl_RX7_68 : Cond.fieldLink RX7 68 "TableSetterModel" "best" "[I" ∈ vtb := vtb_in 752 (by decide +kernel) rfl
theorem fl_RX7_71 : Cond.fieldLink RX7 71 "TableSetterModel" "grows" "[I" ∈ vtb := vtb_in 753 (by decide +kernel) rfl
theorem fl_RX7_74 : Cond.fieldLink RX7 74 "TableSetterModel" "heights" "[I" ∈ vtb := vtb_in 754 (by decide +kernel) rfl
theorem fl_RX7_77 : Cond.fieldLink RX7 77 "TableSetterModel" "rises" "[I" ∈ vtb := vtb_in 755 (by decide +kernel) rfl
theorem fl_RX7_206 : Cond.fieldLink RX7 206 "TableSetterModel" "tries" "I" ∈ vtb := vtb_in 756 (by decide +kernel) rfl
theorem fl_RX7_80 : Cond.fieldLink RX7 80 "TableSetterModel" "trial" "[I" ∈ vtb := vtb_in 757 (by decide +kernel) rfl
theorem fl_RX7_83 : Cond.fieldLink RX7 83 "TableSetterModel" "first" "[I" ∈ vtb := vtb_in 758 (by decide +kernel) rfl
theorem fl_RX7_138 : Cond.fieldLink RX7 138 "TableSetterModel" "pageMany" "I" ∈ vtb := vtb_in 759 (by decide +kernel) rfl
theorem fl_RX7_86 : Cond.fieldLink RX7 86 "TableSetterModel" "pageFirst" "[I" ∈ vtb := vtb_in 760 (by decide +kernel) rfl
theorem fl_RX7_89 : Cond.fieldLink RX7 89 "TableSetterModel" "pageRows" "[I" ∈ vtb := vtb_in 761 (by decide +kernel) rfl
theorem fl_RX7_92 : Cond.fieldLink RX7 92 "TableSetterModel" "pageEmpty" "[I" ∈ vtb := vtb_in 762 (by decide +kernel) rfl
theorem fl_RX7_95 : Cond.fieldLink RX7 95 "TableSetterModel" "pageNotes" "[I" ∈ vtb := vtb_in 763 (by decide +kernel) rfl
theorem fl_RX7_98 : Cond.fieldLink RX7 98 "TableSetterModel" "pageOf" "[I" ∈ vtb := vtb_in 764 (by decide +kernel) rfl
theorem fl_RX7_101 : Cond.fieldLink RX7 101 "TableSetterModel" "bestPages" "[I" ∈ vtb := vtb_in 765 (by decide +kernel) rfl
theorem fl_RX7_104 : Cond.fieldLink RX7 104 "TableSetterModel" "bestSquares" "[J" ∈ vtb := vtb_in 766 (by decide +kernel) rfl
theorem fl_RX7_108 : Cond.fieldLink RX7 108 "TableSetterModel" "bestRows" "[I" ∈ vtb := vtb_in 767 (by decide +kernel) rfl
theorem ac_boolean : Cond.arrayClass .boolean ∈ vtb := vtb_in 851 (by decide +kernel) rfl
theorem ac_long : Cond.arrayClass .long ∈ vtb := vtb_in 852 (by decide +kernel) rfl
theorem ml_RL_133 : Cond.methodLink RL 133 yX7_finding ∈ vtb := vtb_in 853 (by decide +kernel) rfl
theorem im_yX7_finding : Cond.instanceMethod yX7_finding ∈ vtb := vtb_in 854 (by decide +kernel) rfl
theorem se_yX7_finding : Cond.selects RX7 yX7_finding yX7_finding ∈ vtb := vtb_in 855 (by decide +kernel) rfl
theorem ml_RL_137 : Cond.methodLink RL 137 yX7_findings ∈ vtb := vtb_in 857 (by decide +kernel) rfl
theorem im_yX7_findings : Cond.instanceMethod yX7_findings ∈ vtb := vtb_in 858 (by decide +kernel) rfl
theorem se_yX7_findings : Cond.selects RX7 yX7_findings yX7_findings ∈ vtb := vtb_in 859 (by decide +kernel) rfl
theorem ml_RX7_119 : Cond.methodLink RX7 119 yX7_in ∈ vtb := vtb_in 861 (by decide +kernel) rfl
theorem st_yX7_in : Cond.static yX7_in ∈ vtb := vtb_in 862 (by decide +kernel) rfl
theorem ml_RL_17 : Cond.methodLink RL 17 yX7_table ∈ vtb := vtb_in 864 (by decide +kernel) rfl
theorem im_yX7_table : Cond.instanceMethod yX7_table ∈ vtb := vtb_in 865 (by decide +kernel) rfl
theorem se_yX7_table : Cond.selects RX7 yX7_table yX7_table ∈ vtb := vtb_in 866 (by decide +kernel) rfl
theorem ml_RL_22 : Cond.methodLink RL 22 yX7_weight ∈ vtb := vtb_in 868 (by decide +kernel) rfl
theorem im_yX7_weight : Cond.instanceMethod yX7_weight ∈ vtb := vtb_in 869 (by decide +kernel) rfl
theorem se_yX7_weight : Cond.selects RX7 yX7_weight yX7_weight ∈ vtb := vtb_in 870 (by decide +kernel) rfl
theorem ml_RX7_141 : Cond.methodLink RX7 141 yX7_isColumn ∈ vtb := vtb_in 872 (by decide +kernel) rfl
theorem im_yX7_isColumn : Cond.instanceMethod yX7_isColumn ∈ vtb := vtb_in 874 (by decide +kernel) rfl
theorem ml_RL_26 : Cond.methodLink RL 26 yX7_note ∈ vtb := vtb_in 876 (by decide +kernel) rfl
theorem im_yX7_note : Cond.instanceMethod yX7_note ∈ vtb := vtb_in 877 (by decide +kernel) rfl
theorem se_yX7_note : Cond.selects RX7 yX7_note yX7_note ∈ vtb := vtb_in 878 (by decide +kernel) rfl
theorem ml_RL_31 : Cond.methodLink RL 31 yX7_cell ∈ vtb := vtb_in 880 (by decide +kernel) rfl
theorem im_yX7_cell : Cond.instanceMethod yX7_cell ∈ vtb := vtb_in 881 (by decide +kernel) rfl
theorem se_yX7_cell : Cond.selects RX7 yX7_cell yX7_cell ∈ vtb := vtb_in 882 (by decide +kernel) rfl
theorem ml_RX7_148 : Cond.methodLink RX7 148 yX7_isRow ∈ vtb := vtb_in 884 (by decide +kernel) rfl
theorem im_yX7_isRow : Cond.instanceMethod yX7_isRow ∈ vtb := vtb_in 886 (by decide +kernel) rfl
theorem ml_RX7_151 : Cond.methodLink RX7 151 yX7_meets ∈ vtb := vtb_in 888 (by decide +kernel) rfl
theorem im_yX7_meets : Cond.instanceMethod yX7_meets ∈ vtb := vtb_in 890 (by decide +kernel) rfl
theorem ml_RX7_155 : Cond.methodLink RX7 155 yX7_cellOn ∈ vtb := vtb_in 892 (by decide +kernel) rfl
theorem im_yX7_cellOn : Cond.instanceMethod yX7_cellOn ∈ vtb := vtb_in 894 (by decide +kernel) rfl
theorem ml_RX7_145 : Cond.methodLink RX7 145 yX7_liesOn ∈ vtb := vtb_in 896 (by decide +kernel) rfl
theorem im_yX7_liesOn : Cond.instanceMethod yX7_liesOn ∈ vtb := vtb_in 898 (by decide +kernel) rfl
theorem ml_RL_36 : Cond.methodLink RL 36 yX7_clash ∈ vtb := vtb_in 900 (by decide +kernel) rfl
theorem im_yX7_clash : Cond.instanceMethod yX7_clash ∈ vtb := vtb_in 901 (by decide +kernel) rfl
theorem se_yX7_clash : Cond.selects RX7 yX7_clash yX7_clash ∈ vtb := vtb_in 902 (by decide +kernel) rfl
theorem ml_RL_41 : Cond.methodLink RL 41 yX7_drop ∈ vtb := vtb_in 904 (by decide +kernel) rfl
theorem im_yX7_drop : Cond.instanceMethod yX7_drop ∈ vtb := vtb_in 905 (by decide +kernel) rfl
theorem se_yX7_drop : Cond.selects RX7 yX7_drop yX7_drop ∈ vtb := vtb_in 906 (by decide +kernel) rfl
theorem ml_RX7_159 : Cond.methodLink RX7 159 yX7_isCell ∈ vtb := vtb_in 908 (by decide +kernel) rfl
theorem im_yX7_isCell : Cond.instanceMethod yX7_isCell ∈ vtb := vtb_in 910 (by decide +kernel) rfl
theorem ml_RL_45 : Cond.methodLink RL 45 yX7_told ∈ vtb := vtb_in 912 (by decide +kernel) rfl
theorem im_yX7_told : Cond.instanceMethod yX7_told ∈ vtb := vtb_in 913 (by decide +kernel) rfl
theorem se_yX7_told : Cond.selects RX7 yX7_told yX7_told ∈ vtb := vtb_in 914 (by decide +kernel) rfl
theorem ml_RX7_162 : Cond.methodLink RX7 162 yX7_need ∈ vtb := vtb_in 916 (by decide +kernel) rfl
theorem im_yX7_need : Cond.instanceMethod yX7_need ∈ vtb := vtb_in 918 (by decide +kernel) rfl
theorem ml_RX7_166 : Cond.methodLink RX7 166 yX7_toldOf ∈ vtb := vtb_in 920 (by decide +kernel) rfl
theorem im_yX7_toldOf : Cond.instanceMethod yX7_toldOf ∈ vtb := vtb_in 922 (by decide +kernel) rfl
theorem ml_RL_49 : Cond.methodLink RL 49 yX7_is ∈ vtb := vtb_in 924 (by decide +kernel) rfl
theorem im_yX7_is : Cond.instanceMethod yX7_is ∈ vtb := vtb_in 925 (by decide +kernel) rfl
theorem se_yX7_is : Cond.selects RX7 yX7_is yX7_is ∈ vtb := vtb_in 926 (by decide +kernel) rfl
theorem ml_RL_53 : Cond.methodLink RL 53 yX7_on ∈ vtb := vtb_in 928 (by decide +kernel) rfl
theorem im_yX7_on : Cond.instanceMethod yX7_on ∈ vtb := vtb_in 929 (by decide +kernel) rfl
theorem se_yX7_on : Cond.selects RX7 yX7_on yX7_on ∈ vtb := vtb_in 930 (by decide +kernel) rfl
theorem ml_RL_57 : Cond.methodLink RL 57 yX7_words ∈ vtb := vtb_in 932 (by decide +kernel) rfl
theorem im_yX7_words : Cond.instanceMethod yX7_words ∈ vtb := vtb_in 933 (by decide +kernel) rfl
theorem se_yX7_words : Cond.selects RX7 yX7_words yX7_words ∈ vtb := vtb_in 934 (by decide +kernel) rfl
theorem ml_RL_61 : Cond.methodLink RL 61 yX7_word ∈ vtb := vtb_in 936 (by decide +kernel) rfl
theorem im_yX7_word : Cond.instanceMethod yX7_word ∈ vtb := vtb_in 937 (by decide +kernel) rfl
theorem se_yX7_word : Cond.selects RX7 yX7_word yX7_word ∈ vtb := vtb_in 938 (by decide +kernel) rfl
theorem ml_RL_65 : Cond.methodLink RL 65 yX7_copy ∈ vtb := vtb_in 940 (by decide +kernel) rfl
theorem im_yX7_copy : Cond.instanceMethod yX7_copy ∈ vtb := vtb_in 941 (by decide +kernel) rfl
theorem se_yX7_copy : Cond.selects RX7 yX7_copy yX7_copy ∈ vtb := vtb_in 942 (by decide +kernel) rfl
theorem ml_RL_69 : Cond.methodLink RL 69 yX7_mean ∈ vtb := vtb_in 944 (by decide +kernel) rfl
theorem im_yX7_mean : Cond.instanceMethod yX7_mean ∈ vtb := vtb_in 945 (by decide +kernel) rfl
theorem se_yX7_mean : Cond.selects RX7 yX7_mean yX7_mean ∈ vtb := vtb_in 946 (by decide +kernel) rfl
theorem ml_RX7_169 : Cond.methodLink RX7 169 yX7_lettersOf ∈ vtb := vtb_in 948 (by decide +kernel) rfl
theorem im_yX7_lettersOf : Cond.instanceMethod yX7_lettersOf ∈ vtb := vtb_in 950 (by decide +kernel) rfl
theorem ml_RL_73 : Cond.methodLink RL 73 yX7_calls ∈ vtb := vtb_in 952 (by decide +kernel) rfl
theorem im_yX7_calls : Cond.instanceMethod yX7_calls ∈ vtb := vtb_in 953 (by decide +kernel) rfl
theorem se_yX7_calls : Cond.selects RX7 yX7_calls yX7_calls ∈ vtb := vtb_in 954 (by decide +kernel) rfl
theorem ml_RL_77 : Cond.methodLink RL 77 yX7_fix ∈ vtb := vtb_in 956 (by decide +kernel) rfl
theorem im_yX7_fix : Cond.instanceMethod yX7_fix ∈ vtb := vtb_in 957 (by decide +kernel) rfl
theorem se_yX7_fix : Cond.selects RX7 yX7_fix yX7_fix ∈ vtb := vtb_in 958 (by decide +kernel) rfl
theorem ml_RL_81 : Cond.methodLink RL 81 yX7_lines ∈ vtb := vtb_in 960 (by decide +kernel) rfl
theorem im_yX7_lines : Cond.instanceMethod yX7_lines ∈ vtb := vtb_in 961 (by decide +kernel) rfl
theorem se_yX7_lines : Cond.selects RX7 yX7_lines yX7_lines ∈ vtb := vtb_in 962 (by decide +kernel) rfl
theorem ml_RX7_172 : Cond.methodLink RX7 172 yX7_linesOf ∈ vtb := vtb_in 964 (by decide +kernel) rfl
theorem im_yX7_linesOf : Cond.instanceMethod yX7_linesOf ∈ vtb := vtb_in 966 (by decide +kernel) rfl
theorem ml_RL_85 : Cond.methodLink RL 85 yX7_want ∈ vtb := vtb_in 968 (by decide +kernel) rfl
theorem im_yX7_want : Cond.instanceMethod yX7_want ∈ vtb := vtb_in 969 (by decide +kernel) rfl
theorem se_yX7_want : Cond.selects RX7 yX7_want yX7_want ∈ vtb := vtb_in 970 (by decide +kernel) rfl
theorem ml_RX7_175 : Cond.methodLink RX7 175 yX7_wantOf ∈ vtb := vtb_in 972 (by decide +kernel) rfl
theorem im_yX7_wantOf : Cond.instanceMethod yX7_wantOf ∈ vtb := vtb_in 974 (by decide +kernel) rfl
theorem ml_RL_89 : Cond.methodLink RL 89 yX7_natural ∈ vtb := vtb_in 976 (by decide +kernel) rfl
theorem im_yX7_natural : Cond.instanceMethod yX7_natural ∈ vtb := vtb_in 977 (by decide +kernel) rfl
theorem se_yX7_natural : Cond.selects RX7 yX7_natural yX7_natural ∈ vtb := vtb_in 978 (by decide +kernel) rfl
theorem ml_RX7_192 : Cond.methodLink RX7 192 yX7_layBoth ∈ vtb := vtb_in 980 (by decide +kernel) rfl
theorem im_yX7_layBoth : Cond.instanceMethod yX7_layBoth ∈ vtb := vtb_in 982 (by decide +kernel) rfl
theorem ml_RX7_188 : Cond.methodLink RX7 188 yX7_layWidths ∈ vtb := vtb_in 984 (by decide +kernel) rfl
theorem im_yX7_layWidths : Cond.instanceMethod yX7_layWidths ∈ vtb := vtb_in 986 (by decide +kernel) rfl
theorem ml_RX7_178 : Cond.methodLink RX7 178 yX7_widthOver ∈ vtb := vtb_in 988 (by decide +kernel) rfl
theorem im_yX7_widthOver : Cond.instanceMethod yX7_widthOver ∈ vtb := vtb_in 990 (by decide +kernel) rfl
theorem ml_RX7_182 : Cond.methodLink RX7 182 yX7_lacks ∈ vtb := vtb_in 992 (by decide +kernel) rfl
theorem im_yX7_lacks : Cond.instanceMethod yX7_lacks ∈ vtb := vtb_in 994 (by decide +kernel) rfl
theorem ml_RX7_185 : Cond.methodLink RX7 185 yX7_share ∈ vtb := vtb_in 996 (by decide +kernel) rfl
theorem im_yX7_share : Cond.instanceMethod yX7_share ∈ vtb := vtb_in 998 (by decide +kernel) rfl
theorem ml_RL_93 : Cond.methodLink RL 93 yX7_set ∈ vtb := vtb_in 1000 (by decide +kernel) rfl
theorem im_yX7_set : Cond.instanceMethod yX7_set ∈ vtb := vtb_in 1001 (by decide +kernel) rfl
theorem se_yX7_set : Cond.selects RX7 yX7_set yX7_set ∈ vtb := vtb_in 1002 (by decide +kernel) rfl
theorem ml_RX7_195 : Cond.methodLink RX7 195 yX7_sumOf ∈ vtb := vtb_in 1004 (by decide +kernel) rfl
theorem im_yX7_sumOf : Cond.instanceMethod yX7_sumOf ∈ vtb := vtb_in 1006 (by decide +kernel) rfl
theorem ml_RX7_199 : Cond.methodLink RX7 199 yX7_heightBy ∈ vtb := vtb_in 1008 (by decide +kernel) rfl
theorem im_yX7_heightBy : Cond.instanceMethod yX7_heightBy ∈ vtb := vtb_in 1010 (by decide +kernel) rfl
theorem ml_RX7_202 : Cond.methodLink RX7 202 yX7_layHeights ∈ vtb := vtb_in 1012 (by decide +kernel) rfl
theorem im_yX7_layHeights : Cond.instanceMethod yX7_layHeights ∈ vtb := vtb_in 1014 (by decide +kernel) rfl
theorem ml_RL_97 : Cond.methodLink RL 97 yX7_tight ∈ vtb := vtb_in 1016 (by decide +kernel) rfl
theorem im_yX7_tight : Cond.instanceMethod yX7_tight ∈ vtb := vtb_in 1017 (by decide +kernel) rfl
theorem se_yX7_tight : Cond.selects RX7 yX7_tight yX7_tight ∈ vtb := vtb_in 1018 (by decide +kernel) rfl
theorem ml_RX7_209 : Cond.methodLink RX7 209 yX7_next ∈ vtb := vtb_in 1020 (by decide +kernel) rfl
theorem im_yX7_next : Cond.instanceMethod yX7_next ∈ vtb := vtb_in 1022 (by decide +kernel) rfl
theorem ml_RL_101 : Cond.methodLink RL 101 yX7_tries ∈ vtb := vtb_in 1024 (by decide +kernel) rfl
theorem im_yX7_tries : Cond.instanceMethod yX7_tries ∈ vtb := vtb_in 1025 (by decide +kernel) rfl
theorem se_yX7_tries : Cond.selects RX7 yX7_tries yX7_tries ∈ vtb := vtb_in 1026 (by decide +kernel) rfl
theorem ml_RL_105 : Cond.methodLink RL 105 yX7_width ∈ vtb := vtb_in 1028 (by decide +kernel) rfl
theorem im_yX7_width : Cond.instanceMethod yX7_width ∈ vtb := vtb_in 1029 (by decide +kernel) rfl
theorem se_yX7_width : Cond.selects RX7 yX7_width yX7_width ∈ vtb := vtb_in 1030 (by decide +kernel) rfl
theorem ml_RL_109 : Cond.methodLink RL 109 yX7_height ∈ vtb := vtb_in 1032 (by decide +kernel) rfl
theorem im_yX7_height : Cond.instanceMethod yX7_height ∈ vtb := vtb_in 1033 (by decide +kernel) rfl
theorem se_yX7_height : Cond.selects RX7 yX7_height yX7_height ∈ vtb := vtb_in 1034 (by decide +kernel) rfl
theorem ml_RL_125 : Cond.methodLink RL 125 yX7_mayBreak ∈ vtb := vtb_in 1036 (by decide +kernel) rfl
theorem im_yX7_mayBreak : Cond.instanceMethod yX7_mayBreak ∈ vtb := vtb_in 1037 (by decide +kernel) rfl
theorem se_yX7_mayBreak : Cond.selects RX7 yX7_mayBreak yX7_mayBreak ∈ vtb := vtb_in 1038 (by decide +kernel) rfl
theorem ml_RX7_217 : Cond.methodLink RX7 217 yX7_mayBreakAt ∈ vtb := vtb_in 1040 (by decide +kernel) rfl
theorem im_yX7_mayBreakAt : Cond.instanceMethod yX7_mayBreakAt ∈ vtb := vtb_in 1042 (by decide +kernel) rfl
theorem ml_RX7_213 : Cond.methodLink RX7 213 yX7_headRows ∈ vtb := vtb_in 1044 (by decide +kernel) rfl
theorem im_yX7_headRows : Cond.instanceMethod yX7_headRows ∈ vtb := vtb_in 1046 (by decide +kernel) rfl
theorem ml_RL_113 : Cond.methodLink RL 113 yX7_pages ∈ vtb := vtb_in 1048 (by decide +kernel) rfl
theorem im_yX7_pages : Cond.instanceMethod yX7_pages ∈ vtb := vtb_in 1049 (by decide +kernel) rfl
theorem se_yX7_pages : Cond.selects RX7 yX7_pages yX7_pages ∈ vtb := vtb_in 1050 (by decide +kernel) rfl
theorem ml_RX7_227 : Cond.methodLink RX7 227 yX7_emptyOf ∈ vtb := vtb_in 1052 (by decide +kernel) rfl
theorem im_yX7_emptyOf : Cond.instanceMethod yX7_emptyOf ∈ vtb := vtb_in 1054 (by decide +kernel) rfl
theorem ml_RX7_223 : Cond.methodLink RX7 223 yX7_notesOn ∈ vtb := vtb_in 1056 (by decide +kernel) rfl
theorem im_yX7_notesOn : Cond.instanceMethod yX7_notesOn ∈ vtb := vtb_in 1058 (by decide +kernel) rfl
theorem ml_RX7_220 : Cond.methodLink RX7 220 yX7_homeOf ∈ vtb := vtb_in 1060 (by decide +kernel) rfl
theorem im_yX7_homeOf : Cond.instanceMethod yX7_homeOf ∈ vtb := vtb_in 1062 (by decide +kernel) rfl
theorem ml_RL_117 : Cond.methodLink RL 117 yX7_page ∈ vtb := vtb_in 1064 (by decide +kernel) rfl
theorem im_yX7_page : Cond.instanceMethod yX7_page ∈ vtb := vtb_in 1065 (by decide +kernel) rfl
theorem se_yX7_page : Cond.selects RX7 yX7_page yX7_page ∈ vtb := vtb_in 1066 (by decide +kernel) rfl
theorem ml_RX7_231 : Cond.methodLink RX7 231 yX7_pageTold ∈ vtb := vtb_in 1068 (by decide +kernel) rfl
theorem im_yX7_pageTold : Cond.instanceMethod yX7_pageTold ∈ vtb := vtb_in 1070 (by decide +kernel) rfl
theorem ml_RL_121 : Cond.methodLink RL 121 yX7_pageOf ∈ vtb := vtb_in 1072 (by decide +kernel) rfl
theorem im_yX7_pageOf : Cond.instanceMethod yX7_pageOf ∈ vtb := vtb_in 1073 (by decide +kernel) rfl
theorem se_yX7_pageOf : Cond.selects RX7 yX7_pageOf yX7_pageOf ∈ vtb := vtb_in 1074 (by decide +kernel) rfl
theorem ml_RL_129 : Cond.methodLink RL 129 yX7_count ∈ vtb := vtb_in 1076 (by decide +kernel) rfl
theorem im_yX7_count : Cond.instanceMethod yX7_count ∈ vtb := vtb_in 1077 (by decide +kernel) rfl
theorem se_yX7_count : Cond.selects RX7 yX7_count yX7_count ∈ vtb := vtb_in 1078 (by decide +kernel) rfl
theorem ml_RL_142 : Cond.methodLink RL 142 yX7_digest ∈ vtb := vtb_in 1080 (by decide +kernel) rfl
theorem im_yX7_digest : Cond.instanceMethod yX7_digest ∈ vtb := vtb_in 1081 (by decide +kernel) rfl
theorem se_yX7_digest : Cond.selects RX7 yX7_digest yX7_digest ∈ vtb := vtb_in 1082 (by decide +kernel) rfl
theorem kl_RX7_234 : Cond.constantLong RX7 234 (31) ∈ vtb := vtb_in 1084 (by decide +kernel) rfl
theorem kl_RX7_236 : Cond.constantLong RX7 236 (527) ∈ vtb := vtb_in 1085 (by decide +kernel) rfl
theorem ml_RX7_238 : Cond.methodLink RX7 238 yX7_digestCell ∈ vtb := vtb_in 1086 (by decide +kernel) rfl
theorem im_yX7_digestCell : Cond.instanceMethod yX7_digestCell ∈ vtb := vtb_in 1088 (by decide +kernel) rfl
theorem co_Math_max : Cond.code Lib.Math.max.name Lib.Math.max.code 2 (some .int) ∈ vtb := vtb_in 475 (by decide +kernel) rfl
theorem co_Math_min : Cond.code Lib.Math.min.name Lib.Math.min.code 2 (some .int) ∈ vtb := vtb_in 513 (by decide +kernel) rfl
theorem co_Object : Cond.code objectInit ⟨#[0xb1]⟩ 1 none ∈ vtb := vtb_in 69 (by decide +kernel) rfl
theorem inX0 : ∀ w ∈ u_ws RX0 TX0 11, w ∈ vtb := fun w hw => List.mem_filter.mpr (by have h := List.all_eq_true.mp (by decide +kernel : (u_ws RX0 TX0 11).all (fun w => decide (w ∈ lw_tbl) && goodWord w) = true) w hw; simpa only [Bool.and_eq_true, decide_eq_true_eq] using h)
theorem inX1 : ∀ w ∈ u_ws RX1 TX1 7, w ∈ vtb := fun w hw => List.mem_filter.mpr (by have h := List.all_eq_true.mp (by decide +kernel : (u_ws RX1 TX1 7).all (fun w => decide (w ∈ lw_tbl) && goodWord w) = true) w hw; simpa only [Bool.and_eq_true, decide_eq_true_eq] using h)
theorem inX2 : ∀ w ∈ u_ws RX2 TX2 5, w ∈ vtb := fun w hw => List.mem_filter.mpr (by have h := List.all_eq_true.mp (by decide +kernel : (u_ws RX2 TX2 5).all (fun w => decide (w ∈ lw_tbl) && goodWord w) = true) w hw; simpa only [Bool.and_eq_true, decide_eq_true_eq] using h)
theorem inX3 : ∀ w ∈ u_ws RX3 TX3 12, w ∈ vtb := fun w hw => List.mem_filter.mpr (by have h := List.all_eq_true.mp (by decide +kernel : (u_ws RX3 TX3 12).all (fun w => decide (w ∈ lw_tbl) && goodWord w) = true) w hw; simpa only [Bool.and_eq_true, decide_eq_true_eq] using h)
theorem inX4 : ∀ w ∈ u_ws RX4 TX4 2, w ∈ vtb := fun w hw => List.mem_filter.mpr (by have h := List.all_eq_true.mp (by decide +kernel : (u_ws RX4 TX4 2).all (fun w => decide (w ∈ lw_tbl) && goodWord w) = true) w hw; simpa only [Bool.and_eq_true, decide_eq_true_eq] using h)
theorem inX5 : ∀ w ∈ u_ws RX5 TX5 9, w ∈ vtb := fun w hw => List.mem_filter.mpr (by have h := List.all_eq_true.mp (by decide +kernel : (u_ws RX5 TX5 9).all (fun w => decide (w ∈ lw_tbl) && goodWord w) = true) w hw; simpa only [Bool.and_eq_true, decide_eq_true_eq] using h)
theorem inX6 : ∀ w ∈ u_ws RX6 TX6 8, w ∈ vtb := fun w hw => List.mem_filter.mpr (by have h := List.all_eq_true.mp (by decide +kernel : (u_ws RX6 TX6 8).all (fun w => decide (w ∈ lw_tbl) && goodWord w) = true) w hw; simpa only [Bool.and_eq_true, decide_eq_true_eq] using h)
theorem inX7 : ∀ w ∈ u_ws RX7 TX7 41, w ∈ vtb := fun w hw => List.mem_filter.mpr (by have h := List.all_eq_true.mp (by decide +kernel : (u_ws RX7 TX7 41).all (fun w => decide (w ∈ lw_tbl) && goodWord w) = true) w hw; simpa only [Bool.and_eq_true, decide_eq_true_eq] using h)
theorem pl_X6_init : mX6_init.1.cls ≠ "java/lang/invoke/MethodHandle" ∧ mX6_init.1.cls ≠ "java/lang/invoke/VarHandle" ∧ (parseMethodDescriptor mX6_init.1.desc).map (fun d => d.parameters.length) = some 0 := by decide +kernel
theorem pn_X6_init : plainName mX6_init.1.cls = true := by decide +kernel
theorem pl_X1_init : mX1_init.1.cls ≠ "java/lang/invoke/MethodHandle" ∧ mX1_init.1.cls ≠ "java/lang/invoke/VarHandle" ∧ (parseMethodDescriptor mX1_init.1.desc).map (fun d => d.parameters.length) = some 0 := by decide +kernel
theorem pn_X1_init : plainName mX1_init.1.cls = true := by decide +kernel
theorem pl_X0_init : mX0_init.1.cls ≠ "java/lang/invoke/MethodHandle" ∧ mX0_init.1.cls ≠ "java/lang/invoke/VarHandle" ∧ (parseMethodDescriptor mX0_init.1.desc).map (fun d => d.parameters.length) = some 0 := by decide +kernel
theorem pn_X0_init : plainName mX0_init.1.cls = true := by decide +kernel
theorem pl_J7_fill_53178 : mJ7_fill_53178.1.cls ≠ "java/lang/invoke/MethodHandle" ∧ mJ7_fill_53178.1.cls ≠ "java/lang/invoke/VarHandle" ∧ (parseMethodDescriptor mJ7_fill_53178.1.desc).map (fun d => d.parameters.length) = some 2 := by decide +kernel
theorem pn_J7_fill_53178 : plainName mJ7_fill_53178.1.cls = true := by decide +kernel
theorem pl_X1_begin : mX1_begin.1.cls ≠ "java/lang/invoke/MethodHandle" ∧ mX1_begin.1.cls ≠ "java/lang/invoke/VarHandle" ∧ (parseMethodDescriptor mX1_begin.1.desc).map (fun d => d.parameters.length) = some 3 := by decide +kernel
theorem pn_X1_begin : plainName mX1_begin.1.cls = true := by decide +kernel
theorem pl_X2_init : mX2_init.1.cls ≠ "java/lang/invoke/MethodHandle" ∧ mX2_init.1.cls ≠ "java/lang/invoke/VarHandle" ∧ (parseMethodDescriptor mX2_init.1.desc).map (fun d => d.parameters.length) = some 1 := by decide +kernel
theorem pn_X2_init : plainName mX2_init.1.cls = true := by decide +kernel
theorem pl_X5_init : mX5_init.1.cls ≠ "java/lang/invoke/MethodHandle" ∧ mX5_init.1.cls ≠ "java/lang/invoke/VarHandle" ∧ (parseMethodDescriptor mX5_init.1.desc).map (fun d => d.parameters.length) = some 2 := by decide +kernel
theorem pn_X5_init : plainName mX5_init.1.cls = true := by decide +kernel
theorem pl_X4_init : mX4_init.1.cls ≠ "java/lang/invoke/MethodHandle" ∧ mX4_init.1.cls ≠ "java/lang/invoke/VarHandle" ∧ (parseMethodDescriptor mX4_init.1.desc).map (fun d => d.parameters.length) = some 0 := by decide +kernel
theorem pn_X4_init : plainName mX4_init.1.cls = true := by decide +kernel
theorem pl_X3_init : mX3_init.1.cls ≠ "java/lang/invoke/MethodHandle" ∧ mX3_init.1.cls ≠ "java/lang/invoke/VarHandle" ∧ (parseMethodDescriptor mX3_init.1.desc).map (fun d => d.parameters.length) = some 2 := by decide +kernel
theorem pn_X3_init : plainName mX3_init.1.cls = true := by decide +kernel
theorem pl_X6_table : mX6_table.1.cls ≠ "java/lang/invoke/MethodHandle" ∧ mX6_table.1.cls ≠ "java/lang/invoke/VarHandle" ∧ (parseMethodDescriptor mX6_table.1.desc).map (fun d => d.parameters.length) = some 3 := by decide +kernel
theorem pn_X6_table : plainName mX6_table.1.cls = true := by decide +kernel
theorem pl_X6_isWithin : mX6_isWithin.1.cls ≠ "java/lang/invoke/MethodHandle" ∧ mX6_isWithin.1.cls ≠ "java/lang/invoke/VarHandle" ∧ (parseMethodDescriptor mX6_isWithin.1.desc).map (fun d => d.parameters.length) = some 3 := by decide +kernel
theorem pn_X6_isWithin : plainName mX6_isWithin.1.cls = true := by decide +kernel
theorem pl_X5_forget : mX5_forget.1.cls ≠ "java/lang/invoke/MethodHandle" ∧ mX5_forget.1.cls ≠ "java/lang/invoke/VarHandle" ∧ (parseMethodDescriptor mX5_forget.1.desc).map (fun d => d.parameters.length) = some 0 := by decide +kernel
theorem pn_X5_forget : plainName mX5_forget.1.cls = true := by decide +kernel
theorem pl_X3_forget : mX3_forget.1.cls ≠ "java/lang/invoke/MethodHandle" ∧ mX3_forget.1.cls ≠ "java/lang/invoke/VarHandle" ∧ (parseMethodDescriptor mX3_forget.1.desc).map (fun d => d.parameters.length) = some 0 := by decide +kernel
theorem pn_X3_forget : plainName mX3_forget.1.cls = true := by decide +kernel
theorem pl_X6_weight : mX6_weight.1.cls ≠ "java/lang/invoke/MethodHandle" ∧ mX6_weight.1.cls ≠ "java/lang/invoke/VarHandle" ∧ (parseMethodDescriptor mX6_weight.1.desc).map (fun d => d.parameters.length) = some 2 := by decide +kernel
theorem pn_X6_weight : plainName mX6_weight.1.cls = true := by decide +kernel
theorem pl_X6_note : mX6_note.1.cls ≠ "java/lang/invoke/MethodHandle" ∧ mX6_note.1.cls ≠ "java/lang/invoke/VarHandle" ∧ (parseMethodDescriptor mX6_note.1.desc).map (fun d => d.parameters.length) = some 2 := by decide +kernel
theorem pn_X6_note : plainName mX6_note.1.cls = true := by decide +kernel
theorem pl_X6_cell : mX6_cell.1.cls ≠ "java/lang/invoke/MethodHandle" ∧ mX6_cell.1.cls ≠ "java/lang/invoke/VarHandle" ∧ (parseMethodDescriptor mX6_cell.1.desc).map (fun d => d.parameters.length) = some 5 := by decide +kernel
theorem pn_X6_cell : plainName mX6_cell.1.cls = true := by decide +kernel
theorem pl_X6_isPlace : mX6_isPlace.1.cls ≠ "java/lang/invoke/MethodHandle" ∧ mX6_isPlace.1.cls ≠ "java/lang/invoke/VarHandle" ∧ (parseMethodDescriptor mX6_isPlace.1.desc).map (fun d => d.parameters.length) = some 2 := by decide +kernel
theorem pn_X6_isPlace : plainName mX6_isPlace.1.cls = true := by decide +kernel
theorem pl_X6_tell : mX6_tell.1.cls ≠ "java/lang/invoke/MethodHandle" ∧ mX6_tell.1.cls ≠ "java/lang/invoke/VarHandle" ∧ (parseMethodDescriptor mX6_tell.1.desc).map (fun d => d.parameters.length) = some 1 := by decide +kernel
theorem pn_X6_tell : plainName mX6_tell.1.cls = true := by decide +kernel
theorem pl_X1_firstOn : mX1_firstOn.1.cls ≠ "java/lang/invoke/MethodHandle" ∧ mX1_firstOn.1.cls ≠ "java/lang/invoke/VarHandle" ∧ (parseMethodDescriptor mX1_firstOn.1.desc).map (fun d => d.parameters.length) = some 4 := by decide +kernel
theorem pn_X1_firstOn : plainName mX1_firstOn.1.cls = true := by decide +kernel
theorem pl_X1_present : mX1_present.1.cls ≠ "java/lang/invoke/MethodHandle" ∧ mX1_present.1.cls ≠ "java/lang/invoke/VarHandle" ∧ (parseMethodDescriptor mX1_present.1.desc).map (fun d => d.parameters.length) = some 1 := by decide +kernel
theorem pn_X1_present : plainName mX1_present.1.cls = true := by decide +kernel
theorem pl_X1_numbered : mX1_numbered.1.cls ≠ "java/lang/invoke/MethodHandle" ∧ mX1_numbered.1.cls ≠ "java/lang/invoke/VarHandle" ∧ (parseMethodDescriptor mX1_numbered.1.desc).map (fun d => d.parameters.length) = some 1 := by decide +kernel
theorem pn_X1_numbered : plainName mX1_numbered.1.cls = true := by decide +kernel
theorem pl_X0_meets : mX0_meets.1.cls ≠ "java/lang/invoke/MethodHandle" ∧ mX0_meets.1.cls ≠ "java/lang/invoke/VarHandle" ∧ (parseMethodDescriptor mX0_meets.1.desc).map (fun d => d.parameters.length) = some 4 := by decide +kernel
theorem pn_X0_meets : plainName mX0_meets.1.cls = true := by decide +kernel
theorem pl_X1_add : mX1_add.1.cls ≠ "java/lang/invoke/MethodHandle" ∧ mX1_add.1.cls ≠ "java/lang/invoke/VarHandle" ∧ (parseMethodDescriptor mX1_add.1.desc).map (fun d => d.parameters.length) = some 5 := by decide +kernel
theorem pn_X1_add : plainName mX1_add.1.cls = true := by decide +kernel
theorem pl_X0_begin : mX0_begin.1.cls ≠ "java/lang/invoke/MethodHandle" ∧ mX0_begin.1.cls ≠ "java/lang/invoke/VarHandle" ∧ (parseMethodDescriptor mX0_begin.1.desc).map (fun d => d.parameters.length) = some 5 := by decide +kernel
theorem pn_X0_begin : plainName mX0_begin.1.cls = true := by decide +kernel
theorem pl_X0_fill : mX0_fill.1.cls ≠ "java/lang/invoke/MethodHandle" ∧ mX0_fill.1.cls ≠ "java/lang/invoke/VarHandle" ∧ (parseMethodDescriptor mX0_fill.1.desc).map (fun d => d.parameters.length) = some 1 := by decide +kernel
theorem pn_X0_fill : plainName mX0_fill.1.cls = true := by decide +kernel
theorem pl_X0_forgetLines : mX0_forgetLines.1.cls ≠ "java/lang/invoke/MethodHandle" ∧ mX0_forgetLines.1.cls ≠ "java/lang/invoke/VarHandle" ∧ (parseMethodDescriptor mX0_forgetLines.1.desc).map (fun d => d.parameters.length) = some 0 := by decide +kernel
theorem pn_X0_forgetLines : plainName mX0_forgetLines.1.cls = true := by decide +kernel
theorem pl_X6_clash : mX6_clash.1.cls ≠ "java/lang/invoke/MethodHandle" ∧ mX6_clash.1.cls ≠ "java/lang/invoke/VarHandle" ∧ (parseMethodDescriptor mX6_clash.1.desc).map (fun d => d.parameters.length) = some 0 := by decide +kernel
theorem pn_X6_clash : plainName mX6_clash.1.cls = true := by decide +kernel
theorem pl_X6_drop : mX6_drop.1.cls ≠ "java/lang/invoke/MethodHandle" ∧ mX6_drop.1.cls ≠ "java/lang/invoke/VarHandle" ∧ (parseMethodDescriptor mX6_drop.1.desc).map (fun d => d.parameters.length) = some 1 := by decide +kernel
theorem pn_X6_drop : plainName mX6_drop.1.cls = true := by decide +kernel
theorem pl_X6_told : mX6_told.1.cls ≠ "java/lang/invoke/MethodHandle" ∧ mX6_told.1.cls ≠ "java/lang/invoke/VarHandle" ∧ (parseMethodDescriptor mX6_told.1.desc).map (fun d => d.parameters.length) = some 2 := by decide +kernel
theorem pn_X6_told : plainName mX6_told.1.cls = true := by decide +kernel
theorem pl_X0_fact : mX0_fact.1.cls ≠ "java/lang/invoke/MethodHandle" ∧ mX0_fact.1.cls ≠ "java/lang/invoke/VarHandle" ∧ (parseMethodDescriptor mX0_fact.1.desc).map (fun d => d.parameters.length) = some 1 := by decide +kernel
theorem pn_X0_fact : plainName mX0_fact.1.cls = true := by decide +kernel
theorem pl_X6_is : mX6_is.1.cls ≠ "java/lang/invoke/MethodHandle" ∧ mX6_is.1.cls ≠ "java/lang/invoke/VarHandle" ∧ (parseMethodDescriptor mX6_is.1.desc).map (fun d => d.parameters.length) = some 2 := by decide +kernel
theorem pn_X6_is : plainName mX6_is.1.cls = true := by decide +kernel
theorem pl_X6_on : mX6_on.1.cls ≠ "java/lang/invoke/MethodHandle" ∧ mX6_on.1.cls ≠ "java/lang/invoke/VarHandle" ∧ (parseMethodDescriptor mX6_on.1.desc).map (fun d => d.parameters.length) = some 2 := by decide +kernel
theorem pn_X6_on : plainName mX6_on.1.cls = true := by decide +kernel
theorem pl_X6_words : mX6_words.1.cls ≠ "java/lang/invoke/MethodHandle" ∧ mX6_words.1.cls ≠ "java/lang/invoke/VarHandle" ∧ (parseMethodDescriptor mX6_words.1.desc).map (fun d => d.parameters.length) = some 2 := by decide +kernel
theorem pn_X6_words : plainName mX6_words.1.cls = true := by decide +kernel
theorem pl_X6_word : mX6_word.1.cls ≠ "java/lang/invoke/MethodHandle" ∧ mX6_word.1.cls ≠ "java/lang/invoke/VarHandle" ∧ (parseMethodDescriptor mX6_word.1.desc).map (fun d => d.parameters.length) = some 3 := by decide +kernel
theorem pn_X6_word : plainName mX6_word.1.cls = true := by decide +kernel
theorem pl_X0_holds : mX0_holds.1.cls ≠ "java/lang/invoke/MethodHandle" ∧ mX0_holds.1.cls ≠ "java/lang/invoke/VarHandle" ∧ (parseMethodDescriptor mX0_holds.1.desc).map (fun d => d.parameters.length) = some 2 := by decide +kernel
theorem pn_X0_holds : plainName mX0_holds.1.cls = true := by decide +kernel
theorem pl_X0_exchange : mX0_exchange.1.cls ≠ "java/lang/invoke/MethodHandle" ∧ mX0_exchange.1.cls ≠ "java/lang/invoke/VarHandle" ∧ (parseMethodDescriptor mX0_exchange.1.desc).map (fun d => d.parameters.length) = some 2 := by decide +kernel
theorem pn_X0_exchange : plainName mX0_exchange.1.cls = true := by decide +kernel
theorem pl_X6_copy : mX6_copy.1.cls ≠ "java/lang/invoke/MethodHandle" ∧ mX6_copy.1.cls ≠ "java/lang/invoke/VarHandle" ∧ (parseMethodDescriptor mX6_copy.1.desc).map (fun d => d.parameters.length) = some 5 := by decide +kernel
theorem pn_X6_copy : plainName mX6_copy.1.cls = true := by decide +kernel
theorem pl_X0_take : mX0_take.1.cls ≠ "java/lang/invoke/MethodHandle" ∧ mX0_take.1.cls ≠ "java/lang/invoke/VarHandle" ∧ (parseMethodDescriptor mX0_take.1.desc).map (fun d => d.parameters.length) = some 4 := by decide +kernel
theorem pn_X0_take : plainName mX0_take.1.cls = true := by decide +kernel
theorem pl_X6_mean : mX6_mean.1.cls ≠ "java/lang/invoke/MethodHandle" ∧ mX6_mean.1.cls ≠ "java/lang/invoke/VarHandle" ∧ (parseMethodDescriptor mX6_mean.1.desc).map (fun d => d.parameters.length) = some 1 := by decide +kernel
theorem pn_X6_mean : plainName mX6_mean.1.cls = true := by decide +kernel
theorem pl_X0_allLetters : mX0_allLetters.1.cls ≠ "java/lang/invoke/MethodHandle" ∧ mX0_allLetters.1.cls ≠ "java/lang/invoke/VarHandle" ∧ (parseMethodDescriptor mX0_allLetters.1.desc).map (fun d => d.parameters.length) = some 0 := by decide +kernel
theorem pn_X0_allLetters : plainName mX0_allLetters.1.cls = true := by decide +kernel
theorem pl_X6_calls : mX6_calls.1.cls ≠ "java/lang/invoke/MethodHandle" ∧ mX6_calls.1.cls ≠ "java/lang/invoke/VarHandle" ∧ (parseMethodDescriptor mX6_calls.1.desc).map (fun d => d.parameters.length) = some 2 := by decide +kernel
theorem pn_X6_calls : plainName mX6_calls.1.cls = true := by decide +kernel
theorem pl_X6_fix : mX6_fix.1.cls ≠ "java/lang/invoke/MethodHandle" ∧ mX6_fix.1.cls ≠ "java/lang/invoke/VarHandle" ∧ (parseMethodDescriptor mX6_fix.1.desc).map (fun d => d.parameters.length) = some 2 := by decide +kernel
theorem pn_X6_fix : plainName mX6_fix.1.cls = true := by decide +kernel
theorem pl_X6_lines : mX6_lines.1.cls ≠ "java/lang/invoke/MethodHandle" ∧ mX6_lines.1.cls ≠ "java/lang/invoke/VarHandle" ∧ (parseMethodDescriptor mX6_lines.1.desc).map (fun d => d.parameters.length) = some 2 := by decide +kernel
theorem pn_X6_lines : plainName mX6_lines.1.cls = true := by decide +kernel
theorem pl_X0_linesIn : mX0_linesIn.1.cls ≠ "java/lang/invoke/MethodHandle" ∧ mX0_linesIn.1.cls ≠ "java/lang/invoke/VarHandle" ∧ (parseMethodDescriptor mX0_linesIn.1.desc).map (fun d => d.parameters.length) = some 1 := by decide +kernel
theorem pn_X0_linesIn : plainName mX0_linesIn.1.cls = true := by decide +kernel
theorem pl_X0_countLines : mX0_countLines.1.cls ≠ "java/lang/invoke/MethodHandle" ∧ mX0_countLines.1.cls ≠ "java/lang/invoke/VarHandle" ∧ (parseMethodDescriptor mX0_countLines.1.desc).map (fun d => d.parameters.length) = some 1 := by decide +kernel
theorem pn_X0_countLines : plainName mX0_countLines.1.cls = true := by decide +kernel
theorem pl_X6_want : mX6_want.1.cls ≠ "java/lang/invoke/MethodHandle" ∧ mX6_want.1.cls ≠ "java/lang/invoke/VarHandle" ∧ (parseMethodDescriptor mX6_want.1.desc).map (fun d => d.parameters.length) = some 2 := by decide +kernel
theorem pn_X6_want : plainName mX6_want.1.cls = true := by decide +kernel
theorem pl_X0_wanted : mX0_wanted.1.cls ≠ "java/lang/invoke/MethodHandle" ∧ mX0_wanted.1.cls ≠ "java/lang/invoke/VarHandle" ∧ (parseMethodDescriptor mX0_wanted.1.desc).map (fun d => d.parameters.length) = some 1 := by decide +kernel
theorem pn_X0_wanted : plainName mX0_wanted.1.cls = true := by decide +kernel
theorem pl_X0_longestPiece : mX0_longestPiece.1.cls ≠ "java/lang/invoke/MethodHandle" ∧ mX0_longestPiece.1.cls ≠ "java/lang/invoke/VarHandle" ∧ (parseMethodDescriptor mX0_longestPiece.1.desc).map (fun d => d.parameters.length) = some 0 := by decide +kernel
theorem pn_X0_longestPiece : plainName mX0_longestPiece.1.cls = true := by decide +kernel
theorem pl_X6_natural : mX6_natural.1.cls ≠ "java/lang/invoke/MethodHandle" ∧ mX6_natural.1.cls ≠ "java/lang/invoke/VarHandle" ∧ (parseMethodDescriptor mX6_natural.1.desc).map (fun d => d.parameters.length) = some 2 := by decide +kernel
theorem pn_X6_natural : plainName mX6_natural.1.cls = true := by decide +kernel
theorem pl_X5_measure : mX5_measure.1.cls ≠ "java/lang/invoke/MethodHandle" ∧ mX5_measure.1.cls ≠ "java/lang/invoke/VarHandle" ∧ (parseMethodDescriptor mX5_measure.1.desc).map (fun d => d.parameters.length) = some 0 := by decide +kernel
theorem pn_X5_measure : plainName mX5_measure.1.cls = true := by decide +kernel
theorem pl_X5_measureFor : mX5_measureFor.1.cls ≠ "java/lang/invoke/MethodHandle" ∧ mX5_measureFor.1.cls ≠ "java/lang/invoke/VarHandle" ∧ (parseMethodDescriptor mX5_measureFor.1.desc).map (fun d => d.parameters.length) = some 2 := by decide +kernel
theorem pn_X5_measureFor : plainName mX5_measureFor.1.cls = true := by decide +kernel
theorem pl_X1_spanOf : mX1_spanOf.1.cls ≠ "java/lang/invoke/MethodHandle" ∧ mX1_spanOf.1.cls ≠ "java/lang/invoke/VarHandle" ∧ (parseMethodDescriptor mX1_spanOf.1.desc).map (fun d => d.parameters.length) = some 2 := by decide +kernel
theorem pn_X1_spanOf : plainName mX1_spanOf.1.cls = true := by decide +kernel
theorem pl_X5_noteLack : mX5_noteLack.1.cls ≠ "java/lang/invoke/MethodHandle" ∧ mX5_noteLack.1.cls ≠ "java/lang/invoke/VarHandle" ∧ (parseMethodDescriptor mX5_noteLack.1.desc).map (fun d => d.parameters.length) = some 2 := by decide +kernel
theorem pn_X5_noteLack : plainName mX5_noteLack.1.cls = true := by decide +kernel
theorem pl_X4_divide : mX4_divide.1.cls ≠ "java/lang/invoke/MethodHandle" ∧ mX4_divide.1.cls ≠ "java/lang/invoke/VarHandle" ∧ (parseMethodDescriptor mX4_divide.1.desc).map (fun d => d.parameters.length) = some 4 := by decide +kernel
theorem pn_X4_divide : plainName mX4_divide.1.cls = true := by decide +kernel
theorem pl_X4_giveOne : mX4_giveOne.1.cls ≠ "java/lang/invoke/MethodHandle" ∧ mX4_giveOne.1.cls ≠ "java/lang/invoke/VarHandle" ∧ (parseMethodDescriptor mX4_giveOne.1.desc).map (fun d => d.parameters.length) = some 2 := by decide +kernel
theorem pn_X4_giveOne : plainName mX4_giveOne.1.cls = true := by decide +kernel
theorem pl_X5_addTo : mX5_addTo.1.cls ≠ "java/lang/invoke/MethodHandle" ∧ mX5_addTo.1.cls ≠ "java/lang/invoke/VarHandle" ∧ (parseMethodDescriptor mX5_addTo.1.desc).map (fun d => d.parameters.length) = some 2 := by decide +kernel
theorem pn_X5_addTo : plainName mX5_addTo.1.cls = true := by decide +kernel
theorem pl_X6_set : mX6_set.1.cls ≠ "java/lang/invoke/MethodHandle" ∧ mX6_set.1.cls ≠ "java/lang/invoke/VarHandle" ∧ (parseMethodDescriptor mX6_set.1.desc).map (fun d => d.parameters.length) = some 1 := by decide +kernel
theorem pn_X6_set : plainName mX6_set.1.cls = true := by decide +kernel
theorem pl_X5_spareOf : mX5_spareOf.1.cls ≠ "java/lang/invoke/MethodHandle" ∧ mX5_spareOf.1.cls ≠ "java/lang/invoke/VarHandle" ∧ (parseMethodDescriptor mX5_spareOf.1.desc).map (fun d => d.parameters.length) = some 1 := by decide +kernel
theorem pn_X5_spareOf : plainName mX5_spareOf.1.cls = true := by decide +kernel
theorem pl_X1_gaps : mX1_gaps.1.cls ≠ "java/lang/invoke/MethodHandle" ∧ mX1_gaps.1.cls ≠ "java/lang/invoke/VarHandle" ∧ (parseMethodDescriptor mX1_gaps.1.desc).map (fun d => d.parameters.length) = some 0 := by decide +kernel
theorem pn_X1_gaps : plainName mX1_gaps.1.cls = true := by decide +kernel
theorem pl_X5_sumOf : mX5_sumOf.1.cls ≠ "java/lang/invoke/MethodHandle" ∧ mX5_sumOf.1.cls ≠ "java/lang/invoke/VarHandle" ∧ (parseMethodDescriptor mX5_sumOf.1.desc).map (fun d => d.parameters.length) = some 1 := by decide +kernel
theorem pn_X5_sumOf : plainName mX5_sumOf.1.cls = true := by decide +kernel
theorem pl_X5_spread : mX5_spread.1.cls ≠ "java/lang/invoke/MethodHandle" ∧ mX5_spread.1.cls ≠ "java/lang/invoke/VarHandle" ∧ (parseMethodDescriptor mX5_spread.1.desc).map (fun d => d.parameters.length) = some 1 := by decide +kernel
theorem pn_X5_spread : plainName mX5_spread.1.cls = true := by decide +kernel
theorem pl_X6_heightOfTable : mX6_heightOfTable.1.cls ≠ "java/lang/invoke/MethodHandle" ∧ mX6_heightOfTable.1.cls ≠ "java/lang/invoke/VarHandle" ∧ (parseMethodDescriptor mX6_heightOfTable.1.desc).map (fun d => d.parameters.length) = some 0 := by decide +kernel
theorem pn_X6_heightOfTable : plainName mX6_heightOfTable.1.cls = true := by decide +kernel
theorem pl_X2_sortCells : mX2_sortCells.1.cls ≠ "java/lang/invoke/MethodHandle" ∧ mX2_sortCells.1.cls ≠ "java/lang/invoke/VarHandle" ∧ (parseMethodDescriptor mX2_sortCells.1.desc).map (fun d => d.parameters.length) = some 0 := by decide +kernel
theorem pn_X2_sortCells : plainName mX2_sortCells.1.cls = true := by decide +kernel
theorem pl_X2_measure : mX2_measure.1.cls ≠ "java/lang/invoke/MethodHandle" ∧ mX2_measure.1.cls ≠ "java/lang/invoke/VarHandle" ∧ (parseMethodDescriptor mX2_measure.1.desc).map (fun d => d.parameters.length) = some 1 := by decide +kernel
theorem pn_X2_measure : plainName mX2_measure.1.cls = true := by decide +kernel
theorem pl_X2_grow : mX2_grow.1.cls ≠ "java/lang/invoke/MethodHandle" ∧ mX2_grow.1.cls ≠ "java/lang/invoke/VarHandle" ∧ (parseMethodDescriptor mX2_grow.1.desc).map (fun d => d.parameters.length) = some 0 := by decide +kernel
theorem pn_X2_grow : plainName mX2_grow.1.cls = true := by decide +kernel
theorem pl_X2_noteLack : mX2_noteLack.1.cls ≠ "java/lang/invoke/MethodHandle" ∧ mX2_noteLack.1.cls ≠ "java/lang/invoke/VarHandle" ∧ (parseMethodDescriptor mX2_noteLack.1.desc).map (fun d => d.parameters.length) = some 2 := by decide +kernel
theorem pn_X2_noteLack : plainName mX2_noteLack.1.cls = true := by decide +kernel
theorem pl_X2_sum : mX2_sum.1.cls ≠ "java/lang/invoke/MethodHandle" ∧ mX2_sum.1.cls ≠ "java/lang/invoke/VarHandle" ∧ (parseMethodDescriptor mX2_sum.1.desc).map (fun d => d.parameters.length) = some 0 := by decide +kernel
theorem pn_X2_sum : plainName mX2_sum.1.cls = true := by decide +kernel
theorem pl_X6_tight : mX6_tight.1.cls ≠ "java/lang/invoke/MethodHandle" ∧ mX6_tight.1.cls ≠ "java/lang/invoke/VarHandle" ∧ (parseMethodDescriptor mX6_tight.1.desc).map (fun d => d.parameters.length) = some 2 := by decide +kernel
theorem pn_X6_tight : plainName mX6_tight.1.cls = true := by decide +kernel
theorem pl_X5_waysToSpread : mX5_waysToSpread.1.cls ≠ "java/lang/invoke/MethodHandle" ∧ mX5_waysToSpread.1.cls ≠ "java/lang/invoke/VarHandle" ∧ (parseMethodDescriptor mX5_waysToSpread.1.desc).map (fun d => d.parameters.length) = some 1 := by decide +kernel
theorem pn_X5_waysToSpread : plainName mX5_waysToSpread.1.cls = true := by decide +kernel
theorem pl_X5_tighten : mX5_tighten.1.cls ≠ "java/lang/invoke/MethodHandle" ∧ mX5_tighten.1.cls ≠ "java/lang/invoke/VarHandle" ∧ (parseMethodDescriptor mX5_tighten.1.desc).map (fun d => d.parameters.length) = some 2 := by decide +kernel
theorem pn_X5_tighten : plainName mX5_tighten.1.cls = true := by decide +kernel
theorem pl_X5_addToLast : mX5_addToLast.1.cls ≠ "java/lang/invoke/MethodHandle" ∧ mX5_addToLast.1.cls ≠ "java/lang/invoke/VarHandle" ∧ (parseMethodDescriptor mX5_addToLast.1.desc).map (fun d => d.parameters.length) = some 1 := by decide +kernel
theorem pn_X5_addToLast : plainName mX5_addToLast.1.cls = true := by decide +kernel
theorem pl_X5_tryNext : mX5_tryNext.1.cls ≠ "java/lang/invoke/MethodHandle" ∧ mX5_tryNext.1.cls ≠ "java/lang/invoke/VarHandle" ∧ (parseMethodDescriptor mX5_tryNext.1.desc).map (fun d => d.parameters.length) = some 0 := by decide +kernel
theorem pn_X5_tryNext : plainName mX5_tryNext.1.cls = true := by decide +kernel
theorem pl_X6_tries : mX6_tries.1.cls ≠ "java/lang/invoke/MethodHandle" ∧ mX6_tries.1.cls ≠ "java/lang/invoke/VarHandle" ∧ (parseMethodDescriptor mX6_tries.1.desc).map (fun d => d.parameters.length) = some 0 := by decide +kernel
theorem pn_X6_tries : plainName mX6_tries.1.cls = true := by decide +kernel
theorem pl_X6_width : mX6_width.1.cls ≠ "java/lang/invoke/MethodHandle" ∧ mX6_width.1.cls ≠ "java/lang/invoke/VarHandle" ∧ (parseMethodDescriptor mX6_width.1.desc).map (fun d => d.parameters.length) = some 1 := by decide +kernel
theorem pn_X6_width : plainName mX6_width.1.cls = true := by decide +kernel
theorem pl_X6_height : mX6_height.1.cls ≠ "java/lang/invoke/MethodHandle" ∧ mX6_height.1.cls ≠ "java/lang/invoke/VarHandle" ∧ (parseMethodDescriptor mX6_height.1.desc).map (fun d => d.parameters.length) = some 1 := by decide +kernel
theorem pn_X6_height : plainName mX6_height.1.cls = true := by decide +kernel
theorem pl_X6_pages : mX6_pages.1.cls ≠ "java/lang/invoke/MethodHandle" ∧ mX6_pages.1.cls ≠ "java/lang/invoke/VarHandle" ∧ (parseMethodDescriptor mX6_pages.1.desc).map (fun d => d.parameters.length) = some 1 := by decide +kernel
theorem pn_X6_pages : plainName mX6_pages.1.cls = true := by decide +kernel
theorem pl_X3_make : mX3_make.1.cls ≠ "java/lang/invoke/MethodHandle" ∧ mX3_make.1.cls ≠ "java/lang/invoke/VarHandle" ∧ (parseMethodDescriptor mX3_make.1.desc).map (fun d => d.parameters.length) = some 1 := by decide +kernel
theorem pn_X3_make : plainName mX3_make.1.cls = true := by decide +kernel
theorem pl_X1_headRows : mX1_headRows.1.cls ≠ "java/lang/invoke/MethodHandle" ∧ mX1_headRows.1.cls ≠ "java/lang/invoke/VarHandle" ∧ (parseMethodDescriptor mX1_headRows.1.desc).map (fun d => d.parameters.length) = some 0 := by decide +kernel
theorem pn_X1_headRows : plainName mX1_headRows.1.cls = true := by decide +kernel
theorem pl_X1_hasHead : mX1_hasHead.1.cls ≠ "java/lang/invoke/MethodHandle" ∧ mX1_hasHead.1.cls ≠ "java/lang/invoke/VarHandle" ∧ (parseMethodDescriptor mX1_hasHead.1.desc).map (fun d => d.parameters.length) = some 1 := by decide +kernel
theorem pn_X1_hasHead : plainName mX1_hasHead.1.cls = true := by decide +kernel
theorem pl_X0_liesOnRow : mX0_liesOnRow.1.cls ≠ "java/lang/invoke/MethodHandle" ∧ mX0_liesOnRow.1.cls ≠ "java/lang/invoke/VarHandle" ∧ (parseMethodDescriptor mX0_liesOnRow.1.desc).map (fun d => d.parameters.length) = some 1 := by decide +kernel
theorem pn_X0_liesOnRow : plainName mX0_liesOnRow.1.cls = true := by decide +kernel
theorem pl_X3_findHomes : mX3_findHomes.1.cls ≠ "java/lang/invoke/MethodHandle" ∧ mX3_findHomes.1.cls ≠ "java/lang/invoke/VarHandle" ∧ (parseMethodDescriptor mX3_findHomes.1.desc).map (fun d => d.parameters.length) = some 0 := by decide +kernel
theorem pn_X3_findHomes : plainName mX3_findHomes.1.cls = true := by decide +kernel
theorem pl_X1_firstCall : mX1_firstCall.1.cls ≠ "java/lang/invoke/MethodHandle" ∧ mX1_firstCall.1.cls ≠ "java/lang/invoke/VarHandle" ∧ (parseMethodDescriptor mX1_firstCall.1.desc).map (fun d => d.parameters.length) = some 1 := by decide +kernel
theorem pn_X1_firstCall : plainName mX1_firstCall.1.cls = true := by decide +kernel
theorem pl_X1_breaksAhead : mX1_breaksAhead.1.cls ≠ "java/lang/invoke/MethodHandle" ∧ mX1_breaksAhead.1.cls ≠ "java/lang/invoke/VarHandle" ∧ (parseMethodDescriptor mX1_breaksAhead.1.desc).map (fun d => d.parameters.length) = some 2 := by decide +kernel
theorem pn_X1_breaksAhead : plainName mX1_breaksAhead.1.cls = true := by decide +kernel
theorem pl_X3_planFrom : mX3_planFrom.1.cls ≠ "java/lang/invoke/MethodHandle" ∧ mX3_planFrom.1.cls ≠ "java/lang/invoke/VarHandle" ∧ (parseMethodDescriptor mX3_planFrom.1.desc).map (fun d => d.parameters.length) = some 1 := by decide +kernel
theorem pn_X3_planFrom : plainName mX3_planFrom.1.cls = true := by decide +kernel
theorem pl_X3_isAlone : mX3_isAlone.1.cls ≠ "java/lang/invoke/MethodHandle" ∧ mX3_isAlone.1.cls ≠ "java/lang/invoke/VarHandle" ∧ (parseMethodDescriptor mX3_isAlone.1.desc).map (fun d => d.parameters.length) = some 2 := by decide +kernel
theorem pn_X3_isAlone : plainName mX3_isAlone.1.cls = true := by decide +kernel
theorem pl_X3_weigh : mX3_weigh.1.cls ≠ "java/lang/invoke/MethodHandle" ∧ mX3_weigh.1.cls ≠ "java/lang/invoke/VarHandle" ∧ (parseMethodDescriptor mX3_weigh.1.desc).map (fun d => d.parameters.length) = some 3 := by decide +kernel
theorem pn_X3_weigh : plainName mX3_weigh.1.cls = true := by decide +kernel
theorem pl_X3_layOut : mX3_layOut.1.cls ≠ "java/lang/invoke/MethodHandle" ∧ mX3_layOut.1.cls ≠ "java/lang/invoke/VarHandle" ∧ (parseMethodDescriptor mX3_layOut.1.desc).map (fun d => d.parameters.length) = some 0 := by decide +kernel
theorem pn_X3_layOut : plainName mX3_layOut.1.cls = true := by decide +kernel
theorem pl_X6_page : mX6_page.1.cls ≠ "java/lang/invoke/MethodHandle" ∧ mX6_page.1.cls ≠ "java/lang/invoke/VarHandle" ∧ (parseMethodDescriptor mX6_page.1.desc).map (fun d => d.parameters.length) = some 2 := by decide +kernel
theorem pn_X6_page : plainName mX6_page.1.cls = true := by decide +kernel
theorem pl_X6_pageOf : mX6_pageOf.1.cls ≠ "java/lang/invoke/MethodHandle" ∧ mX6_pageOf.1.cls ≠ "java/lang/invoke/VarHandle" ∧ (parseMethodDescriptor mX6_pageOf.1.desc).map (fun d => d.parameters.length) = some 1 := by decide +kernel
theorem pn_X6_pageOf : plainName mX6_pageOf.1.cls = true := by decide +kernel
theorem pl_X3_holding : mX3_holding.1.cls ≠ "java/lang/invoke/MethodHandle" ∧ mX3_holding.1.cls ≠ "java/lang/invoke/VarHandle" ∧ (parseMethodDescriptor mX3_holding.1.desc).map (fun d => d.parameters.length) = some 1 := by decide +kernel
theorem pn_X3_holding : plainName mX3_holding.1.cls = true := by decide +kernel
theorem pl_X6_mayBreak : mX6_mayBreak.1.cls ≠ "java/lang/invoke/MethodHandle" ∧ mX6_mayBreak.1.cls ≠ "java/lang/invoke/VarHandle" ∧ (parseMethodDescriptor mX6_mayBreak.1.desc).map (fun d => d.parameters.length) = some 1 := by decide +kernel
theorem pn_X6_mayBreak : plainName mX6_mayBreak.1.cls = true := by decide +kernel
theorem pl_X6_count : mX6_count.1.cls ≠ "java/lang/invoke/MethodHandle" ∧ mX6_count.1.cls ≠ "java/lang/invoke/VarHandle" ∧ (parseMethodDescriptor mX6_count.1.desc).map (fun d => d.parameters.length) = some 1 := by decide +kernel
theorem pn_X6_count : plainName mX6_count.1.cls = true := by decide +kernel
theorem pl_X1_presentCells : mX1_presentCells.1.cls ≠ "java/lang/invoke/MethodHandle" ∧ mX1_presentCells.1.cls ≠ "java/lang/invoke/VarHandle" ∧ (parseMethodDescriptor mX1_presentCells.1.desc).map (fun d => d.parameters.length) = some 0 := by decide +kernel
theorem pn_X1_presentCells : plainName mX1_presentCells.1.cls = true := by decide +kernel
theorem pl_X6_finding : mX6_finding.1.cls ≠ "java/lang/invoke/MethodHandle" ∧ mX6_finding.1.cls ≠ "java/lang/invoke/VarHandle" ∧ (parseMethodDescriptor mX6_finding.1.desc).map (fun d => d.parameters.length) = some 0 := by decide +kernel
theorem pn_X6_finding : plainName mX6_finding.1.cls = true := by decide +kernel
theorem pl_X6_findings : mX6_findings.1.cls ≠ "java/lang/invoke/MethodHandle" ∧ mX6_findings.1.cls ≠ "java/lang/invoke/VarHandle" ∧ (parseMethodDescriptor mX6_findings.1.desc).map (fun d => d.parameters.length) = some 1 := by decide +kernel
theorem pn_X6_findings : plainName mX6_findings.1.cls = true := by decide +kernel
theorem pl_X6_digest : mX6_digest.1.cls ≠ "java/lang/invoke/MethodHandle" ∧ mX6_digest.1.cls ≠ "java/lang/invoke/VarHandle" ∧ (parseMethodDescriptor mX6_digest.1.desc).map (fun d => d.parameters.length) = some 0 := by decide +kernel
theorem pn_X6_digest : plainName mX6_digest.1.cls = true := by decide +kernel
theorem pl_X6_mixed : mX6_mixed.1.cls ≠ "java/lang/invoke/MethodHandle" ∧ mX6_mixed.1.cls ≠ "java/lang/invoke/VarHandle" ∧ (parseMethodDescriptor mX6_mixed.1.desc).map (fun d => d.parameters.length) = some 3 := by decide +kernel
theorem pn_X6_mixed : plainName mX6_mixed.1.cls = true := by decide +kernel
theorem pl_X6_mixedCell : mX6_mixedCell.1.cls ≠ "java/lang/invoke/MethodHandle" ∧ mX6_mixedCell.1.cls ≠ "java/lang/invoke/VarHandle" ∧ (parseMethodDescriptor mX6_mixedCell.1.desc).map (fun d => d.parameters.length) = some 2 := by decide +kernel
theorem pn_X6_mixedCell : plainName mX6_mixedCell.1.cls = true := by decide +kernel
theorem pl_X7_init : mX7_init.1.cls ≠ "java/lang/invoke/MethodHandle" ∧ mX7_init.1.cls ≠ "java/lang/invoke/VarHandle" ∧ (parseMethodDescriptor mX7_init.1.desc).map (fun d => d.parameters.length) = some 0 := by decide +kernel
theorem pn_X7_init : plainName mX7_init.1.cls = true := by decide +kernel
theorem pl_X7_begin : mX7_begin.1.cls ≠ "java/lang/invoke/MethodHandle" ∧ mX7_begin.1.cls ≠ "java/lang/invoke/VarHandle" ∧ (parseMethodDescriptor mX7_begin.1.desc).map (fun d => d.parameters.length) = some 3 := by decide +kernel
theorem pn_X7_begin : plainName mX7_begin.1.cls = true := by decide +kernel
theorem pl_X7_finding : mX7_finding.1.cls ≠ "java/lang/invoke/MethodHandle" ∧ mX7_finding.1.cls ≠ "java/lang/invoke/VarHandle" ∧ (parseMethodDescriptor mX7_finding.1.desc).map (fun d => d.parameters.length) = some 0 := by decide +kernel
theorem pn_X7_finding : plainName mX7_finding.1.cls = true := by decide +kernel
theorem pl_X7_findings : mX7_findings.1.cls ≠ "java/lang/invoke/MethodHandle" ∧ mX7_findings.1.cls ≠ "java/lang/invoke/VarHandle" ∧ (parseMethodDescriptor mX7_findings.1.desc).map (fun d => d.parameters.length) = some 1 := by decide +kernel
theorem pn_X7_findings : plainName mX7_findings.1.cls = true := by decide +kernel
theorem pl_X7_in : mX7_in.1.cls ≠ "java/lang/invoke/MethodHandle" ∧ mX7_in.1.cls ≠ "java/lang/invoke/VarHandle" ∧ (parseMethodDescriptor mX7_in.1.desc).map (fun d => d.parameters.length) = some 3 := by decide +kernel
theorem pn_X7_in : plainName mX7_in.1.cls = true := by decide +kernel
theorem pl_X7_table : mX7_table.1.cls ≠ "java/lang/invoke/MethodHandle" ∧ mX7_table.1.cls ≠ "java/lang/invoke/VarHandle" ∧ (parseMethodDescriptor mX7_table.1.desc).map (fun d => d.parameters.length) = some 3 := by decide +kernel
theorem pn_X7_table : plainName mX7_table.1.cls = true := by decide +kernel
theorem pl_X7_weight : mX7_weight.1.cls ≠ "java/lang/invoke/MethodHandle" ∧ mX7_weight.1.cls ≠ "java/lang/invoke/VarHandle" ∧ (parseMethodDescriptor mX7_weight.1.desc).map (fun d => d.parameters.length) = some 2 := by decide +kernel
theorem pn_X7_weight : plainName mX7_weight.1.cls = true := by decide +kernel
theorem pl_X7_isColumn : mX7_isColumn.1.cls ≠ "java/lang/invoke/MethodHandle" ∧ mX7_isColumn.1.cls ≠ "java/lang/invoke/VarHandle" ∧ (parseMethodDescriptor mX7_isColumn.1.desc).map (fun d => d.parameters.length) = some 1 := by decide +kernel
theorem pn_X7_isColumn : plainName mX7_isColumn.1.cls = true := by decide +kernel
theorem pl_X7_note : mX7_note.1.cls ≠ "java/lang/invoke/MethodHandle" ∧ mX7_note.1.cls ≠ "java/lang/invoke/VarHandle" ∧ (parseMethodDescriptor mX7_note.1.desc).map (fun d => d.parameters.length) = some 2 := by decide +kernel
theorem pn_X7_note : plainName mX7_note.1.cls = true := by decide +kernel
theorem pl_X7_cell : mX7_cell.1.cls ≠ "java/lang/invoke/MethodHandle" ∧ mX7_cell.1.cls ≠ "java/lang/invoke/VarHandle" ∧ (parseMethodDescriptor mX7_cell.1.desc).map (fun d => d.parameters.length) = some 5 := by decide +kernel
theorem pn_X7_cell : plainName mX7_cell.1.cls = true := by decide +kernel
theorem pl_X7_isRow : mX7_isRow.1.cls ≠ "java/lang/invoke/MethodHandle" ∧ mX7_isRow.1.cls ≠ "java/lang/invoke/VarHandle" ∧ (parseMethodDescriptor mX7_isRow.1.desc).map (fun d => d.parameters.length) = some 1 := by decide +kernel
theorem pn_X7_isRow : plainName mX7_isRow.1.cls = true := by decide +kernel
theorem pl_X7_meets : mX7_meets.1.cls ≠ "java/lang/invoke/MethodHandle" ∧ mX7_meets.1.cls ≠ "java/lang/invoke/VarHandle" ∧ (parseMethodDescriptor mX7_meets.1.desc).map (fun d => d.parameters.length) = some 1 := by decide +kernel
theorem pn_X7_meets : plainName mX7_meets.1.cls = true := by decide +kernel
theorem pl_X7_cellOn : mX7_cellOn.1.cls ≠ "java/lang/invoke/MethodHandle" ∧ mX7_cellOn.1.cls ≠ "java/lang/invoke/VarHandle" ∧ (parseMethodDescriptor mX7_cellOn.1.desc).map (fun d => d.parameters.length) = some 2 := by decide +kernel
theorem pn_X7_cellOn : plainName mX7_cellOn.1.cls = true := by decide +kernel
theorem pl_X7_liesOn : mX7_liesOn.1.cls ≠ "java/lang/invoke/MethodHandle" ∧ mX7_liesOn.1.cls ≠ "java/lang/invoke/VarHandle" ∧ (parseMethodDescriptor mX7_liesOn.1.desc).map (fun d => d.parameters.length) = some 3 := by decide +kernel
theorem pn_X7_liesOn : plainName mX7_liesOn.1.cls = true := by decide +kernel
theorem pl_X7_clash : mX7_clash.1.cls ≠ "java/lang/invoke/MethodHandle" ∧ mX7_clash.1.cls ≠ "java/lang/invoke/VarHandle" ∧ (parseMethodDescriptor mX7_clash.1.desc).map (fun d => d.parameters.length) = some 0 := by decide +kernel
theorem pn_X7_clash : plainName mX7_clash.1.cls = true := by decide +kernel
theorem pl_X7_drop : mX7_drop.1.cls ≠ "java/lang/invoke/MethodHandle" ∧ mX7_drop.1.cls ≠ "java/lang/invoke/VarHandle" ∧ (parseMethodDescriptor mX7_drop.1.desc).map (fun d => d.parameters.length) = some 1 := by decide +kernel
theorem pn_X7_drop : plainName mX7_drop.1.cls = true := by decide +kernel
theorem pl_X7_isCell : mX7_isCell.1.cls ≠ "java/lang/invoke/MethodHandle" ∧ mX7_isCell.1.cls ≠ "java/lang/invoke/VarHandle" ∧ (parseMethodDescriptor mX7_isCell.1.desc).map (fun d => d.parameters.length) = some 1 := by decide +kernel
theorem pn_X7_isCell : plainName mX7_isCell.1.cls = true := by decide +kernel
theorem pl_X7_told : mX7_told.1.cls ≠ "java/lang/invoke/MethodHandle" ∧ mX7_told.1.cls ≠ "java/lang/invoke/VarHandle" ∧ (parseMethodDescriptor mX7_told.1.desc).map (fun d => d.parameters.length) = some 2 := by decide +kernel
theorem pn_X7_told : plainName mX7_told.1.cls = true := by decide +kernel
theorem pl_X7_need : mX7_need.1.cls ≠ "java/lang/invoke/MethodHandle" ∧ mX7_need.1.cls ≠ "java/lang/invoke/VarHandle" ∧ (parseMethodDescriptor mX7_need.1.desc).map (fun d => d.parameters.length) = some 2 := by decide +kernel
theorem pn_X7_need : plainName mX7_need.1.cls = true := by decide +kernel
theorem pl_X7_toldOf : mX7_toldOf.1.cls ≠ "java/lang/invoke/MethodHandle" ∧ mX7_toldOf.1.cls ≠ "java/lang/invoke/VarHandle" ∧ (parseMethodDescriptor mX7_toldOf.1.desc).map (fun d => d.parameters.length) = some 2 := by decide +kernel
theorem pn_X7_toldOf : plainName mX7_toldOf.1.cls = true := by decide +kernel
theorem pl_X7_is : mX7_is.1.cls ≠ "java/lang/invoke/MethodHandle" ∧ mX7_is.1.cls ≠ "java/lang/invoke/VarHandle" ∧ (parseMethodDescriptor mX7_is.1.desc).map (fun d => d.parameters.length) = some 2 := by decide +kernel
theorem pn_X7_is : plainName mX7_is.1.cls = true := by decide +kernel
theorem pl_X7_on : mX7_on.1.cls ≠ "java/lang/invoke/MethodHandle" ∧ mX7_on.1.cls ≠ "java/lang/invoke/VarHandle" ∧ (parseMethodDescriptor mX7_on.1.desc).map (fun d => d.parameters.length) = some 2 := by decide +kernel
theorem pn_X7_on : plainName mX7_on.1.cls = true := by decide +kernel
theorem pl_X7_words : mX7_words.1.cls ≠ "java/lang/invoke/MethodHandle" ∧ mX7_words.1.cls ≠ "java/lang/invoke/VarHandle" ∧ (parseMethodDescriptor mX7_words.1.desc).map (fun d => d.parameters.length) = some 2 := by decide +kernel
theorem pn_X7_words : plainName mX7_words.1.cls = true := by decide +kernel
theorem pl_X7_word : mX7_word.1.cls ≠ "java/lang/invoke/MethodHandle" ∧ mX7_word.1.cls ≠ "java/lang/invoke/VarHandle" ∧ (parseMethodDescriptor mX7_word.1.desc).map (fun d => d.parameters.length) = some 3 := by decide +kernel
theorem pn_X7_word : plainName mX7_word.1.cls = true := by decide +kernel
theorem pl_X7_copy : mX7_copy.1.cls ≠ "java/lang/invoke/MethodHandle" ∧ mX7_copy.1.cls ≠ "java/lang/invoke/VarHandle" ∧ (parseMethodDescriptor mX7_copy.1.desc).map (fun d => d.parameters.length) = some 5 := by decide +kernel
theorem pn_X7_copy : plainName mX7_copy.1.cls = true := by decide +kernel
theorem pl_X7_mean : mX7_mean.1.cls ≠ "java/lang/invoke/MethodHandle" ∧ mX7_mean.1.cls ≠ "java/lang/invoke/VarHandle" ∧ (parseMethodDescriptor mX7_mean.1.desc).map (fun d => d.parameters.length) = some 1 := by decide +kernel
theorem pn_X7_mean : plainName mX7_mean.1.cls = true := by decide +kernel
theorem pl_X7_lettersOf : mX7_lettersOf.1.cls ≠ "java/lang/invoke/MethodHandle" ∧ mX7_lettersOf.1.cls ≠ "java/lang/invoke/VarHandle" ∧ (parseMethodDescriptor mX7_lettersOf.1.desc).map (fun d => d.parameters.length) = some 1 := by decide +kernel
theorem pn_X7_lettersOf : plainName mX7_lettersOf.1.cls = true := by decide +kernel
theorem pl_X7_calls : mX7_calls.1.cls ≠ "java/lang/invoke/MethodHandle" ∧ mX7_calls.1.cls ≠ "java/lang/invoke/VarHandle" ∧ (parseMethodDescriptor mX7_calls.1.desc).map (fun d => d.parameters.length) = some 2 := by decide +kernel
theorem pn_X7_calls : plainName mX7_calls.1.cls = true := by decide +kernel
theorem pl_X7_fix : mX7_fix.1.cls ≠ "java/lang/invoke/MethodHandle" ∧ mX7_fix.1.cls ≠ "java/lang/invoke/VarHandle" ∧ (parseMethodDescriptor mX7_fix.1.desc).map (fun d => d.parameters.length) = some 2 := by decide +kernel
theorem pn_X7_fix : plainName mX7_fix.1.cls = true := by decide +kernel
theorem pl_X7_lines : mX7_lines.1.cls ≠ "java/lang/invoke/MethodHandle" ∧ mX7_lines.1.cls ≠ "java/lang/invoke/VarHandle" ∧ (parseMethodDescriptor mX7_lines.1.desc).map (fun d => d.parameters.length) = some 2 := by decide +kernel
theorem pn_X7_lines : plainName mX7_lines.1.cls = true := by decide +kernel
theorem pl_X7_linesOf : mX7_linesOf.1.cls ≠ "java/lang/invoke/MethodHandle" ∧ mX7_linesOf.1.cls ≠ "java/lang/invoke/VarHandle" ∧ (parseMethodDescriptor mX7_linesOf.1.desc).map (fun d => d.parameters.length) = some 2 := by decide +kernel
theorem pn_X7_linesOf : plainName mX7_linesOf.1.cls = true := by decide +kernel
theorem pl_X7_want : mX7_want.1.cls ≠ "java/lang/invoke/MethodHandle" ∧ mX7_want.1.cls ≠ "java/lang/invoke/VarHandle" ∧ (parseMethodDescriptor mX7_want.1.desc).map (fun d => d.parameters.length) = some 2 := by decide +kernel
theorem pn_X7_want : plainName mX7_want.1.cls = true := by decide +kernel
theorem pl_X7_wantOf : mX7_wantOf.1.cls ≠ "java/lang/invoke/MethodHandle" ∧ mX7_wantOf.1.cls ≠ "java/lang/invoke/VarHandle" ∧ (parseMethodDescriptor mX7_wantOf.1.desc).map (fun d => d.parameters.length) = some 2 := by decide +kernel
theorem pn_X7_wantOf : plainName mX7_wantOf.1.cls = true := by decide +kernel
theorem pl_X7_natural : mX7_natural.1.cls ≠ "java/lang/invoke/MethodHandle" ∧ mX7_natural.1.cls ≠ "java/lang/invoke/VarHandle" ∧ (parseMethodDescriptor mX7_natural.1.desc).map (fun d => d.parameters.length) = some 2 := by decide +kernel
theorem pn_X7_natural : plainName mX7_natural.1.cls = true := by decide +kernel
theorem pl_X7_layBoth : mX7_layBoth.1.cls ≠ "java/lang/invoke/MethodHandle" ∧ mX7_layBoth.1.cls ≠ "java/lang/invoke/VarHandle" ∧ (parseMethodDescriptor mX7_layBoth.1.desc).map (fun d => d.parameters.length) = some 0 := by decide +kernel
theorem pn_X7_layBoth : plainName mX7_layBoth.1.cls = true := by decide +kernel
theorem pl_X7_layWidths : mX7_layWidths.1.cls ≠ "java/lang/invoke/MethodHandle" ∧ mX7_layWidths.1.cls ≠ "java/lang/invoke/VarHandle" ∧ (parseMethodDescriptor mX7_layWidths.1.desc).map (fun d => d.parameters.length) = some 2 := by decide +kernel
theorem pn_X7_layWidths : plainName mX7_layWidths.1.cls = true := by decide +kernel
theorem pl_X7_widthOver : mX7_widthOver.1.cls ≠ "java/lang/invoke/MethodHandle" ∧ mX7_widthOver.1.cls ≠ "java/lang/invoke/VarHandle" ∧ (parseMethodDescriptor mX7_widthOver.1.desc).map (fun d => d.parameters.length) = some 3 := by decide +kernel
theorem pn_X7_widthOver : plainName mX7_widthOver.1.cls = true := by decide +kernel
theorem pl_X7_lacks : mX7_lacks.1.cls ≠ "java/lang/invoke/MethodHandle" ∧ mX7_lacks.1.cls ≠ "java/lang/invoke/VarHandle" ∧ (parseMethodDescriptor mX7_lacks.1.desc).map (fun d => d.parameters.length) = some 3 := by decide +kernel
theorem pn_X7_lacks : plainName mX7_lacks.1.cls = true := by decide +kernel
theorem pl_X7_share : mX7_share.1.cls ≠ "java/lang/invoke/MethodHandle" ∧ mX7_share.1.cls ≠ "java/lang/invoke/VarHandle" ∧ (parseMethodDescriptor mX7_share.1.desc).map (fun d => d.parameters.length) = some 3 := by decide +kernel
theorem pn_X7_share : plainName mX7_share.1.cls = true := by decide +kernel
theorem pl_X7_set : mX7_set.1.cls ≠ "java/lang/invoke/MethodHandle" ∧ mX7_set.1.cls ≠ "java/lang/invoke/VarHandle" ∧ (parseMethodDescriptor mX7_set.1.desc).map (fun d => d.parameters.length) = some 1 := by decide +kernel
theorem pn_X7_set : plainName mX7_set.1.cls = true := by decide +kernel
theorem pl_X7_sumOf : mX7_sumOf.1.cls ≠ "java/lang/invoke/MethodHandle" ∧ mX7_sumOf.1.cls ≠ "java/lang/invoke/VarHandle" ∧ (parseMethodDescriptor mX7_sumOf.1.desc).map (fun d => d.parameters.length) = some 1 := by decide +kernel
theorem pn_X7_sumOf : plainName mX7_sumOf.1.cls = true := by decide +kernel
theorem pl_X7_heightBy : mX7_heightBy.1.cls ≠ "java/lang/invoke/MethodHandle" ∧ mX7_heightBy.1.cls ≠ "java/lang/invoke/VarHandle" ∧ (parseMethodDescriptor mX7_heightBy.1.desc).map (fun d => d.parameters.length) = some 1 := by decide +kernel
theorem pn_X7_heightBy : plainName mX7_heightBy.1.cls = true := by decide +kernel
theorem pl_X7_layHeights : mX7_layHeights.1.cls ≠ "java/lang/invoke/MethodHandle" ∧ mX7_layHeights.1.cls ≠ "java/lang/invoke/VarHandle" ∧ (parseMethodDescriptor mX7_layHeights.1.desc).map (fun d => d.parameters.length) = some 1 := by decide +kernel
theorem pn_X7_layHeights : plainName mX7_layHeights.1.cls = true := by decide +kernel
theorem pl_X7_tight : mX7_tight.1.cls ≠ "java/lang/invoke/MethodHandle" ∧ mX7_tight.1.cls ≠ "java/lang/invoke/VarHandle" ∧ (parseMethodDescriptor mX7_tight.1.desc).map (fun d => d.parameters.length) = some 2 := by decide +kernel
theorem pn_X7_tight : plainName mX7_tight.1.cls = true := by decide +kernel
theorem pl_X7_next : mX7_next.1.cls ≠ "java/lang/invoke/MethodHandle" ∧ mX7_next.1.cls ≠ "java/lang/invoke/VarHandle" ∧ (parseMethodDescriptor mX7_next.1.desc).map (fun d => d.parameters.length) = some 0 := by decide +kernel
theorem pn_X7_next : plainName mX7_next.1.cls = true := by decide +kernel
theorem pl_X7_tries : mX7_tries.1.cls ≠ "java/lang/invoke/MethodHandle" ∧ mX7_tries.1.cls ≠ "java/lang/invoke/VarHandle" ∧ (parseMethodDescriptor mX7_tries.1.desc).map (fun d => d.parameters.length) = some 0 := by decide +kernel
theorem pn_X7_tries : plainName mX7_tries.1.cls = true := by decide +kernel
theorem pl_X7_width : mX7_width.1.cls ≠ "java/lang/invoke/MethodHandle" ∧ mX7_width.1.cls ≠ "java/lang/invoke/VarHandle" ∧ (parseMethodDescriptor mX7_width.1.desc).map (fun d => d.parameters.length) = some 1 := by decide +kernel
theorem pn_X7_width : plainName mX7_width.1.cls = true := by decide +kernel
theorem pl_X7_height : mX7_height.1.cls ≠ "java/lang/invoke/MethodHandle" ∧ mX7_height.1.cls ≠ "java/lang/invoke/VarHandle" ∧ (parseMethodDescriptor mX7_height.1.desc).map (fun d => d.parameters.length) = some 1 := by decide +kernel
theorem pn_X7_height : plainName mX7_height.1.cls = true := by decide +kernel
theorem pl_X7_mayBreak : mX7_mayBreak.1.cls ≠ "java/lang/invoke/MethodHandle" ∧ mX7_mayBreak.1.cls ≠ "java/lang/invoke/VarHandle" ∧ (parseMethodDescriptor mX7_mayBreak.1.desc).map (fun d => d.parameters.length) = some 1 := by decide +kernel
theorem pn_X7_mayBreak : plainName mX7_mayBreak.1.cls = true := by decide +kernel
theorem pl_X7_mayBreakAt : mX7_mayBreakAt.1.cls ≠ "java/lang/invoke/MethodHandle" ∧ mX7_mayBreakAt.1.cls ≠ "java/lang/invoke/VarHandle" ∧ (parseMethodDescriptor mX7_mayBreakAt.1.desc).map (fun d => d.parameters.length) = some 1 := by decide +kernel
theorem pn_X7_mayBreakAt : plainName mX7_mayBreakAt.1.cls = true := by decide +kernel
theorem pl_X7_headRows : mX7_headRows.1.cls ≠ "java/lang/invoke/MethodHandle" ∧ mX7_headRows.1.cls ≠ "java/lang/invoke/VarHandle" ∧ (parseMethodDescriptor mX7_headRows.1.desc).map (fun d => d.parameters.length) = some 0 := by decide +kernel
theorem pn_X7_headRows : plainName mX7_headRows.1.cls = true := by decide +kernel
theorem pl_X7_pages : mX7_pages.1.cls ≠ "java/lang/invoke/MethodHandle" ∧ mX7_pages.1.cls ≠ "java/lang/invoke/VarHandle" ∧ (parseMethodDescriptor mX7_pages.1.desc).map (fun d => d.parameters.length) = some 1 := by decide +kernel
theorem pn_X7_pages : plainName mX7_pages.1.cls = true := by decide +kernel
theorem pl_X7_emptyOf : mX7_emptyOf.1.cls ≠ "java/lang/invoke/MethodHandle" ∧ mX7_emptyOf.1.cls ≠ "java/lang/invoke/VarHandle" ∧ (parseMethodDescriptor mX7_emptyOf.1.desc).map (fun d => d.parameters.length) = some 4 := by decide +kernel
theorem pn_X7_emptyOf : plainName mX7_emptyOf.1.cls = true := by decide +kernel
theorem pl_X7_notesOn : mX7_notesOn.1.cls ≠ "java/lang/invoke/MethodHandle" ∧ mX7_notesOn.1.cls ≠ "java/lang/invoke/VarHandle" ∧ (parseMethodDescriptor mX7_notesOn.1.desc).map (fun d => d.parameters.length) = some 3 := by decide +kernel
theorem pn_X7_notesOn : plainName mX7_notesOn.1.cls = true := by decide +kernel
theorem pl_X7_homeOf : mX7_homeOf.1.cls ≠ "java/lang/invoke/MethodHandle" ∧ mX7_homeOf.1.cls ≠ "java/lang/invoke/VarHandle" ∧ (parseMethodDescriptor mX7_homeOf.1.desc).map (fun d => d.parameters.length) = some 2 := by decide +kernel
theorem pn_X7_homeOf : plainName mX7_homeOf.1.cls = true := by decide +kernel
theorem pl_X7_page : mX7_page.1.cls ≠ "java/lang/invoke/MethodHandle" ∧ mX7_page.1.cls ≠ "java/lang/invoke/VarHandle" ∧ (parseMethodDescriptor mX7_page.1.desc).map (fun d => d.parameters.length) = some 2 := by decide +kernel
theorem pn_X7_page : plainName mX7_page.1.cls = true := by decide +kernel
theorem pl_X7_pageTold : mX7_pageTold.1.cls ≠ "java/lang/invoke/MethodHandle" ∧ mX7_pageTold.1.cls ≠ "java/lang/invoke/VarHandle" ∧ (parseMethodDescriptor mX7_pageTold.1.desc).map (fun d => d.parameters.length) = some 2 := by decide +kernel
theorem pn_X7_pageTold : plainName mX7_pageTold.1.cls = true := by decide +kernel
theorem pl_X7_pageOf : mX7_pageOf.1.cls ≠ "java/lang/invoke/MethodHandle" ∧ mX7_pageOf.1.cls ≠ "java/lang/invoke/VarHandle" ∧ (parseMethodDescriptor mX7_pageOf.1.desc).map (fun d => d.parameters.length) = some 1 := by decide +kernel
theorem pn_X7_pageOf : plainName mX7_pageOf.1.cls = true := by decide +kernel
theorem pl_X7_count : mX7_count.1.cls ≠ "java/lang/invoke/MethodHandle" ∧ mX7_count.1.cls ≠ "java/lang/invoke/VarHandle" ∧ (parseMethodDescriptor mX7_count.1.desc).map (fun d => d.parameters.length) = some 1 := by decide +kernel
theorem pn_X7_count : plainName mX7_count.1.cls = true := by decide +kernel
theorem pl_X7_digest : mX7_digest.1.cls ≠ "java/lang/invoke/MethodHandle" ∧ mX7_digest.1.cls ≠ "java/lang/invoke/VarHandle" ∧ (parseMethodDescriptor mX7_digest.1.desc).map (fun d => d.parameters.length) = some 0 := by decide +kernel
theorem pn_X7_digest : plainName mX7_digest.1.cls = true := by decide +kernel
theorem pl_X7_digestCell : mX7_digestCell.1.cls ≠ "java/lang/invoke/MethodHandle" ∧ mX7_digestCell.1.cls ≠ "java/lang/invoke/VarHandle" ∧ (parseMethodDescriptor mX7_digestCell.1.desc).map (fun d => d.parameters.length) = some 2 := by decide +kernel
theorem pn_X7_digestCell : plainName mX7_digestCell.1.cls = true := by decide +kernel
theorem cb_m9 : (Int8.ofInt (-9)).toInt32 = -9 := by decide
theorem cb_m6 : (Int8.ofInt (-6)).toInt32 = -6 := by decide
theorem cb_m4 : (Int8.ofInt (-4)).toInt32 = -4 := by decide
theorem cb_m3 : (Int8.ofInt (-3)).toInt32 = -3 := by decide
theorem cb_m2 : (Int8.ofInt (-2)).toInt32 = -2 := by decide
theorem cb_6 : (Int8.ofInt (6)).toInt32 = 6 := by decide
theorem cb_7 : (Int8.ofInt (7)).toInt32 = 7 := by decide
theorem cb_9 : (Int8.ofInt (9)).toInt32 = 9 := by decide
theorem cb_10 : (Int8.ofInt (10)).toInt32 = 10 := by decide
theorem cb_12 : (Int8.ofInt (12)).toInt32 = 12 := by decide
theorem cb_16 : (Int8.ofInt (16)).toInt32 = 16 := by decide
theorem cb_17 : (Int8.ofInt (17)).toInt32 = 17 := by decide
theorem cb_20 : (Int8.ofInt (20)).toInt32 = 20 := by decide
theorem cb_31 : (Int8.ofInt (31)).toInt32 = 31 := by decide
theorem cb_40 : (Int8.ofInt (40)).toInt32 = 40 := by decide
theorem cb_60 : (Int8.ofInt (60)).toInt32 = 60 := by decide
theorem cs_200 : (Int16.ofInt (200)).toInt32 = 200 := by decide
theorem cs_252 : (Int16.ofInt (252)).toInt32 = 252 := by decide
theorem cs_400 : (Int16.ofInt (400)).toInt32 = 400 := by decide
theorem cs_480 : (Int16.ofInt (480)).toInt32 = 480 := by decide
theorem cs_1023 : (Int16.ofInt (1023)).toInt32 = 1023 := by decide
theorem cs_20000 : (Int16.ofInt (20000)).toInt32 = 20000 := by decide
theorem ci_m1 : Int32.ofInt (-1) = -1 := by decide
theorem ci_0 : Int32.ofInt (0) = 0 := by decide
theorem ci_1 : Int32.ofInt (1) = 1 := by decide
theorem ci_2 : Int32.ofInt (2) = 2 := by decide
theorem ci_3 : Int32.ofInt (3) = 3 := by decide
theorem ci_4 : Int32.ofInt (4) = 4 := by decide
theorem ci_5 : Int32.ofInt (5) = 5 := by decide
theorem cl_0 : Int64.ofNat (0 : Nat) = 0 := by decide
theorem cl_1 : Int64.ofNat (1 : Nat) = 1 := by decide
theorem lt_C {i : Nat} (h : i < 40) : cA i < 197 := by unfold cA; omega
theorem lt_L {i : Nat} (h : i < 40) : cA i + 1 < 197 := by unfold cA; omega
theorem lt_K {i : Nat} (h : i < 40) : cA i + 2 < 197 := by unfold cA; omega
theorem lt_F {i : Nat} (h : i < 16) : 141 + i < 197 := by omega
end
