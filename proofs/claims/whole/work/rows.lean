section
-- ===== PART A: goes FIRST, ahead of the names: the tables' words, and 'selects' of the private methods out of them =====
/-- a private method of a class that the tables say can be made, by its rows of tables_1 -/
def lw_okq (q : MethodName × Nat) : Prop := (q.1.cls ≠ "java/lang/invoke/MethodHandle" ∧ q.1.cls ≠ "java/lang/invoke/VarHandle") ∧ Cond.instantiable q.1.cls q.2 ∈ tables_1 ∧ Cond.privateMethod q.1 ∈ tables_1 ∧ Cond.instanceMethod q.1 ∈ tables_1
theorem lw_p0 : lw_okq (⟨"CutMarks", "keepForUndo", "()V"⟩, 9) := ⟨⟨by decide +kernel, by decide +kernel⟩, List.mem_of_getElem? (i := 15) (by decide +kernel), List.mem_of_getElem? (i := 145) (by decide +kernel), List.mem_of_getElem? (i := 146) (by decide +kernel)⟩
theorem lw_p1 : lw_okq (⟨"CutMarks", "readPad", "()I"⟩, 9) := ⟨⟨by decide +kernel, by decide +kernel⟩, List.mem_of_getElem? (i := 15) (by decide +kernel), List.mem_of_getElem? (i := 169) (by decide +kernel), List.mem_of_getElem? (i := 170) (by decide +kernel)⟩
theorem lw_p2 : lw_okq (⟨"CutMarks$MarkReader", "takesStay", "()Z"⟩, 8) := ⟨⟨by decide +kernel, by decide +kernel⟩, List.mem_of_getElem? (i := 79) (by decide +kernel), List.mem_of_getElem? (i := 181) (by decide +kernel), List.mem_of_getElem? (i := 182) (by decide +kernel)⟩
theorem lw_p3 : lw_okq (⟨"CutMarks$MarkReader", "takesOpening", "(C)Z"⟩, 8) := ⟨⟨by decide +kernel, by decide +kernel⟩, List.mem_of_getElem? (i := 79) (by decide +kernel), List.mem_of_getElem? (i := 185) (by decide +kernel), List.mem_of_getElem? (i := 186) (by decide +kernel)⟩
theorem lw_p4 : lw_okq (⟨"CutMarks$MarkReader", "takesDigit", "(CI)Z"⟩, 8) := ⟨⟨by decide +kernel, by decide +kernel⟩, List.mem_of_getElem? (i := 79) (by decide +kernel), List.mem_of_getElem? (i := 189) (by decide +kernel), List.mem_of_getElem? (i := 190) (by decide +kernel)⟩
theorem lw_p5 : lw_okq (⟨"CutMarks$MarkReader", "beginsFreePlace", "(I)Z"⟩, 8) := ⟨⟨by decide +kernel, by decide +kernel⟩, List.mem_of_getElem? (i := 79) (by decide +kernel), List.mem_of_getElem? (i := 193) (by decide +kernel), List.mem_of_getElem? (i := 194) (by decide +kernel)⟩
theorem lw_p6 : lw_okq (⟨"CutMarks$MarkReader", "isFree", "(I)Z"⟩, 8) := ⟨⟨by decide +kernel, by decide +kernel⟩, List.mem_of_getElem? (i := 79) (by decide +kernel), List.mem_of_getElem? (i := 197) (by decide +kernel), List.mem_of_getElem? (i := 198) (by decide +kernel)⟩
theorem lw_p7 : lw_okq (⟨"CutMarks$MarkReader", "endsPlace", "()Z"⟩, 8) := ⟨⟨by decide +kernel, by decide +kernel⟩, List.mem_of_getElem? (i := 79) (by decide +kernel), List.mem_of_getElem? (i := 201) (by decide +kernel), List.mem_of_getElem? (i := 202) (by decide +kernel)⟩
theorem lw_p8 : lw_okq (⟨"CutMarks$MarkReader", "closesCycle", "()Z"⟩, 8) := ⟨⟨by decide +kernel, by decide +kernel⟩, List.mem_of_getElem? (i := 79) (by decide +kernel), List.mem_of_getElem? (i := 210) (by decide +kernel), List.mem_of_getElem? (i := 211) (by decide +kernel)⟩
theorem lw_p9 : lw_okq (⟨"CutMarks", "comes", "(J)I"⟩, 9) := ⟨⟨by decide +kernel, by decide +kernel⟩, List.mem_of_getElem? (i := 15) (by decide +kernel), List.mem_of_getElem? (i := 218) (by decide +kernel), List.mem_of_getElem? (i := 219) (by decide +kernel)⟩
theorem lw_p10 : lw_okq (⟨"CutMarks", "moveDeck", "(J)I"⟩, 9) := ⟨⟨by decide +kernel, by decide +kernel⟩, List.mem_of_getElem? (i := 15) (by decide +kernel), List.mem_of_getElem? (i := 280) (by decide +kernel), List.mem_of_getElem? (i := 281) (by decide +kernel)⟩
theorem lw_p11 : lw_okq (⟨"CutMarks", "placesMoved", "()I"⟩, 9) := ⟨⟨by decide +kernel, by decide +kernel⟩, List.mem_of_getElem? (i := 15) (by decide +kernel), List.mem_of_getElem? (i := 324) (by decide +kernel), List.mem_of_getElem? (i := 325) (by decide +kernel)⟩
theorem lw_p12 : lw_okq (⟨"CutMarks", "isMarkOrTrick", "(I)Z"⟩, 9) := ⟨⟨by decide +kernel, by decide +kernel⟩, List.mem_of_getElem? (i := 15) (by decide +kernel), List.mem_of_getElem? (i := 351) (by decide +kernel), List.mem_of_getElem? (i := 352) (by decide +kernel)⟩
theorem lw_p13 : lw_okq (⟨"CutMarks", "markOrTrick", "(I)J"⟩, 9) := ⟨⟨by decide +kernel, by decide +kernel⟩, List.mem_of_getElem? (i := 15) (by decide +kernel), List.mem_of_getElem? (i := 355) (by decide +kernel), List.mem_of_getElem? (i := 356) (by decide +kernel)⟩
theorem lw_p14 : lw_okq (⟨"CutMarks$Cycles", "add", "(I)V"⟩, 1) := ⟨⟨by decide +kernel, by decide +kernel⟩, List.mem_of_getElem? (i := 68) (by decide +kernel), List.mem_of_getElem? (i := 365) (by decide +kernel), List.mem_of_getElem? (i := 366) (by decide +kernel)⟩
theorem lw_p15 : lw_okq (⟨"CutMarks", "cutsThatStay", "(J)I"⟩, 9) := ⟨⟨by decide +kernel, by decide +kernel⟩, List.mem_of_getElem? (i := 15) (by decide +kernel), List.mem_of_getElem? (i := 384) (by decide +kernel), List.mem_of_getElem? (i := 385) (by decide +kernel)⟩
def lw_privs_1 : List (MethodName × Nat) := [(⟨"CutMarks", "keepForUndo", "()V"⟩, 9), (⟨"CutMarks", "readPad", "()I"⟩, 9), (⟨"CutMarks$MarkReader", "takesStay", "()Z"⟩, 8), (⟨"CutMarks$MarkReader", "takesOpening", "(C)Z"⟩, 8), (⟨"CutMarks$MarkReader", "takesDigit", "(CI)Z"⟩, 8), (⟨"CutMarks$MarkReader", "beginsFreePlace", "(I)Z"⟩, 8), (⟨"CutMarks$MarkReader", "isFree", "(I)Z"⟩, 8), (⟨"CutMarks$MarkReader", "endsPlace", "()Z"⟩, 8), (⟨"CutMarks$MarkReader", "closesCycle", "()Z"⟩, 8), (⟨"CutMarks", "comes", "(J)I"⟩, 9), (⟨"CutMarks", "moveDeck", "(J)I"⟩, 9), (⟨"CutMarks", "placesMoved", "()I"⟩, 9), (⟨"CutMarks", "isMarkOrTrick", "(I)Z"⟩, 9), (⟨"CutMarks", "markOrTrick", "(I)J"⟩, 9), (⟨"CutMarks$Cycles", "add", "(I)V"⟩, 1), (⟨"CutMarks", "cutsThatStay", "(J)I"⟩, 9)]
theorem lw_r1 : ∀ q ∈ lw_privs_1, lw_okq q := List.forall_mem_cons.mpr ⟨lw_p0, List.forall_mem_cons.mpr ⟨lw_p1, List.forall_mem_cons.mpr ⟨lw_p2, List.forall_mem_cons.mpr ⟨lw_p3, List.forall_mem_cons.mpr ⟨lw_p4, List.forall_mem_cons.mpr ⟨lw_p5, List.forall_mem_cons.mpr ⟨lw_p6, List.forall_mem_cons.mpr ⟨lw_p7, List.forall_mem_cons.mpr ⟨lw_p8, List.forall_mem_cons.mpr ⟨lw_p9, List.forall_mem_cons.mpr ⟨lw_p10, List.forall_mem_cons.mpr ⟨lw_p11, List.forall_mem_cons.mpr ⟨lw_p12, List.forall_mem_cons.mpr ⟨lw_p13, List.forall_mem_cons.mpr ⟨lw_p14, List.forall_mem_cons.mpr ⟨lw_p15, fun _ h => absurd h List.not_mem_nil⟩⟩⟩⟩⟩⟩⟩⟩⟩⟩⟩⟩⟩⟩⟩⟩
theorem lw_p16 : lw_okq (⟨"CutMarks", "lowestWay", "(I)I"⟩, 9) := ⟨⟨by decide +kernel, by decide +kernel⟩, List.mem_of_getElem? (i := 15) (by decide +kernel), List.mem_of_getElem? (i := 454) (by decide +kernel), List.mem_of_getElem? (i := 455) (by decide +kernel)⟩
theorem lw_p17 : lw_okq (⟨"CutMarks", "ordersDeck", "(II)Z"⟩, 9) := ⟨⟨by decide +kernel, by decide +kernel⟩, List.mem_of_getElem? (i := 15) (by decide +kernel), List.mem_of_getElem? (i := 458) (by decide +kernel), List.mem_of_getElem? (i := 459) (by decide +kernel)⟩
theorem lw_p18 : lw_okq (⟨"CutMarks", "append", "(C)V"⟩, 9) := ⟨⟨by decide +kernel, by decide +kernel⟩, List.mem_of_getElem? (i := 15) (by decide +kernel), List.mem_of_getElem? (i := 481) (by decide +kernel), List.mem_of_getElem? (i := 482) (by decide +kernel)⟩
theorem lw_p19 : lw_okq (⟨"CutMarksModel", "begins", "(I)V"⟩, 19) := ⟨⟨by decide +kernel, by decide +kernel⟩, List.mem_of_getElem? (i := 514) (by decide +kernel), List.mem_of_getElem? (i := 520) (by decide +kernel), List.mem_of_getElem? (i := 521) (by decide +kernel)⟩
theorem lw_p20 : lw_okq (⟨"CutMarksModel", "records", "()V"⟩, 19) := ⟨⟨by decide +kernel, by decide +kernel⟩, List.mem_of_getElem? (i := 514) (by decide +kernel), List.mem_of_getElem? (i := 589) (by decide +kernel), List.mem_of_getElem? (i := 590) (by decide +kernel)⟩
theorem lw_p21 : lw_okq (⟨"CutMarksModel", "faultAt", "()I"⟩, 19) := ⟨⟨by decide +kernel, by decide +kernel⟩, List.mem_of_getElem? (i := 514) (by decide +kernel), List.mem_of_getElem? (i := 597) (by decide +kernel), List.mem_of_getElem? (i := 598) (by decide +kernel)⟩
theorem lw_p22 : lw_okq (⟨"CutMarksModel", "letter", "()I"⟩, 19) := ⟨⟨by decide +kernel, by decide +kernel⟩, List.mem_of_getElem? (i := 514) (by decide +kernel), List.mem_of_getElem? (i := 601) (by decide +kernel), List.mem_of_getElem? (i := 602) (by decide +kernel)⟩
theorem lw_p23 : lw_okq (⟨"CutMarksModel", "readsCycle", "()V"⟩, 19) := ⟨⟨by decide +kernel, by decide +kernel⟩, List.mem_of_getElem? (i := 514) (by decide +kernel), List.mem_of_getElem? (i := 605) (by decide +kernel), List.mem_of_getElem? (i := 606) (by decide +kernel)⟩
theorem lw_p24 : lw_okq (⟨"CutMarksModel", "place", "()I"⟩, 19) := ⟨⟨by decide +kernel, by decide +kernel⟩, List.mem_of_getElem? (i := 514) (by decide +kernel), List.mem_of_getElem? (i := 609) (by decide +kernel), List.mem_of_getElem? (i := 610) (by decide +kernel)⟩
theorem lw_p25 : lw_okq (⟨"CutMarksModel", "canBegin", "(I)Z"⟩, 19) := ⟨⟨by decide +kernel, by decide +kernel⟩, List.mem_of_getElem? (i := 514) (by decide +kernel), List.mem_of_getElem? (i := 613) (by decide +kernel), List.mem_of_getElem? (i := 614) (by decide +kernel)⟩
theorem lw_p26 : lw_okq (⟨"CutMarksModel", "isLeft", "(I)Z"⟩, 19) := ⟨⟨by decide +kernel, by decide +kernel⟩, List.mem_of_getElem? (i := 514) (by decide +kernel), List.mem_of_getElem? (i := 617) (by decide +kernel), List.mem_of_getElem? (i := 618) (by decide +kernel)⟩
theorem lw_p27 : lw_okq (⟨"CutMarksModel", "isPlace", "(I)Z"⟩, 19) := ⟨⟨by decide +kernel, by decide +kernel⟩, List.mem_of_getElem? (i := 514) (by decide +kernel), List.mem_of_getElem? (i := 621) (by decide +kernel), List.mem_of_getElem? (i := 622) (by decide +kernel)⟩
theorem lw_p28 : lw_okq (⟨"CutMarksModel", "adds", "([I)I"⟩, 19) := ⟨⟨by decide +kernel, by decide +kernel⟩, List.mem_of_getElem? (i := 514) (by decide +kernel), List.mem_of_getElem? (i := 625) (by decide +kernel), List.mem_of_getElem? (i := 626) (by decide +kernel)⟩
theorem lw_p29 : lw_okq (⟨"CutMarksModel", "isMark", "(I)Z"⟩, 19) := ⟨⟨by decide +kernel, by decide +kernel⟩, List.mem_of_getElem? (i := 514) (by decide +kernel), List.mem_of_getElem? (i := 633) (by decide +kernel), List.mem_of_getElem? (i := 634) (by decide +kernel)⟩
theorem lw_p30 : lw_okq (⟨"CutMarksModel", "fetches", "([II)V"⟩, 19) := ⟨⟨by decide +kernel, by decide +kernel⟩, List.mem_of_getElem? (i := 514) (by decide +kernel), List.mem_of_getElem? (i := 637) (by decide +kernel), List.mem_of_getElem? (i := 638) (by decide +kernel)⟩
theorem lw_p31 : lw_okq (⟨"CutMarksModel", "goesTo", "(II)I"⟩, 19) := ⟨⟨by decide +kernel, by decide +kernel⟩, List.mem_of_getElem? (i := 514) (by decide +kernel), List.mem_of_getElem? (i := 641) (by decide +kernel), List.mem_of_getElem? (i := 642) (by decide +kernel)⟩
def lw_privs_2 : List (MethodName × Nat) := [(⟨"CutMarks", "lowestWay", "(I)I"⟩, 9), (⟨"CutMarks", "ordersDeck", "(II)Z"⟩, 9), (⟨"CutMarks", "append", "(C)V"⟩, 9), (⟨"CutMarksModel", "begins", "(I)V"⟩, 19), (⟨"CutMarksModel", "records", "()V"⟩, 19), (⟨"CutMarksModel", "faultAt", "()I"⟩, 19), (⟨"CutMarksModel", "letter", "()I"⟩, 19), (⟨"CutMarksModel", "readsCycle", "()V"⟩, 19), (⟨"CutMarksModel", "place", "()I"⟩, 19), (⟨"CutMarksModel", "canBegin", "(I)Z"⟩, 19), (⟨"CutMarksModel", "isLeft", "(I)Z"⟩, 19), (⟨"CutMarksModel", "isPlace", "(I)Z"⟩, 19), (⟨"CutMarksModel", "adds", "([I)I"⟩, 19), (⟨"CutMarksModel", "isMark", "(I)Z"⟩, 19), (⟨"CutMarksModel", "fetches", "([II)V"⟩, 19), (⟨"CutMarksModel", "goesTo", "(II)I"⟩, 19)]
theorem lw_r2 : ∀ q ∈ lw_privs_2, lw_okq q := List.forall_mem_cons.mpr ⟨lw_p16, List.forall_mem_cons.mpr ⟨lw_p17, List.forall_mem_cons.mpr ⟨lw_p18, List.forall_mem_cons.mpr ⟨lw_p19, List.forall_mem_cons.mpr ⟨lw_p20, List.forall_mem_cons.mpr ⟨lw_p21, List.forall_mem_cons.mpr ⟨lw_p22, List.forall_mem_cons.mpr ⟨lw_p23, List.forall_mem_cons.mpr ⟨lw_p24, List.forall_mem_cons.mpr ⟨lw_p25, List.forall_mem_cons.mpr ⟨lw_p26, List.forall_mem_cons.mpr ⟨lw_p27, List.forall_mem_cons.mpr ⟨lw_p28, List.forall_mem_cons.mpr ⟨lw_p29, List.forall_mem_cons.mpr ⟨lw_p30, List.forall_mem_cons.mpr ⟨lw_p31, fun _ h => absurd h List.not_mem_nil⟩⟩⟩⟩⟩⟩⟩⟩⟩⟩⟩⟩⟩⟩⟩⟩
theorem lw_p32 : lw_okq (⟨"CutMarksModel", "laysProduct", "([I[I[I)V"⟩, 19) := ⟨⟨by decide +kernel, by decide +kernel⟩, List.mem_of_getElem? (i := 514) (by decide +kernel), List.mem_of_getElem? (i := 645) (by decide +kernel), List.mem_of_getElem? (i := 646) (by decide +kernel)⟩
theorem lw_p33 : lw_okq (⟨"CutMarksModel", "powered", "([III)I"⟩, 19) := ⟨⟨by decide +kernel, by decide +kernel⟩, List.mem_of_getElem? (i := 514) (by decide +kernel), List.mem_of_getElem? (i := 653) (by decide +kernel), List.mem_of_getElem? (i := 654) (by decide +kernel)⟩
theorem lw_p34 : lw_okq (⟨"CutMarksModel", "does", "([I)I"⟩, 19) := ⟨⟨by decide +kernel, by decide +kernel⟩, List.mem_of_getElem? (i := 514) (by decide +kernel), List.mem_of_getElem? (i := 669) (by decide +kernel), List.mem_of_getElem? (i := 670) (by decide +kernel)⟩
theorem lw_p35 : lw_okq (⟨"CutMarksModel", "laysCut", "([II)V"⟩, 19) := ⟨⟨by decide +kernel, by decide +kernel⟩, List.mem_of_getElem? (i := 514) (by decide +kernel), List.mem_of_getElem? (i := 677) (by decide +kernel), List.mem_of_getElem? (i := 678) (by decide +kernel)⟩
theorem lw_p36 : lw_okq (⟨"CutMarksModel", "laysRiffle", "([IZ)V"⟩, 19) := ⟨⟨by decide +kernel, by decide +kernel⟩, List.mem_of_getElem? (i := 514) (by decide +kernel), List.mem_of_getElem? (i := 685) (by decide +kernel), List.mem_of_getElem? (i := 686) (by decide +kernel)⟩
theorem lw_p37 : lw_okq (⟨"CutMarksModel", "laysTurn", "([I)V"⟩, 19) := ⟨⟨by decide +kernel, by decide +kernel⟩, List.mem_of_getElem? (i := 514) (by decide +kernel), List.mem_of_getElem? (i := 693) (by decide +kernel), List.mem_of_getElem? (i := 694) (by decide +kernel)⟩
theorem lw_p38 : lw_okq (⟨"CutMarksModel", "moved", "()I"⟩, 19) := ⟨⟨by decide +kernel, by decide +kernel⟩, List.mem_of_getElem? (i := 514) (by decide +kernel), List.mem_of_getElem? (i := 701) (by decide +kernel), List.mem_of_getElem? (i := 702) (by decide +kernel)⟩
theorem lw_p39 : lw_okq (⟨"CutMarksModel", "isMarkOrTrick", "(I)Z"⟩, 19) := ⟨⟨by decide +kernel, by decide +kernel⟩, List.mem_of_getElem? (i := 514) (by decide +kernel), List.mem_of_getElem? (i := 717) (by decide +kernel), List.mem_of_getElem? (i := 718) (by decide +kernel)⟩
theorem lw_p40 : lw_okq (⟨"CutMarksModel", "order", "([I)I"⟩, 19) := ⟨⟨by decide +kernel, by decide +kernel⟩, List.mem_of_getElem? (i := 514) (by decide +kernel), List.mem_of_getElem? (i := 721) (by decide +kernel), List.mem_of_getElem? (i := 722) (by decide +kernel)⟩
theorem lw_p41 : lw_okq (⟨"CutMarksModel", "cycles", "([I)I"⟩, 19) := ⟨⟨by decide +kernel, by decide +kernel⟩, List.mem_of_getElem? (i := 514) (by decide +kernel), List.mem_of_getElem? (i := 725) (by decide +kernel), List.mem_of_getElem? (i := 726) (by decide +kernel)⟩
theorem lw_p42 : lw_okq (⟨"CutMarksModel", "fixed", "([I)I"⟩, 19) := ⟨⟨by decide +kernel, by decide +kernel⟩, List.mem_of_getElem? (i := 514) (by decide +kernel), List.mem_of_getElem? (i := 732) (by decide +kernel), List.mem_of_getElem? (i := 733) (by decide +kernel)⟩
theorem lw_p43 : lw_okq (⟨"CutMarksModel", "longest", "([I)I"⟩, 19) := ⟨⟨by decide +kernel, by decide +kernel⟩, List.mem_of_getElem? (i := 514) (by decide +kernel), List.mem_of_getElem? (i := 736) (by decide +kernel), List.mem_of_getElem? (i := 737) (by decide +kernel)⟩
theorem lw_p44 : lw_okq (⟨"CutMarksModel", "cutsWith", "([I)I"⟩, 19) := ⟨⟨by decide +kernel, by decide +kernel⟩, List.mem_of_getElem? (i := 514) (by decide +kernel), List.mem_of_getElem? (i := 740) (by decide +kernel), List.mem_of_getElem? (i := 741) (by decide +kernel)⟩
theorem lw_p45 : lw_okq (⟨"CutMarksModel", "doCommute", "([I[I)Z"⟩, 19) := ⟨⟨by decide +kernel, by decide +kernel⟩, List.mem_of_getElem? (i := 514) (by decide +kernel), List.mem_of_getElem? (i := 744) (by decide +kernel), List.mem_of_getElem? (i := 745) (by decide +kernel)⟩
theorem lw_p46 : lw_okq (⟨"CutMarksModel", "laysInverse", "([I[I)V"⟩, 19) := ⟨⟨by decide +kernel, by decide +kernel⟩, List.mem_of_getElem? (i := 514) (by decide +kernel), List.mem_of_getElem? (i := 748) (by decide +kernel), List.mem_of_getElem? (i := 749) (by decide +kernel)⟩
theorem lw_p47 : lw_okq (⟨"CutMarksModel", "markAs", "([I)I"⟩, 19) := ⟨⟨by decide +kernel, by decide +kernel⟩, List.mem_of_getElem? (i := 514) (by decide +kernel), List.mem_of_getElem? (i := 752) (by decide +kernel), List.mem_of_getElem? (i := 753) (by decide +kernel)⟩
def lw_privs_3 : List (MethodName × Nat) := [(⟨"CutMarksModel", "laysProduct", "([I[I[I)V"⟩, 19), (⟨"CutMarksModel", "powered", "([III)I"⟩, 19), (⟨"CutMarksModel", "does", "([I)I"⟩, 19), (⟨"CutMarksModel", "laysCut", "([II)V"⟩, 19), (⟨"CutMarksModel", "laysRiffle", "([IZ)V"⟩, 19), (⟨"CutMarksModel", "laysTurn", "([I)V"⟩, 19), (⟨"CutMarksModel", "moved", "()I"⟩, 19), (⟨"CutMarksModel", "isMarkOrTrick", "(I)Z"⟩, 19), (⟨"CutMarksModel", "order", "([I)I"⟩, 19), (⟨"CutMarksModel", "cycles", "([I)I"⟩, 19), (⟨"CutMarksModel", "fixed", "([I)I"⟩, 19), (⟨"CutMarksModel", "longest", "([I)I"⟩, 19), (⟨"CutMarksModel", "cutsWith", "([I)I"⟩, 19), (⟨"CutMarksModel", "doCommute", "([I[I)Z"⟩, 19), (⟨"CutMarksModel", "laysInverse", "([I[I)V"⟩, 19), (⟨"CutMarksModel", "markAs", "([I)I"⟩, 19)]
theorem lw_r3 : ∀ q ∈ lw_privs_3, lw_okq q := List.forall_mem_cons.mpr ⟨lw_p32, List.forall_mem_cons.mpr ⟨lw_p33, List.forall_mem_cons.mpr ⟨lw_p34, List.forall_mem_cons.mpr ⟨lw_p35, List.forall_mem_cons.mpr ⟨lw_p36, List.forall_mem_cons.mpr ⟨lw_p37, List.forall_mem_cons.mpr ⟨lw_p38, List.forall_mem_cons.mpr ⟨lw_p39, List.forall_mem_cons.mpr ⟨lw_p40, List.forall_mem_cons.mpr ⟨lw_p41, List.forall_mem_cons.mpr ⟨lw_p42, List.forall_mem_cons.mpr ⟨lw_p43, List.forall_mem_cons.mpr ⟨lw_p44, List.forall_mem_cons.mpr ⟨lw_p45, List.forall_mem_cons.mpr ⟨lw_p46, List.forall_mem_cons.mpr ⟨lw_p47, fun _ h => absurd h List.not_mem_nil⟩⟩⟩⟩⟩⟩⟩⟩⟩⟩⟩⟩⟩⟩⟩⟩
theorem lw_p48 : lw_okq (⟨"CutMarksModel", "areAlike", "([I[I)Z"⟩, 19) := ⟨⟨by decide +kernel, by decide +kernel⟩, List.mem_of_getElem? (i := 514) (by decide +kernel), List.mem_of_getElem? (i := 756) (by decide +kernel), List.mem_of_getElem? (i := 757) (by decide +kernel)⟩
theorem lw_p49 : lw_okq (⟨"CutMarksModel", "inPlace", "()I"⟩, 19) := ⟨⟨by decide +kernel, by decide +kernel⟩, List.mem_of_getElem? (i := 514) (by decide +kernel), List.mem_of_getElem? (i := 777) (by decide +kernel), List.mem_of_getElem? (i := 778) (by decide +kernel)⟩
theorem lw_p50 : lw_okq (⟨"CutMarksModel", "isInOrder", "()Z"⟩, 19) := ⟨⟨by decide +kernel, by decide +kernel⟩, List.mem_of_getElem? (i := 514) (by decide +kernel), List.mem_of_getElem? (i := 781) (by decide +kernel), List.mem_of_getElem? (i := 782) (by decide +kernel)⟩
theorem lw_p51 : lw_okq (⟨"CutMarksModel", "laysByCut", "(II)V"⟩, 19) := ⟨⟨by decide +kernel, by decide +kernel⟩, List.mem_of_getElem? (i := 514) (by decide +kernel), List.mem_of_getElem? (i := 817) (by decide +kernel), List.mem_of_getElem? (i := 818) (by decide +kernel)⟩
theorem lw_p52 : lw_okq (⟨"CutMarksModel", "leastSteps", "()I"⟩, 19) := ⟨⟨by decide +kernel, by decide +kernel⟩, List.mem_of_getElem? (i := 514) (by decide +kernel), List.mem_of_getElem? (i := 833) (by decide +kernel), List.mem_of_getElem? (i := 834) (by decide +kernel)⟩
theorem lw_p53 : lw_okq (⟨"CutMarksModel", "areOrdering", "(II)Z"⟩, 19) := ⟨⟨by decide +kernel, by decide +kernel⟩, List.mem_of_getElem? (i := 514) (by decide +kernel), List.mem_of_getElem? (i := 837) (by decide +kernel), List.mem_of_getElem? (i := 838) (by decide +kernel)⟩
theorem lw_p54 : lw_okq (⟨"CutMarksModel", "laysStep", "(I)V"⟩, 19) := ⟨⟨by decide +kernel, by decide +kernel⟩, List.mem_of_getElem? (i := 514) (by decide +kernel), List.mem_of_getElem? (i := 841) (by decide +kernel), List.mem_of_getElem? (i := 842) (by decide +kernel)⟩
def lw_privs_4 : List (MethodName × Nat) := [(⟨"CutMarksModel", "areAlike", "([I[I)Z"⟩, 19), (⟨"CutMarksModel", "inPlace", "()I"⟩, 19), (⟨"CutMarksModel", "isInOrder", "()Z"⟩, 19), (⟨"CutMarksModel", "laysByCut", "(II)V"⟩, 19), (⟨"CutMarksModel", "leastSteps", "()I"⟩, 19), (⟨"CutMarksModel", "areOrdering", "(II)Z"⟩, 19), (⟨"CutMarksModel", "laysStep", "(I)V"⟩, 19)]
theorem lw_r4 : ∀ q ∈ lw_privs_4, lw_okq q := List.forall_mem_cons.mpr ⟨lw_p48, List.forall_mem_cons.mpr ⟨lw_p49, List.forall_mem_cons.mpr ⟨lw_p50, List.forall_mem_cons.mpr ⟨lw_p51, List.forall_mem_cons.mpr ⟨lw_p52, List.forall_mem_cons.mpr ⟨lw_p53, List.forall_mem_cons.mpr ⟨lw_p54, fun _ h => absurd h List.not_mem_nil⟩⟩⟩⟩⟩⟩⟩
def lw_privs : List (MethodName × Nat) := lw_privs_1 ++ (lw_privs_2 ++ (lw_privs_3 ++ (lw_privs_4)))
def lw_tbl : List Cond := k2_sels lw_privs ++ tables_1
theorem lw_privs_ok : ∀ q ∈ lw_privs, lw_okq q := by
  show ∀ q ∈ lw_privs_1 ++ (lw_privs_2 ++ (lw_privs_3 ++ (lw_privs_4))), lw_okq q
  exact List.forall_mem_append.mpr ⟨lw_r1, List.forall_mem_append.mpr ⟨lw_r2, List.forall_mem_append.mpr ⟨lw_r3, lw_r4⟩⟩⟩
/-- the streams that the claim lets the run draw from -/
abbrev lw_cs : List Choice := [Jvm.Choice.named "NaN.bits"]
theorem lw_bits : nanBits ∈ lw_cs := by first | decide | exact List.mem_cons_self | simp [lw_cs, nanBits]
end
section

/-! ===== BEGIN printed: names, fields, word lists, decode rows ===== -/
def RX0 : String := "CutMarks$Bits"
def TX0 : u_T := fun k => match k with
  | _ => ("", "", "", false)
def tyX0 : Nat → FieldType := fun k => match k with
  | _ => .int
abbrev wsX00 : List Cond := u_ws RX0 TX0 0
theorem nmX0 : ∀ a, a < 0 → ∀ b, b < 0 → a ≠ b → (TX0 a).2.1 ≠ (TX0 b).2.1 := by decide +kernel
theorem tyX0_ok : ∀ k, k < 0 → parseFieldDescriptor (TX0 k).2.2.1 = some (tyX0 k) := by decide +kernel
abbrev cX0_ofDouble : ByteArray := prog_2_method_2_code
def yX0_ofDouble : MethodName := ⟨RX0, "ofDouble", "(D)J"⟩
abbrev cX0_ofShare : ByteArray := prog_2_method_3_code
def yX0_ofShare : MethodName := ⟨RX0, "ofShare", "(F)I"⟩
def RX1 : String := "CutMarks$Cycles"
def TX1 : u_T := fun k => match k with
  | _ => ("CutMarks$Cycles", "counts", "[I", true)
def tyX1 : Nat → FieldType := fun k => match k with
  | _ => .array .int
abbrev wsX10 : List Cond := u_ws RX1 TX1 1
theorem nmX1 : ∀ a, a < 1 → ∀ b, b < 1 → a ≠ b → (TX1 a).2.1 ≠ (TX1 b).2.1 := by decide +kernel
theorem tyX1_ok : ∀ k, k < 1 → parseFieldDescriptor (TX1 k).2.2.1 = some (tyX1 k) := by decide +kernel
abbrev cX1_init : ByteArray := prog_3_method_1_code
def yX1_init : MethodName := ⟨RX1, "<init>", "()V"⟩
abbrev cX1_tell : ByteArray := prog_3_method_2_code
def yX1_tell : MethodName := ⟨RX1, "tell", "(JI)V"⟩
abbrev cX1_add : ByteArray := prog_3_method_3_code
def yX1_add : MethodName := ⟨RX1, "add", "(I)V"⟩
abbrev cX1_howMany : ByteArray := prog_3_method_4_code
def yX1_howMany : MethodName := ⟨RX1, "howMany", "()I"⟩
abbrev cX1_longest : ByteArray := prog_3_method_5_code
def yX1_longest : MethodName := ⟨RX1, "longest", "()I"⟩
abbrev cX1_order : ByteArray := prog_3_method_6_code
def yX1_order : MethodName := ⟨RX1, "order", "()I"⟩
abbrev cX1_leastMultiple : ByteArray := prog_3_method_7_code
def yX1_leastMultiple : MethodName := ⟨RX1, "leastMultiple", "(II)I"⟩
abbrev cX1_marksThatCommute : ByteArray := prog_3_method_8_code
def yX1_marksThatCommute : MethodName := ⟨RX1, "marksThatCommute", "()J"⟩
def RX2 : String := "CutMarks$MarkReader"
def TX2 : u_T := fun k => match k with
  | 0 => ("CutMarks$MarkReader", "size", "I", false)
  | 1 => ("CutMarks$MarkReader", "state", "I", false)
  | 2 => ("CutMarks$MarkReader", "moves", "J", false)
  | 3 => ("CutMarks$MarkReader", "used", "I", false)
  | 4 => ("CutMarks$MarkReader", "digits", "I", false)
  | 5 => ("CutMarks$MarkReader", "inCycle", "I", false)
  | 6 => ("CutMarks$MarkReader", "first", "I", false)
  | _ => ("CutMarks$MarkReader", "last", "I", false)
def tyX2 : Nat → FieldType := fun k => match k with
  | 0 => .int
  | 1 => .int
  | 2 => .long
  | 3 => .int
  | 4 => .int
  | 5 => .int
  | 6 => .int
  | _ => .int
abbrev wsX20 : List Cond := u_ws RX2 TX2 8
theorem nmX2 : ∀ a, a < 8 → ∀ b, b < 8 → a ≠ b → (TX2 a).2.1 ≠ (TX2 b).2.1 := by decide +kernel
theorem tyX2_ok : ∀ k, k < 8 → parseFieldDescriptor (TX2 k).2.2.1 = some (tyX2 k) := by decide +kernel
abbrev cX2_init : ByteArray := prog_4_method_1_code
def yX2_init : MethodName := ⟨RX2, "<init>", "()V"⟩
abbrev cX2_begin : ByteArray := prog_4_method_2_code
def yX2_begin : MethodName := ⟨RX2, "begin", "(I)V"⟩
abbrev cX2_takes : ByteArray := prog_4_method_3_code
def yX2_takes : MethodName := ⟨RX2, "takes", "(C)Z"⟩
abbrev cX2_mayEnd : ByteArray := prog_4_method_4_code
def yX2_mayEnd : MethodName := ⟨RX2, "mayEnd", "()Z"⟩
abbrev cX2_takesStay : ByteArray := prog_4_method_5_code
def yX2_takesStay : MethodName := ⟨RX2, "takesStay", "()Z"⟩
abbrev cX2_takesOpening : ByteArray := prog_4_method_6_code
def yX2_takesOpening : MethodName := ⟨RX2, "takesOpening", "(C)Z"⟩
abbrev cX2_takesDigit : ByteArray := prog_4_method_7_code
def yX2_takesDigit : MethodName := ⟨RX2, "takesDigit", "(CI)Z"⟩
abbrev cX2_beginsFreePlace : ByteArray := prog_4_method_8_code
def yX2_beginsFreePlace : MethodName := ⟨RX2, "beginsFreePlace", "(I)Z"⟩
abbrev cX2_isFree : ByteArray := prog_4_method_9_code
def yX2_isFree : MethodName := ⟨RX2, "isFree", "(I)Z"⟩
abbrev cX2_endsPlace : ByteArray := prog_4_method_10_code
def yX2_endsPlace : MethodName := ⟨RX2, "endsPlace", "()Z"⟩
abbrev cX2_closesCycle : ByteArray := prog_4_method_11_code
def yX2_closesCycle : MethodName := ⟨RX2, "closesCycle", "()Z"⟩
def RX3 : String := "CutMarks$Moves"
def TX3 : u_T := fun k => match k with
  | _ => ("", "", "", false)
def tyX3 : Nat → FieldType := fun k => match k with
  | _ => .int
abbrev wsX30 : List Cond := u_ws RX3 TX3 0
theorem nmX3 : ∀ a, a < 0 → ∀ b, b < 0 → a ≠ b → (TX3 a).2.1 ≠ (TX3 b).2.1 := by decide +kernel
theorem tyX3_ok : ∀ k, k < 0 → parseFieldDescriptor (TX3 k).2.2.1 = some (tyX3 k) := by decide +kernel
abbrev cX3_to : ByteArray := prog_5_method_2_code
def yX3_to : MethodName := ⟨RX3, "to", "(JI)I"⟩
abbrev cX3_from : ByteArray := prog_5_method_3_code
def yX3_from : MethodName := ⟨RX3, "from", "(JI)I"⟩
abbrev cX3_with : ByteArray := prog_5_method_4_code
def yX3_with : MethodName := ⟨RX3, "with", "(JII)J"⟩
abbrev cX3_then : ByteArray := prog_5_method_5_code
def yX3_then : MethodName := ⟨RX3, "then", "(JJ)J"⟩
abbrev cX3_inverse : ByteArray := prog_5_method_6_code
def yX3_inverse : MethodName := ⟨RX3, "inverse", "(J)J"⟩
abbrev cX3_times : ByteArray := prog_5_method_7_code
def yX3_times : MethodName := ⟨RX3, "times", "(JI)J"⟩
abbrev cX3_toAfter : ByteArray := prog_5_method_8_code
def yX3_toAfter : MethodName := ⟨RX3, "toAfter", "(JII)I"⟩
abbrev cX3_cycleLength : ByteArray := prog_5_method_9_code
def yX3_cycleLength : MethodName := ⟨RX3, "cycleLength", "(JI)I"⟩
abbrev cX3_fixedPlaces : ByteArray := prog_5_method_10_code
def yX3_fixedPlaces : MethodName := ⟨RX3, "fixedPlaces", "(JI)I"⟩
def RX4 : String := "CutMarks$Shelf"
def TX4 : u_T := fun k => match k with
  | 0 => ("CutMarks$Shelf", "copies", "[LCutMarks$Table;", true)
  | _ => ("CutMarks$Shelf", "full", "[Z", true)
def tyX4 : Nat → FieldType := fun k => match k with
  | 0 => .array (.object "CutMarks$Table")
  | _ => .array .boolean
abbrev wsX40 : List Cond := u_ws RX4 TX4 2
theorem nmX4 : ∀ a, a < 2 → ∀ b, b < 2 → a ≠ b → (TX4 a).2.1 ≠ (TX4 b).2.1 := by decide +kernel
theorem tyX4_ok : ∀ k, k < 2 → parseFieldDescriptor (TX4 k).2.2.1 = some (tyX4 k) := by decide +kernel
abbrev cX4_init : ByteArray := prog_6_method_1_code
def yX4_init : MethodName := ⟨RX4, "<init>", "(I)V"⟩
abbrev cX4_hasPlace : ByteArray := prog_6_method_2_code
def yX4_hasPlace : MethodName := ⟨RX4, "hasPlace", "(I)Z"⟩
abbrev cX4_isFull : ByteArray := prog_6_method_3_code
def yX4_isFull : MethodName := ⟨RX4, "isFull", "(I)Z"⟩
abbrev cX4_keep : ByteArray := prog_6_method_4_code
def yX4_keep : MethodName := ⟨RX4, "keep", "(ILCutMarks$Table;)V"⟩
abbrev cX4_bring : ByteArray := prog_6_method_5_code
def yX4_bring : MethodName := ⟨RX4, "bring", "(ILCutMarks$Table;)V"⟩
def RX5 : String := "CutMarks$Shuffles"
def TX5 : u_T := fun k => match k with
  | _ => ("", "", "", false)
def tyX5 : Nat → FieldType := fun k => match k with
  | _ => .int
abbrev wsX50 : List Cond := u_ws RX5 TX5 0
theorem nmX5 : ∀ a, a < 0 → ∀ b, b < 0 → a ≠ b → (TX5 a).2.1 ≠ (TX5 b).2.1 := by decide +kernel
theorem tyX5_ok : ∀ k, k < 0 → parseFieldDescriptor (TX5 k).2.2.1 = some (tyX5 k) := by decide +kernel
abbrev cX5_cutTo : ByteArray := prog_7_method_2_code
def yX5_cutTo : MethodName := ⟨RX5, "cutTo", "(III)I"⟩
abbrev cX5_riffleTo : ByteArray := prog_7_method_3_code
def yX5_riffleTo : MethodName := ⟨RX5, "riffleTo", "(ZII)I"⟩
abbrev cX5_stepTo : ByteArray := prog_7_method_4_code
def yX5_stepTo : MethodName := ⟨RX5, "stepTo", "(III)I"⟩
abbrev cX5_cutBy : ByteArray := prog_7_method_5_code
def yX5_cutBy : MethodName := ⟨RX5, "cutBy", "(II)J"⟩
abbrev cX5_stepBy : ByteArray := prog_7_method_6_code
def yX5_stepBy : MethodName := ⟨RX5, "stepBy", "(II)J"⟩
abbrev cX5_becomesBy : ByteArray := prog_7_method_7_code
def yX5_becomesBy : MethodName := ⟨RX5, "becomesBy", "(JII)J"⟩
def RX6 : String := "CutMarks$Table"
def TX6 : u_T := fun k => match k with
  | 0 => ("CutMarks$Table", "size", "I", false)
  | 1 => ("CutMarks$Table", "places", "J", false)
  | 2 => ("CutMarks$Table", "trick", "J", false)
  | 3 => ("CutMarks$Table", "markCount", "I", false)
  | _ => ("CutMarks$Table", "marks", "[J", true)
def tyX6 : Nat → FieldType := fun k => match k with
  | 0 => .int
  | 1 => .long
  | 2 => .long
  | 3 => .int
  | _ => .array .long
abbrev wsX60 : List Cond := u_ws RX6 TX6 5
theorem nmX6 : ∀ a, a < 5 → ∀ b, b < 5 → a ≠ b → (TX6 a).2.1 ≠ (TX6 b).2.1 := by decide +kernel
theorem tyX6_ok : ∀ k, k < 5 → parseFieldDescriptor (TX6 k).2.2.1 = some (tyX6 k) := by decide +kernel
abbrev cX6_init : ByteArray := prog_8_method_1_code
def yX6_init : MethodName := ⟨RX6, "<init>", "()V"⟩
abbrev cX6_layInOrder : ByteArray := prog_8_method_2_code
def yX6_layInOrder : MethodName := ⟨RX6, "layInOrder", "(I)V"⟩
abbrev cX6_copyFrom : ByteArray := prog_8_method_3_code
def yX6_copyFrom : MethodName := ⟨RX6, "copyFrom", "(LCutMarks$Table;)V"⟩
abbrev cX6_hasPlace : ByteArray := prog_8_method_4_code
def yX6_hasPlace : MethodName := ⟨RX6, "hasPlace", "(I)Z"⟩
abbrev cX6_hasMark : ByteArray := prog_8_method_5_code
def yX6_hasMark : MethodName := ⟨RX6, "hasMark", "(I)Z"⟩
abbrev cX6_movesOf : ByteArray := prog_8_method_6_code
def yX6_movesOf : MethodName := ⟨RX6, "movesOf", "(I)J"⟩
abbrev cX6_addMark : ByteArray := prog_8_method_7_code
def yX6_addMark : MethodName := ⟨RX6, "addMark", "(J)I"⟩
abbrev cX6_removeMark : ByteArray := prog_8_method_8_code
def yX6_removeMark : MethodName := ⟨RX6, "removeMark", "(I)V"⟩
abbrev cX6_lowestMark : ByteArray := prog_8_method_9_code
def yX6_lowestMark : MethodName := ⟨RX6, "lowestMark", "(J)I"⟩
def RX7 : String := "CutMarks"
def TX7 : u_T := fun k => match k with
  | 0 => ("CutMarks", "table", "LCutMarks$Table;", true)
  | 1 => ("CutMarks", "history", "LCutMarks$Shelf;", true)
  | 2 => ("CutMarks", "slots", "LCutMarks$Shelf;", true)
  | 3 => ("CutMarks", "cycles", "LCutMarks$Cycles;", true)
  | 4 => ("CutMarks", "reader", "LCutMarks$MarkReader;", true)
  | 5 => ("CutMarks", "pad", "[C", true)
  | 6 => ("CutMarks", "padLength", "I", false)
  | 7 => ("CutMarks", "undoable", "I", false)
  | _ => ("CutMarks", "nextKept", "I", false)
def tyX7 : Nat → FieldType := fun k => match k with
  | 0 => .object "CutMarks$Table"
  | 1 => .object "CutMarks$Shelf"
  | 2 => .object "CutMarks$Shelf"
  | 3 => .object "CutMarks$Cycles"
  | 4 => .object "CutMarks$MarkReader"
  | 5 => .array .char
  | 6 => .int
  | 7 => .int
  | _ => .int
abbrev wsX70 : List Cond := u_ws RX7 TX7 9
theorem nmX7 : ∀ a, a < 9 → ∀ b, b < 9 → a ≠ b → (TX7 a).2.1 ≠ (TX7 b).2.1 := by decide +kernel
theorem tyX7_ok : ∀ k, k < 9 → parseFieldDescriptor (TX7 k).2.2.1 = some (tyX7 k) := by decide +kernel
abbrev cX7_init : ByteArray := prog_1_method_1_code
def yX7_init : MethodName := ⟨RX7, "<init>", "()V"⟩
abbrev cX7_set : ByteArray := prog_1_method_2_code
def yX7_set : MethodName := ⟨RX7, "set", "(I)I"⟩
abbrev cX7_mark : ByteArray := prog_1_method_3_code
def yX7_mark : MethodName := ⟨RX7, "mark", "()I"⟩
abbrev cX7_product : ByteArray := prog_1_method_4_code
def yX7_product : MethodName := ⟨RX7, "product", "(II)I"⟩
abbrev cX7_power : ByteArray := prog_1_method_5_code
def yX7_power : MethodName := ⟨RX7, "power", "(II)I"⟩
abbrev cX7_trick : ByteArray := prog_1_method_6_code
def yX7_trick : MethodName := ⟨RX7, "trick", "()I"⟩
abbrev cX7_drop : ByteArray := prog_1_method_7_code
def yX7_drop : MethodName := ⟨RX7, "drop", "(I)I"⟩
abbrev cX7_play : ByteArray := prog_1_method_8_code
def yX7_play : MethodName := ⟨RX7, "play", "(I)I"⟩
abbrev cX7_cut : ByteArray := prog_1_method_9_code
def yX7_cut : MethodName := ⟨RX7, "cut", "(I)I"⟩
abbrev cX7_riffle : ByteArray := prog_1_method_10_code
def yX7_riffle : MethodName := ⟨RX7, "riffle", "(I)I"⟩
abbrev cX7_turn : ByteArray := prog_1_method_11_code
def yX7_turn : MethodName := ⟨RX7, "turn", "()I"⟩
abbrev cX7_restart : ByteArray := prog_1_method_12_code
def yX7_restart : MethodName := ⟨RX7, "restart", "()I"⟩
abbrev cX7_at : ByteArray := prog_1_method_13_code
def yX7_at : MethodName := ⟨RX7, "at", "(I)I"⟩
abbrev cX7_where : ByteArray := prog_1_method_14_code
def yX7_where : MethodName := ⟨RX7, "where", "(I)I"⟩
abbrev cX7_of : ByteArray := prog_1_method_15_code
def yX7_of : MethodName := ⟨RX7, "of", "(II)I"⟩
abbrev cX7_image : ByteArray := prog_1_method_16_code
def yX7_image : MethodName := ⟨RX7, "image", "(III)I"⟩
abbrev cX7_commuting : ByteArray := prog_1_method_17_code
def yX7_commuting : MethodName := ⟨RX7, "commuting", "(I)J"⟩
abbrev cX7_commute : ByteArray := prog_1_method_18_code
def yX7_commute : MethodName := ⟨RX7, "commute", "(II)I"⟩
abbrev cX7_count : ByteArray := prog_1_method_19_code
def yX7_count : MethodName := ⟨RX7, "count", "(I)I"⟩
abbrev cX7_spread : ByteArray := prog_1_method_20_code
def yX7_spread : MethodName := ⟨RX7, "spread", "()J"⟩
abbrev cX7_share : ByteArray := prog_1_method_21_code
def yX7_share : MethodName := ⟨RX7, "share", "()I"⟩
abbrev cX7_byCut : ByteArray := prog_1_method_22_code
def yX7_byCut : MethodName := ⟨RX7, "byCut", "(III)I"⟩
abbrev cX7_becomes : ByteArray := prog_1_method_23_code
def yX7_becomes : MethodName := ⟨RX7, "becomes", "(II)I"⟩
abbrev cX7_ordersIn : ByteArray := prog_1_method_24_code
def yX7_ordersIn : MethodName := ⟨RX7, "ordersIn", "(I)I"⟩
abbrev cX7_fewestSteps : ByteArray := prog_1_method_25_code
def yX7_fewestSteps : MethodName := ⟨RX7, "fewestSteps", "()I"⟩
abbrev cX7_firstStep : ByteArray := prog_1_method_26_code
def yX7_firstStep : MethodName := ⟨RX7, "firstStep", "()I"⟩
abbrev cX7_put : ByteArray := prog_1_method_27_code
def yX7_put : MethodName := ⟨RX7, "put", "(J)I"⟩
abbrev cX7_wipe : ByteArray := prog_1_method_28_code
def yX7_wipe : MethodName := ⟨RX7, "wipe", "()I"⟩
abbrev cX7_fault : ByteArray := prog_1_method_29_code
def yX7_fault : MethodName := ⟨RX7, "fault", "()I"⟩
abbrev cX7_undo : ByteArray := prog_1_method_30_code
def yX7_undo : MethodName := ⟨RX7, "undo", "()I"⟩
abbrev cX7_save : ByteArray := prog_1_method_31_code
def yX7_save : MethodName := ⟨RX7, "save", "(I)I"⟩
abbrev cX7_restore : ByteArray := prog_1_method_32_code
def yX7_restore : MethodName := ⟨RX7, "restore", "(I)I"⟩
abbrev cX7_keepForUndo : ByteArray := prog_1_method_33_code
def yX7_keepForUndo : MethodName := ⟨RX7, "keepForUndo", "()V"⟩
abbrev cX7_comes : ByteArray := prog_1_method_34_code
def yX7_comes : MethodName := ⟨RX7, "comes", "(J)I"⟩
abbrev cX7_moveDeck : ByteArray := prog_1_method_35_code
def yX7_moveDeck : MethodName := ⟨RX7, "moveDeck", "(J)I"⟩
abbrev cX7_placesMoved : ByteArray := prog_1_method_36_code
def yX7_placesMoved : MethodName := ⟨RX7, "placesMoved", "()I"⟩
abbrev cX7_isMarkOrTrick : ByteArray := prog_1_method_37_code
def yX7_isMarkOrTrick : MethodName := ⟨RX7, "isMarkOrTrick", "(I)Z"⟩
abbrev cX7_markOrTrick : ByteArray := prog_1_method_38_code
def yX7_markOrTrick : MethodName := ⟨RX7, "markOrTrick", "(I)J"⟩
abbrev cX7_isPower : ByteArray := prog_1_method_39_code
def yX7_isPower : MethodName := ⟨RX7, "isPower", "(I)Z"⟩
abbrev cX7_cutsThatStay : ByteArray := prog_1_method_40_code
def yX7_cutsThatStay : MethodName := ⟨RX7, "cutsThatStay", "(J)I"⟩
abbrev cX7_lowestWay : ByteArray := prog_1_method_41_code
def yX7_lowestWay : MethodName := ⟨RX7, "lowestWay", "(I)I"⟩
abbrev cX7_ordersDeck : ByteArray := prog_1_method_42_code
def yX7_ordersDeck : MethodName := ⟨RX7, "ordersDeck", "(II)Z"⟩
abbrev cX7_stepOfWay : ByteArray := prog_1_method_43_code
def yX7_stepOfWay : MethodName := ⟨RX7, "stepOfWay", "(III)I"⟩
abbrev cX7_charactersIn : ByteArray := prog_1_method_44_code
def yX7_charactersIn : MethodName := ⟨RX7, "charactersIn", "(J)I"⟩
abbrev cX7_codeAt : ByteArray := prog_1_method_45_code
def yX7_codeAt : MethodName := ⟨RX7, "codeAt", "(JI)I"⟩
abbrev cX7_append : ByteArray := prog_1_method_46_code
def yX7_append : MethodName := ⟨RX7, "append", "(C)V"⟩
abbrev cX7_readPad : ByteArray := prog_1_method_47_code
def yX7_readPad : MethodName := ⟨RX7, "readPad", "()I"⟩
def RX8 : String := "CutMarksModel"
def TX8 : u_T := fun k => match k with
  | 0 => ("CutMarksModel", "thrown", "I", false)
  | 1 => ("CutMarksModel", "s", "[I", true)
  | 2 => ("CutMarksModel", "undos", "[I", true)
  | 3 => ("CutMarksModel", "undoMany", "I", false)
  | 4 => ("CutMarksModel", "slots", "[I", true)
  | 5 => ("CutMarksModel", "hasSlot", "[Z", true)
  | 6 => ("CutMarksModel", "pad", "[I", true)
  | 7 => ("CutMarksModel", "length", "I", false)
  | 8 => ("CutMarksModel", "at", "I", false)
  | 9 => ("CutMarksModel", "isWell", "Z", false)
  | 10 => ("CutMarksModel", "told", "[I", true)
  | 11 => ("CutMarksModel", "isIn", "[Z", true)
  | 12 => ("CutMarksModel", "one", "[I", true)
  | 13 => ("CutMarksModel", "two", "[I", true)
  | 14 => ("CutMarksModel", "three", "[I", true)
  | 15 => ("CutMarksModel", "cards", "[I", true)
  | 16 => ("CutMarksModel", "next", "[I", true)
  | 17 => ("CutMarksModel", "seen", "[Z", true)
  | _ => ("CutMarksModel", "lengths", "[I", true)
def tyX8 : Nat → FieldType := fun k => match k with
  | 0 => .int
  | 1 => .array .int
  | 2 => .array .int
  | 3 => .int
  | 4 => .array .int
  | 5 => .array .boolean
  | 6 => .array .int
  | 7 => .int
  | 8 => .int
  | 9 => .boolean
  | 10 => .array .int
  | 11 => .array .boolean
  | 12 => .array .int
  | 13 => .array .int
  | 14 => .array .int
  | 15 => .array .int
  | 16 => .array .int
  | 17 => .array .boolean
  | _ => .array .int
abbrev wsX80 : List Cond := u_ws RX8 TX8 19
theorem nmX8 : ∀ a, a < 19 → ∀ b, b < 19 → a ≠ b → (TX8 a).2.1 ≠ (TX8 b).2.1 := by decide +kernel
theorem tyX8_ok : ∀ k, k < 19 → parseFieldDescriptor (TX8 k).2.2.1 = some (tyX8 k) := by decide +kernel
abbrev cX8_init : ByteArray := prog_10_method_1_code
def yX8_init : MethodName := ⟨RX8, "<init>", "()V"⟩
abbrev cX8_in : ByteArray := prog_10_method_3_code
def yX8_in : MethodName := ⟨RX8, "in", "(III)Z"⟩
abbrev cX8_begins : ByteArray := prog_10_method_4_code
def yX8_begins : MethodName := ⟨RX8, "begins", "(I)V"⟩
abbrev cX8_records : ByteArray := prog_10_method_5_code
def yX8_records : MethodName := ⟨RX8, "records", "()V"⟩
abbrev cX8_isMark : ByteArray := prog_10_method_6_code
def yX8_isMark : MethodName := ⟨RX8, "isMark", "(I)Z"⟩
abbrev cX8_isMarkOrTrick : ByteArray := prog_10_method_7_code
def yX8_isMarkOrTrick : MethodName := ⟨RX8, "isMarkOrTrick", "(I)Z"⟩
abbrev cX8_isPlace : ByteArray := prog_10_method_8_code
def yX8_isPlace : MethodName := ⟨RX8, "isPlace", "(I)Z"⟩
abbrev cX8_goesTo : ByteArray := prog_10_method_9_code
def yX8_goesTo : MethodName := ⟨RX8, "goesTo", "(II)I"⟩
abbrev cX8_fetches : ByteArray := prog_10_method_10_code
def yX8_fetches : MethodName := ⟨RX8, "fetches", "([II)V"⟩
abbrev cX8_laysCut : ByteArray := prog_10_method_11_code
def yX8_laysCut : MethodName := ⟨RX8, "laysCut", "([II)V"⟩
abbrev cX8_laysRiffle : ByteArray := prog_10_method_12_code
def yX8_laysRiffle : MethodName := ⟨RX8, "laysRiffle", "([IZ)V"⟩
abbrev cX8_laysTurn : ByteArray := prog_10_method_13_code
def yX8_laysTurn : MethodName := ⟨RX8, "laysTurn", "([I)V"⟩
abbrev cX8_laysInverse : ByteArray := prog_10_method_14_code
def yX8_laysInverse : MethodName := ⟨RX8, "laysInverse", "([I[I)V"⟩
abbrev cX8_laysProduct : ByteArray := prog_10_method_15_code
def yX8_laysProduct : MethodName := ⟨RX8, "laysProduct", "([I[I[I)V"⟩
abbrev cX8_areAlike : ByteArray := prog_10_method_16_code
def yX8_areAlike : MethodName := ⟨RX8, "areAlike", "([I[I)Z"⟩
abbrev cX8_doCommute : ByteArray := prog_10_method_17_code
def yX8_doCommute : MethodName := ⟨RX8, "doCommute", "([I[I)Z"⟩
abbrev cX8_powered : ByteArray := prog_10_method_18_code
def yX8_powered : MethodName := ⟨RX8, "powered", "([III)I"⟩
abbrev cX8_cycles : ByteArray := prog_10_method_19_code
def yX8_cycles : MethodName := ⟨RX8, "cycles", "([I)I"⟩
abbrev cX8_common : ByteArray := prog_10_method_20_code
def yX8_common : MethodName := ⟨RX8, "common", "(II)I"⟩
abbrev cX8_order : ByteArray := prog_10_method_21_code
def yX8_order : MethodName := ⟨RX8, "order", "([I)I"⟩
abbrev cX8_longest : ByteArray := prog_10_method_22_code
def yX8_longest : MethodName := ⟨RX8, "longest", "([I)I"⟩
abbrev cX8_adds : ByteArray := prog_10_method_23_code
def yX8_adds : MethodName := ⟨RX8, "adds", "([I)I"⟩
abbrev cX8_does : ByteArray := prog_10_method_24_code
def yX8_does : MethodName := ⟨RX8, "does", "([I)I"⟩
abbrev cX8_set : ByteArray := prog_10_method_25_code
def yX8_set : MethodName := ⟨RX8, "set", "(I)I"⟩
abbrev cX8_mark : ByteArray := prog_10_method_26_code
def yX8_mark : MethodName := ⟨RX8, "mark", "()I"⟩
abbrev cX8_product : ByteArray := prog_10_method_27_code
def yX8_product : MethodName := ⟨RX8, "product", "(II)I"⟩
abbrev cX8_power : ByteArray := prog_10_method_28_code
def yX8_power : MethodName := ⟨RX8, "power", "(II)I"⟩
abbrev cX8_trick : ByteArray := prog_10_method_29_code
def yX8_trick : MethodName := ⟨RX8, "trick", "()I"⟩
abbrev cX8_drop : ByteArray := prog_10_method_30_code
def yX8_drop : MethodName := ⟨RX8, "drop", "(I)I"⟩
abbrev cX8_play : ByteArray := prog_10_method_31_code
def yX8_play : MethodName := ⟨RX8, "play", "(I)I"⟩
abbrev cX8_cut : ByteArray := prog_10_method_32_code
def yX8_cut : MethodName := ⟨RX8, "cut", "(I)I"⟩
abbrev cX8_riffle : ByteArray := prog_10_method_33_code
def yX8_riffle : MethodName := ⟨RX8, "riffle", "(I)I"⟩
abbrev cX8_turn : ByteArray := prog_10_method_34_code
def yX8_turn : MethodName := ⟨RX8, "turn", "()I"⟩
abbrev cX8_moved : ByteArray := prog_10_method_35_code
def yX8_moved : MethodName := ⟨RX8, "moved", "()I"⟩
abbrev cX8_restart : ByteArray := prog_10_method_36_code
def yX8_restart : MethodName := ⟨RX8, "restart", "()I"⟩
abbrev cX8_at : ByteArray := prog_10_method_37_code
def yX8_at : MethodName := ⟨RX8, "at", "(I)I"⟩
abbrev cX8_where : ByteArray := prog_10_method_38_code
def yX8_where : MethodName := ⟨RX8, "where", "(I)I"⟩
abbrev cX8_fixed : ByteArray := prog_10_method_39_code
def yX8_fixed : MethodName := ⟨RX8, "fixed", "([I)I"⟩
abbrev cX8_cutsWith : ByteArray := prog_10_method_40_code
def yX8_cutsWith : MethodName := ⟨RX8, "cutsWith", "([I)I"⟩
abbrev cX8_markAs : ByteArray := prog_10_method_41_code
def yX8_markAs : MethodName := ⟨RX8, "markAs", "([I)I"⟩
abbrev cX8_of : ByteArray := prog_10_method_42_code
def yX8_of : MethodName := ⟨RX8, "of", "(II)I"⟩
abbrev cX8_image : ByteArray := prog_10_method_43_code
def yX8_image : MethodName := ⟨RX8, "image", "(III)I"⟩
abbrev cX8_commuting : ByteArray := prog_10_method_44_code
def yX8_commuting : MethodName := ⟨RX8, "commuting", "(I)J"⟩
abbrev cX8_commute : ByteArray := prog_10_method_45_code
def yX8_commute : MethodName := ⟨RX8, "commute", "(II)I"⟩
abbrev cX8_inPlace : ByteArray := prog_10_method_46_code
def yX8_inPlace : MethodName := ⟨RX8, "inPlace", "()I"⟩
abbrev cX8_isInOrder : ByteArray := prog_10_method_47_code
def yX8_isInOrder : MethodName := ⟨RX8, "isInOrder", "()Z"⟩
abbrev cX8_count : ByteArray := prog_10_method_48_code
def yX8_count : MethodName := ⟨RX8, "count", "(I)I"⟩
abbrev cX8_spread : ByteArray := prog_10_method_49_code
def yX8_spread : MethodName := ⟨RX8, "spread", "()J"⟩
abbrev cX8_share : ByteArray := prog_10_method_50_code
def yX8_share : MethodName := ⟨RX8, "share", "()I"⟩
abbrev cX8_laysByCut : ByteArray := prog_10_method_51_code
def yX8_laysByCut : MethodName := ⟨RX8, "laysByCut", "(II)V"⟩
abbrev cX8_byCut : ByteArray := prog_10_method_52_code
def yX8_byCut : MethodName := ⟨RX8, "byCut", "(III)I"⟩
abbrev cX8_becomes : ByteArray := prog_10_method_53_code
def yX8_becomes : MethodName := ⟨RX8, "becomes", "(II)I"⟩
abbrev cX8_ordersIn : ByteArray := prog_10_method_54_code
def yX8_ordersIn : MethodName := ⟨RX8, "ordersIn", "(I)I"⟩
abbrev cX8_laysStep : ByteArray := prog_10_method_55_code
def yX8_laysStep : MethodName := ⟨RX8, "laysStep", "(I)V"⟩
abbrev cX8_areOrdering : ByteArray := prog_10_method_56_code
def yX8_areOrdering : MethodName := ⟨RX8, "areOrdering", "(II)Z"⟩
abbrev cX8_leastSteps : ByteArray := prog_10_method_57_code
def yX8_leastSteps : MethodName := ⟨RX8, "leastSteps", "()I"⟩
abbrev cX8_fewestSteps : ByteArray := prog_10_method_58_code
def yX8_fewestSteps : MethodName := ⟨RX8, "fewestSteps", "()I"⟩
abbrev cX8_firstStep : ByteArray := prog_10_method_59_code
def yX8_firstStep : MethodName := ⟨RX8, "firstStep", "()I"⟩
abbrev cX8_put : ByteArray := prog_10_method_60_code
def yX8_put : MethodName := ⟨RX8, "put", "(J)I"⟩
abbrev cX8_wipe : ByteArray := prog_10_method_61_code
def yX8_wipe : MethodName := ⟨RX8, "wipe", "()I"⟩
abbrev cX8_letter : ByteArray := prog_10_method_62_code
def yX8_letter : MethodName := ⟨RX8, "letter", "()I"⟩
abbrev cX8_isLeft : ByteArray := prog_10_method_63_code
def yX8_isLeft : MethodName := ⟨RX8, "isLeft", "(I)Z"⟩
abbrev cX8_canBegin : ByteArray := prog_10_method_64_code
def yX8_canBegin : MethodName := ⟨RX8, "canBegin", "(I)Z"⟩
abbrev cX8_place : ByteArray := prog_10_method_65_code
def yX8_place : MethodName := ⟨RX8, "place", "()I"⟩
abbrev cX8_readsCycle : ByteArray := prog_10_method_66_code
def yX8_readsCycle : MethodName := ⟨RX8, "readsCycle", "()V"⟩
abbrev cX8_faultAt : ByteArray := prog_10_method_67_code
def yX8_faultAt : MethodName := ⟨RX8, "faultAt", "()I"⟩
abbrev cX8_fault : ByteArray := prog_10_method_68_code
def yX8_fault : MethodName := ⟨RX8, "fault", "()I"⟩
abbrev cX8_undo : ByteArray := prog_10_method_69_code
def yX8_undo : MethodName := ⟨RX8, "undo", "()I"⟩
abbrev cX8_save : ByteArray := prog_10_method_70_code
def yX8_save : MethodName := ⟨RX8, "save", "(I)I"⟩
abbrev cX8_restore : ByteArray := prog_10_method_71_code
def yX8_restore : MethodName := ⟨RX8, "restore", "(I)I"⟩
def RJxe99ae : String := "java/lang/Double"
def TJxe99ae : u_T := fun k => match k with
  | _ => ("", "", "", false)
def tyJxe99ae : Nat → FieldType := fun k => match k with
  | _ => .int
abbrev wsJxe99ae0 : List Cond := u_ws RJxe99ae TJxe99ae 0
theorem nmJxe99ae : ∀ a, a < 0 → ∀ b, b < 0 → a ≠ b → (TJxe99ae a).2.1 ≠ (TJxe99ae b).2.1 := by decide +kernel
theorem tyJxe99ae_ok : ∀ k, k < 0 → parseFieldDescriptor (TJxe99ae k).2.2.1 = some (tyJxe99ae k) := by decide +kernel
abbrev cJxe99ae_isNaN_b9ae7 : ByteArray := prog_11_method_6_code
def yJxe99ae_isNaN_b9ae7 : MethodName := ⟨RJxe99ae, "isNaN", "(D)Z"⟩
abbrev cJxe99ae_doubleToLongBits_ccdee : ByteArray := prog_11_method_23_code
def yJxe99ae_doubleToLongBits_ccdee : MethodName := ⟨RJxe99ae, "doubleToLongBits", "(D)J"⟩
def RJxf58ca : String := "java/lang/Float"
def TJxf58ca : u_T := fun k => match k with
  | _ => ("", "", "", false)
def tyJxf58ca : Nat → FieldType := fun k => match k with
  | _ => .int
abbrev wsJxf58ca0 : List Cond := u_ws RJxf58ca TJxf58ca 0
theorem nmJxf58ca : ∀ a, a < 0 → ∀ b, b < 0 → a ≠ b → (TJxf58ca a).2.1 ≠ (TJxf58ca b).2.1 := by decide +kernel
theorem tyJxf58ca_ok : ∀ k, k < 0 → parseFieldDescriptor (TJxf58ca k).2.2.1 = some (tyJxf58ca k) := by decide +kernel
abbrev cJxf58ca_isNaN_12338 : ByteArray := prog_12_method_6_code
def yJxf58ca_isNaN_12338 : MethodName := ⟨RJxf58ca, "isNaN", "(F)Z"⟩
abbrev cJxf58ca_floatToIntBits_5c35a : ByteArray := prog_12_method_24_code
def yJxf58ca_floatToIntBits_5c35a : MethodName := ⟨RJxf58ca, "floatToIntBits", "(F)I"⟩
def RJ6 : String := "java/lang/Integer"
def TJ6 : u_T := fun k => match k with
  | _ => ("", "", "", false)
def tyJ6 : Nat → FieldType := fun k => match k with
  | _ => .int
abbrev wsJ60 : List Cond := u_ws RJ6 TJ6 0
theorem nmJ6 : ∀ a, a < 0 → ∀ b, b < 0 → a ≠ b → (TJ6 a).2.1 ≠ (TJ6 b).2.1 := by decide +kernel
theorem tyJ6_ok : ∀ k, k < 0 → parseFieldDescriptor (TJ6 k).2.2.1 = some (tyJ6 k) := by decide +kernel
abbrev cJ6_bitCount_0f7a4 : ByteArray := prog_13_method_49_code
def yJ6_bitCount_0f7a4 : MethodName := ⟨RJ6, "bitCount", "(I)I"⟩
def RJ9 : String := "java/lang/Math"
def TJ9 : u_T := fun k => match k with
  | _ => ("", "", "", false)
def tyJ9 : Nat → FieldType := fun k => match k with
  | _ => .int
abbrev wsJ90 : List Cond := u_ws RJ9 TJ9 0
theorem nmJ9 : ∀ a, a < 0 → ∀ b, b < 0 → a ≠ b → (TJ9 a).2.1 ≠ (TJ9 b).2.1 := by decide +kernel
theorem tyJ9_ok : ∀ k, k < 0 → parseFieldDescriptor (TJ9 k).2.2.1 = some (tyJ9 k) := by decide +kernel
abbrev cJ9_floorMod_7cf53 : ByteArray := prog_14_method_50_code
def yJ9_floorMod_7cf53 : MethodName := ⟨RJ9, "floorMod", "(II)I"⟩
def RL : String := "CutMarksLaw"
abbrev cL_law : ByteArray := code
def yL_law : MethodName := ⟨RL, "law", "([I)Z"⟩
def zA_0 : List Cond := [Cond.classLink RL 7 RX7, Cond.instantiable RX7 9, Cond.initialized RX7, Cond.classLink RL 10 RX8, Cond.instantiable RX8 19, Cond.initialized RX8, Cond.constantLong RL 119 (4294967295), Cond.methodLink RL 9 yX7_init, Cond.instanceMethod yX7_init, Cond.code yX7_init cX7_init 1 none, Cond.methodLink RX7 1 objectInit, Cond.instanceMethod objectInit, Cond.code objectInit ⟨#[0xb1]⟩ 1 none, Cond.classLink RX7 7 RX6, Cond.instantiable RX6 5, Cond.initialized RX6, Cond.fieldLink RX7 10 "CutMarks" "table" "LCutMarks$Table;", Cond.classLink RX7 16 RX4, Cond.instantiable RX4 2, Cond.initialized RX4, Cond.fieldLink RX7 21 "CutMarks" "history" "LCutMarks$Shelf;", Cond.fieldLink RX7 25 "CutMarks" "slots" "LCutMarks$Shelf;", Cond.classLink RX7 28 RX1, Cond.instantiable RX1 1, Cond.initialized RX1]
def zA_1 : List Cond := [Cond.fieldLink RX7 31 "CutMarks" "cycles" "LCutMarks$Cycles;", Cond.classLink RX7 35 RX2, Cond.instantiable RX2 8, Cond.initialized RX2, Cond.fieldLink RX7 38 "CutMarks" "reader" "LCutMarks$MarkReader;", Cond.arrayClass .char, Cond.fieldLink RX7 42 "CutMarks" "pad" "[C", Cond.fieldLink RX7 46 "CutMarks" "padLength" "I", Cond.fieldLink RX7 50 "CutMarks" "undoable" "I", Cond.fieldLink RX7 53 "CutMarks" "nextKept" "I", Cond.instanceMethod yX6_init, Cond.code yX6_init cX6_init 1 none, Cond.methodLink RX6 3 objectInit, Cond.fieldLink RX6 9 "CutMarks$Table" "size" "I", Cond.constantLong RX6 17 (-81985529216486896), Cond.fieldLink RX6 19 "CutMarks$Table" "places" "J", Cond.fieldLink RX6 23 "CutMarks$Table" "trick" "J", Cond.fieldLink RX6 26 "CutMarks$Table" "markCount" "I", Cond.arrayClass .long, Cond.fieldLink RX6 29 "CutMarks$Table" "marks" "[J", Cond.methodLink RX7 18 yX4_init, Cond.instanceMethod yX4_init, Cond.code yX4_init cX4_init 4 none, Cond.methodLink RX4 1 objectInit, Cond.classLink RX4 7 RX6]
def zA_2 : List Cond := [Cond.fieldLink RX4 9 "CutMarks$Shelf" "copies" "[LCutMarks$Table;", Cond.arrayClass .boolean, Cond.fieldLink RX4 15 "CutMarks$Shelf" "full" "[Z", Cond.instanceMethod yX1_init, Cond.code yX1_init cX1_init 1 none, Cond.methodLink RX1 3 objectInit, Cond.arrayClass .int, Cond.fieldLink RX1 9 "CutMarks$Cycles" "counts" "[I", Cond.instanceMethod yX2_init, Cond.code yX2_init cX2_init 1 none, Cond.methodLink RX2 3 objectInit, Cond.fieldLink RX2 9 "CutMarks$MarkReader" "size" "I", Cond.fieldLink RX2 15 "CutMarks$MarkReader" "state" "I", Cond.constantLong RX2 20 (-81985529216486896), Cond.fieldLink RX2 22 "CutMarks$MarkReader" "moves" "J", Cond.fieldLink RX2 26 "CutMarks$MarkReader" "used" "I", Cond.fieldLink RX2 29 "CutMarks$MarkReader" "digits" "I", Cond.fieldLink RX2 32 "CutMarks$MarkReader" "inCycle" "I", Cond.fieldLink RX2 35 "CutMarks$MarkReader" "first" "I", Cond.fieldLink RX2 38 "CutMarks$MarkReader" "last" "I", Cond.methodLink RL 12 yX8_init, Cond.instanceMethod yX8_init, Cond.code yX8_init cX8_init 1 none, Cond.methodLink RX8 1 objectInit, Cond.fieldLink RX8 7 "CutMarksModel" "s" "[I"]
def zA_3 : List Cond := [Cond.fieldLink RX8 13 "CutMarksModel" "undos" "[I", Cond.fieldLink RX8 16 "CutMarksModel" "slots" "[I", Cond.fieldLink RX8 19 "CutMarksModel" "hasSlot" "[Z", Cond.fieldLink RX8 23 "CutMarksModel" "pad" "[I", Cond.fieldLink RX8 26 "CutMarksModel" "told" "[I", Cond.fieldLink RX8 29 "CutMarksModel" "isIn" "[Z", Cond.fieldLink RX8 32 "CutMarksModel" "one" "[I", Cond.fieldLink RX8 35 "CutMarksModel" "two" "[I", Cond.fieldLink RX8 38 "CutMarksModel" "three" "[I", Cond.fieldLink RX8 41 "CutMarksModel" "cards" "[I", Cond.fieldLink RX8 44 "CutMarksModel" "next" "[I", Cond.fieldLink RX8 47 "CutMarksModel" "seen" "[Z", Cond.fieldLink RX8 50 "CutMarksModel" "lengths" "[I", Cond.fieldLink RX8 53 "CutMarksModel" "thrown" "I", Cond.methodLink RX8 57 yX8_begins, Cond.instanceMethod yX8_begins, Cond.selects RX8 yX8_begins yX8_begins, Cond.code yX8_begins cX8_begins 3 none, Cond.methodLink RL 13 yX7_set, Cond.instanceMethod yX7_set, Cond.selects RX7 yX7_set yX7_set, Cond.code yX7_set cX7_set 3 (some .int), Cond.methodLink RX7 59 yX7_keepForUndo, Cond.instanceMethod yX7_keepForUndo, Cond.selects RX7 yX7_keepForUndo yX7_keepForUndo]
def zA_4 : List Cond := [Cond.code yX7_keepForUndo cX7_keepForUndo 1 none, Cond.methodLink RX7 224 yX4_keep, Cond.instanceMethod yX4_keep, Cond.selects RX4 yX4_keep yX4_keep, Cond.code yX4_keep cX4_keep 3 none, Cond.methodLink RX4 20 yX4_hasPlace, Cond.instanceMethod yX4_hasPlace, Cond.selects RX4 yX4_hasPlace yX4_hasPlace, Cond.code yX4_hasPlace cX4_hasPlace 2 (some .boolean), Cond.methodLink RX4 24 yX6_copyFrom, Cond.instanceMethod yX6_copyFrom, Cond.selects RX6 yX6_copyFrom yX6_copyFrom, Cond.code yX6_copyFrom cX6_copyFrom 3 none, Cond.methodLink RX7 62 yX6_layInOrder, Cond.instanceMethod yX6_layInOrder, Cond.selects RX6 yX6_layInOrder yX6_layInOrder, Cond.code yX6_layInOrder cX6_layInOrder 2 none, Cond.methodLink RL 17 yX8_set, Cond.instanceMethod yX8_set, Cond.selects RX8 yX8_set yX8_set, Cond.code yX8_set cX8_set 3 (some .int), Cond.methodLink RX8 64 yX8_in, Cond.static yX8_in, Cond.code yX8_in cX8_in 3 (some .boolean), Cond.methodLink RX8 83 yX8_records]
def zA_5 : List Cond := [Cond.instanceMethod yX8_records, Cond.selects RX8 yX8_records yX8_records, Cond.code yX8_records cX8_records 2 none, Cond.fieldLink RX8 61 "CutMarksModel" "undoMany" "I", Cond.methodLink RL 18 yX7_mark, Cond.instanceMethod yX7_mark, Cond.selects RX7 yX7_mark yX7_mark, Cond.code yX7_mark cX7_mark 2 (some .int), Cond.methodLink RX7 65 yX7_readPad, Cond.instanceMethod yX7_readPad, Cond.selects RX7 yX7_readPad yX7_readPad, Cond.code yX7_readPad cX7_readPad 2 (some .int), Cond.methodLink RX7 240 yX2_begin, Cond.instanceMethod yX2_begin, Cond.selects RX2 yX2_begin yX2_begin, Cond.code yX2_begin cX2_begin 2 none, Cond.methodLink RX7 243 yX2_takes, Cond.instanceMethod yX2_takes, Cond.selects RX2 yX2_takes yX2_takes, Cond.code yX2_takes cX2_takes 2 (some .boolean), Cond.methodLink RX2 41 yX2_takesStay, Cond.instanceMethod yX2_takesStay, Cond.selects RX2 yX2_takesStay yX2_takesStay, Cond.code yX2_takesStay cX2_takesStay 1 (some .boolean), Cond.methodLink RX2 45 yX2_takesOpening]
def zA_6 : List Cond := [Cond.instanceMethod yX2_takesOpening, Cond.selects RX2 yX2_takesOpening yX2_takesOpening, Cond.code yX2_takesOpening cX2_takesOpening 2 (some .boolean), Cond.methodLink RX2 49 yX2_takesDigit, Cond.instanceMethod yX2_takesDigit, Cond.selects RX2 yX2_takesDigit yX2_takesDigit, Cond.code yX2_takesDigit cX2_takesDigit 4 (some .boolean), Cond.methodLink RX2 59 yX2_beginsFreePlace, Cond.instanceMethod yX2_beginsFreePlace, Cond.selects RX2 yX2_beginsFreePlace yX2_beginsFreePlace, Cond.code yX2_beginsFreePlace cX2_beginsFreePlace 3 (some .boolean), Cond.methodLink RX2 63 yX2_isFree, Cond.instanceMethod yX2_isFree, Cond.selects RX2 yX2_isFree yX2_isFree, Cond.code yX2_isFree cX2_isFree 2 (some .boolean), Cond.methodLink RX2 53 yX2_endsPlace, Cond.instanceMethod yX2_endsPlace, Cond.selects RX2 yX2_endsPlace yX2_endsPlace, Cond.code yX2_endsPlace cX2_endsPlace 1 (some .boolean), Cond.methodLink RX2 66 yX3_with, Cond.static yX3_with, Cond.initialized RX3, Cond.code yX3_with cX3_with 6 (some .long), Cond.constantLong RX3 15 (15), Cond.constantLong RX3 17 (-1)]
def zA_7 : List Cond := [Cond.methodLink RX2 56 yX2_closesCycle, Cond.instanceMethod yX2_closesCycle, Cond.selects RX2 yX2_closesCycle yX2_closesCycle, Cond.code yX2_closesCycle cX2_closesCycle 1 (some .boolean), Cond.methodLink RX7 247 yX2_mayEnd, Cond.instanceMethod yX2_mayEnd, Cond.selects RX2 yX2_mayEnd yX2_mayEnd, Cond.code yX2_mayEnd cX2_mayEnd 1 (some .boolean), Cond.methodLink RX7 73 yX7_comes, Cond.instanceMethod yX7_comes, Cond.selects RX7 yX7_comes yX7_comes, Cond.code yX7_comes cX7_comes 3 (some .int), Cond.methodLink RX7 230 yX6_addMark, Cond.instanceMethod yX6_addMark, Cond.selects RX6 yX6_addMark yX6_addMark, Cond.code yX6_addMark cX6_addMark 4 (some .int), Cond.methodLink RL 22 yX8_mark, Cond.instanceMethod yX8_mark, Cond.selects RX8 yX8_mark yX8_mark, Cond.code yX8_mark cX8_mark 1 (some .int), Cond.fieldLink RX8 90 "CutMarksModel" "length" "I", Cond.methodLink RX8 86 yX8_faultAt, Cond.instanceMethod yX8_faultAt, Cond.selects RX8 yX8_faultAt yX8_faultAt, Cond.code yX8_faultAt cX8_faultAt 2 (some .int)]
def zA_8 : List Cond := [Cond.fieldLink RX8 194 "CutMarksModel" "at" "I", Cond.fieldLink RX8 206 "CutMarksModel" "isWell" "Z", Cond.methodLink RX8 200 yX8_letter, Cond.instanceMethod yX8_letter, Cond.selects RX8 yX8_letter yX8_letter, Cond.code yX8_letter cX8_letter 1 (some .int), Cond.methodLink RX8 213 yX8_readsCycle, Cond.instanceMethod yX8_readsCycle, Cond.selects RX8 yX8_readsCycle yX8_readsCycle, Cond.code yX8_readsCycle cX8_readsCycle 4 none, Cond.methodLink RX8 210 yX8_place, Cond.instanceMethod yX8_place, Cond.selects RX8 yX8_place yX8_place, Cond.code yX8_place cX8_place 3 (some .int), Cond.methodLink RX8 203 yX8_canBegin, Cond.instanceMethod yX8_canBegin, Cond.selects RX8 yX8_canBegin yX8_canBegin, Cond.code yX8_canBegin cX8_canBegin 4 (some .boolean), Cond.methodLink RX8 197 yX8_isLeft, Cond.instanceMethod yX8_isLeft, Cond.selects RX8 yX8_isLeft yX8_isLeft, Cond.code yX8_isLeft cX8_isLeft 2 (some .boolean), Cond.methodLink RX8 111 yX8_isPlace, Cond.instanceMethod yX8_isPlace, Cond.selects RX8 yX8_isPlace yX8_isPlace]
def zA_9 : List Cond := [Cond.code yX8_isPlace cX8_isPlace 2 (some .boolean), Cond.methodLink RX8 93 yX8_adds, Cond.instanceMethod yX8_adds, Cond.selects RX8 yX8_adds yX8_adds, Cond.code yX8_adds cX8_adds 4 (some .int), Cond.methodLink RL 23 yX7_product, Cond.instanceMethod yX7_product, Cond.selects RX7 yX7_product yX7_product, Cond.code yX7_product cX7_product 3 (some .int), Cond.methodLink RX7 77 yX6_hasMark, Cond.instanceMethod yX6_hasMark, Cond.selects RX6 yX6_hasMark yX6_hasMark, Cond.code yX6_hasMark cX6_hasMark 2 (some .boolean), Cond.methodLink RX7 81 yX6_movesOf, Cond.instanceMethod yX6_movesOf, Cond.selects RX6 yX6_movesOf yX6_movesOf, Cond.code yX6_movesOf cX6_movesOf 2 (some .long), Cond.methodLink RX7 85 yX3_then, Cond.static yX3_then, Cond.code yX3_then cX3_then 7 (some .long), Cond.methodLink RX3 9 yX3_to, Cond.static yX3_to, Cond.code yX3_to cX3_to 3 (some .int), Cond.methodLink RX3 19 yX3_with, Cond.methodLink RL 27 yX8_product]
def zA_10 : List Cond := [Cond.instanceMethod yX8_product, Cond.selects RX8 yX8_product yX8_product, Cond.code yX8_product cX8_product 3 (some .int), Cond.methodLink RX8 68 yX8_isMark, Cond.instanceMethod yX8_isMark, Cond.selects RX8 yX8_isMark yX8_isMark, Cond.code yX8_isMark cX8_isMark 2 (some .boolean), Cond.methodLink RX8 96 yX8_fetches, Cond.instanceMethod yX8_fetches, Cond.selects RX8 yX8_fetches yX8_fetches, Cond.code yX8_fetches cX8_fetches 4 none, Cond.methodLink RX8 72 yX8_goesTo, Cond.instanceMethod yX8_goesTo, Cond.selects RX8 yX8_goesTo yX8_goesTo, Cond.code yX8_goesTo cX8_goesTo 3 (some .int), Cond.methodLink RX8 100 yX8_laysProduct, Cond.instanceMethod yX8_laysProduct, Cond.selects RX8 yX8_laysProduct yX8_laysProduct, Cond.code yX8_laysProduct cX8_laysProduct 5 none, Cond.methodLink RL 28 yX7_power, Cond.instanceMethod yX7_power, Cond.selects RX7 yX7_power yX7_power, Cond.code yX7_power cX7_power 3 (some .int), Cond.methodLink RX7 91 yX7_isPower, Cond.static yX7_isPower]
def zA_11 : List Cond := [Cond.code yX7_isPower cX7_isPower 1 (some .boolean), Cond.methodLink RX7 94 yX3_times, Cond.static yX3_times, Cond.code yX3_times cX3_times 6 (some .long), Cond.methodLink RX3 23 yX3_toAfter, Cond.static yX3_toAfter, Cond.code yX3_toAfter cX3_toAfter 8 (some .int), Cond.methodLink RX3 27 yX3_cycleLength, Cond.static yX3_cycleLength, Cond.code yX3_cycleLength cX3_cycleLength 5 (some .int), Cond.methodLink RX3 30 yJ9_floorMod_7cf53, Cond.static yJ9_floorMod_7cf53, Cond.initialized RJ9, Cond.code yJ9_floorMod_7cf53 cJ9_floorMod_7cf53 3 (some .int), Cond.methodLink RL 31 yX8_power, Cond.instanceMethod yX8_power, Cond.selects RX8 yX8_power yX8_power, Cond.code yX8_power cX8_power 4 (some .int), Cond.methodLink RX8 104 yX8_powered, Cond.instanceMethod yX8_powered, Cond.selects RX8 yX8_powered yX8_powered, Cond.code yX8_powered cX8_powered 7 (some .int), Cond.methodLink RL 32 yX7_trick, Cond.instanceMethod yX7_trick, Cond.selects RX7 yX7_trick yX7_trick]
def zA_12 : List Cond := [Cond.code yX7_trick cX7_trick 1 (some .int), Cond.methodLink RL 35 yX8_trick, Cond.instanceMethod yX8_trick, Cond.selects RX8 yX8_trick yX8_trick, Cond.code yX8_trick cX8_trick 1 (some .int), Cond.methodLink RL 36 yX7_drop, Cond.instanceMethod yX7_drop, Cond.selects RX7 yX7_drop yX7_drop, Cond.code yX7_drop cX7_drop 2 (some .int), Cond.methodLink RX7 101 yX6_removeMark, Cond.instanceMethod yX6_removeMark, Cond.selects RX6 yX6_removeMark yX6_removeMark, Cond.code yX6_removeMark cX6_removeMark 3 none, Cond.methodLink RL 39 yX8_drop, Cond.instanceMethod yX8_drop, Cond.selects RX8 yX8_drop yX8_drop, Cond.code yX8_drop cX8_drop 3 (some .int), Cond.methodLink RL 40 yX7_play, Cond.instanceMethod yX7_play, Cond.selects RX7 yX7_play yX7_play, Cond.code yX7_play cX7_play 2 (some .int), Cond.methodLink RX7 107 yX7_moveDeck, Cond.instanceMethod yX7_moveDeck, Cond.selects RX7 yX7_moveDeck yX7_moveDeck, Cond.code yX7_moveDeck cX7_moveDeck 3 (some .int)]
def zA_13 : List Cond := [Cond.methodLink RX7 130 yX3_from, Cond.static yX3_from, Cond.code yX3_from cX3_from 4 (some .int), Cond.methodLink RL 43 yX8_play, Cond.instanceMethod yX8_play, Cond.selects RX8 yX8_play yX8_play, Cond.code yX8_play cX8_play 2 (some .int), Cond.methodLink RX8 108 yX8_does, Cond.instanceMethod yX8_does, Cond.selects RX8 yX8_does yX8_does, Cond.code yX8_does cX8_does 3 (some .int), Cond.methodLink RL 44 yX7_cut, Cond.instanceMethod yX7_cut, Cond.selects RX7 yX7_cut yX7_cut, Cond.code yX7_cut cX7_cut 2 (some .int), Cond.methodLink RX7 110 yX6_hasPlace, Cond.instanceMethod yX6_hasPlace, Cond.selects RX6 yX6_hasPlace yX6_hasPlace, Cond.code yX6_hasPlace cX6_hasPlace 2 (some .boolean), Cond.methodLink RX7 113 yX5_cutBy, Cond.static yX5_cutBy, Cond.initialized RX5, Cond.code yX5_cutBy cX5_cutBy 5 (some .long), Cond.constantLong RX5 19 (-81985529216486896), Cond.methodLink RX5 7 yX5_cutTo]
def zA_14 : List Cond := [Cond.static yX5_cutTo, Cond.code yX5_cutTo cX5_cutTo 3 (some .int), Cond.methodLink RX5 21 yX3_with, Cond.methodLink RL 47 yX8_cut, Cond.instanceMethod yX8_cut, Cond.selects RX8 yX8_cut yX8_cut, Cond.code yX8_cut cX8_cut 2 (some .int), Cond.methodLink RX8 114 yX8_laysCut, Cond.instanceMethod yX8_laysCut, Cond.selects RX8 yX8_laysCut yX8_laysCut, Cond.code yX8_laysCut cX8_laysCut 4 none, Cond.methodLink RL 48 yX7_riffle, Cond.instanceMethod yX7_riffle, Cond.selects RX7 yX7_riffle yX7_riffle, Cond.code yX7_riffle cX7_riffle 2 (some .int), Cond.methodLink RX7 119 yX5_stepBy, Cond.static yX5_stepBy, Cond.code yX5_stepBy cX5_stepBy 5 (some .long), Cond.methodLink RX5 25 yX5_stepTo, Cond.static yX5_stepTo, Cond.code yX5_stepTo cX5_stepTo 3 (some .int), Cond.methodLink RX5 13 yX5_riffleTo, Cond.static yX5_riffleTo, Cond.code yX5_riffleTo cX5_riffleTo 5 (some .int), Cond.methodLink RL 51 yX8_riffle]
def zA_15 : List Cond := [Cond.instanceMethod yX8_riffle, Cond.selects RX8 yX8_riffle yX8_riffle, Cond.code yX8_riffle cX8_riffle 2 (some .int), Cond.methodLink RX8 117 yX8_laysRiffle, Cond.instanceMethod yX8_laysRiffle, Cond.selects RX8 yX8_laysRiffle yX8_laysRiffle, Cond.code yX8_laysRiffle cX8_laysRiffle 6 none, Cond.methodLink RL 52 yX7_turn, Cond.instanceMethod yX7_turn, Cond.selects RX7 yX7_turn yX7_turn, Cond.code yX7_turn cX7_turn 1 (some .int), Cond.methodLink RL 55 yX8_turn, Cond.instanceMethod yX8_turn, Cond.selects RX8 yX8_turn yX8_turn, Cond.code yX8_turn cX8_turn 1 (some .int), Cond.methodLink RX8 121 yX8_laysTurn, Cond.instanceMethod yX8_laysTurn, Cond.selects RX8 yX8_laysTurn yX8_laysTurn, Cond.code yX8_laysTurn cX8_laysTurn 3 none, Cond.methodLink RL 56 yX7_restart, Cond.instanceMethod yX7_restart, Cond.selects RX7 yX7_restart yX7_restart, Cond.code yX7_restart cX7_restart 2 (some .int), Cond.constantLong RX7 125 (-81985529216486896), Cond.methodLink RX7 122 yX7_placesMoved]
def zA_16 : List Cond := [Cond.instanceMethod yX7_placesMoved, Cond.selects RX7 yX7_placesMoved yX7_placesMoved, Cond.code yX7_placesMoved cX7_placesMoved 1 (some .int), Cond.methodLink RX7 153 yX3_fixedPlaces, Cond.static yX3_fixedPlaces, Cond.code yX3_fixedPlaces cX3_fixedPlaces 5 (some .int), Cond.methodLink RX7 185 yJ6_bitCount_0f7a4, Cond.static yJ6_bitCount_0f7a4, Cond.initialized RJ6, Cond.code yJ6_bitCount_0f7a4 cJ6_bitCount_0f7a4 1 (some .int), Cond.constant RJ6 265 (1431655765), Cond.constant RJ6 266 (858993459), Cond.constant RJ6 267 (252645135), Cond.methodLink RL 59 yX8_restart, Cond.instanceMethod yX8_restart, Cond.selects RX8 yX8_restart yX8_restart, Cond.code yX8_restart cX8_restart 3 (some .int), Cond.methodLink RX8 125 yX8_moved, Cond.instanceMethod yX8_moved, Cond.selects RX8 yX8_moved yX8_moved, Cond.code yX8_moved cX8_moved 3 (some .int), Cond.methodLink RL 60 yX7_at, Cond.instanceMethod yX7_at, Cond.selects RX7 yX7_at yX7_at, Cond.code yX7_at cX7_at 2 (some .int)]
def zA_17 : List Cond := [Cond.methodLink RL 63 yX8_at, Cond.instanceMethod yX8_at, Cond.selects RX8 yX8_at yX8_at, Cond.code yX8_at cX8_at 2 (some .int), Cond.methodLink RL 64 yX7_where, Cond.instanceMethod yX7_where, Cond.selects RX7 yX7_where yX7_where, Cond.code yX7_where cX7_where 2 (some .int), Cond.methodLink RX7 134 yX3_to, Cond.methodLink RL 67 yX8_where, Cond.instanceMethod yX8_where, Cond.selects RX8 yX8_where yX8_where, Cond.code yX8_where cX8_where 4 (some .int), Cond.methodLink RL 68 yX7_of, Cond.instanceMethod yX7_of, Cond.selects RX7 yX7_of yX7_of, Cond.code yX7_of cX7_of 5 (some .int), Cond.methodLink RX7 137 yX7_isMarkOrTrick, Cond.instanceMethod yX7_isMarkOrTrick, Cond.selects RX7 yX7_isMarkOrTrick yX7_isMarkOrTrick, Cond.code yX7_isMarkOrTrick cX7_isMarkOrTrick 2 (some .boolean), Cond.methodLink RX7 140 yX7_markOrTrick, Cond.instanceMethod yX7_markOrTrick, Cond.selects RX7 yX7_markOrTrick yX7_markOrTrick, Cond.code yX7_markOrTrick cX7_markOrTrick 2 (some .long)]
def zA_18 : List Cond := [Cond.methodLink RX7 143 yX1_tell, Cond.instanceMethod yX1_tell, Cond.selects RX1 yX1_tell yX1_tell, Cond.code yX1_tell cX1_tell 9 none, Cond.methodLink RX1 15 yX3_cycleLength, Cond.methodLink RX1 21 yX3_to, Cond.methodLink RX1 24 yX1_add, Cond.instanceMethod yX1_add, Cond.selects RX1 yX1_add yX1_add, Cond.code yX1_add cX1_add 2 none, Cond.methodLink RX7 147 yX1_order, Cond.instanceMethod yX1_order, Cond.selects RX1 yX1_order yX1_order, Cond.code yX1_order cX1_order 3 (some .int), Cond.methodLink RX1 28 yX1_leastMultiple, Cond.static yX1_leastMultiple, Cond.code yX1_leastMultiple cX1_leastMultiple 3 (some .int), Cond.methodLink RX7 150 yX1_howMany, Cond.instanceMethod yX1_howMany, Cond.selects RX1 yX1_howMany yX1_howMany, Cond.code yX1_howMany cX1_howMany 3 (some .int), Cond.methodLink RX7 156 yX1_longest, Cond.instanceMethod yX1_longest, Cond.selects RX1 yX1_longest yX1_longest, Cond.code yX1_longest cX1_longest 3 (some .int)]
def zA_19 : List Cond := [Cond.methodLink RX7 159 yX7_cutsThatStay, Cond.instanceMethod yX7_cutsThatStay, Cond.selects RX7 yX7_cutsThatStay yX7_cutsThatStay, Cond.code yX7_cutsThatStay cX7_cutsThatStay 5 (some .int), Cond.methodLink RX7 195 yX5_becomesBy, Cond.static yX5_becomesBy, Cond.code yX5_becomesBy cX5_becomesBy 7 (some .long), Cond.methodLink RX5 28 yX3_to, Cond.methodLink RX7 162 yX3_inverse, Cond.static yX3_inverse, Cond.code yX3_inverse cX3_inverse 5 (some .long), Cond.methodLink RX7 166 yX6_lowestMark, Cond.instanceMethod yX6_lowestMark, Cond.selects RX6 yX6_lowestMark yX6_lowestMark, Cond.code yX6_lowestMark cX6_lowestMark 4 (some .int), Cond.methodLink RL 71 yX8_of, Cond.instanceMethod yX8_of, Cond.selects RX8 yX8_of yX8_of, Cond.code yX8_of cX8_of 3 (some .int), Cond.methodLink RX8 135 yX8_isMarkOrTrick, Cond.instanceMethod yX8_isMarkOrTrick, Cond.selects RX8 yX8_isMarkOrTrick yX8_isMarkOrTrick, Cond.code yX8_isMarkOrTrick cX8_isMarkOrTrick 2 (some .boolean), Cond.methodLink RX8 138 yX8_order, Cond.instanceMethod yX8_order]
def zA_20 : List Cond := [Cond.selects RX8 yX8_order yX8_order, Cond.code yX8_order cX8_order 4 (some .int), Cond.methodLink RX8 76 yX8_cycles, Cond.instanceMethod yX8_cycles, Cond.selects RX8 yX8_cycles yX8_cycles, Cond.code yX8_cycles cX8_cycles 6 (some .int), Cond.methodLink RX8 80 yX8_common, Cond.static yX8_common, Cond.code yX8_common cX8_common 5 (some .int), Cond.methodLink RX8 141 yX8_fixed, Cond.instanceMethod yX8_fixed, Cond.selects RX8 yX8_fixed yX8_fixed, Cond.code yX8_fixed cX8_fixed 4 (some .int), Cond.methodLink RX8 144 yX8_longest, Cond.instanceMethod yX8_longest, Cond.selects RX8 yX8_longest yX8_longest, Cond.code yX8_longest cX8_longest 4 (some .int), Cond.methodLink RX8 147 yX8_cutsWith, Cond.instanceMethod yX8_cutsWith, Cond.selects RX8 yX8_cutsWith yX8_cutsWith, Cond.code yX8_cutsWith cX8_cutsWith 4 (some .int), Cond.methodLink RX8 128 yX8_doCommute, Cond.instanceMethod yX8_doCommute, Cond.selects RX8 yX8_doCommute yX8_doCommute, Cond.code yX8_doCommute cX8_doCommute 5 (some .boolean)]
def zA_21 : List Cond := [Cond.methodLink RX8 150 yX8_laysInverse, Cond.instanceMethod yX8_laysInverse, Cond.selects RX8 yX8_laysInverse yX8_laysInverse, Cond.code yX8_laysInverse cX8_laysInverse 4 none, Cond.methodLink RX8 154 yX8_markAs, Cond.instanceMethod yX8_markAs, Cond.selects RX8 yX8_markAs yX8_markAs, Cond.code yX8_markAs cX8_markAs 3 (some .int), Cond.methodLink RX8 132 yX8_areAlike, Cond.instanceMethod yX8_areAlike, Cond.selects RX8 yX8_areAlike yX8_areAlike, Cond.code yX8_areAlike cX8_areAlike 5 (some .boolean), Cond.methodLink RL 72 yX7_image, Cond.instanceMethod yX7_image, Cond.selects RX7 yX7_image yX7_image, Cond.code yX7_image cX7_image 4 (some .int), Cond.methodLink RX7 169 yX3_toAfter, Cond.methodLink RL 76 yX8_image, Cond.instanceMethod yX8_image, Cond.selects RX8 yX8_image yX8_image, Cond.code yX8_image cX8_image 4 (some .int), Cond.methodLink RL 77 yX7_commuting, Cond.instanceMethod yX7_commuting, Cond.selects RX7 yX7_commuting yX7_commuting, Cond.code yX7_commuting cX7_commuting 2 (some .long)]
def zA_22 : List Cond := [Cond.constantLong RX7 173 (-1), Cond.methodLink RX7 175 yX1_marksThatCommute, Cond.instanceMethod yX1_marksThatCommute, Cond.selects RX1 yX1_marksThatCommute yX1_marksThatCommute, Cond.code yX1_marksThatCommute cX1_marksThatCommute 5 (some .long), Cond.methodLink RL 81 yX8_commuting, Cond.instanceMethod yX8_commuting, Cond.selects RX8 yX8_commuting yX8_commuting, Cond.code yX8_commuting cX8_commuting 6 (some .long), Cond.constantLong RX8 157 (-1), Cond.methodLink RL 82 yX7_commute, Cond.instanceMethod yX7_commute, Cond.selects RX7 yX7_commute yX7_commute, Cond.code yX7_commute cX7_commute 7 (some .int), Cond.methodLink RL 85 yX8_commute, Cond.instanceMethod yX8_commute, Cond.selects RX8 yX8_commute yX8_commute, Cond.code yX8_commute cX8_commute 3 (some .int), Cond.methodLink RL 86 yX7_count, Cond.instanceMethod yX7_count, Cond.selects RX7 yX7_count yX7_count, Cond.code yX7_count cX7_count 2 (some .int), Cond.methodLink RL 89 yX8_count, Cond.instanceMethod yX8_count, Cond.selects RX8 yX8_count yX8_count]
def zA_23 : List Cond := [Cond.code yX8_count cX8_count 2 (some .int), Cond.methodLink RX8 159 yX8_inPlace, Cond.instanceMethod yX8_inPlace, Cond.selects RX8 yX8_inPlace yX8_inPlace, Cond.code yX8_inPlace cX8_inPlace 3 (some .int), Cond.methodLink RX8 162 yX8_isInOrder, Cond.instanceMethod yX8_isInOrder, Cond.selects RX8 yX8_isInOrder yX8_isInOrder, Cond.code yX8_isInOrder cX8_isInOrder 1 (some .boolean), Cond.methodLink RL 90 yX7_spread, Cond.instanceMethod yX7_spread, Cond.selects RX7 yX7_spread yX7_spread, Cond.code yX7_spread cX7_spread 5 (some .long), Cond.methodLink RX7 179 yX0_ofDouble, Cond.static yX0_ofDouble, Cond.initialized RX0, Cond.code yX0_ofDouble cX0_ofDouble 7 (some .long), Cond.constantDouble RX0 7 (4611686018427387904), Cond.constantDouble RX0 11 (4841369599423283200), Cond.methodLink RL 94 yX8_spread, Cond.instanceMethod yX8_spread, Cond.selects RX8 yX8_spread yX8_spread, Cond.code yX8_spread cX8_spread 5 (some .long), Cond.methodLink RX8 166 yJxe99ae_doubleToLongBits_ccdee, Cond.static yJxe99ae_doubleToLongBits_ccdee]
def zA_24 : List Cond := [Cond.initialized RJxe99ae, Cond.code yJxe99ae_doubleToLongBits_ccdee cJxe99ae_doubleToLongBits_ccdee 2 (some .long), Cond.methodLink RJxe99ae 134 ⟨"java/lang/Double", "doubleToRawLongBits", "(D)J"⟩, Cond.native ⟨"java/lang/Double", "doubleToRawLongBits", "(D)J"⟩, Cond.static ⟨"java/lang/Double", "doubleToRawLongBits", "(D)J"⟩, Cond.constantLong RJxe99ae 137 (9221120237041090560), Cond.methodLink RJxe99ae 122 yJxe99ae_isNaN_b9ae7, Cond.static yJxe99ae_isNaN_b9ae7, Cond.code yJxe99ae_isNaN_b9ae7 cJxe99ae_isNaN_b9ae7 2 (some .boolean), Cond.methodLink RL 95 yX7_share, Cond.instanceMethod yX7_share, Cond.selects RX7 yX7_share yX7_share, Cond.code yX7_share cX7_share 2 (some .int), Cond.methodLink RX7 191 yX0_ofShare, Cond.static yX0_ofShare, Cond.code yX0_ofShare cX0_ofShare 4 (some .int), Cond.constantFloat RX0 13 (1258291200), Cond.methodLink RL 98 yX8_share, Cond.instanceMethod yX8_share, Cond.selects RX8 yX8_share yX8_share, Cond.code yX8_share cX8_share 3 (some .int), Cond.methodLink RX8 172 yJxf58ca_floatToIntBits_5c35a, Cond.static yJxf58ca_floatToIntBits_5c35a, Cond.initialized RJxf58ca, Cond.code yJxf58ca_floatToIntBits_5c35a cJxf58ca_floatToIntBits_5c35a 1 (some .int)]
def zA_25 : List Cond := [Cond.methodLink RJxf58ca 74 ⟨"java/lang/Float", "floatToRawIntBits", "(F)I"⟩, Cond.native ⟨"java/lang/Float", "floatToRawIntBits", "(F)I"⟩, Cond.static ⟨"java/lang/Float", "floatToRawIntBits", "(F)I"⟩, Cond.constant RJxf58ca 77 (2143289344), Cond.methodLink RJxf58ca 59 yJxf58ca_isNaN_12338, Cond.static yJxf58ca_isNaN_12338, Cond.code yJxf58ca_isNaN_12338 cJxf58ca_isNaN_12338 1 (some .boolean), Cond.methodLink RL 99 yX7_byCut, Cond.instanceMethod yX7_byCut, Cond.selects RX7 yX7_byCut yX7_byCut, Cond.code yX7_byCut cX7_byCut 4 (some .int), Cond.methodLink RL 102 yX8_byCut, Cond.instanceMethod yX8_byCut, Cond.selects RX8 yX8_byCut yX8_byCut, Cond.code yX8_byCut cX8_byCut 4 (some .int), Cond.methodLink RX8 178 yX8_laysByCut, Cond.instanceMethod yX8_laysByCut, Cond.selects RX8 yX8_laysByCut yX8_laysByCut, Cond.code yX8_laysByCut cX8_laysByCut 4 none, Cond.methodLink RL 103 yX7_becomes, Cond.instanceMethod yX7_becomes, Cond.selects RX7 yX7_becomes yX7_becomes, Cond.code yX7_becomes cX7_becomes 3 (some .int), Cond.methodLink RL 106 yX8_becomes, Cond.instanceMethod yX8_becomes]
def zA_26 : List Cond := [Cond.selects RX8 yX8_becomes yX8_becomes, Cond.code yX8_becomes cX8_becomes 3 (some .int), Cond.methodLink RL 107 yX7_ordersIn, Cond.instanceMethod yX7_ordersIn, Cond.selects RX7 yX7_ordersIn yX7_ordersIn, Cond.code yX7_ordersIn cX7_ordersIn 8 (some .int), Cond.methodLink RL 110 yX8_ordersIn, Cond.instanceMethod yX8_ordersIn, Cond.selects RX8 yX8_ordersIn yX8_ordersIn, Cond.code yX8_ordersIn cX8_ordersIn 5 (some .int), Cond.methodLink RL 111 yX7_fewestSteps, Cond.instanceMethod yX7_fewestSteps, Cond.selects RX7 yX7_fewestSteps yX7_fewestSteps, Cond.code yX7_fewestSteps cX7_fewestSteps 2 (some .int), Cond.methodLink RX7 199 yX7_lowestWay, Cond.instanceMethod yX7_lowestWay, Cond.selects RX7 yX7_lowestWay yX7_lowestWay, Cond.code yX7_lowestWay cX7_lowestWay 4 (some .int), Cond.methodLink RX7 233 yX7_ordersDeck, Cond.instanceMethod yX7_ordersDeck, Cond.selects RX7 yX7_ordersDeck yX7_ordersDeck, Cond.code yX7_ordersDeck cX7_ordersDeck 6 (some .boolean), Cond.methodLink RX7 205 yX7_stepOfWay, Cond.static yX7_stepOfWay, Cond.code yX7_stepOfWay cX7_stepOfWay 3 (some .int)]
def zA_27 : List Cond := [Cond.methodLink RX7 237 yX5_stepTo, Cond.methodLink RL 114 yX8_fewestSteps, Cond.instanceMethod yX8_fewestSteps, Cond.selects RX8 yX8_fewestSteps yX8_fewestSteps, Cond.code yX8_fewestSteps cX8_fewestSteps 2 (some .int), Cond.methodLink RX8 189 yX8_leastSteps, Cond.instanceMethod yX8_leastSteps, Cond.selects RX8 yX8_leastSteps yX8_leastSteps, Cond.code yX8_leastSteps cX8_leastSteps 3 (some .int), Cond.methodLink RX8 185 yX8_areOrdering, Cond.instanceMethod yX8_areOrdering, Cond.selects RX8 yX8_areOrdering yX8_areOrdering, Cond.code yX8_areOrdering cX8_areOrdering 5 (some .boolean), Cond.methodLink RX8 182 yX8_laysStep, Cond.instanceMethod yX8_laysStep, Cond.selects RX8 yX8_laysStep yX8_laysStep, Cond.code yX8_laysStep cX8_laysStep 2 none, Cond.methodLink RL 115 yX7_firstStep, Cond.instanceMethod yX7_firstStep, Cond.selects RX7 yX7_firstStep yX7_firstStep, Cond.code yX7_firstStep cX7_firstStep 2 (some .int), Cond.methodLink RX7 202 yX7_fewestSteps, Cond.methodLink RL 118 yX8_firstStep, Cond.instanceMethod yX8_firstStep, Cond.selects RX8 yX8_firstStep yX8_firstStep]
def zA_28 : List Cond := [Cond.code yX8_firstStep cX8_firstStep 3 (some .int), Cond.methodLink RL 121 yX7_put, Cond.instanceMethod yX7_put, Cond.selects RX7 yX7_put yX7_put, Cond.code yX7_put cX7_put 5 (some .int), Cond.methodLink RX7 209 yX7_charactersIn, Cond.static yX7_charactersIn, Cond.code yX7_charactersIn cX7_charactersIn 4 (some .int), Cond.methodLink RX7 212 yX7_codeAt, Cond.static yX7_codeAt, Cond.code yX7_codeAt cX7_codeAt 3 (some .int), Cond.methodLink RX7 215 yX7_append, Cond.instanceMethod yX7_append, Cond.selects RX7 yX7_append yX7_append, Cond.code yX7_append cX7_append 2 none, Cond.methodLink RL 125 yX8_put, Cond.instanceMethod yX8_put, Cond.selects RX8 yX8_put yX8_put, Cond.code yX8_put cX8_put 8 (some .int), Cond.constantLong RX8 192 (255), Cond.methodLink RL 126 yX7_wipe, Cond.instanceMethod yX7_wipe, Cond.selects RX7 yX7_wipe yX7_wipe, Cond.code yX7_wipe cX7_wipe 2 (some .int), Cond.methodLink RL 129 yX8_wipe]
def zA_29 : List Cond := [Cond.instanceMethod yX8_wipe, Cond.selects RX8 yX8_wipe yX8_wipe, Cond.code yX8_wipe cX8_wipe 2 (some .int), Cond.methodLink RL 130 yX7_fault, Cond.instanceMethod yX7_fault, Cond.selects RX7 yX7_fault yX7_fault, Cond.code yX7_fault cX7_fault 1 (some .int), Cond.methodLink RL 133 yX8_fault, Cond.instanceMethod yX8_fault, Cond.selects RX8 yX8_fault yX8_fault, Cond.code yX8_fault cX8_fault 1 (some .int), Cond.methodLink RL 134 yX7_undo, Cond.instanceMethod yX7_undo, Cond.selects RX7 yX7_undo yX7_undo, Cond.code yX7_undo cX7_undo 1 (some .int), Cond.methodLink RX7 219 yX4_bring, Cond.instanceMethod yX4_bring, Cond.selects RX4 yX4_bring yX4_bring, Cond.code yX4_bring cX4_bring 3 none, Cond.methodLink RL 137 yX8_undo, Cond.instanceMethod yX8_undo, Cond.selects RX8 yX8_undo yX8_undo, Cond.code yX8_undo cX8_undo 2 (some .int), Cond.methodLink RL 138 yX7_save, Cond.instanceMethod yX7_save]
def zA_30 : List Cond := [Cond.selects RX7 yX7_save yX7_save, Cond.code yX7_save cX7_save 2 (some .int), Cond.methodLink RX7 223 yX4_hasPlace, Cond.methodLink RL 141 yX8_save, Cond.instanceMethod yX8_save, Cond.selects RX8 yX8_save yX8_save, Cond.code yX8_save cX8_save 3 (some .int), Cond.methodLink RL 142 yX7_restore, Cond.instanceMethod yX7_restore, Cond.selects RX7 yX7_restore yX7_restore, Cond.code yX7_restore cX7_restore 2 (some .int), Cond.methodLink RX7 227 yX4_isFull, Cond.instanceMethod yX4_isFull, Cond.selects RX4 yX4_isFull yX4_isFull, Cond.code yX4_isFull cX4_isFull 2 (some .boolean), Cond.methodLink RL 145 yX8_restore, Cond.instanceMethod yX8_restore, Cond.selects RX8 yX8_restore yX8_restore, Cond.code yX8_restore cX8_restore 3 (some .int)]
def zC : List Cond := wsX10 ++ (wsX20 ++ (wsX40 ++ (wsX60 ++ (wsX70 ++ (wsX80)))))
def zAll : List Cond := zA_0 ++ (zA_1 ++ (zA_2 ++ (zA_3 ++ (zA_4 ++ (zA_5 ++ (zA_6 ++ (zA_7 ++ (zA_8 ++ (zA_9 ++ (zA_10 ++ (zA_11 ++ (zA_12 ++ (zA_13 ++ (zA_14 ++ (zA_15 ++ (zA_16 ++ (zA_17 ++ (zA_18 ++ (zA_19 ++ (zA_20 ++ (zA_21 ++ (zA_22 ++ (zA_23 ++ (zA_24 ++ (zA_25 ++ (zA_26 ++ (zA_27 ++ (zA_28 ++ (zA_29 ++ (zA_30 ++ (zC)))))))))))))))))))))))))))))))
theorem zc_0 : ∀ w ∈ zA_0, w ∈ zAll := fun _ h => List.mem_append_left _ h
theorem zc_1 : ∀ w ∈ zA_1, w ∈ zAll := fun _ h => List.mem_append_right _ (List.mem_append_left _ h)
theorem zc_2 : ∀ w ∈ zA_2, w ∈ zAll := fun _ h => List.mem_append_right _ (List.mem_append_right _ (List.mem_append_left _ h))
theorem zc_3 : ∀ w ∈ zA_3, w ∈ zAll := fun _ h => List.mem_append_right _ (List.mem_append_right _ (List.mem_append_right _ (List.mem_append_left _ h)))
theorem zc_4 : ∀ w ∈ zA_4, w ∈ zAll := fun _ h => List.mem_append_right _ (List.mem_append_right _ (List.mem_append_right _ (List.mem_append_right _ (List.mem_append_left _ h))))
theorem zc_5 : ∀ w ∈ zA_5, w ∈ zAll := fun _ h => List.mem_append_right _ (List.mem_append_right _ (List.mem_append_right _ (List.mem_append_right _ (List.mem_append_right _ (List.mem_append_left _ h)))))
theorem zc_6 : ∀ w ∈ zA_6, w ∈ zAll := fun _ h => List.mem_append_right _ (List.mem_append_right _ (List.mem_append_right _ (List.mem_append_right _ (List.mem_append_right _ (List.mem_append_right _ (List.mem_append_left _ h))))))
theorem zc_7 : ∀ w ∈ zA_7, w ∈ zAll := fun _ h => List.mem_append_right _ (List.mem_append_right _ (List.mem_append_right _ (List.mem_append_right _ (List.mem_append_right _ (List.mem_append_right _ (List.mem_append_right _ (List.mem_append_left _ h)))))))
theorem zc_8 : ∀ w ∈ zA_8, w ∈ zAll := fun _ h => List.mem_append_right _ (List.mem_append_right _ (List.mem_append_right _ (List.mem_append_right _ (List.mem_append_right _ (List.mem_append_right _ (List.mem_append_right _ (List.mem_append_right _ (List.mem_append_left _ h))))))))
theorem zc_9 : ∀ w ∈ zA_9, w ∈ zAll := fun _ h => List.mem_append_right _ (List.mem_append_right _ (List.mem_append_right _ (List.mem_append_right _ (List.mem_append_right _ (List.mem_append_right _ (List.mem_append_right _ (List.mem_append_right _ (List.mem_append_right _ (List.mem_append_left _ h)))))))))
theorem zc_10 : ∀ w ∈ zA_10, w ∈ zAll := fun _ h => List.mem_append_right _ (List.mem_append_right _ (List.mem_append_right _ (List.mem_append_right _ (List.mem_append_right _ (List.mem_append_right _ (List.mem_append_right _ (List.mem_append_right _ (List.mem_append_right _ (List.mem_append_right _ (List.mem_append_left _ h))))))))))
theorem zc_11 : ∀ w ∈ zA_11, w ∈ zAll := fun _ h => List.mem_append_right _ (List.mem_append_right _ (List.mem_append_right _ (List.mem_append_right _ (List.mem_append_right _ (List.mem_append_right _ (List.mem_append_right _ (List.mem_append_right _ (List.mem_append_right _ (List.mem_append_right _ (List.mem_append_right _ (List.mem_append_left _ h)))))))))))
theorem zc_12 : ∀ w ∈ zA_12, w ∈ zAll := fun _ h => List.mem_append_right _ (List.mem_append_right _ (List.mem_append_right _ (List.mem_append_right _ (List.mem_append_right _ (List.mem_append_right _ (List.mem_append_right _ (List.mem_append_right _ (List.mem_append_right _ (List.mem_append_right _ (List.mem_append_right _ (List.mem_append_right _ (List.mem_append_left _ h))))))))))))
theorem zc_13 : ∀ w ∈ zA_13, w ∈ zAll := fun _ h => List.mem_append_right _ (List.mem_append_right _ (List.mem_append_right _ (List.mem_append_right _ (List.mem_append_right _ (List.mem_append_right _ (List.mem_append_right _ (List.mem_append_right _ (List.mem_append_right _ (List.mem_append_right _ (List.mem_append_right _ (List.mem_append_right _ (List.mem_append_right _ (List.mem_append_left _ h)))))))))))))
theorem zc_14 : ∀ w ∈ zA_14, w ∈ zAll := fun _ h => List.mem_append_right _ (List.mem_append_right _ (List.mem_append_right _ (List.mem_append_right _ (List.mem_append_right _ (List.mem_append_right _ (List.mem_append_right _ (List.mem_append_right _ (List.mem_append_right _ (List.mem_append_right _ (List.mem_append_right _ (List.mem_append_right _ (List.mem_append_right _ (List.mem_append_right _ (List.mem_append_left _ h))))))))))))))
theorem zc_15 : ∀ w ∈ zA_15, w ∈ zAll := fun _ h => List.mem_append_right _ (List.mem_append_right _ (List.mem_append_right _ (List.mem_append_right _ (List.mem_append_right _ (List.mem_append_right _ (List.mem_append_right _ (List.mem_append_right _ (List.mem_append_right _ (List.mem_append_right _ (List.mem_append_right _ (List.mem_append_right _ (List.mem_append_right _ (List.mem_append_right _ (List.mem_append_right _ (List.mem_append_left _ h)))))))))))))))
theorem zc_16 : ∀ w ∈ zA_16, w ∈ zAll := fun _ h => List.mem_append_right _ (List.mem_append_right _ (List.mem_append_right _ (List.mem_append_right _ (List.mem_append_right _ (List.mem_append_right _ (List.mem_append_right _ (List.mem_append_right _ (List.mem_append_right _ (List.mem_append_right _ (List.mem_append_right _ (List.mem_append_right _ (List.mem_append_right _ (List.mem_append_right _ (List.mem_append_right _ (List.mem_append_right _ (List.mem_append_left _ h))))))))))))))))
theorem zc_17 : ∀ w ∈ zA_17, w ∈ zAll := fun _ h => List.mem_append_right _ (List.mem_append_right _ (List.mem_append_right _ (List.mem_append_right _ (List.mem_append_right _ (List.mem_append_right _ (List.mem_append_right _ (List.mem_append_right _ (List.mem_append_right _ (List.mem_append_right _ (List.mem_append_right _ (List.mem_append_right _ (List.mem_append_right _ (List.mem_append_right _ (List.mem_append_right _ (List.mem_append_right _ (List.mem_append_right _ (List.mem_append_left _ h)))))))))))))))))
theorem zc_18 : ∀ w ∈ zA_18, w ∈ zAll := fun _ h => List.mem_append_right _ (List.mem_append_right _ (List.mem_append_right _ (List.mem_append_right _ (List.mem_append_right _ (List.mem_append_right _ (List.mem_append_right _ (List.mem_append_right _ (List.mem_append_right _ (List.mem_append_right _ (List.mem_append_right _ (List.mem_append_right _ (List.mem_append_right _ (List.mem_append_right _ (List.mem_append_right _ (List.mem_append_right _ (List.mem_append_right _ (List.mem_append_right _ (List.mem_append_left _ h))))))))))))))))))
theorem zc_19 : ∀ w ∈ zA_19, w ∈ zAll := fun _ h => List.mem_append_right _ (List.mem_append_right _ (List.mem_append_right _ (List.mem_append_right _ (List.mem_append_right _ (List.mem_append_right _ (List.mem_append_right _ (List.mem_append_right _ (List.mem_append_right _ (List.mem_append_right _ (List.mem_append_right _ (List.mem_append_right _ (List.mem_append_right _ (List.mem_append_right _ (List.mem_append_right _ (List.mem_append_right _ (List.mem_append_right _ (List.mem_append_right _ (List.mem_append_right _ (List.mem_append_left _ h)))))))))))))))))))
theorem zc_20 : ∀ w ∈ zA_20, w ∈ zAll := fun _ h => List.mem_append_right _ (List.mem_append_right _ (List.mem_append_right _ (List.mem_append_right _ (List.mem_append_right _ (List.mem_append_right _ (List.mem_append_right _ (List.mem_append_right _ (List.mem_append_right _ (List.mem_append_right _ (List.mem_append_right _ (List.mem_append_right _ (List.mem_append_right _ (List.mem_append_right _ (List.mem_append_right _ (List.mem_append_right _ (List.mem_append_right _ (List.mem_append_right _ (List.mem_append_right _ (List.mem_append_right _ (List.mem_append_left _ h))))))))))))))))))))
theorem zc_21 : ∀ w ∈ zA_21, w ∈ zAll := fun _ h => List.mem_append_right _ (List.mem_append_right _ (List.mem_append_right _ (List.mem_append_right _ (List.mem_append_right _ (List.mem_append_right _ (List.mem_append_right _ (List.mem_append_right _ (List.mem_append_right _ (List.mem_append_right _ (List.mem_append_right _ (List.mem_append_right _ (List.mem_append_right _ (List.mem_append_right _ (List.mem_append_right _ (List.mem_append_right _ (List.mem_append_right _ (List.mem_append_right _ (List.mem_append_right _ (List.mem_append_right _ (List.mem_append_right _ (List.mem_append_left _ h)))))))))))))))))))))
theorem zc_22 : ∀ w ∈ zA_22, w ∈ zAll := fun _ h => List.mem_append_right _ (List.mem_append_right _ (List.mem_append_right _ (List.mem_append_right _ (List.mem_append_right _ (List.mem_append_right _ (List.mem_append_right _ (List.mem_append_right _ (List.mem_append_right _ (List.mem_append_right _ (List.mem_append_right _ (List.mem_append_right _ (List.mem_append_right _ (List.mem_append_right _ (List.mem_append_right _ (List.mem_append_right _ (List.mem_append_right _ (List.mem_append_right _ (List.mem_append_right _ (List.mem_append_right _ (List.mem_append_right _ (List.mem_append_right _ (List.mem_append_left _ h))))))))))))))))))))))
theorem zc_23 : ∀ w ∈ zA_23, w ∈ zAll := fun _ h => List.mem_append_right _ (List.mem_append_right _ (List.mem_append_right _ (List.mem_append_right _ (List.mem_append_right _ (List.mem_append_right _ (List.mem_append_right _ (List.mem_append_right _ (List.mem_append_right _ (List.mem_append_right _ (List.mem_append_right _ (List.mem_append_right _ (List.mem_append_right _ (List.mem_append_right _ (List.mem_append_right _ (List.mem_append_right _ (List.mem_append_right _ (List.mem_append_right _ (List.mem_append_right _ (List.mem_append_right _ (List.mem_append_right _ (List.mem_append_right _ (List.mem_append_right _ (List.mem_append_left _ h)))))))))))))))))))))))
theorem zc_24 : ∀ w ∈ zA_24, w ∈ zAll := fun _ h => List.mem_append_right _ (List.mem_append_right _ (List.mem_append_right _ (List.mem_append_right _ (List.mem_append_right _ (List.mem_append_right _ (List.mem_append_right _ (List.mem_append_right _ (List.mem_append_right _ (List.mem_append_right _ (List.mem_append_right _ (List.mem_append_right _ (List.mem_append_right _ (List.mem_append_right _ (List.mem_append_right _ (List.mem_append_right _ (List.mem_append_right _ (List.mem_append_right _ (List.mem_append_right _ (List.mem_append_right _ (List.mem_append_right _ (List.mem_append_right _ (List.mem_append_right _ (List.mem_append_right _ (List.mem_append_left _ h))))))))))))))))))))))))
theorem zc_25 : ∀ w ∈ zA_25, w ∈ zAll := fun _ h => List.mem_append_right _ (List.mem_append_right _ (List.mem_append_right _ (List.mem_append_right _ (List.mem_append_right _ (List.mem_append_right _ (List.mem_append_right _ (List.mem_append_right _ (List.mem_append_right _ (List.mem_append_right _ (List.mem_append_right _ (List.mem_append_right _ (List.mem_append_right _ (List.mem_append_right _ (List.mem_append_right _ (List.mem_append_right _ (List.mem_append_right _ (List.mem_append_right _ (List.mem_append_right _ (List.mem_append_right _ (List.mem_append_right _ (List.mem_append_right _ (List.mem_append_right _ (List.mem_append_right _ (List.mem_append_right _ (List.mem_append_left _ h)))))))))))))))))))))))))
theorem zc_26 : ∀ w ∈ zA_26, w ∈ zAll := fun _ h => List.mem_append_right _ (List.mem_append_right _ (List.mem_append_right _ (List.mem_append_right _ (List.mem_append_right _ (List.mem_append_right _ (List.mem_append_right _ (List.mem_append_right _ (List.mem_append_right _ (List.mem_append_right _ (List.mem_append_right _ (List.mem_append_right _ (List.mem_append_right _ (List.mem_append_right _ (List.mem_append_right _ (List.mem_append_right _ (List.mem_append_right _ (List.mem_append_right _ (List.mem_append_right _ (List.mem_append_right _ (List.mem_append_right _ (List.mem_append_right _ (List.mem_append_right _ (List.mem_append_right _ (List.mem_append_right _ (List.mem_append_right _ (List.mem_append_left _ h))))))))))))))))))))))))))
theorem zc_27 : ∀ w ∈ zA_27, w ∈ zAll := fun _ h => List.mem_append_right _ (List.mem_append_right _ (List.mem_append_right _ (List.mem_append_right _ (List.mem_append_right _ (List.mem_append_right _ (List.mem_append_right _ (List.mem_append_right _ (List.mem_append_right _ (List.mem_append_right _ (List.mem_append_right _ (List.mem_append_right _ (List.mem_append_right _ (List.mem_append_right _ (List.mem_append_right _ (List.mem_append_right _ (List.mem_append_right _ (List.mem_append_right _ (List.mem_append_right _ (List.mem_append_right _ (List.mem_append_right _ (List.mem_append_right _ (List.mem_append_right _ (List.mem_append_right _ (List.mem_append_right _ (List.mem_append_right _ (List.mem_append_right _ (List.mem_append_left _ h)))))))))))))))))))))))))))
theorem zc_28 : ∀ w ∈ zA_28, w ∈ zAll := fun _ h => List.mem_append_right _ (List.mem_append_right _ (List.mem_append_right _ (List.mem_append_right _ (List.mem_append_right _ (List.mem_append_right _ (List.mem_append_right _ (List.mem_append_right _ (List.mem_append_right _ (List.mem_append_right _ (List.mem_append_right _ (List.mem_append_right _ (List.mem_append_right _ (List.mem_append_right _ (List.mem_append_right _ (List.mem_append_right _ (List.mem_append_right _ (List.mem_append_right _ (List.mem_append_right _ (List.mem_append_right _ (List.mem_append_right _ (List.mem_append_right _ (List.mem_append_right _ (List.mem_append_right _ (List.mem_append_right _ (List.mem_append_right _ (List.mem_append_right _ (List.mem_append_right _ (List.mem_append_left _ h))))))))))))))))))))))))))))
theorem zc_29 : ∀ w ∈ zA_29, w ∈ zAll := fun _ h => List.mem_append_right _ (List.mem_append_right _ (List.mem_append_right _ (List.mem_append_right _ (List.mem_append_right _ (List.mem_append_right _ (List.mem_append_right _ (List.mem_append_right _ (List.mem_append_right _ (List.mem_append_right _ (List.mem_append_right _ (List.mem_append_right _ (List.mem_append_right _ (List.mem_append_right _ (List.mem_append_right _ (List.mem_append_right _ (List.mem_append_right _ (List.mem_append_right _ (List.mem_append_right _ (List.mem_append_right _ (List.mem_append_right _ (List.mem_append_right _ (List.mem_append_right _ (List.mem_append_right _ (List.mem_append_right _ (List.mem_append_right _ (List.mem_append_right _ (List.mem_append_right _ (List.mem_append_right _ (List.mem_append_left _ h)))))))))))))))))))))))))))))
theorem zc_30 : ∀ w ∈ zA_30, w ∈ zAll := fun _ h => List.mem_append_right _ (List.mem_append_right _ (List.mem_append_right _ (List.mem_append_right _ (List.mem_append_right _ (List.mem_append_right _ (List.mem_append_right _ (List.mem_append_right _ (List.mem_append_right _ (List.mem_append_right _ (List.mem_append_right _ (List.mem_append_right _ (List.mem_append_right _ (List.mem_append_right _ (List.mem_append_right _ (List.mem_append_right _ (List.mem_append_right _ (List.mem_append_right _ (List.mem_append_right _ (List.mem_append_right _ (List.mem_append_right _ (List.mem_append_right _ (List.mem_append_right _ (List.mem_append_right _ (List.mem_append_right _ (List.mem_append_right _ (List.mem_append_right _ (List.mem_append_right _ (List.mem_append_right _ (List.mem_append_right _ (List.mem_append_left _ h))))))))))))))))))))))))))))))
theorem zc_C : ∀ w ∈ zC, w ∈ zAll := fun _ h => List.mem_append_right _ (List.mem_append_right _ (List.mem_append_right _ (List.mem_append_right _ (List.mem_append_right _ (List.mem_append_right _ (List.mem_append_right _ (List.mem_append_right _ (List.mem_append_right _ (List.mem_append_right _ (List.mem_append_right _ (List.mem_append_right _ (List.mem_append_right _ (List.mem_append_right _ (List.mem_append_right _ (List.mem_append_right _ (List.mem_append_right _ (List.mem_append_right _ (List.mem_append_right _ (List.mem_append_right _ (List.mem_append_right _ (List.mem_append_right _ (List.mem_append_right _ (List.mem_append_right _ (List.mem_append_right _ (List.mem_append_right _ (List.mem_append_right _ (List.mem_append_right _ (List.mem_append_right _ (List.mem_append_right _ (List.mem_append_right _ (h)))))))))))))))))))))))))))))))
theorem zinX1 : ∀ w ∈ wsX10, w ∈ zAll := fun w h => zc_C w (List.mem_append_left _ h)
theorem zinX2 : ∀ w ∈ wsX20, w ∈ zAll := fun w h => zc_C w (List.mem_append_right _ (List.mem_append_left _ h))
theorem zinX4 : ∀ w ∈ wsX40, w ∈ zAll := fun w h => zc_C w (List.mem_append_right _ (List.mem_append_right _ (List.mem_append_left _ h)))
theorem zinX6 : ∀ w ∈ wsX60, w ∈ zAll := fun w h => zc_C w (List.mem_append_right _ (List.mem_append_right _ (List.mem_append_right _ (List.mem_append_left _ h))))
theorem zinX7 : ∀ w ∈ wsX70, w ∈ zAll := fun w h => zc_C w (List.mem_append_right _ (List.mem_append_right _ (List.mem_append_right _ (List.mem_append_right _ (List.mem_append_left _ h)))))
theorem zinX8 : ∀ w ∈ wsX80, w ∈ zAll := fun w h => zc_C w (List.mem_append_right _ (List.mem_append_right _ (List.mem_append_right _ (List.mem_append_right _ (List.mem_append_right _ (h))))))
theorem zw_0 : Cond.classLink RL 7 RX7 ∈ zAll := zc_0 _ (List.mem_of_getElem? (i := 0) rfl)
theorem zw_1 : Cond.instantiable RX7 9 ∈ zAll := zc_0 _ (List.mem_of_getElem? (i := 1) rfl)
theorem zw_2 : Cond.initialized RX7 ∈ zAll := zc_0 _ (List.mem_of_getElem? (i := 2) rfl)
theorem zw_3 : Cond.classLink RL 10 RX8 ∈ zAll := zc_0 _ (List.mem_of_getElem? (i := 3) rfl)
theorem zw_4 : Cond.instantiable RX8 19 ∈ zAll := zc_0 _ (List.mem_of_getElem? (i := 4) rfl)
theorem zw_5 : Cond.initialized RX8 ∈ zAll := zc_0 _ (List.mem_of_getElem? (i := 5) rfl)
theorem zw_6 : Cond.constantLong RL 119 (4294967295) ∈ zAll := zc_0 _ (List.mem_of_getElem? (i := 6) rfl)
theorem zw_7 : Cond.methodLink RL 9 yX7_init ∈ zAll := zc_0 _ (List.mem_of_getElem? (i := 7) rfl)
theorem zw_8 : Cond.instanceMethod yX7_init ∈ zAll := zc_0 _ (List.mem_of_getElem? (i := 8) rfl)
theorem zw_9 : Cond.code yX7_init cX7_init 1 none ∈ zAll := zc_0 _ (List.mem_of_getElem? (i := 9) rfl)
theorem zw_10 : Cond.methodLink RX7 1 objectInit ∈ zAll := zc_0 _ (List.mem_of_getElem? (i := 10) rfl)
theorem zw_11 : Cond.instanceMethod objectInit ∈ zAll := zc_0 _ (List.mem_of_getElem? (i := 11) rfl)
theorem zw_12 : Cond.code objectInit ⟨#[0xb1]⟩ 1 none ∈ zAll := zc_0 _ (List.mem_of_getElem? (i := 12) rfl)
theorem zw_13 : Cond.classLink RX7 7 RX6 ∈ zAll := zc_0 _ (List.mem_of_getElem? (i := 13) rfl)
theorem zw_14 : Cond.instantiable RX6 5 ∈ zAll := zc_0 _ (List.mem_of_getElem? (i := 14) rfl)
theorem zw_15 : Cond.initialized RX6 ∈ zAll := zc_0 _ (List.mem_of_getElem? (i := 15) rfl)
theorem zw_16 : Cond.fieldLink RX7 10 "CutMarks" "table" "LCutMarks$Table;" ∈ zAll := zc_0 _ (List.mem_of_getElem? (i := 16) rfl)
theorem zw_17 : Cond.classLink RX7 16 RX4 ∈ zAll := zc_0 _ (List.mem_of_getElem? (i := 17) rfl)
theorem zw_18 : Cond.instantiable RX4 2 ∈ zAll := zc_0 _ (List.mem_of_getElem? (i := 18) rfl)
theorem zw_19 : Cond.initialized RX4 ∈ zAll := zc_0 _ (List.mem_of_getElem? (i := 19) rfl)
theorem zw_20 : Cond.fieldLink RX7 21 "CutMarks" "history" "LCutMarks$Shelf;" ∈ zAll := zc_0 _ (List.mem_of_getElem? (i := 20) rfl)
theorem zw_21 : Cond.fieldLink RX7 25 "CutMarks" "slots" "LCutMarks$Shelf;" ∈ zAll := zc_0 _ (List.mem_of_getElem? (i := 21) rfl)
theorem zw_22 : Cond.classLink RX7 28 RX1 ∈ zAll := zc_0 _ (List.mem_of_getElem? (i := 22) rfl)
theorem zw_23 : Cond.instantiable RX1 1 ∈ zAll := zc_0 _ (List.mem_of_getElem? (i := 23) rfl)
theorem zw_24 : Cond.initialized RX1 ∈ zAll := zc_0 _ (List.mem_of_getElem? (i := 24) rfl)
theorem zw_25 : Cond.fieldLink RX7 31 "CutMarks" "cycles" "LCutMarks$Cycles;" ∈ zAll := zc_1 _ (List.mem_of_getElem? (i := 0) rfl)
theorem zw_26 : Cond.classLink RX7 35 RX2 ∈ zAll := zc_1 _ (List.mem_of_getElem? (i := 1) rfl)
theorem zw_27 : Cond.instantiable RX2 8 ∈ zAll := zc_1 _ (List.mem_of_getElem? (i := 2) rfl)
theorem zw_28 : Cond.initialized RX2 ∈ zAll := zc_1 _ (List.mem_of_getElem? (i := 3) rfl)
theorem zw_29 : Cond.fieldLink RX7 38 "CutMarks" "reader" "LCutMarks$MarkReader;" ∈ zAll := zc_1 _ (List.mem_of_getElem? (i := 4) rfl)
theorem zw_30 : Cond.arrayClass .char ∈ zAll := zc_1 _ (List.mem_of_getElem? (i := 5) rfl)
theorem zw_31 : Cond.fieldLink RX7 42 "CutMarks" "pad" "[C" ∈ zAll := zc_1 _ (List.mem_of_getElem? (i := 6) rfl)
theorem zw_32 : Cond.fieldLink RX7 46 "CutMarks" "padLength" "I" ∈ zAll := zc_1 _ (List.mem_of_getElem? (i := 7) rfl)
theorem zw_33 : Cond.fieldLink RX7 50 "CutMarks" "undoable" "I" ∈ zAll := zc_1 _ (List.mem_of_getElem? (i := 8) rfl)
theorem zw_34 : Cond.fieldLink RX7 53 "CutMarks" "nextKept" "I" ∈ zAll := zc_1 _ (List.mem_of_getElem? (i := 9) rfl)
theorem zw_35 : Cond.instanceMethod yX6_init ∈ zAll := zc_1 _ (List.mem_of_getElem? (i := 10) rfl)
theorem zw_36 : Cond.code yX6_init cX6_init 1 none ∈ zAll := zc_1 _ (List.mem_of_getElem? (i := 11) rfl)
theorem zw_37 : Cond.methodLink RX6 3 objectInit ∈ zAll := zc_1 _ (List.mem_of_getElem? (i := 12) rfl)
theorem zw_38 : Cond.fieldLink RX6 9 "CutMarks$Table" "size" "I" ∈ zAll := zc_1 _ (List.mem_of_getElem? (i := 13) rfl)
theorem zw_39 : Cond.constantLong RX6 17 (-81985529216486896) ∈ zAll := zc_1 _ (List.mem_of_getElem? (i := 14) rfl)
theorem zw_40 : Cond.fieldLink RX6 19 "CutMarks$Table" "places" "J" ∈ zAll := zc_1 _ (List.mem_of_getElem? (i := 15) rfl)
theorem zw_41 : Cond.fieldLink RX6 23 "CutMarks$Table" "trick" "J" ∈ zAll := zc_1 _ (List.mem_of_getElem? (i := 16) rfl)
theorem zw_42 : Cond.fieldLink RX6 26 "CutMarks$Table" "markCount" "I" ∈ zAll := zc_1 _ (List.mem_of_getElem? (i := 17) rfl)
theorem zw_43 : Cond.arrayClass .long ∈ zAll := zc_1 _ (List.mem_of_getElem? (i := 18) rfl)
theorem zw_44 : Cond.fieldLink RX6 29 "CutMarks$Table" "marks" "[J" ∈ zAll := zc_1 _ (List.mem_of_getElem? (i := 19) rfl)
theorem zw_45 : Cond.methodLink RX7 18 yX4_init ∈ zAll := zc_1 _ (List.mem_of_getElem? (i := 20) rfl)
theorem zw_46 : Cond.instanceMethod yX4_init ∈ zAll := zc_1 _ (List.mem_of_getElem? (i := 21) rfl)
theorem zw_47 : Cond.code yX4_init cX4_init 4 none ∈ zAll := zc_1 _ (List.mem_of_getElem? (i := 22) rfl)
theorem zw_48 : Cond.methodLink RX4 1 objectInit ∈ zAll := zc_1 _ (List.mem_of_getElem? (i := 23) rfl)
theorem zw_49 : Cond.classLink RX4 7 RX6 ∈ zAll := zc_1 _ (List.mem_of_getElem? (i := 24) rfl)
theorem zw_50 : Cond.fieldLink RX4 9 "CutMarks$Shelf" "copies" "[LCutMarks$Table;" ∈ zAll := zc_2 _ (List.mem_of_getElem? (i := 0) rfl)
theorem zw_51 : Cond.arrayClass .boolean ∈ zAll := zc_2 _ (List.mem_of_getElem? (i := 1) rfl)
theorem zw_52 : Cond.fieldLink RX4 15 "CutMarks$Shelf" "full" "[Z" ∈ zAll := zc_2 _ (List.mem_of_getElem? (i := 2) rfl)
theorem zw_53 : Cond.instanceMethod yX1_init ∈ zAll := zc_2 _ (List.mem_of_getElem? (i := 3) rfl)
theorem zw_54 : Cond.code yX1_init cX1_init 1 none ∈ zAll := zc_2 _ (List.mem_of_getElem? (i := 4) rfl)
theorem zw_55 : Cond.methodLink RX1 3 objectInit ∈ zAll := zc_2 _ (List.mem_of_getElem? (i := 5) rfl)
theorem zw_56 : Cond.arrayClass .int ∈ zAll := zc_2 _ (List.mem_of_getElem? (i := 6) rfl)
theorem zw_57 : Cond.fieldLink RX1 9 "CutMarks$Cycles" "counts" "[I" ∈ zAll := zc_2 _ (List.mem_of_getElem? (i := 7) rfl)
theorem zw_58 : Cond.instanceMethod yX2_init ∈ zAll := zc_2 _ (List.mem_of_getElem? (i := 8) rfl)
theorem zw_59 : Cond.code yX2_init cX2_init 1 none ∈ zAll := zc_2 _ (List.mem_of_getElem? (i := 9) rfl)
theorem zw_60 : Cond.methodLink RX2 3 objectInit ∈ zAll := zc_2 _ (List.mem_of_getElem? (i := 10) rfl)
theorem zw_61 : Cond.fieldLink RX2 9 "CutMarks$MarkReader" "size" "I" ∈ zAll := zc_2 _ (List.mem_of_getElem? (i := 11) rfl)
theorem zw_62 : Cond.fieldLink RX2 15 "CutMarks$MarkReader" "state" "I" ∈ zAll := zc_2 _ (List.mem_of_getElem? (i := 12) rfl)
theorem zw_63 : Cond.constantLong RX2 20 (-81985529216486896) ∈ zAll := zc_2 _ (List.mem_of_getElem? (i := 13) rfl)
theorem zw_64 : Cond.fieldLink RX2 22 "CutMarks$MarkReader" "moves" "J" ∈ zAll := zc_2 _ (List.mem_of_getElem? (i := 14) rfl)
theorem zw_65 : Cond.fieldLink RX2 26 "CutMarks$MarkReader" "used" "I" ∈ zAll := zc_2 _ (List.mem_of_getElem? (i := 15) rfl)
theorem zw_66 : Cond.fieldLink RX2 29 "CutMarks$MarkReader" "digits" "I" ∈ zAll := zc_2 _ (List.mem_of_getElem? (i := 16) rfl)
theorem zw_67 : Cond.fieldLink RX2 32 "CutMarks$MarkReader" "inCycle" "I" ∈ zAll := zc_2 _ (List.mem_of_getElem? (i := 17) rfl)
theorem zw_68 : Cond.fieldLink RX2 35 "CutMarks$MarkReader" "first" "I" ∈ zAll := zc_2 _ (List.mem_of_getElem? (i := 18) rfl)
theorem zw_69 : Cond.fieldLink RX2 38 "CutMarks$MarkReader" "last" "I" ∈ zAll := zc_2 _ (List.mem_of_getElem? (i := 19) rfl)
theorem zw_70 : Cond.methodLink RL 12 yX8_init ∈ zAll := zc_2 _ (List.mem_of_getElem? (i := 20) rfl)
theorem zw_71 : Cond.instanceMethod yX8_init ∈ zAll := zc_2 _ (List.mem_of_getElem? (i := 21) rfl)
theorem zw_72 : Cond.code yX8_init cX8_init 1 none ∈ zAll := zc_2 _ (List.mem_of_getElem? (i := 22) rfl)
theorem zw_73 : Cond.methodLink RX8 1 objectInit ∈ zAll := zc_2 _ (List.mem_of_getElem? (i := 23) rfl)
theorem zw_74 : Cond.fieldLink RX8 7 "CutMarksModel" "s" "[I" ∈ zAll := zc_2 _ (List.mem_of_getElem? (i := 24) rfl)
theorem zw_75 : Cond.fieldLink RX8 13 "CutMarksModel" "undos" "[I" ∈ zAll := zc_3 _ (List.mem_of_getElem? (i := 0) rfl)
theorem zw_76 : Cond.fieldLink RX8 16 "CutMarksModel" "slots" "[I" ∈ zAll := zc_3 _ (List.mem_of_getElem? (i := 1) rfl)
theorem zw_77 : Cond.fieldLink RX8 19 "CutMarksModel" "hasSlot" "[Z" ∈ zAll := zc_3 _ (List.mem_of_getElem? (i := 2) rfl)
theorem zw_78 : Cond.fieldLink RX8 23 "CutMarksModel" "pad" "[I" ∈ zAll := zc_3 _ (List.mem_of_getElem? (i := 3) rfl)
theorem zw_79 : Cond.fieldLink RX8 26 "CutMarksModel" "told" "[I" ∈ zAll := zc_3 _ (List.mem_of_getElem? (i := 4) rfl)
theorem zw_80 : Cond.fieldLink RX8 29 "CutMarksModel" "isIn" "[Z" ∈ zAll := zc_3 _ (List.mem_of_getElem? (i := 5) rfl)
theorem zw_81 : Cond.fieldLink RX8 32 "CutMarksModel" "one" "[I" ∈ zAll := zc_3 _ (List.mem_of_getElem? (i := 6) rfl)
theorem zw_82 : Cond.fieldLink RX8 35 "CutMarksModel" "two" "[I" ∈ zAll := zc_3 _ (List.mem_of_getElem? (i := 7) rfl)
theorem zw_83 : Cond.fieldLink RX8 38 "CutMarksModel" "three" "[I" ∈ zAll := zc_3 _ (List.mem_of_getElem? (i := 8) rfl)
theorem zw_84 : Cond.fieldLink RX8 41 "CutMarksModel" "cards" "[I" ∈ zAll := zc_3 _ (List.mem_of_getElem? (i := 9) rfl)
theorem zw_85 : Cond.fieldLink RX8 44 "CutMarksModel" "next" "[I" ∈ zAll := zc_3 _ (List.mem_of_getElem? (i := 10) rfl)
theorem zw_86 : Cond.fieldLink RX8 47 "CutMarksModel" "seen" "[Z" ∈ zAll := zc_3 _ (List.mem_of_getElem? (i := 11) rfl)
theorem zw_87 : Cond.fieldLink RX8 50 "CutMarksModel" "lengths" "[I" ∈ zAll := zc_3 _ (List.mem_of_getElem? (i := 12) rfl)
theorem zw_88 : Cond.fieldLink RX8 53 "CutMarksModel" "thrown" "I" ∈ zAll := zc_3 _ (List.mem_of_getElem? (i := 13) rfl)
theorem zw_89 : Cond.methodLink RX8 57 yX8_begins ∈ zAll := zc_3 _ (List.mem_of_getElem? (i := 14) rfl)
theorem zw_90 : Cond.instanceMethod yX8_begins ∈ zAll := zc_3 _ (List.mem_of_getElem? (i := 15) rfl)
theorem zw_91 : Cond.selects RX8 yX8_begins yX8_begins ∈ zAll := zc_3 _ (List.mem_of_getElem? (i := 16) rfl)
theorem zw_92 : Cond.code yX8_begins cX8_begins 3 none ∈ zAll := zc_3 _ (List.mem_of_getElem? (i := 17) rfl)
theorem zw_93 : Cond.methodLink RL 13 yX7_set ∈ zAll := zc_3 _ (List.mem_of_getElem? (i := 18) rfl)
theorem zw_94 : Cond.instanceMethod yX7_set ∈ zAll := zc_3 _ (List.mem_of_getElem? (i := 19) rfl)
theorem zw_95 : Cond.selects RX7 yX7_set yX7_set ∈ zAll := zc_3 _ (List.mem_of_getElem? (i := 20) rfl)
theorem zw_96 : Cond.code yX7_set cX7_set 3 (some .int) ∈ zAll := zc_3 _ (List.mem_of_getElem? (i := 21) rfl)
theorem zw_97 : Cond.methodLink RX7 59 yX7_keepForUndo ∈ zAll := zc_3 _ (List.mem_of_getElem? (i := 22) rfl)
theorem zw_98 : Cond.instanceMethod yX7_keepForUndo ∈ zAll := zc_3 _ (List.mem_of_getElem? (i := 23) rfl)
theorem zw_99 : Cond.selects RX7 yX7_keepForUndo yX7_keepForUndo ∈ zAll := zc_3 _ (List.mem_of_getElem? (i := 24) rfl)
theorem zw_100 : Cond.code yX7_keepForUndo cX7_keepForUndo 1 none ∈ zAll := zc_4 _ (List.mem_of_getElem? (i := 0) rfl)
theorem zw_101 : Cond.methodLink RX7 224 yX4_keep ∈ zAll := zc_4 _ (List.mem_of_getElem? (i := 1) rfl)
theorem zw_102 : Cond.instanceMethod yX4_keep ∈ zAll := zc_4 _ (List.mem_of_getElem? (i := 2) rfl)
theorem zw_103 : Cond.selects RX4 yX4_keep yX4_keep ∈ zAll := zc_4 _ (List.mem_of_getElem? (i := 3) rfl)
theorem zw_104 : Cond.code yX4_keep cX4_keep 3 none ∈ zAll := zc_4 _ (List.mem_of_getElem? (i := 4) rfl)
theorem zw_105 : Cond.methodLink RX4 20 yX4_hasPlace ∈ zAll := zc_4 _ (List.mem_of_getElem? (i := 5) rfl)
theorem zw_106 : Cond.instanceMethod yX4_hasPlace ∈ zAll := zc_4 _ (List.mem_of_getElem? (i := 6) rfl)
theorem zw_107 : Cond.selects RX4 yX4_hasPlace yX4_hasPlace ∈ zAll := zc_4 _ (List.mem_of_getElem? (i := 7) rfl)
theorem zw_108 : Cond.code yX4_hasPlace cX4_hasPlace 2 (some .boolean) ∈ zAll := zc_4 _ (List.mem_of_getElem? (i := 8) rfl)
theorem zw_109 : Cond.methodLink RX4 24 yX6_copyFrom ∈ zAll := zc_4 _ (List.mem_of_getElem? (i := 9) rfl)
theorem zw_110 : Cond.instanceMethod yX6_copyFrom ∈ zAll := zc_4 _ (List.mem_of_getElem? (i := 10) rfl)
theorem zw_111 : Cond.selects RX6 yX6_copyFrom yX6_copyFrom ∈ zAll := zc_4 _ (List.mem_of_getElem? (i := 11) rfl)
theorem zw_112 : Cond.code yX6_copyFrom cX6_copyFrom 3 none ∈ zAll := zc_4 _ (List.mem_of_getElem? (i := 12) rfl)
theorem zw_113 : Cond.methodLink RX7 62 yX6_layInOrder ∈ zAll := zc_4 _ (List.mem_of_getElem? (i := 13) rfl)
theorem zw_114 : Cond.instanceMethod yX6_layInOrder ∈ zAll := zc_4 _ (List.mem_of_getElem? (i := 14) rfl)
theorem zw_115 : Cond.selects RX6 yX6_layInOrder yX6_layInOrder ∈ zAll := zc_4 _ (List.mem_of_getElem? (i := 15) rfl)
theorem zw_116 : Cond.code yX6_layInOrder cX6_layInOrder 2 none ∈ zAll := zc_4 _ (List.mem_of_getElem? (i := 16) rfl)
theorem zw_117 : Cond.methodLink RL 17 yX8_set ∈ zAll := zc_4 _ (List.mem_of_getElem? (i := 17) rfl)
theorem zw_118 : Cond.instanceMethod yX8_set ∈ zAll := zc_4 _ (List.mem_of_getElem? (i := 18) rfl)
theorem zw_119 : Cond.selects RX8 yX8_set yX8_set ∈ zAll := zc_4 _ (List.mem_of_getElem? (i := 19) rfl)
theorem zw_120 : Cond.code yX8_set cX8_set 3 (some .int) ∈ zAll := zc_4 _ (List.mem_of_getElem? (i := 20) rfl)
theorem zw_121 : Cond.methodLink RX8 64 yX8_in ∈ zAll := zc_4 _ (List.mem_of_getElem? (i := 21) rfl)
theorem zw_122 : Cond.static yX8_in ∈ zAll := zc_4 _ (List.mem_of_getElem? (i := 22) rfl)
theorem zw_123 : Cond.code yX8_in cX8_in 3 (some .boolean) ∈ zAll := zc_4 _ (List.mem_of_getElem? (i := 23) rfl)
theorem zw_124 : Cond.methodLink RX8 83 yX8_records ∈ zAll := zc_4 _ (List.mem_of_getElem? (i := 24) rfl)
theorem zw_125 : Cond.instanceMethod yX8_records ∈ zAll := zc_5 _ (List.mem_of_getElem? (i := 0) rfl)
theorem zw_126 : Cond.selects RX8 yX8_records yX8_records ∈ zAll := zc_5 _ (List.mem_of_getElem? (i := 1) rfl)
theorem zw_127 : Cond.code yX8_records cX8_records 2 none ∈ zAll := zc_5 _ (List.mem_of_getElem? (i := 2) rfl)
theorem zw_128 : Cond.fieldLink RX8 61 "CutMarksModel" "undoMany" "I" ∈ zAll := zc_5 _ (List.mem_of_getElem? (i := 3) rfl)
theorem zw_129 : Cond.methodLink RL 18 yX7_mark ∈ zAll := zc_5 _ (List.mem_of_getElem? (i := 4) rfl)
theorem zw_130 : Cond.instanceMethod yX7_mark ∈ zAll := zc_5 _ (List.mem_of_getElem? (i := 5) rfl)
theorem zw_131 : Cond.selects RX7 yX7_mark yX7_mark ∈ zAll := zc_5 _ (List.mem_of_getElem? (i := 6) rfl)
theorem zw_132 : Cond.code yX7_mark cX7_mark 2 (some .int) ∈ zAll := zc_5 _ (List.mem_of_getElem? (i := 7) rfl)
theorem zw_133 : Cond.methodLink RX7 65 yX7_readPad ∈ zAll := zc_5 _ (List.mem_of_getElem? (i := 8) rfl)
theorem zw_134 : Cond.instanceMethod yX7_readPad ∈ zAll := zc_5 _ (List.mem_of_getElem? (i := 9) rfl)
theorem zw_135 : Cond.selects RX7 yX7_readPad yX7_readPad ∈ zAll := zc_5 _ (List.mem_of_getElem? (i := 10) rfl)
theorem zw_136 : Cond.code yX7_readPad cX7_readPad 2 (some .int) ∈ zAll := zc_5 _ (List.mem_of_getElem? (i := 11) rfl)
theorem zw_137 : Cond.methodLink RX7 240 yX2_begin ∈ zAll := zc_5 _ (List.mem_of_getElem? (i := 12) rfl)
theorem zw_138 : Cond.instanceMethod yX2_begin ∈ zAll := zc_5 _ (List.mem_of_getElem? (i := 13) rfl)
theorem zw_139 : Cond.selects RX2 yX2_begin yX2_begin ∈ zAll := zc_5 _ (List.mem_of_getElem? (i := 14) rfl)
theorem zw_140 : Cond.code yX2_begin cX2_begin 2 none ∈ zAll := zc_5 _ (List.mem_of_getElem? (i := 15) rfl)
theorem zw_141 : Cond.methodLink RX7 243 yX2_takes ∈ zAll := zc_5 _ (List.mem_of_getElem? (i := 16) rfl)
theorem zw_142 : Cond.instanceMethod yX2_takes ∈ zAll := zc_5 _ (List.mem_of_getElem? (i := 17) rfl)
theorem zw_143 : Cond.selects RX2 yX2_takes yX2_takes ∈ zAll := zc_5 _ (List.mem_of_getElem? (i := 18) rfl)
theorem zw_144 : Cond.code yX2_takes cX2_takes 2 (some .boolean) ∈ zAll := zc_5 _ (List.mem_of_getElem? (i := 19) rfl)
theorem zw_145 : Cond.methodLink RX2 41 yX2_takesStay ∈ zAll := zc_5 _ (List.mem_of_getElem? (i := 20) rfl)
theorem zw_146 : Cond.instanceMethod yX2_takesStay ∈ zAll := zc_5 _ (List.mem_of_getElem? (i := 21) rfl)
theorem zw_147 : Cond.selects RX2 yX2_takesStay yX2_takesStay ∈ zAll := zc_5 _ (List.mem_of_getElem? (i := 22) rfl)
theorem zw_148 : Cond.code yX2_takesStay cX2_takesStay 1 (some .boolean) ∈ zAll := zc_5 _ (List.mem_of_getElem? (i := 23) rfl)
theorem zw_149 : Cond.methodLink RX2 45 yX2_takesOpening ∈ zAll := zc_5 _ (List.mem_of_getElem? (i := 24) rfl)
theorem zw_150 : Cond.instanceMethod yX2_takesOpening ∈ zAll := zc_6 _ (List.mem_of_getElem? (i := 0) rfl)
theorem zw_151 : Cond.selects RX2 yX2_takesOpening yX2_takesOpening ∈ zAll := zc_6 _ (List.mem_of_getElem? (i := 1) rfl)
theorem zw_152 : Cond.code yX2_takesOpening cX2_takesOpening 2 (some .boolean) ∈ zAll := zc_6 _ (List.mem_of_getElem? (i := 2) rfl)
theorem zw_153 : Cond.methodLink RX2 49 yX2_takesDigit ∈ zAll := zc_6 _ (List.mem_of_getElem? (i := 3) rfl)
theorem zw_154 : Cond.instanceMethod yX2_takesDigit ∈ zAll := zc_6 _ (List.mem_of_getElem? (i := 4) rfl)
theorem zw_155 : Cond.selects RX2 yX2_takesDigit yX2_takesDigit ∈ zAll := zc_6 _ (List.mem_of_getElem? (i := 5) rfl)
theorem zw_156 : Cond.code yX2_takesDigit cX2_takesDigit 4 (some .boolean) ∈ zAll := zc_6 _ (List.mem_of_getElem? (i := 6) rfl)
theorem zw_157 : Cond.methodLink RX2 59 yX2_beginsFreePlace ∈ zAll := zc_6 _ (List.mem_of_getElem? (i := 7) rfl)
theorem zw_158 : Cond.instanceMethod yX2_beginsFreePlace ∈ zAll := zc_6 _ (List.mem_of_getElem? (i := 8) rfl)
theorem zw_159 : Cond.selects RX2 yX2_beginsFreePlace yX2_beginsFreePlace ∈ zAll := zc_6 _ (List.mem_of_getElem? (i := 9) rfl)
theorem zw_160 : Cond.code yX2_beginsFreePlace cX2_beginsFreePlace 3 (some .boolean) ∈ zAll := zc_6 _ (List.mem_of_getElem? (i := 10) rfl)
theorem zw_161 : Cond.methodLink RX2 63 yX2_isFree ∈ zAll := zc_6 _ (List.mem_of_getElem? (i := 11) rfl)
theorem zw_162 : Cond.instanceMethod yX2_isFree ∈ zAll := zc_6 _ (List.mem_of_getElem? (i := 12) rfl)
theorem zw_163 : Cond.selects RX2 yX2_isFree yX2_isFree ∈ zAll := zc_6 _ (List.mem_of_getElem? (i := 13) rfl)
theorem zw_164 : Cond.code yX2_isFree cX2_isFree 2 (some .boolean) ∈ zAll := zc_6 _ (List.mem_of_getElem? (i := 14) rfl)
theorem zw_165 : Cond.methodLink RX2 53 yX2_endsPlace ∈ zAll := zc_6 _ (List.mem_of_getElem? (i := 15) rfl)
theorem zw_166 : Cond.instanceMethod yX2_endsPlace ∈ zAll := zc_6 _ (List.mem_of_getElem? (i := 16) rfl)
theorem zw_167 : Cond.selects RX2 yX2_endsPlace yX2_endsPlace ∈ zAll := zc_6 _ (List.mem_of_getElem? (i := 17) rfl)
theorem zw_168 : Cond.code yX2_endsPlace cX2_endsPlace 1 (some .boolean) ∈ zAll := zc_6 _ (List.mem_of_getElem? (i := 18) rfl)
theorem zw_169 : Cond.methodLink RX2 66 yX3_with ∈ zAll := zc_6 _ (List.mem_of_getElem? (i := 19) rfl)
theorem zw_170 : Cond.static yX3_with ∈ zAll := zc_6 _ (List.mem_of_getElem? (i := 20) rfl)
theorem zw_171 : Cond.initialized RX3 ∈ zAll := zc_6 _ (List.mem_of_getElem? (i := 21) rfl)
theorem zw_172 : Cond.code yX3_with cX3_with 6 (some .long) ∈ zAll := zc_6 _ (List.mem_of_getElem? (i := 22) rfl)
theorem zw_173 : Cond.constantLong RX3 15 (15) ∈ zAll := zc_6 _ (List.mem_of_getElem? (i := 23) rfl)
theorem zw_174 : Cond.constantLong RX3 17 (-1) ∈ zAll := zc_6 _ (List.mem_of_getElem? (i := 24) rfl)
theorem zw_175 : Cond.methodLink RX2 56 yX2_closesCycle ∈ zAll := zc_7 _ (List.mem_of_getElem? (i := 0) rfl)
theorem zw_176 : Cond.instanceMethod yX2_closesCycle ∈ zAll := zc_7 _ (List.mem_of_getElem? (i := 1) rfl)
theorem zw_177 : Cond.selects RX2 yX2_closesCycle yX2_closesCycle ∈ zAll := zc_7 _ (List.mem_of_getElem? (i := 2) rfl)
theorem zw_178 : Cond.code yX2_closesCycle cX2_closesCycle 1 (some .boolean) ∈ zAll := zc_7 _ (List.mem_of_getElem? (i := 3) rfl)
theorem zw_179 : Cond.methodLink RX7 247 yX2_mayEnd ∈ zAll := zc_7 _ (List.mem_of_getElem? (i := 4) rfl)
theorem zw_180 : Cond.instanceMethod yX2_mayEnd ∈ zAll := zc_7 _ (List.mem_of_getElem? (i := 5) rfl)
theorem zw_181 : Cond.selects RX2 yX2_mayEnd yX2_mayEnd ∈ zAll := zc_7 _ (List.mem_of_getElem? (i := 6) rfl)
theorem zw_182 : Cond.code yX2_mayEnd cX2_mayEnd 1 (some .boolean) ∈ zAll := zc_7 _ (List.mem_of_getElem? (i := 7) rfl)
theorem zw_183 : Cond.methodLink RX7 73 yX7_comes ∈ zAll := zc_7 _ (List.mem_of_getElem? (i := 8) rfl)
theorem zw_184 : Cond.instanceMethod yX7_comes ∈ zAll := zc_7 _ (List.mem_of_getElem? (i := 9) rfl)
theorem zw_185 : Cond.selects RX7 yX7_comes yX7_comes ∈ zAll := zc_7 _ (List.mem_of_getElem? (i := 10) rfl)
theorem zw_186 : Cond.code yX7_comes cX7_comes 3 (some .int) ∈ zAll := zc_7 _ (List.mem_of_getElem? (i := 11) rfl)
theorem zw_187 : Cond.methodLink RX7 230 yX6_addMark ∈ zAll := zc_7 _ (List.mem_of_getElem? (i := 12) rfl)
theorem zw_188 : Cond.instanceMethod yX6_addMark ∈ zAll := zc_7 _ (List.mem_of_getElem? (i := 13) rfl)
theorem zw_189 : Cond.selects RX6 yX6_addMark yX6_addMark ∈ zAll := zc_7 _ (List.mem_of_getElem? (i := 14) rfl)
theorem zw_190 : Cond.code yX6_addMark cX6_addMark 4 (some .int) ∈ zAll := zc_7 _ (List.mem_of_getElem? (i := 15) rfl)
theorem zw_191 : Cond.methodLink RL 22 yX8_mark ∈ zAll := zc_7 _ (List.mem_of_getElem? (i := 16) rfl)
theorem zw_192 : Cond.instanceMethod yX8_mark ∈ zAll := zc_7 _ (List.mem_of_getElem? (i := 17) rfl)
theorem zw_193 : Cond.selects RX8 yX8_mark yX8_mark ∈ zAll := zc_7 _ (List.mem_of_getElem? (i := 18) rfl)
theorem zw_194 : Cond.code yX8_mark cX8_mark 1 (some .int) ∈ zAll := zc_7 _ (List.mem_of_getElem? (i := 19) rfl)
theorem zw_195 : Cond.fieldLink RX8 90 "CutMarksModel" "length" "I" ∈ zAll := zc_7 _ (List.mem_of_getElem? (i := 20) rfl)
theorem zw_196 : Cond.methodLink RX8 86 yX8_faultAt ∈ zAll := zc_7 _ (List.mem_of_getElem? (i := 21) rfl)
theorem zw_197 : Cond.instanceMethod yX8_faultAt ∈ zAll := zc_7 _ (List.mem_of_getElem? (i := 22) rfl)
theorem zw_198 : Cond.selects RX8 yX8_faultAt yX8_faultAt ∈ zAll := zc_7 _ (List.mem_of_getElem? (i := 23) rfl)
theorem zw_199 : Cond.code yX8_faultAt cX8_faultAt 2 (some .int) ∈ zAll := zc_7 _ (List.mem_of_getElem? (i := 24) rfl)
theorem zw_200 : Cond.fieldLink RX8 194 "CutMarksModel" "at" "I" ∈ zAll := zc_8 _ (List.mem_of_getElem? (i := 0) rfl)
theorem zw_201 : Cond.fieldLink RX8 206 "CutMarksModel" "isWell" "Z" ∈ zAll := zc_8 _ (List.mem_of_getElem? (i := 1) rfl)
theorem zw_202 : Cond.methodLink RX8 200 yX8_letter ∈ zAll := zc_8 _ (List.mem_of_getElem? (i := 2) rfl)
theorem zw_203 : Cond.instanceMethod yX8_letter ∈ zAll := zc_8 _ (List.mem_of_getElem? (i := 3) rfl)
theorem zw_204 : Cond.selects RX8 yX8_letter yX8_letter ∈ zAll := zc_8 _ (List.mem_of_getElem? (i := 4) rfl)
theorem zw_205 : Cond.code yX8_letter cX8_letter 1 (some .int) ∈ zAll := zc_8 _ (List.mem_of_getElem? (i := 5) rfl)
theorem zw_206 : Cond.methodLink RX8 213 yX8_readsCycle ∈ zAll := zc_8 _ (List.mem_of_getElem? (i := 6) rfl)
theorem zw_207 : Cond.instanceMethod yX8_readsCycle ∈ zAll := zc_8 _ (List.mem_of_getElem? (i := 7) rfl)
theorem zw_208 : Cond.selects RX8 yX8_readsCycle yX8_readsCycle ∈ zAll := zc_8 _ (List.mem_of_getElem? (i := 8) rfl)
theorem zw_209 : Cond.code yX8_readsCycle cX8_readsCycle 4 none ∈ zAll := zc_8 _ (List.mem_of_getElem? (i := 9) rfl)
theorem zw_210 : Cond.methodLink RX8 210 yX8_place ∈ zAll := zc_8 _ (List.mem_of_getElem? (i := 10) rfl)
theorem zw_211 : Cond.instanceMethod yX8_place ∈ zAll := zc_8 _ (List.mem_of_getElem? (i := 11) rfl)
theorem zw_212 : Cond.selects RX8 yX8_place yX8_place ∈ zAll := zc_8 _ (List.mem_of_getElem? (i := 12) rfl)
theorem zw_213 : Cond.code yX8_place cX8_place 3 (some .int) ∈ zAll := zc_8 _ (List.mem_of_getElem? (i := 13) rfl)
theorem zw_214 : Cond.methodLink RX8 203 yX8_canBegin ∈ zAll := zc_8 _ (List.mem_of_getElem? (i := 14) rfl)
theorem zw_215 : Cond.instanceMethod yX8_canBegin ∈ zAll := zc_8 _ (List.mem_of_getElem? (i := 15) rfl)
theorem zw_216 : Cond.selects RX8 yX8_canBegin yX8_canBegin ∈ zAll := zc_8 _ (List.mem_of_getElem? (i := 16) rfl)
theorem zw_217 : Cond.code yX8_canBegin cX8_canBegin 4 (some .boolean) ∈ zAll := zc_8 _ (List.mem_of_getElem? (i := 17) rfl)
theorem zw_218 : Cond.methodLink RX8 197 yX8_isLeft ∈ zAll := zc_8 _ (List.mem_of_getElem? (i := 18) rfl)
theorem zw_219 : Cond.instanceMethod yX8_isLeft ∈ zAll := zc_8 _ (List.mem_of_getElem? (i := 19) rfl)
theorem zw_220 : Cond.selects RX8 yX8_isLeft yX8_isLeft ∈ zAll := zc_8 _ (List.mem_of_getElem? (i := 20) rfl)
theorem zw_221 : Cond.code yX8_isLeft cX8_isLeft 2 (some .boolean) ∈ zAll := zc_8 _ (List.mem_of_getElem? (i := 21) rfl)
theorem zw_222 : Cond.methodLink RX8 111 yX8_isPlace ∈ zAll := zc_8 _ (List.mem_of_getElem? (i := 22) rfl)
theorem zw_223 : Cond.instanceMethod yX8_isPlace ∈ zAll := zc_8 _ (List.mem_of_getElem? (i := 23) rfl)
theorem zw_224 : Cond.selects RX8 yX8_isPlace yX8_isPlace ∈ zAll := zc_8 _ (List.mem_of_getElem? (i := 24) rfl)
theorem zw_225 : Cond.code yX8_isPlace cX8_isPlace 2 (some .boolean) ∈ zAll := zc_9 _ (List.mem_of_getElem? (i := 0) rfl)
theorem zw_226 : Cond.methodLink RX8 93 yX8_adds ∈ zAll := zc_9 _ (List.mem_of_getElem? (i := 1) rfl)
theorem zw_227 : Cond.instanceMethod yX8_adds ∈ zAll := zc_9 _ (List.mem_of_getElem? (i := 2) rfl)
theorem zw_228 : Cond.selects RX8 yX8_adds yX8_adds ∈ zAll := zc_9 _ (List.mem_of_getElem? (i := 3) rfl)
theorem zw_229 : Cond.code yX8_adds cX8_adds 4 (some .int) ∈ zAll := zc_9 _ (List.mem_of_getElem? (i := 4) rfl)
theorem zw_230 : Cond.methodLink RL 23 yX7_product ∈ zAll := zc_9 _ (List.mem_of_getElem? (i := 5) rfl)
theorem zw_231 : Cond.instanceMethod yX7_product ∈ zAll := zc_9 _ (List.mem_of_getElem? (i := 6) rfl)
theorem zw_232 : Cond.selects RX7 yX7_product yX7_product ∈ zAll := zc_9 _ (List.mem_of_getElem? (i := 7) rfl)
theorem zw_233 : Cond.code yX7_product cX7_product 3 (some .int) ∈ zAll := zc_9 _ (List.mem_of_getElem? (i := 8) rfl)
theorem zw_234 : Cond.methodLink RX7 77 yX6_hasMark ∈ zAll := zc_9 _ (List.mem_of_getElem? (i := 9) rfl)
theorem zw_235 : Cond.instanceMethod yX6_hasMark ∈ zAll := zc_9 _ (List.mem_of_getElem? (i := 10) rfl)
theorem zw_236 : Cond.selects RX6 yX6_hasMark yX6_hasMark ∈ zAll := zc_9 _ (List.mem_of_getElem? (i := 11) rfl)
theorem zw_237 : Cond.code yX6_hasMark cX6_hasMark 2 (some .boolean) ∈ zAll := zc_9 _ (List.mem_of_getElem? (i := 12) rfl)
theorem zw_238 : Cond.methodLink RX7 81 yX6_movesOf ∈ zAll := zc_9 _ (List.mem_of_getElem? (i := 13) rfl)
theorem zw_239 : Cond.instanceMethod yX6_movesOf ∈ zAll := zc_9 _ (List.mem_of_getElem? (i := 14) rfl)
theorem zw_240 : Cond.selects RX6 yX6_movesOf yX6_movesOf ∈ zAll := zc_9 _ (List.mem_of_getElem? (i := 15) rfl)
theorem zw_241 : Cond.code yX6_movesOf cX6_movesOf 2 (some .long) ∈ zAll := zc_9 _ (List.mem_of_getElem? (i := 16) rfl)
theorem zw_242 : Cond.methodLink RX7 85 yX3_then ∈ zAll := zc_9 _ (List.mem_of_getElem? (i := 17) rfl)
theorem zw_243 : Cond.static yX3_then ∈ zAll := zc_9 _ (List.mem_of_getElem? (i := 18) rfl)
theorem zw_244 : Cond.code yX3_then cX3_then 7 (some .long) ∈ zAll := zc_9 _ (List.mem_of_getElem? (i := 19) rfl)
theorem zw_245 : Cond.methodLink RX3 9 yX3_to ∈ zAll := zc_9 _ (List.mem_of_getElem? (i := 20) rfl)
theorem zw_246 : Cond.static yX3_to ∈ zAll := zc_9 _ (List.mem_of_getElem? (i := 21) rfl)
theorem zw_247 : Cond.code yX3_to cX3_to 3 (some .int) ∈ zAll := zc_9 _ (List.mem_of_getElem? (i := 22) rfl)
theorem zw_248 : Cond.methodLink RX3 19 yX3_with ∈ zAll := zc_9 _ (List.mem_of_getElem? (i := 23) rfl)
theorem zw_249 : Cond.methodLink RL 27 yX8_product ∈ zAll := zc_9 _ (List.mem_of_getElem? (i := 24) rfl)
theorem zw_250 : Cond.instanceMethod yX8_product ∈ zAll := zc_10 _ (List.mem_of_getElem? (i := 0) rfl)
theorem zw_251 : Cond.selects RX8 yX8_product yX8_product ∈ zAll := zc_10 _ (List.mem_of_getElem? (i := 1) rfl)
theorem zw_252 : Cond.code yX8_product cX8_product 3 (some .int) ∈ zAll := zc_10 _ (List.mem_of_getElem? (i := 2) rfl)
theorem zw_253 : Cond.methodLink RX8 68 yX8_isMark ∈ zAll := zc_10 _ (List.mem_of_getElem? (i := 3) rfl)
theorem zw_254 : Cond.instanceMethod yX8_isMark ∈ zAll := zc_10 _ (List.mem_of_getElem? (i := 4) rfl)
theorem zw_255 : Cond.selects RX8 yX8_isMark yX8_isMark ∈ zAll := zc_10 _ (List.mem_of_getElem? (i := 5) rfl)
theorem zw_256 : Cond.code yX8_isMark cX8_isMark 2 (some .boolean) ∈ zAll := zc_10 _ (List.mem_of_getElem? (i := 6) rfl)
theorem zw_257 : Cond.methodLink RX8 96 yX8_fetches ∈ zAll := zc_10 _ (List.mem_of_getElem? (i := 7) rfl)
theorem zw_258 : Cond.instanceMethod yX8_fetches ∈ zAll := zc_10 _ (List.mem_of_getElem? (i := 8) rfl)
theorem zw_259 : Cond.selects RX8 yX8_fetches yX8_fetches ∈ zAll := zc_10 _ (List.mem_of_getElem? (i := 9) rfl)
theorem zw_260 : Cond.code yX8_fetches cX8_fetches 4 none ∈ zAll := zc_10 _ (List.mem_of_getElem? (i := 10) rfl)
theorem zw_261 : Cond.methodLink RX8 72 yX8_goesTo ∈ zAll := zc_10 _ (List.mem_of_getElem? (i := 11) rfl)
theorem zw_262 : Cond.instanceMethod yX8_goesTo ∈ zAll := zc_10 _ (List.mem_of_getElem? (i := 12) rfl)
theorem zw_263 : Cond.selects RX8 yX8_goesTo yX8_goesTo ∈ zAll := zc_10 _ (List.mem_of_getElem? (i := 13) rfl)
theorem zw_264 : Cond.code yX8_goesTo cX8_goesTo 3 (some .int) ∈ zAll := zc_10 _ (List.mem_of_getElem? (i := 14) rfl)
theorem zw_265 : Cond.methodLink RX8 100 yX8_laysProduct ∈ zAll := zc_10 _ (List.mem_of_getElem? (i := 15) rfl)
theorem zw_266 : Cond.instanceMethod yX8_laysProduct ∈ zAll := zc_10 _ (List.mem_of_getElem? (i := 16) rfl)
theorem zw_267 : Cond.selects RX8 yX8_laysProduct yX8_laysProduct ∈ zAll := zc_10 _ (List.mem_of_getElem? (i := 17) rfl)
theorem zw_268 : Cond.code yX8_laysProduct cX8_laysProduct 5 none ∈ zAll := zc_10 _ (List.mem_of_getElem? (i := 18) rfl)
theorem zw_269 : Cond.methodLink RL 28 yX7_power ∈ zAll := zc_10 _ (List.mem_of_getElem? (i := 19) rfl)
theorem zw_270 : Cond.instanceMethod yX7_power ∈ zAll := zc_10 _ (List.mem_of_getElem? (i := 20) rfl)
theorem zw_271 : Cond.selects RX7 yX7_power yX7_power ∈ zAll := zc_10 _ (List.mem_of_getElem? (i := 21) rfl)
theorem zw_272 : Cond.code yX7_power cX7_power 3 (some .int) ∈ zAll := zc_10 _ (List.mem_of_getElem? (i := 22) rfl)
theorem zw_273 : Cond.methodLink RX7 91 yX7_isPower ∈ zAll := zc_10 _ (List.mem_of_getElem? (i := 23) rfl)
theorem zw_274 : Cond.static yX7_isPower ∈ zAll := zc_10 _ (List.mem_of_getElem? (i := 24) rfl)
theorem zw_275 : Cond.code yX7_isPower cX7_isPower 1 (some .boolean) ∈ zAll := zc_11 _ (List.mem_of_getElem? (i := 0) rfl)
theorem zw_276 : Cond.methodLink RX7 94 yX3_times ∈ zAll := zc_11 _ (List.mem_of_getElem? (i := 1) rfl)
theorem zw_277 : Cond.static yX3_times ∈ zAll := zc_11 _ (List.mem_of_getElem? (i := 2) rfl)
theorem zw_278 : Cond.code yX3_times cX3_times 6 (some .long) ∈ zAll := zc_11 _ (List.mem_of_getElem? (i := 3) rfl)
theorem zw_279 : Cond.methodLink RX3 23 yX3_toAfter ∈ zAll := zc_11 _ (List.mem_of_getElem? (i := 4) rfl)
theorem zw_280 : Cond.static yX3_toAfter ∈ zAll := zc_11 _ (List.mem_of_getElem? (i := 5) rfl)
theorem zw_281 : Cond.code yX3_toAfter cX3_toAfter 8 (some .int) ∈ zAll := zc_11 _ (List.mem_of_getElem? (i := 6) rfl)
theorem zw_282 : Cond.methodLink RX3 27 yX3_cycleLength ∈ zAll := zc_11 _ (List.mem_of_getElem? (i := 7) rfl)
theorem zw_283 : Cond.static yX3_cycleLength ∈ zAll := zc_11 _ (List.mem_of_getElem? (i := 8) rfl)
theorem zw_284 : Cond.code yX3_cycleLength cX3_cycleLength 5 (some .int) ∈ zAll := zc_11 _ (List.mem_of_getElem? (i := 9) rfl)
theorem zw_285 : Cond.methodLink RX3 30 yJ9_floorMod_7cf53 ∈ zAll := zc_11 _ (List.mem_of_getElem? (i := 10) rfl)
theorem zw_286 : Cond.static yJ9_floorMod_7cf53 ∈ zAll := zc_11 _ (List.mem_of_getElem? (i := 11) rfl)
theorem zw_287 : Cond.initialized RJ9 ∈ zAll := zc_11 _ (List.mem_of_getElem? (i := 12) rfl)
theorem zw_288 : Cond.code yJ9_floorMod_7cf53 cJ9_floorMod_7cf53 3 (some .int) ∈ zAll := zc_11 _ (List.mem_of_getElem? (i := 13) rfl)
theorem zw_289 : Cond.methodLink RL 31 yX8_power ∈ zAll := zc_11 _ (List.mem_of_getElem? (i := 14) rfl)
theorem zw_290 : Cond.instanceMethod yX8_power ∈ zAll := zc_11 _ (List.mem_of_getElem? (i := 15) rfl)
theorem zw_291 : Cond.selects RX8 yX8_power yX8_power ∈ zAll := zc_11 _ (List.mem_of_getElem? (i := 16) rfl)
theorem zw_292 : Cond.code yX8_power cX8_power 4 (some .int) ∈ zAll := zc_11 _ (List.mem_of_getElem? (i := 17) rfl)
theorem zw_293 : Cond.methodLink RX8 104 yX8_powered ∈ zAll := zc_11 _ (List.mem_of_getElem? (i := 18) rfl)
theorem zw_294 : Cond.instanceMethod yX8_powered ∈ zAll := zc_11 _ (List.mem_of_getElem? (i := 19) rfl)
theorem zw_295 : Cond.selects RX8 yX8_powered yX8_powered ∈ zAll := zc_11 _ (List.mem_of_getElem? (i := 20) rfl)
theorem zw_296 : Cond.code yX8_powered cX8_powered 7 (some .int) ∈ zAll := zc_11 _ (List.mem_of_getElem? (i := 21) rfl)
theorem zw_297 : Cond.methodLink RL 32 yX7_trick ∈ zAll := zc_11 _ (List.mem_of_getElem? (i := 22) rfl)
theorem zw_298 : Cond.instanceMethod yX7_trick ∈ zAll := zc_11 _ (List.mem_of_getElem? (i := 23) rfl)
theorem zw_299 : Cond.selects RX7 yX7_trick yX7_trick ∈ zAll := zc_11 _ (List.mem_of_getElem? (i := 24) rfl)
theorem zw_300 : Cond.code yX7_trick cX7_trick 1 (some .int) ∈ zAll := zc_12 _ (List.mem_of_getElem? (i := 0) rfl)
theorem zw_301 : Cond.methodLink RL 35 yX8_trick ∈ zAll := zc_12 _ (List.mem_of_getElem? (i := 1) rfl)
theorem zw_302 : Cond.instanceMethod yX8_trick ∈ zAll := zc_12 _ (List.mem_of_getElem? (i := 2) rfl)
theorem zw_303 : Cond.selects RX8 yX8_trick yX8_trick ∈ zAll := zc_12 _ (List.mem_of_getElem? (i := 3) rfl)
theorem zw_304 : Cond.code yX8_trick cX8_trick 1 (some .int) ∈ zAll := zc_12 _ (List.mem_of_getElem? (i := 4) rfl)
theorem zw_305 : Cond.methodLink RL 36 yX7_drop ∈ zAll := zc_12 _ (List.mem_of_getElem? (i := 5) rfl)
theorem zw_306 : Cond.instanceMethod yX7_drop ∈ zAll := zc_12 _ (List.mem_of_getElem? (i := 6) rfl)
theorem zw_307 : Cond.selects RX7 yX7_drop yX7_drop ∈ zAll := zc_12 _ (List.mem_of_getElem? (i := 7) rfl)
theorem zw_308 : Cond.code yX7_drop cX7_drop 2 (some .int) ∈ zAll := zc_12 _ (List.mem_of_getElem? (i := 8) rfl)
theorem zw_309 : Cond.methodLink RX7 101 yX6_removeMark ∈ zAll := zc_12 _ (List.mem_of_getElem? (i := 9) rfl)
theorem zw_310 : Cond.instanceMethod yX6_removeMark ∈ zAll := zc_12 _ (List.mem_of_getElem? (i := 10) rfl)
theorem zw_311 : Cond.selects RX6 yX6_removeMark yX6_removeMark ∈ zAll := zc_12 _ (List.mem_of_getElem? (i := 11) rfl)
theorem zw_312 : Cond.code yX6_removeMark cX6_removeMark 3 none ∈ zAll := zc_12 _ (List.mem_of_getElem? (i := 12) rfl)
theorem zw_313 : Cond.methodLink RL 39 yX8_drop ∈ zAll := zc_12 _ (List.mem_of_getElem? (i := 13) rfl)
theorem zw_314 : Cond.instanceMethod yX8_drop ∈ zAll := zc_12 _ (List.mem_of_getElem? (i := 14) rfl)
theorem zw_315 : Cond.selects RX8 yX8_drop yX8_drop ∈ zAll := zc_12 _ (List.mem_of_getElem? (i := 15) rfl)
theorem zw_316 : Cond.code yX8_drop cX8_drop 3 (some .int) ∈ zAll := zc_12 _ (List.mem_of_getElem? (i := 16) rfl)
theorem zw_317 : Cond.methodLink RL 40 yX7_play ∈ zAll := zc_12 _ (List.mem_of_getElem? (i := 17) rfl)
theorem zw_318 : Cond.instanceMethod yX7_play ∈ zAll := zc_12 _ (List.mem_of_getElem? (i := 18) rfl)
theorem zw_319 : Cond.selects RX7 yX7_play yX7_play ∈ zAll := zc_12 _ (List.mem_of_getElem? (i := 19) rfl)
theorem zw_320 : Cond.code yX7_play cX7_play 2 (some .int) ∈ zAll := zc_12 _ (List.mem_of_getElem? (i := 20) rfl)
theorem zw_321 : Cond.methodLink RX7 107 yX7_moveDeck ∈ zAll := zc_12 _ (List.mem_of_getElem? (i := 21) rfl)
theorem zw_322 : Cond.instanceMethod yX7_moveDeck ∈ zAll := zc_12 _ (List.mem_of_getElem? (i := 22) rfl)
theorem zw_323 : Cond.selects RX7 yX7_moveDeck yX7_moveDeck ∈ zAll := zc_12 _ (List.mem_of_getElem? (i := 23) rfl)
theorem zw_324 : Cond.code yX7_moveDeck cX7_moveDeck 3 (some .int) ∈ zAll := zc_12 _ (List.mem_of_getElem? (i := 24) rfl)
theorem zw_325 : Cond.methodLink RX7 130 yX3_from ∈ zAll := zc_13 _ (List.mem_of_getElem? (i := 0) rfl)
theorem zw_326 : Cond.static yX3_from ∈ zAll := zc_13 _ (List.mem_of_getElem? (i := 1) rfl)
theorem zw_327 : Cond.code yX3_from cX3_from 4 (some .int) ∈ zAll := zc_13 _ (List.mem_of_getElem? (i := 2) rfl)
theorem zw_328 : Cond.methodLink RL 43 yX8_play ∈ zAll := zc_13 _ (List.mem_of_getElem? (i := 3) rfl)
theorem zw_329 : Cond.instanceMethod yX8_play ∈ zAll := zc_13 _ (List.mem_of_getElem? (i := 4) rfl)
theorem zw_330 : Cond.selects RX8 yX8_play yX8_play ∈ zAll := zc_13 _ (List.mem_of_getElem? (i := 5) rfl)
theorem zw_331 : Cond.code yX8_play cX8_play 2 (some .int) ∈ zAll := zc_13 _ (List.mem_of_getElem? (i := 6) rfl)
theorem zw_332 : Cond.methodLink RX8 108 yX8_does ∈ zAll := zc_13 _ (List.mem_of_getElem? (i := 7) rfl)
theorem zw_333 : Cond.instanceMethod yX8_does ∈ zAll := zc_13 _ (List.mem_of_getElem? (i := 8) rfl)
theorem zw_334 : Cond.selects RX8 yX8_does yX8_does ∈ zAll := zc_13 _ (List.mem_of_getElem? (i := 9) rfl)
theorem zw_335 : Cond.code yX8_does cX8_does 3 (some .int) ∈ zAll := zc_13 _ (List.mem_of_getElem? (i := 10) rfl)
theorem zw_336 : Cond.methodLink RL 44 yX7_cut ∈ zAll := zc_13 _ (List.mem_of_getElem? (i := 11) rfl)
theorem zw_337 : Cond.instanceMethod yX7_cut ∈ zAll := zc_13 _ (List.mem_of_getElem? (i := 12) rfl)
theorem zw_338 : Cond.selects RX7 yX7_cut yX7_cut ∈ zAll := zc_13 _ (List.mem_of_getElem? (i := 13) rfl)
theorem zw_339 : Cond.code yX7_cut cX7_cut 2 (some .int) ∈ zAll := zc_13 _ (List.mem_of_getElem? (i := 14) rfl)
theorem zw_340 : Cond.methodLink RX7 110 yX6_hasPlace ∈ zAll := zc_13 _ (List.mem_of_getElem? (i := 15) rfl)
theorem zw_341 : Cond.instanceMethod yX6_hasPlace ∈ zAll := zc_13 _ (List.mem_of_getElem? (i := 16) rfl)
theorem zw_342 : Cond.selects RX6 yX6_hasPlace yX6_hasPlace ∈ zAll := zc_13 _ (List.mem_of_getElem? (i := 17) rfl)
theorem zw_343 : Cond.code yX6_hasPlace cX6_hasPlace 2 (some .boolean) ∈ zAll := zc_13 _ (List.mem_of_getElem? (i := 18) rfl)
theorem zw_344 : Cond.methodLink RX7 113 yX5_cutBy ∈ zAll := zc_13 _ (List.mem_of_getElem? (i := 19) rfl)
theorem zw_345 : Cond.static yX5_cutBy ∈ zAll := zc_13 _ (List.mem_of_getElem? (i := 20) rfl)
theorem zw_346 : Cond.initialized RX5 ∈ zAll := zc_13 _ (List.mem_of_getElem? (i := 21) rfl)
theorem zw_347 : Cond.code yX5_cutBy cX5_cutBy 5 (some .long) ∈ zAll := zc_13 _ (List.mem_of_getElem? (i := 22) rfl)
theorem zw_348 : Cond.constantLong RX5 19 (-81985529216486896) ∈ zAll := zc_13 _ (List.mem_of_getElem? (i := 23) rfl)
theorem zw_349 : Cond.methodLink RX5 7 yX5_cutTo ∈ zAll := zc_13 _ (List.mem_of_getElem? (i := 24) rfl)
theorem zw_350 : Cond.static yX5_cutTo ∈ zAll := zc_14 _ (List.mem_of_getElem? (i := 0) rfl)
theorem zw_351 : Cond.code yX5_cutTo cX5_cutTo 3 (some .int) ∈ zAll := zc_14 _ (List.mem_of_getElem? (i := 1) rfl)
theorem zw_352 : Cond.methodLink RX5 21 yX3_with ∈ zAll := zc_14 _ (List.mem_of_getElem? (i := 2) rfl)
theorem zw_353 : Cond.methodLink RL 47 yX8_cut ∈ zAll := zc_14 _ (List.mem_of_getElem? (i := 3) rfl)
theorem zw_354 : Cond.instanceMethod yX8_cut ∈ zAll := zc_14 _ (List.mem_of_getElem? (i := 4) rfl)
theorem zw_355 : Cond.selects RX8 yX8_cut yX8_cut ∈ zAll := zc_14 _ (List.mem_of_getElem? (i := 5) rfl)
theorem zw_356 : Cond.code yX8_cut cX8_cut 2 (some .int) ∈ zAll := zc_14 _ (List.mem_of_getElem? (i := 6) rfl)
theorem zw_357 : Cond.methodLink RX8 114 yX8_laysCut ∈ zAll := zc_14 _ (List.mem_of_getElem? (i := 7) rfl)
theorem zw_358 : Cond.instanceMethod yX8_laysCut ∈ zAll := zc_14 _ (List.mem_of_getElem? (i := 8) rfl)
theorem zw_359 : Cond.selects RX8 yX8_laysCut yX8_laysCut ∈ zAll := zc_14 _ (List.mem_of_getElem? (i := 9) rfl)
theorem zw_360 : Cond.code yX8_laysCut cX8_laysCut 4 none ∈ zAll := zc_14 _ (List.mem_of_getElem? (i := 10) rfl)
theorem zw_361 : Cond.methodLink RL 48 yX7_riffle ∈ zAll := zc_14 _ (List.mem_of_getElem? (i := 11) rfl)
theorem zw_362 : Cond.instanceMethod yX7_riffle ∈ zAll := zc_14 _ (List.mem_of_getElem? (i := 12) rfl)
theorem zw_363 : Cond.selects RX7 yX7_riffle yX7_riffle ∈ zAll := zc_14 _ (List.mem_of_getElem? (i := 13) rfl)
theorem zw_364 : Cond.code yX7_riffle cX7_riffle 2 (some .int) ∈ zAll := zc_14 _ (List.mem_of_getElem? (i := 14) rfl)
theorem zw_365 : Cond.methodLink RX7 119 yX5_stepBy ∈ zAll := zc_14 _ (List.mem_of_getElem? (i := 15) rfl)
theorem zw_366 : Cond.static yX5_stepBy ∈ zAll := zc_14 _ (List.mem_of_getElem? (i := 16) rfl)
theorem zw_367 : Cond.code yX5_stepBy cX5_stepBy 5 (some .long) ∈ zAll := zc_14 _ (List.mem_of_getElem? (i := 17) rfl)
theorem zw_368 : Cond.methodLink RX5 25 yX5_stepTo ∈ zAll := zc_14 _ (List.mem_of_getElem? (i := 18) rfl)
theorem zw_369 : Cond.static yX5_stepTo ∈ zAll := zc_14 _ (List.mem_of_getElem? (i := 19) rfl)
theorem zw_370 : Cond.code yX5_stepTo cX5_stepTo 3 (some .int) ∈ zAll := zc_14 _ (List.mem_of_getElem? (i := 20) rfl)
theorem zw_371 : Cond.methodLink RX5 13 yX5_riffleTo ∈ zAll := zc_14 _ (List.mem_of_getElem? (i := 21) rfl)
theorem zw_372 : Cond.static yX5_riffleTo ∈ zAll := zc_14 _ (List.mem_of_getElem? (i := 22) rfl)
theorem zw_373 : Cond.code yX5_riffleTo cX5_riffleTo 5 (some .int) ∈ zAll := zc_14 _ (List.mem_of_getElem? (i := 23) rfl)
theorem zw_374 : Cond.methodLink RL 51 yX8_riffle ∈ zAll := zc_14 _ (List.mem_of_getElem? (i := 24) rfl)
theorem zw_375 : Cond.instanceMethod yX8_riffle ∈ zAll := zc_15 _ (List.mem_of_getElem? (i := 0) rfl)
theorem zw_376 : Cond.selects RX8 yX8_riffle yX8_riffle ∈ zAll := zc_15 _ (List.mem_of_getElem? (i := 1) rfl)
theorem zw_377 : Cond.code yX8_riffle cX8_riffle 2 (some .int) ∈ zAll := zc_15 _ (List.mem_of_getElem? (i := 2) rfl)
theorem zw_378 : Cond.methodLink RX8 117 yX8_laysRiffle ∈ zAll := zc_15 _ (List.mem_of_getElem? (i := 3) rfl)
theorem zw_379 : Cond.instanceMethod yX8_laysRiffle ∈ zAll := zc_15 _ (List.mem_of_getElem? (i := 4) rfl)
theorem zw_380 : Cond.selects RX8 yX8_laysRiffle yX8_laysRiffle ∈ zAll := zc_15 _ (List.mem_of_getElem? (i := 5) rfl)
theorem zw_381 : Cond.code yX8_laysRiffle cX8_laysRiffle 6 none ∈ zAll := zc_15 _ (List.mem_of_getElem? (i := 6) rfl)
theorem zw_382 : Cond.methodLink RL 52 yX7_turn ∈ zAll := zc_15 _ (List.mem_of_getElem? (i := 7) rfl)
theorem zw_383 : Cond.instanceMethod yX7_turn ∈ zAll := zc_15 _ (List.mem_of_getElem? (i := 8) rfl)
theorem zw_384 : Cond.selects RX7 yX7_turn yX7_turn ∈ zAll := zc_15 _ (List.mem_of_getElem? (i := 9) rfl)
theorem zw_385 : Cond.code yX7_turn cX7_turn 1 (some .int) ∈ zAll := zc_15 _ (List.mem_of_getElem? (i := 10) rfl)
theorem zw_386 : Cond.methodLink RL 55 yX8_turn ∈ zAll := zc_15 _ (List.mem_of_getElem? (i := 11) rfl)
theorem zw_387 : Cond.instanceMethod yX8_turn ∈ zAll := zc_15 _ (List.mem_of_getElem? (i := 12) rfl)
theorem zw_388 : Cond.selects RX8 yX8_turn yX8_turn ∈ zAll := zc_15 _ (List.mem_of_getElem? (i := 13) rfl)
theorem zw_389 : Cond.code yX8_turn cX8_turn 1 (some .int) ∈ zAll := zc_15 _ (List.mem_of_getElem? (i := 14) rfl)
theorem zw_390 : Cond.methodLink RX8 121 yX8_laysTurn ∈ zAll := zc_15 _ (List.mem_of_getElem? (i := 15) rfl)
theorem zw_391 : Cond.instanceMethod yX8_laysTurn ∈ zAll := zc_15 _ (List.mem_of_getElem? (i := 16) rfl)
theorem zw_392 : Cond.selects RX8 yX8_laysTurn yX8_laysTurn ∈ zAll := zc_15 _ (List.mem_of_getElem? (i := 17) rfl)
theorem zw_393 : Cond.code yX8_laysTurn cX8_laysTurn 3 none ∈ zAll := zc_15 _ (List.mem_of_getElem? (i := 18) rfl)
theorem zw_394 : Cond.methodLink RL 56 yX7_restart ∈ zAll := zc_15 _ (List.mem_of_getElem? (i := 19) rfl)
theorem zw_395 : Cond.instanceMethod yX7_restart ∈ zAll := zc_15 _ (List.mem_of_getElem? (i := 20) rfl)
theorem zw_396 : Cond.selects RX7 yX7_restart yX7_restart ∈ zAll := zc_15 _ (List.mem_of_getElem? (i := 21) rfl)
theorem zw_397 : Cond.code yX7_restart cX7_restart 2 (some .int) ∈ zAll := zc_15 _ (List.mem_of_getElem? (i := 22) rfl)
theorem zw_398 : Cond.constantLong RX7 125 (-81985529216486896) ∈ zAll := zc_15 _ (List.mem_of_getElem? (i := 23) rfl)
theorem zw_399 : Cond.methodLink RX7 122 yX7_placesMoved ∈ zAll := zc_15 _ (List.mem_of_getElem? (i := 24) rfl)
theorem zw_400 : Cond.instanceMethod yX7_placesMoved ∈ zAll := zc_16 _ (List.mem_of_getElem? (i := 0) rfl)
theorem zw_401 : Cond.selects RX7 yX7_placesMoved yX7_placesMoved ∈ zAll := zc_16 _ (List.mem_of_getElem? (i := 1) rfl)
theorem zw_402 : Cond.code yX7_placesMoved cX7_placesMoved 1 (some .int) ∈ zAll := zc_16 _ (List.mem_of_getElem? (i := 2) rfl)
theorem zw_403 : Cond.methodLink RX7 153 yX3_fixedPlaces ∈ zAll := zc_16 _ (List.mem_of_getElem? (i := 3) rfl)
theorem zw_404 : Cond.static yX3_fixedPlaces ∈ zAll := zc_16 _ (List.mem_of_getElem? (i := 4) rfl)
theorem zw_405 : Cond.code yX3_fixedPlaces cX3_fixedPlaces 5 (some .int) ∈ zAll := zc_16 _ (List.mem_of_getElem? (i := 5) rfl)
theorem zw_406 : Cond.methodLink RX7 185 yJ6_bitCount_0f7a4 ∈ zAll := zc_16 _ (List.mem_of_getElem? (i := 6) rfl)
theorem zw_407 : Cond.static yJ6_bitCount_0f7a4 ∈ zAll := zc_16 _ (List.mem_of_getElem? (i := 7) rfl)
theorem zw_408 : Cond.initialized RJ6 ∈ zAll := zc_16 _ (List.mem_of_getElem? (i := 8) rfl)
theorem zw_409 : Cond.code yJ6_bitCount_0f7a4 cJ6_bitCount_0f7a4 1 (some .int) ∈ zAll := zc_16 _ (List.mem_of_getElem? (i := 9) rfl)
theorem zw_410 : Cond.constant RJ6 265 (1431655765) ∈ zAll := zc_16 _ (List.mem_of_getElem? (i := 10) rfl)
theorem zw_411 : Cond.constant RJ6 266 (858993459) ∈ zAll := zc_16 _ (List.mem_of_getElem? (i := 11) rfl)
theorem zw_412 : Cond.constant RJ6 267 (252645135) ∈ zAll := zc_16 _ (List.mem_of_getElem? (i := 12) rfl)
theorem zw_413 : Cond.methodLink RL 59 yX8_restart ∈ zAll := zc_16 _ (List.mem_of_getElem? (i := 13) rfl)
theorem zw_414 : Cond.instanceMethod yX8_restart ∈ zAll := zc_16 _ (List.mem_of_getElem? (i := 14) rfl)
theorem zw_415 : Cond.selects RX8 yX8_restart yX8_restart ∈ zAll := zc_16 _ (List.mem_of_getElem? (i := 15) rfl)
theorem zw_416 : Cond.code yX8_restart cX8_restart 3 (some .int) ∈ zAll := zc_16 _ (List.mem_of_getElem? (i := 16) rfl)
theorem zw_417 : Cond.methodLink RX8 125 yX8_moved ∈ zAll := zc_16 _ (List.mem_of_getElem? (i := 17) rfl)
theorem zw_418 : Cond.instanceMethod yX8_moved ∈ zAll := zc_16 _ (List.mem_of_getElem? (i := 18) rfl)
theorem zw_419 : Cond.selects RX8 yX8_moved yX8_moved ∈ zAll := zc_16 _ (List.mem_of_getElem? (i := 19) rfl)
theorem zw_420 : Cond.code yX8_moved cX8_moved 3 (some .int) ∈ zAll := zc_16 _ (List.mem_of_getElem? (i := 20) rfl)
theorem zw_421 : Cond.methodLink RL 60 yX7_at ∈ zAll := zc_16 _ (List.mem_of_getElem? (i := 21) rfl)
theorem zw_422 : Cond.instanceMethod yX7_at ∈ zAll := zc_16 _ (List.mem_of_getElem? (i := 22) rfl)
theorem zw_423 : Cond.selects RX7 yX7_at yX7_at ∈ zAll := zc_16 _ (List.mem_of_getElem? (i := 23) rfl)
theorem zw_424 : Cond.code yX7_at cX7_at 2 (some .int) ∈ zAll := zc_16 _ (List.mem_of_getElem? (i := 24) rfl)
theorem zw_425 : Cond.methodLink RL 63 yX8_at ∈ zAll := zc_17 _ (List.mem_of_getElem? (i := 0) rfl)
theorem zw_426 : Cond.instanceMethod yX8_at ∈ zAll := zc_17 _ (List.mem_of_getElem? (i := 1) rfl)
theorem zw_427 : Cond.selects RX8 yX8_at yX8_at ∈ zAll := zc_17 _ (List.mem_of_getElem? (i := 2) rfl)
theorem zw_428 : Cond.code yX8_at cX8_at 2 (some .int) ∈ zAll := zc_17 _ (List.mem_of_getElem? (i := 3) rfl)
theorem zw_429 : Cond.methodLink RL 64 yX7_where ∈ zAll := zc_17 _ (List.mem_of_getElem? (i := 4) rfl)
theorem zw_430 : Cond.instanceMethod yX7_where ∈ zAll := zc_17 _ (List.mem_of_getElem? (i := 5) rfl)
theorem zw_431 : Cond.selects RX7 yX7_where yX7_where ∈ zAll := zc_17 _ (List.mem_of_getElem? (i := 6) rfl)
theorem zw_432 : Cond.code yX7_where cX7_where 2 (some .int) ∈ zAll := zc_17 _ (List.mem_of_getElem? (i := 7) rfl)
theorem zw_433 : Cond.methodLink RX7 134 yX3_to ∈ zAll := zc_17 _ (List.mem_of_getElem? (i := 8) rfl)
theorem zw_434 : Cond.methodLink RL 67 yX8_where ∈ zAll := zc_17 _ (List.mem_of_getElem? (i := 9) rfl)
theorem zw_435 : Cond.instanceMethod yX8_where ∈ zAll := zc_17 _ (List.mem_of_getElem? (i := 10) rfl)
theorem zw_436 : Cond.selects RX8 yX8_where yX8_where ∈ zAll := zc_17 _ (List.mem_of_getElem? (i := 11) rfl)
theorem zw_437 : Cond.code yX8_where cX8_where 4 (some .int) ∈ zAll := zc_17 _ (List.mem_of_getElem? (i := 12) rfl)
theorem zw_438 : Cond.methodLink RL 68 yX7_of ∈ zAll := zc_17 _ (List.mem_of_getElem? (i := 13) rfl)
theorem zw_439 : Cond.instanceMethod yX7_of ∈ zAll := zc_17 _ (List.mem_of_getElem? (i := 14) rfl)
theorem zw_440 : Cond.selects RX7 yX7_of yX7_of ∈ zAll := zc_17 _ (List.mem_of_getElem? (i := 15) rfl)
theorem zw_441 : Cond.code yX7_of cX7_of 5 (some .int) ∈ zAll := zc_17 _ (List.mem_of_getElem? (i := 16) rfl)
theorem zw_442 : Cond.methodLink RX7 137 yX7_isMarkOrTrick ∈ zAll := zc_17 _ (List.mem_of_getElem? (i := 17) rfl)
theorem zw_443 : Cond.instanceMethod yX7_isMarkOrTrick ∈ zAll := zc_17 _ (List.mem_of_getElem? (i := 18) rfl)
theorem zw_444 : Cond.selects RX7 yX7_isMarkOrTrick yX7_isMarkOrTrick ∈ zAll := zc_17 _ (List.mem_of_getElem? (i := 19) rfl)
theorem zw_445 : Cond.code yX7_isMarkOrTrick cX7_isMarkOrTrick 2 (some .boolean) ∈ zAll := zc_17 _ (List.mem_of_getElem? (i := 20) rfl)
theorem zw_446 : Cond.methodLink RX7 140 yX7_markOrTrick ∈ zAll := zc_17 _ (List.mem_of_getElem? (i := 21) rfl)
theorem zw_447 : Cond.instanceMethod yX7_markOrTrick ∈ zAll := zc_17 _ (List.mem_of_getElem? (i := 22) rfl)
theorem zw_448 : Cond.selects RX7 yX7_markOrTrick yX7_markOrTrick ∈ zAll := zc_17 _ (List.mem_of_getElem? (i := 23) rfl)
theorem zw_449 : Cond.code yX7_markOrTrick cX7_markOrTrick 2 (some .long) ∈ zAll := zc_17 _ (List.mem_of_getElem? (i := 24) rfl)
theorem zw_450 : Cond.methodLink RX7 143 yX1_tell ∈ zAll := zc_18 _ (List.mem_of_getElem? (i := 0) rfl)
theorem zw_451 : Cond.instanceMethod yX1_tell ∈ zAll := zc_18 _ (List.mem_of_getElem? (i := 1) rfl)
theorem zw_452 : Cond.selects RX1 yX1_tell yX1_tell ∈ zAll := zc_18 _ (List.mem_of_getElem? (i := 2) rfl)
theorem zw_453 : Cond.code yX1_tell cX1_tell 9 none ∈ zAll := zc_18 _ (List.mem_of_getElem? (i := 3) rfl)
theorem zw_454 : Cond.methodLink RX1 15 yX3_cycleLength ∈ zAll := zc_18 _ (List.mem_of_getElem? (i := 4) rfl)
theorem zw_455 : Cond.methodLink RX1 21 yX3_to ∈ zAll := zc_18 _ (List.mem_of_getElem? (i := 5) rfl)
theorem zw_456 : Cond.methodLink RX1 24 yX1_add ∈ zAll := zc_18 _ (List.mem_of_getElem? (i := 6) rfl)
theorem zw_457 : Cond.instanceMethod yX1_add ∈ zAll := zc_18 _ (List.mem_of_getElem? (i := 7) rfl)
theorem zw_458 : Cond.selects RX1 yX1_add yX1_add ∈ zAll := zc_18 _ (List.mem_of_getElem? (i := 8) rfl)
theorem zw_459 : Cond.code yX1_add cX1_add 2 none ∈ zAll := zc_18 _ (List.mem_of_getElem? (i := 9) rfl)
theorem zw_460 : Cond.methodLink RX7 147 yX1_order ∈ zAll := zc_18 _ (List.mem_of_getElem? (i := 10) rfl)
theorem zw_461 : Cond.instanceMethod yX1_order ∈ zAll := zc_18 _ (List.mem_of_getElem? (i := 11) rfl)
theorem zw_462 : Cond.selects RX1 yX1_order yX1_order ∈ zAll := zc_18 _ (List.mem_of_getElem? (i := 12) rfl)
theorem zw_463 : Cond.code yX1_order cX1_order 3 (some .int) ∈ zAll := zc_18 _ (List.mem_of_getElem? (i := 13) rfl)
theorem zw_464 : Cond.methodLink RX1 28 yX1_leastMultiple ∈ zAll := zc_18 _ (List.mem_of_getElem? (i := 14) rfl)
theorem zw_465 : Cond.static yX1_leastMultiple ∈ zAll := zc_18 _ (List.mem_of_getElem? (i := 15) rfl)
theorem zw_466 : Cond.code yX1_leastMultiple cX1_leastMultiple 3 (some .int) ∈ zAll := zc_18 _ (List.mem_of_getElem? (i := 16) rfl)
theorem zw_467 : Cond.methodLink RX7 150 yX1_howMany ∈ zAll := zc_18 _ (List.mem_of_getElem? (i := 17) rfl)
theorem zw_468 : Cond.instanceMethod yX1_howMany ∈ zAll := zc_18 _ (List.mem_of_getElem? (i := 18) rfl)
theorem zw_469 : Cond.selects RX1 yX1_howMany yX1_howMany ∈ zAll := zc_18 _ (List.mem_of_getElem? (i := 19) rfl)
theorem zw_470 : Cond.code yX1_howMany cX1_howMany 3 (some .int) ∈ zAll := zc_18 _ (List.mem_of_getElem? (i := 20) rfl)
theorem zw_471 : Cond.methodLink RX7 156 yX1_longest ∈ zAll := zc_18 _ (List.mem_of_getElem? (i := 21) rfl)
theorem zw_472 : Cond.instanceMethod yX1_longest ∈ zAll := zc_18 _ (List.mem_of_getElem? (i := 22) rfl)
theorem zw_473 : Cond.selects RX1 yX1_longest yX1_longest ∈ zAll := zc_18 _ (List.mem_of_getElem? (i := 23) rfl)
theorem zw_474 : Cond.code yX1_longest cX1_longest 3 (some .int) ∈ zAll := zc_18 _ (List.mem_of_getElem? (i := 24) rfl)
theorem zw_475 : Cond.methodLink RX7 159 yX7_cutsThatStay ∈ zAll := zc_19 _ (List.mem_of_getElem? (i := 0) rfl)
theorem zw_476 : Cond.instanceMethod yX7_cutsThatStay ∈ zAll := zc_19 _ (List.mem_of_getElem? (i := 1) rfl)
theorem zw_477 : Cond.selects RX7 yX7_cutsThatStay yX7_cutsThatStay ∈ zAll := zc_19 _ (List.mem_of_getElem? (i := 2) rfl)
theorem zw_478 : Cond.code yX7_cutsThatStay cX7_cutsThatStay 5 (some .int) ∈ zAll := zc_19 _ (List.mem_of_getElem? (i := 3) rfl)
theorem zw_479 : Cond.methodLink RX7 195 yX5_becomesBy ∈ zAll := zc_19 _ (List.mem_of_getElem? (i := 4) rfl)
theorem zw_480 : Cond.static yX5_becomesBy ∈ zAll := zc_19 _ (List.mem_of_getElem? (i := 5) rfl)
theorem zw_481 : Cond.code yX5_becomesBy cX5_becomesBy 7 (some .long) ∈ zAll := zc_19 _ (List.mem_of_getElem? (i := 6) rfl)
theorem zw_482 : Cond.methodLink RX5 28 yX3_to ∈ zAll := zc_19 _ (List.mem_of_getElem? (i := 7) rfl)
theorem zw_483 : Cond.methodLink RX7 162 yX3_inverse ∈ zAll := zc_19 _ (List.mem_of_getElem? (i := 8) rfl)
theorem zw_484 : Cond.static yX3_inverse ∈ zAll := zc_19 _ (List.mem_of_getElem? (i := 9) rfl)
theorem zw_485 : Cond.code yX3_inverse cX3_inverse 5 (some .long) ∈ zAll := zc_19 _ (List.mem_of_getElem? (i := 10) rfl)
theorem zw_486 : Cond.methodLink RX7 166 yX6_lowestMark ∈ zAll := zc_19 _ (List.mem_of_getElem? (i := 11) rfl)
theorem zw_487 : Cond.instanceMethod yX6_lowestMark ∈ zAll := zc_19 _ (List.mem_of_getElem? (i := 12) rfl)
theorem zw_488 : Cond.selects RX6 yX6_lowestMark yX6_lowestMark ∈ zAll := zc_19 _ (List.mem_of_getElem? (i := 13) rfl)
theorem zw_489 : Cond.code yX6_lowestMark cX6_lowestMark 4 (some .int) ∈ zAll := zc_19 _ (List.mem_of_getElem? (i := 14) rfl)
theorem zw_490 : Cond.methodLink RL 71 yX8_of ∈ zAll := zc_19 _ (List.mem_of_getElem? (i := 15) rfl)
theorem zw_491 : Cond.instanceMethod yX8_of ∈ zAll := zc_19 _ (List.mem_of_getElem? (i := 16) rfl)
theorem zw_492 : Cond.selects RX8 yX8_of yX8_of ∈ zAll := zc_19 _ (List.mem_of_getElem? (i := 17) rfl)
theorem zw_493 : Cond.code yX8_of cX8_of 3 (some .int) ∈ zAll := zc_19 _ (List.mem_of_getElem? (i := 18) rfl)
theorem zw_494 : Cond.methodLink RX8 135 yX8_isMarkOrTrick ∈ zAll := zc_19 _ (List.mem_of_getElem? (i := 19) rfl)
theorem zw_495 : Cond.instanceMethod yX8_isMarkOrTrick ∈ zAll := zc_19 _ (List.mem_of_getElem? (i := 20) rfl)
theorem zw_496 : Cond.selects RX8 yX8_isMarkOrTrick yX8_isMarkOrTrick ∈ zAll := zc_19 _ (List.mem_of_getElem? (i := 21) rfl)
theorem zw_497 : Cond.code yX8_isMarkOrTrick cX8_isMarkOrTrick 2 (some .boolean) ∈ zAll := zc_19 _ (List.mem_of_getElem? (i := 22) rfl)
theorem zw_498 : Cond.methodLink RX8 138 yX8_order ∈ zAll := zc_19 _ (List.mem_of_getElem? (i := 23) rfl)
theorem zw_499 : Cond.instanceMethod yX8_order ∈ zAll := zc_19 _ (List.mem_of_getElem? (i := 24) rfl)
theorem zw_500 : Cond.selects RX8 yX8_order yX8_order ∈ zAll := zc_20 _ (List.mem_of_getElem? (i := 0) rfl)
theorem zw_501 : Cond.code yX8_order cX8_order 4 (some .int) ∈ zAll := zc_20 _ (List.mem_of_getElem? (i := 1) rfl)
theorem zw_502 : Cond.methodLink RX8 76 yX8_cycles ∈ zAll := zc_20 _ (List.mem_of_getElem? (i := 2) rfl)
theorem zw_503 : Cond.instanceMethod yX8_cycles ∈ zAll := zc_20 _ (List.mem_of_getElem? (i := 3) rfl)
theorem zw_504 : Cond.selects RX8 yX8_cycles yX8_cycles ∈ zAll := zc_20 _ (List.mem_of_getElem? (i := 4) rfl)
theorem zw_505 : Cond.code yX8_cycles cX8_cycles 6 (some .int) ∈ zAll := zc_20 _ (List.mem_of_getElem? (i := 5) rfl)
theorem zw_506 : Cond.methodLink RX8 80 yX8_common ∈ zAll := zc_20 _ (List.mem_of_getElem? (i := 6) rfl)
theorem zw_507 : Cond.static yX8_common ∈ zAll := zc_20 _ (List.mem_of_getElem? (i := 7) rfl)
theorem zw_508 : Cond.code yX8_common cX8_common 5 (some .int) ∈ zAll := zc_20 _ (List.mem_of_getElem? (i := 8) rfl)
theorem zw_509 : Cond.methodLink RX8 141 yX8_fixed ∈ zAll := zc_20 _ (List.mem_of_getElem? (i := 9) rfl)
theorem zw_510 : Cond.instanceMethod yX8_fixed ∈ zAll := zc_20 _ (List.mem_of_getElem? (i := 10) rfl)
theorem zw_511 : Cond.selects RX8 yX8_fixed yX8_fixed ∈ zAll := zc_20 _ (List.mem_of_getElem? (i := 11) rfl)
theorem zw_512 : Cond.code yX8_fixed cX8_fixed 4 (some .int) ∈ zAll := zc_20 _ (List.mem_of_getElem? (i := 12) rfl)
theorem zw_513 : Cond.methodLink RX8 144 yX8_longest ∈ zAll := zc_20 _ (List.mem_of_getElem? (i := 13) rfl)
theorem zw_514 : Cond.instanceMethod yX8_longest ∈ zAll := zc_20 _ (List.mem_of_getElem? (i := 14) rfl)
theorem zw_515 : Cond.selects RX8 yX8_longest yX8_longest ∈ zAll := zc_20 _ (List.mem_of_getElem? (i := 15) rfl)
theorem zw_516 : Cond.code yX8_longest cX8_longest 4 (some .int) ∈ zAll := zc_20 _ (List.mem_of_getElem? (i := 16) rfl)
theorem zw_517 : Cond.methodLink RX8 147 yX8_cutsWith ∈ zAll := zc_20 _ (List.mem_of_getElem? (i := 17) rfl)
theorem zw_518 : Cond.instanceMethod yX8_cutsWith ∈ zAll := zc_20 _ (List.mem_of_getElem? (i := 18) rfl)
theorem zw_519 : Cond.selects RX8 yX8_cutsWith yX8_cutsWith ∈ zAll := zc_20 _ (List.mem_of_getElem? (i := 19) rfl)
theorem zw_520 : Cond.code yX8_cutsWith cX8_cutsWith 4 (some .int) ∈ zAll := zc_20 _ (List.mem_of_getElem? (i := 20) rfl)
theorem zw_521 : Cond.methodLink RX8 128 yX8_doCommute ∈ zAll := zc_20 _ (List.mem_of_getElem? (i := 21) rfl)
theorem zw_522 : Cond.instanceMethod yX8_doCommute ∈ zAll := zc_20 _ (List.mem_of_getElem? (i := 22) rfl)
theorem zw_523 : Cond.selects RX8 yX8_doCommute yX8_doCommute ∈ zAll := zc_20 _ (List.mem_of_getElem? (i := 23) rfl)
theorem zw_524 : Cond.code yX8_doCommute cX8_doCommute 5 (some .boolean) ∈ zAll := zc_20 _ (List.mem_of_getElem? (i := 24) rfl)
theorem zw_525 : Cond.methodLink RX8 150 yX8_laysInverse ∈ zAll := zc_21 _ (List.mem_of_getElem? (i := 0) rfl)
theorem zw_526 : Cond.instanceMethod yX8_laysInverse ∈ zAll := zc_21 _ (List.mem_of_getElem? (i := 1) rfl)
theorem zw_527 : Cond.selects RX8 yX8_laysInverse yX8_laysInverse ∈ zAll := zc_21 _ (List.mem_of_getElem? (i := 2) rfl)
theorem zw_528 : Cond.code yX8_laysInverse cX8_laysInverse 4 none ∈ zAll := zc_21 _ (List.mem_of_getElem? (i := 3) rfl)
theorem zw_529 : Cond.methodLink RX8 154 yX8_markAs ∈ zAll := zc_21 _ (List.mem_of_getElem? (i := 4) rfl)
theorem zw_530 : Cond.instanceMethod yX8_markAs ∈ zAll := zc_21 _ (List.mem_of_getElem? (i := 5) rfl)
theorem zw_531 : Cond.selects RX8 yX8_markAs yX8_markAs ∈ zAll := zc_21 _ (List.mem_of_getElem? (i := 6) rfl)
theorem zw_532 : Cond.code yX8_markAs cX8_markAs 3 (some .int) ∈ zAll := zc_21 _ (List.mem_of_getElem? (i := 7) rfl)
theorem zw_533 : Cond.methodLink RX8 132 yX8_areAlike ∈ zAll := zc_21 _ (List.mem_of_getElem? (i := 8) rfl)
theorem zw_534 : Cond.instanceMethod yX8_areAlike ∈ zAll := zc_21 _ (List.mem_of_getElem? (i := 9) rfl)
theorem zw_535 : Cond.selects RX8 yX8_areAlike yX8_areAlike ∈ zAll := zc_21 _ (List.mem_of_getElem? (i := 10) rfl)
theorem zw_536 : Cond.code yX8_areAlike cX8_areAlike 5 (some .boolean) ∈ zAll := zc_21 _ (List.mem_of_getElem? (i := 11) rfl)
theorem zw_537 : Cond.methodLink RL 72 yX7_image ∈ zAll := zc_21 _ (List.mem_of_getElem? (i := 12) rfl)
theorem zw_538 : Cond.instanceMethod yX7_image ∈ zAll := zc_21 _ (List.mem_of_getElem? (i := 13) rfl)
theorem zw_539 : Cond.selects RX7 yX7_image yX7_image ∈ zAll := zc_21 _ (List.mem_of_getElem? (i := 14) rfl)
theorem zw_540 : Cond.code yX7_image cX7_image 4 (some .int) ∈ zAll := zc_21 _ (List.mem_of_getElem? (i := 15) rfl)
theorem zw_541 : Cond.methodLink RX7 169 yX3_toAfter ∈ zAll := zc_21 _ (List.mem_of_getElem? (i := 16) rfl)
theorem zw_542 : Cond.methodLink RL 76 yX8_image ∈ zAll := zc_21 _ (List.mem_of_getElem? (i := 17) rfl)
theorem zw_543 : Cond.instanceMethod yX8_image ∈ zAll := zc_21 _ (List.mem_of_getElem? (i := 18) rfl)
theorem zw_544 : Cond.selects RX8 yX8_image yX8_image ∈ zAll := zc_21 _ (List.mem_of_getElem? (i := 19) rfl)
theorem zw_545 : Cond.code yX8_image cX8_image 4 (some .int) ∈ zAll := zc_21 _ (List.mem_of_getElem? (i := 20) rfl)
theorem zw_546 : Cond.methodLink RL 77 yX7_commuting ∈ zAll := zc_21 _ (List.mem_of_getElem? (i := 21) rfl)
theorem zw_547 : Cond.instanceMethod yX7_commuting ∈ zAll := zc_21 _ (List.mem_of_getElem? (i := 22) rfl)
theorem zw_548 : Cond.selects RX7 yX7_commuting yX7_commuting ∈ zAll := zc_21 _ (List.mem_of_getElem? (i := 23) rfl)
theorem zw_549 : Cond.code yX7_commuting cX7_commuting 2 (some .long) ∈ zAll := zc_21 _ (List.mem_of_getElem? (i := 24) rfl)
theorem zw_550 : Cond.constantLong RX7 173 (-1) ∈ zAll := zc_22 _ (List.mem_of_getElem? (i := 0) rfl)
theorem zw_551 : Cond.methodLink RX7 175 yX1_marksThatCommute ∈ zAll := zc_22 _ (List.mem_of_getElem? (i := 1) rfl)
theorem zw_552 : Cond.instanceMethod yX1_marksThatCommute ∈ zAll := zc_22 _ (List.mem_of_getElem? (i := 2) rfl)
theorem zw_553 : Cond.selects RX1 yX1_marksThatCommute yX1_marksThatCommute ∈ zAll := zc_22 _ (List.mem_of_getElem? (i := 3) rfl)
theorem zw_554 : Cond.code yX1_marksThatCommute cX1_marksThatCommute 5 (some .long) ∈ zAll := zc_22 _ (List.mem_of_getElem? (i := 4) rfl)
theorem zw_555 : Cond.methodLink RL 81 yX8_commuting ∈ zAll := zc_22 _ (List.mem_of_getElem? (i := 5) rfl)
theorem zw_556 : Cond.instanceMethod yX8_commuting ∈ zAll := zc_22 _ (List.mem_of_getElem? (i := 6) rfl)
theorem zw_557 : Cond.selects RX8 yX8_commuting yX8_commuting ∈ zAll := zc_22 _ (List.mem_of_getElem? (i := 7) rfl)
theorem zw_558 : Cond.code yX8_commuting cX8_commuting 6 (some .long) ∈ zAll := zc_22 _ (List.mem_of_getElem? (i := 8) rfl)
theorem zw_559 : Cond.constantLong RX8 157 (-1) ∈ zAll := zc_22 _ (List.mem_of_getElem? (i := 9) rfl)
theorem zw_560 : Cond.methodLink RL 82 yX7_commute ∈ zAll := zc_22 _ (List.mem_of_getElem? (i := 10) rfl)
theorem zw_561 : Cond.instanceMethod yX7_commute ∈ zAll := zc_22 _ (List.mem_of_getElem? (i := 11) rfl)
theorem zw_562 : Cond.selects RX7 yX7_commute yX7_commute ∈ zAll := zc_22 _ (List.mem_of_getElem? (i := 12) rfl)
theorem zw_563 : Cond.code yX7_commute cX7_commute 7 (some .int) ∈ zAll := zc_22 _ (List.mem_of_getElem? (i := 13) rfl)
theorem zw_564 : Cond.methodLink RL 85 yX8_commute ∈ zAll := zc_22 _ (List.mem_of_getElem? (i := 14) rfl)
theorem zw_565 : Cond.instanceMethod yX8_commute ∈ zAll := zc_22 _ (List.mem_of_getElem? (i := 15) rfl)
theorem zw_566 : Cond.selects RX8 yX8_commute yX8_commute ∈ zAll := zc_22 _ (List.mem_of_getElem? (i := 16) rfl)
theorem zw_567 : Cond.code yX8_commute cX8_commute 3 (some .int) ∈ zAll := zc_22 _ (List.mem_of_getElem? (i := 17) rfl)
theorem zw_568 : Cond.methodLink RL 86 yX7_count ∈ zAll := zc_22 _ (List.mem_of_getElem? (i := 18) rfl)
theorem zw_569 : Cond.instanceMethod yX7_count ∈ zAll := zc_22 _ (List.mem_of_getElem? (i := 19) rfl)
theorem zw_570 : Cond.selects RX7 yX7_count yX7_count ∈ zAll := zc_22 _ (List.mem_of_getElem? (i := 20) rfl)
theorem zw_571 : Cond.code yX7_count cX7_count 2 (some .int) ∈ zAll := zc_22 _ (List.mem_of_getElem? (i := 21) rfl)
theorem zw_572 : Cond.methodLink RL 89 yX8_count ∈ zAll := zc_22 _ (List.mem_of_getElem? (i := 22) rfl)
theorem zw_573 : Cond.instanceMethod yX8_count ∈ zAll := zc_22 _ (List.mem_of_getElem? (i := 23) rfl)
theorem zw_574 : Cond.selects RX8 yX8_count yX8_count ∈ zAll := zc_22 _ (List.mem_of_getElem? (i := 24) rfl)
theorem zw_575 : Cond.code yX8_count cX8_count 2 (some .int) ∈ zAll := zc_23 _ (List.mem_of_getElem? (i := 0) rfl)
theorem zw_576 : Cond.methodLink RX8 159 yX8_inPlace ∈ zAll := zc_23 _ (List.mem_of_getElem? (i := 1) rfl)
theorem zw_577 : Cond.instanceMethod yX8_inPlace ∈ zAll := zc_23 _ (List.mem_of_getElem? (i := 2) rfl)
theorem zw_578 : Cond.selects RX8 yX8_inPlace yX8_inPlace ∈ zAll := zc_23 _ (List.mem_of_getElem? (i := 3) rfl)
theorem zw_579 : Cond.code yX8_inPlace cX8_inPlace 3 (some .int) ∈ zAll := zc_23 _ (List.mem_of_getElem? (i := 4) rfl)
theorem zw_580 : Cond.methodLink RX8 162 yX8_isInOrder ∈ zAll := zc_23 _ (List.mem_of_getElem? (i := 5) rfl)
theorem zw_581 : Cond.instanceMethod yX8_isInOrder ∈ zAll := zc_23 _ (List.mem_of_getElem? (i := 6) rfl)
theorem zw_582 : Cond.selects RX8 yX8_isInOrder yX8_isInOrder ∈ zAll := zc_23 _ (List.mem_of_getElem? (i := 7) rfl)
theorem zw_583 : Cond.code yX8_isInOrder cX8_isInOrder 1 (some .boolean) ∈ zAll := zc_23 _ (List.mem_of_getElem? (i := 8) rfl)
theorem zw_584 : Cond.methodLink RL 90 yX7_spread ∈ zAll := zc_23 _ (List.mem_of_getElem? (i := 9) rfl)
theorem zw_585 : Cond.instanceMethod yX7_spread ∈ zAll := zc_23 _ (List.mem_of_getElem? (i := 10) rfl)
theorem zw_586 : Cond.selects RX7 yX7_spread yX7_spread ∈ zAll := zc_23 _ (List.mem_of_getElem? (i := 11) rfl)
theorem zw_587 : Cond.code yX7_spread cX7_spread 5 (some .long) ∈ zAll := zc_23 _ (List.mem_of_getElem? (i := 12) rfl)
theorem zw_588 : Cond.methodLink RX7 179 yX0_ofDouble ∈ zAll := zc_23 _ (List.mem_of_getElem? (i := 13) rfl)
theorem zw_589 : Cond.static yX0_ofDouble ∈ zAll := zc_23 _ (List.mem_of_getElem? (i := 14) rfl)
theorem zw_590 : Cond.initialized RX0 ∈ zAll := zc_23 _ (List.mem_of_getElem? (i := 15) rfl)
theorem zw_591 : Cond.code yX0_ofDouble cX0_ofDouble 7 (some .long) ∈ zAll := zc_23 _ (List.mem_of_getElem? (i := 16) rfl)
theorem zw_592 : Cond.constantDouble RX0 7 (4611686018427387904) ∈ zAll := zc_23 _ (List.mem_of_getElem? (i := 17) rfl)
theorem zw_593 : Cond.constantDouble RX0 11 (4841369599423283200) ∈ zAll := zc_23 _ (List.mem_of_getElem? (i := 18) rfl)
theorem zw_594 : Cond.methodLink RL 94 yX8_spread ∈ zAll := zc_23 _ (List.mem_of_getElem? (i := 19) rfl)
theorem zw_595 : Cond.instanceMethod yX8_spread ∈ zAll := zc_23 _ (List.mem_of_getElem? (i := 20) rfl)
theorem zw_596 : Cond.selects RX8 yX8_spread yX8_spread ∈ zAll := zc_23 _ (List.mem_of_getElem? (i := 21) rfl)
theorem zw_597 : Cond.code yX8_spread cX8_spread 5 (some .long) ∈ zAll := zc_23 _ (List.mem_of_getElem? (i := 22) rfl)
theorem zw_598 : Cond.methodLink RX8 166 yJxe99ae_doubleToLongBits_ccdee ∈ zAll := zc_23 _ (List.mem_of_getElem? (i := 23) rfl)
theorem zw_599 : Cond.static yJxe99ae_doubleToLongBits_ccdee ∈ zAll := zc_23 _ (List.mem_of_getElem? (i := 24) rfl)
theorem zw_600 : Cond.initialized RJxe99ae ∈ zAll := zc_24 _ (List.mem_of_getElem? (i := 0) rfl)
theorem zw_601 : Cond.code yJxe99ae_doubleToLongBits_ccdee cJxe99ae_doubleToLongBits_ccdee 2 (some .long) ∈ zAll := zc_24 _ (List.mem_of_getElem? (i := 1) rfl)
theorem zw_602 : Cond.methodLink RJxe99ae 134 ⟨"java/lang/Double", "doubleToRawLongBits", "(D)J"⟩ ∈ zAll := zc_24 _ (List.mem_of_getElem? (i := 2) rfl)
theorem zw_603 : Cond.native ⟨"java/lang/Double", "doubleToRawLongBits", "(D)J"⟩ ∈ zAll := zc_24 _ (List.mem_of_getElem? (i := 3) rfl)
theorem zw_604 : Cond.static ⟨"java/lang/Double", "doubleToRawLongBits", "(D)J"⟩ ∈ zAll := zc_24 _ (List.mem_of_getElem? (i := 4) rfl)
theorem zw_605 : Cond.constantLong RJxe99ae 137 (9221120237041090560) ∈ zAll := zc_24 _ (List.mem_of_getElem? (i := 5) rfl)
theorem zw_606 : Cond.methodLink RJxe99ae 122 yJxe99ae_isNaN_b9ae7 ∈ zAll := zc_24 _ (List.mem_of_getElem? (i := 6) rfl)
theorem zw_607 : Cond.static yJxe99ae_isNaN_b9ae7 ∈ zAll := zc_24 _ (List.mem_of_getElem? (i := 7) rfl)
theorem zw_608 : Cond.code yJxe99ae_isNaN_b9ae7 cJxe99ae_isNaN_b9ae7 2 (some .boolean) ∈ zAll := zc_24 _ (List.mem_of_getElem? (i := 8) rfl)
theorem zw_609 : Cond.methodLink RL 95 yX7_share ∈ zAll := zc_24 _ (List.mem_of_getElem? (i := 9) rfl)
theorem zw_610 : Cond.instanceMethod yX7_share ∈ zAll := zc_24 _ (List.mem_of_getElem? (i := 10) rfl)
theorem zw_611 : Cond.selects RX7 yX7_share yX7_share ∈ zAll := zc_24 _ (List.mem_of_getElem? (i := 11) rfl)
theorem zw_612 : Cond.code yX7_share cX7_share 2 (some .int) ∈ zAll := zc_24 _ (List.mem_of_getElem? (i := 12) rfl)
theorem zw_613 : Cond.methodLink RX7 191 yX0_ofShare ∈ zAll := zc_24 _ (List.mem_of_getElem? (i := 13) rfl)
theorem zw_614 : Cond.static yX0_ofShare ∈ zAll := zc_24 _ (List.mem_of_getElem? (i := 14) rfl)
theorem zw_615 : Cond.code yX0_ofShare cX0_ofShare 4 (some .int) ∈ zAll := zc_24 _ (List.mem_of_getElem? (i := 15) rfl)
theorem zw_616 : Cond.constantFloat RX0 13 (1258291200) ∈ zAll := zc_24 _ (List.mem_of_getElem? (i := 16) rfl)
theorem zw_617 : Cond.methodLink RL 98 yX8_share ∈ zAll := zc_24 _ (List.mem_of_getElem? (i := 17) rfl)
theorem zw_618 : Cond.instanceMethod yX8_share ∈ zAll := zc_24 _ (List.mem_of_getElem? (i := 18) rfl)
theorem zw_619 : Cond.selects RX8 yX8_share yX8_share ∈ zAll := zc_24 _ (List.mem_of_getElem? (i := 19) rfl)
theorem zw_620 : Cond.code yX8_share cX8_share 3 (some .int) ∈ zAll := zc_24 _ (List.mem_of_getElem? (i := 20) rfl)
theorem zw_621 : Cond.methodLink RX8 172 yJxf58ca_floatToIntBits_5c35a ∈ zAll := zc_24 _ (List.mem_of_getElem? (i := 21) rfl)
theorem zw_622 : Cond.static yJxf58ca_floatToIntBits_5c35a ∈ zAll := zc_24 _ (List.mem_of_getElem? (i := 22) rfl)
theorem zw_623 : Cond.initialized RJxf58ca ∈ zAll := zc_24 _ (List.mem_of_getElem? (i := 23) rfl)
theorem zw_624 : Cond.code yJxf58ca_floatToIntBits_5c35a cJxf58ca_floatToIntBits_5c35a 1 (some .int) ∈ zAll := zc_24 _ (List.mem_of_getElem? (i := 24) rfl)
theorem zw_625 : Cond.methodLink RJxf58ca 74 ⟨"java/lang/Float", "floatToRawIntBits", "(F)I"⟩ ∈ zAll := zc_25 _ (List.mem_of_getElem? (i := 0) rfl)
theorem zw_626 : Cond.native ⟨"java/lang/Float", "floatToRawIntBits", "(F)I"⟩ ∈ zAll := zc_25 _ (List.mem_of_getElem? (i := 1) rfl)
theorem zw_627 : Cond.static ⟨"java/lang/Float", "floatToRawIntBits", "(F)I"⟩ ∈ zAll := zc_25 _ (List.mem_of_getElem? (i := 2) rfl)
theorem zw_628 : Cond.constant RJxf58ca 77 (2143289344) ∈ zAll := zc_25 _ (List.mem_of_getElem? (i := 3) rfl)
theorem zw_629 : Cond.methodLink RJxf58ca 59 yJxf58ca_isNaN_12338 ∈ zAll := zc_25 _ (List.mem_of_getElem? (i := 4) rfl)
theorem zw_630 : Cond.static yJxf58ca_isNaN_12338 ∈ zAll := zc_25 _ (List.mem_of_getElem? (i := 5) rfl)
theorem zw_631 : Cond.code yJxf58ca_isNaN_12338 cJxf58ca_isNaN_12338 1 (some .boolean) ∈ zAll := zc_25 _ (List.mem_of_getElem? (i := 6) rfl)
theorem zw_632 : Cond.methodLink RL 99 yX7_byCut ∈ zAll := zc_25 _ (List.mem_of_getElem? (i := 7) rfl)
theorem zw_633 : Cond.instanceMethod yX7_byCut ∈ zAll := zc_25 _ (List.mem_of_getElem? (i := 8) rfl)
theorem zw_634 : Cond.selects RX7 yX7_byCut yX7_byCut ∈ zAll := zc_25 _ (List.mem_of_getElem? (i := 9) rfl)
theorem zw_635 : Cond.code yX7_byCut cX7_byCut 4 (some .int) ∈ zAll := zc_25 _ (List.mem_of_getElem? (i := 10) rfl)
theorem zw_636 : Cond.methodLink RL 102 yX8_byCut ∈ zAll := zc_25 _ (List.mem_of_getElem? (i := 11) rfl)
theorem zw_637 : Cond.instanceMethod yX8_byCut ∈ zAll := zc_25 _ (List.mem_of_getElem? (i := 12) rfl)
theorem zw_638 : Cond.selects RX8 yX8_byCut yX8_byCut ∈ zAll := zc_25 _ (List.mem_of_getElem? (i := 13) rfl)
theorem zw_639 : Cond.code yX8_byCut cX8_byCut 4 (some .int) ∈ zAll := zc_25 _ (List.mem_of_getElem? (i := 14) rfl)
theorem zw_640 : Cond.methodLink RX8 178 yX8_laysByCut ∈ zAll := zc_25 _ (List.mem_of_getElem? (i := 15) rfl)
theorem zw_641 : Cond.instanceMethod yX8_laysByCut ∈ zAll := zc_25 _ (List.mem_of_getElem? (i := 16) rfl)
theorem zw_642 : Cond.selects RX8 yX8_laysByCut yX8_laysByCut ∈ zAll := zc_25 _ (List.mem_of_getElem? (i := 17) rfl)
theorem zw_643 : Cond.code yX8_laysByCut cX8_laysByCut 4 none ∈ zAll := zc_25 _ (List.mem_of_getElem? (i := 18) rfl)
theorem zw_644 : Cond.methodLink RL 103 yX7_becomes ∈ zAll := zc_25 _ (List.mem_of_getElem? (i := 19) rfl)
theorem zw_645 : Cond.instanceMethod yX7_becomes ∈ zAll := zc_25 _ (List.mem_of_getElem? (i := 20) rfl)
theorem zw_646 : Cond.selects RX7 yX7_becomes yX7_becomes ∈ zAll := zc_25 _ (List.mem_of_getElem? (i := 21) rfl)
theorem zw_647 : Cond.code yX7_becomes cX7_becomes 3 (some .int) ∈ zAll := zc_25 _ (List.mem_of_getElem? (i := 22) rfl)
theorem zw_648 : Cond.methodLink RL 106 yX8_becomes ∈ zAll := zc_25 _ (List.mem_of_getElem? (i := 23) rfl)
theorem zw_649 : Cond.instanceMethod yX8_becomes ∈ zAll := zc_25 _ (List.mem_of_getElem? (i := 24) rfl)
theorem zw_650 : Cond.selects RX8 yX8_becomes yX8_becomes ∈ zAll := zc_26 _ (List.mem_of_getElem? (i := 0) rfl)
theorem zw_651 : Cond.code yX8_becomes cX8_becomes 3 (some .int) ∈ zAll := zc_26 _ (List.mem_of_getElem? (i := 1) rfl)
theorem zw_652 : Cond.methodLink RL 107 yX7_ordersIn ∈ zAll := zc_26 _ (List.mem_of_getElem? (i := 2) rfl)
theorem zw_653 : Cond.instanceMethod yX7_ordersIn ∈ zAll := zc_26 _ (List.mem_of_getElem? (i := 3) rfl)
theorem zw_654 : Cond.selects RX7 yX7_ordersIn yX7_ordersIn ∈ zAll := zc_26 _ (List.mem_of_getElem? (i := 4) rfl)
theorem zw_655 : Cond.code yX7_ordersIn cX7_ordersIn 8 (some .int) ∈ zAll := zc_26 _ (List.mem_of_getElem? (i := 5) rfl)
theorem zw_656 : Cond.methodLink RL 110 yX8_ordersIn ∈ zAll := zc_26 _ (List.mem_of_getElem? (i := 6) rfl)
theorem zw_657 : Cond.instanceMethod yX8_ordersIn ∈ zAll := zc_26 _ (List.mem_of_getElem? (i := 7) rfl)
theorem zw_658 : Cond.selects RX8 yX8_ordersIn yX8_ordersIn ∈ zAll := zc_26 _ (List.mem_of_getElem? (i := 8) rfl)
theorem zw_659 : Cond.code yX8_ordersIn cX8_ordersIn 5 (some .int) ∈ zAll := zc_26 _ (List.mem_of_getElem? (i := 9) rfl)
theorem zw_660 : Cond.methodLink RL 111 yX7_fewestSteps ∈ zAll := zc_26 _ (List.mem_of_getElem? (i := 10) rfl)
theorem zw_661 : Cond.instanceMethod yX7_fewestSteps ∈ zAll := zc_26 _ (List.mem_of_getElem? (i := 11) rfl)
theorem zw_662 : Cond.selects RX7 yX7_fewestSteps yX7_fewestSteps ∈ zAll := zc_26 _ (List.mem_of_getElem? (i := 12) rfl)
theorem zw_663 : Cond.code yX7_fewestSteps cX7_fewestSteps 2 (some .int) ∈ zAll := zc_26 _ (List.mem_of_getElem? (i := 13) rfl)
theorem zw_664 : Cond.methodLink RX7 199 yX7_lowestWay ∈ zAll := zc_26 _ (List.mem_of_getElem? (i := 14) rfl)
theorem zw_665 : Cond.instanceMethod yX7_lowestWay ∈ zAll := zc_26 _ (List.mem_of_getElem? (i := 15) rfl)
theorem zw_666 : Cond.selects RX7 yX7_lowestWay yX7_lowestWay ∈ zAll := zc_26 _ (List.mem_of_getElem? (i := 16) rfl)
theorem zw_667 : Cond.code yX7_lowestWay cX7_lowestWay 4 (some .int) ∈ zAll := zc_26 _ (List.mem_of_getElem? (i := 17) rfl)
theorem zw_668 : Cond.methodLink RX7 233 yX7_ordersDeck ∈ zAll := zc_26 _ (List.mem_of_getElem? (i := 18) rfl)
theorem zw_669 : Cond.instanceMethod yX7_ordersDeck ∈ zAll := zc_26 _ (List.mem_of_getElem? (i := 19) rfl)
theorem zw_670 : Cond.selects RX7 yX7_ordersDeck yX7_ordersDeck ∈ zAll := zc_26 _ (List.mem_of_getElem? (i := 20) rfl)
theorem zw_671 : Cond.code yX7_ordersDeck cX7_ordersDeck 6 (some .boolean) ∈ zAll := zc_26 _ (List.mem_of_getElem? (i := 21) rfl)
theorem zw_672 : Cond.methodLink RX7 205 yX7_stepOfWay ∈ zAll := zc_26 _ (List.mem_of_getElem? (i := 22) rfl)
theorem zw_673 : Cond.static yX7_stepOfWay ∈ zAll := zc_26 _ (List.mem_of_getElem? (i := 23) rfl)
theorem zw_674 : Cond.code yX7_stepOfWay cX7_stepOfWay 3 (some .int) ∈ zAll := zc_26 _ (List.mem_of_getElem? (i := 24) rfl)
theorem zw_675 : Cond.methodLink RX7 237 yX5_stepTo ∈ zAll := zc_27 _ (List.mem_of_getElem? (i := 0) rfl)
theorem zw_676 : Cond.methodLink RL 114 yX8_fewestSteps ∈ zAll := zc_27 _ (List.mem_of_getElem? (i := 1) rfl)
theorem zw_677 : Cond.instanceMethod yX8_fewestSteps ∈ zAll := zc_27 _ (List.mem_of_getElem? (i := 2) rfl)
theorem zw_678 : Cond.selects RX8 yX8_fewestSteps yX8_fewestSteps ∈ zAll := zc_27 _ (List.mem_of_getElem? (i := 3) rfl)
theorem zw_679 : Cond.code yX8_fewestSteps cX8_fewestSteps 2 (some .int) ∈ zAll := zc_27 _ (List.mem_of_getElem? (i := 4) rfl)
theorem zw_680 : Cond.methodLink RX8 189 yX8_leastSteps ∈ zAll := zc_27 _ (List.mem_of_getElem? (i := 5) rfl)
theorem zw_681 : Cond.instanceMethod yX8_leastSteps ∈ zAll := zc_27 _ (List.mem_of_getElem? (i := 6) rfl)
theorem zw_682 : Cond.selects RX8 yX8_leastSteps yX8_leastSteps ∈ zAll := zc_27 _ (List.mem_of_getElem? (i := 7) rfl)
theorem zw_683 : Cond.code yX8_leastSteps cX8_leastSteps 3 (some .int) ∈ zAll := zc_27 _ (List.mem_of_getElem? (i := 8) rfl)
theorem zw_684 : Cond.methodLink RX8 185 yX8_areOrdering ∈ zAll := zc_27 _ (List.mem_of_getElem? (i := 9) rfl)
theorem zw_685 : Cond.instanceMethod yX8_areOrdering ∈ zAll := zc_27 _ (List.mem_of_getElem? (i := 10) rfl)
theorem zw_686 : Cond.selects RX8 yX8_areOrdering yX8_areOrdering ∈ zAll := zc_27 _ (List.mem_of_getElem? (i := 11) rfl)
theorem zw_687 : Cond.code yX8_areOrdering cX8_areOrdering 5 (some .boolean) ∈ zAll := zc_27 _ (List.mem_of_getElem? (i := 12) rfl)
theorem zw_688 : Cond.methodLink RX8 182 yX8_laysStep ∈ zAll := zc_27 _ (List.mem_of_getElem? (i := 13) rfl)
theorem zw_689 : Cond.instanceMethod yX8_laysStep ∈ zAll := zc_27 _ (List.mem_of_getElem? (i := 14) rfl)
theorem zw_690 : Cond.selects RX8 yX8_laysStep yX8_laysStep ∈ zAll := zc_27 _ (List.mem_of_getElem? (i := 15) rfl)
theorem zw_691 : Cond.code yX8_laysStep cX8_laysStep 2 none ∈ zAll := zc_27 _ (List.mem_of_getElem? (i := 16) rfl)
theorem zw_692 : Cond.methodLink RL 115 yX7_firstStep ∈ zAll := zc_27 _ (List.mem_of_getElem? (i := 17) rfl)
theorem zw_693 : Cond.instanceMethod yX7_firstStep ∈ zAll := zc_27 _ (List.mem_of_getElem? (i := 18) rfl)
theorem zw_694 : Cond.selects RX7 yX7_firstStep yX7_firstStep ∈ zAll := zc_27 _ (List.mem_of_getElem? (i := 19) rfl)
theorem zw_695 : Cond.code yX7_firstStep cX7_firstStep 2 (some .int) ∈ zAll := zc_27 _ (List.mem_of_getElem? (i := 20) rfl)
theorem zw_696 : Cond.methodLink RX7 202 yX7_fewestSteps ∈ zAll := zc_27 _ (List.mem_of_getElem? (i := 21) rfl)
theorem zw_697 : Cond.methodLink RL 118 yX8_firstStep ∈ zAll := zc_27 _ (List.mem_of_getElem? (i := 22) rfl)
theorem zw_698 : Cond.instanceMethod yX8_firstStep ∈ zAll := zc_27 _ (List.mem_of_getElem? (i := 23) rfl)
theorem zw_699 : Cond.selects RX8 yX8_firstStep yX8_firstStep ∈ zAll := zc_27 _ (List.mem_of_getElem? (i := 24) rfl)
theorem zw_700 : Cond.code yX8_firstStep cX8_firstStep 3 (some .int) ∈ zAll := zc_28 _ (List.mem_of_getElem? (i := 0) rfl)
theorem zw_701 : Cond.methodLink RL 121 yX7_put ∈ zAll := zc_28 _ (List.mem_of_getElem? (i := 1) rfl)
theorem zw_702 : Cond.instanceMethod yX7_put ∈ zAll := zc_28 _ (List.mem_of_getElem? (i := 2) rfl)
theorem zw_703 : Cond.selects RX7 yX7_put yX7_put ∈ zAll := zc_28 _ (List.mem_of_getElem? (i := 3) rfl)
theorem zw_704 : Cond.code yX7_put cX7_put 5 (some .int) ∈ zAll := zc_28 _ (List.mem_of_getElem? (i := 4) rfl)
theorem zw_705 : Cond.methodLink RX7 209 yX7_charactersIn ∈ zAll := zc_28 _ (List.mem_of_getElem? (i := 5) rfl)
theorem zw_706 : Cond.static yX7_charactersIn ∈ zAll := zc_28 _ (List.mem_of_getElem? (i := 6) rfl)
theorem zw_707 : Cond.code yX7_charactersIn cX7_charactersIn 4 (some .int) ∈ zAll := zc_28 _ (List.mem_of_getElem? (i := 7) rfl)
theorem zw_708 : Cond.methodLink RX7 212 yX7_codeAt ∈ zAll := zc_28 _ (List.mem_of_getElem? (i := 8) rfl)
theorem zw_709 : Cond.static yX7_codeAt ∈ zAll := zc_28 _ (List.mem_of_getElem? (i := 9) rfl)
theorem zw_710 : Cond.code yX7_codeAt cX7_codeAt 3 (some .int) ∈ zAll := zc_28 _ (List.mem_of_getElem? (i := 10) rfl)
theorem zw_711 : Cond.methodLink RX7 215 yX7_append ∈ zAll := zc_28 _ (List.mem_of_getElem? (i := 11) rfl)
theorem zw_712 : Cond.instanceMethod yX7_append ∈ zAll := zc_28 _ (List.mem_of_getElem? (i := 12) rfl)
theorem zw_713 : Cond.selects RX7 yX7_append yX7_append ∈ zAll := zc_28 _ (List.mem_of_getElem? (i := 13) rfl)
theorem zw_714 : Cond.code yX7_append cX7_append 2 none ∈ zAll := zc_28 _ (List.mem_of_getElem? (i := 14) rfl)
theorem zw_715 : Cond.methodLink RL 125 yX8_put ∈ zAll := zc_28 _ (List.mem_of_getElem? (i := 15) rfl)
theorem zw_716 : Cond.instanceMethod yX8_put ∈ zAll := zc_28 _ (List.mem_of_getElem? (i := 16) rfl)
theorem zw_717 : Cond.selects RX8 yX8_put yX8_put ∈ zAll := zc_28 _ (List.mem_of_getElem? (i := 17) rfl)
theorem zw_718 : Cond.code yX8_put cX8_put 8 (some .int) ∈ zAll := zc_28 _ (List.mem_of_getElem? (i := 18) rfl)
theorem zw_719 : Cond.constantLong RX8 192 (255) ∈ zAll := zc_28 _ (List.mem_of_getElem? (i := 19) rfl)
theorem zw_720 : Cond.methodLink RL 126 yX7_wipe ∈ zAll := zc_28 _ (List.mem_of_getElem? (i := 20) rfl)
theorem zw_721 : Cond.instanceMethod yX7_wipe ∈ zAll := zc_28 _ (List.mem_of_getElem? (i := 21) rfl)
theorem zw_722 : Cond.selects RX7 yX7_wipe yX7_wipe ∈ zAll := zc_28 _ (List.mem_of_getElem? (i := 22) rfl)
theorem zw_723 : Cond.code yX7_wipe cX7_wipe 2 (some .int) ∈ zAll := zc_28 _ (List.mem_of_getElem? (i := 23) rfl)
theorem zw_724 : Cond.methodLink RL 129 yX8_wipe ∈ zAll := zc_28 _ (List.mem_of_getElem? (i := 24) rfl)
theorem zw_725 : Cond.instanceMethod yX8_wipe ∈ zAll := zc_29 _ (List.mem_of_getElem? (i := 0) rfl)
theorem zw_726 : Cond.selects RX8 yX8_wipe yX8_wipe ∈ zAll := zc_29 _ (List.mem_of_getElem? (i := 1) rfl)
theorem zw_727 : Cond.code yX8_wipe cX8_wipe 2 (some .int) ∈ zAll := zc_29 _ (List.mem_of_getElem? (i := 2) rfl)
theorem zw_728 : Cond.methodLink RL 130 yX7_fault ∈ zAll := zc_29 _ (List.mem_of_getElem? (i := 3) rfl)
theorem zw_729 : Cond.instanceMethod yX7_fault ∈ zAll := zc_29 _ (List.mem_of_getElem? (i := 4) rfl)
theorem zw_730 : Cond.selects RX7 yX7_fault yX7_fault ∈ zAll := zc_29 _ (List.mem_of_getElem? (i := 5) rfl)
theorem zw_731 : Cond.code yX7_fault cX7_fault 1 (some .int) ∈ zAll := zc_29 _ (List.mem_of_getElem? (i := 6) rfl)
theorem zw_732 : Cond.methodLink RL 133 yX8_fault ∈ zAll := zc_29 _ (List.mem_of_getElem? (i := 7) rfl)
theorem zw_733 : Cond.instanceMethod yX8_fault ∈ zAll := zc_29 _ (List.mem_of_getElem? (i := 8) rfl)
theorem zw_734 : Cond.selects RX8 yX8_fault yX8_fault ∈ zAll := zc_29 _ (List.mem_of_getElem? (i := 9) rfl)
theorem zw_735 : Cond.code yX8_fault cX8_fault 1 (some .int) ∈ zAll := zc_29 _ (List.mem_of_getElem? (i := 10) rfl)
theorem zw_736 : Cond.methodLink RL 134 yX7_undo ∈ zAll := zc_29 _ (List.mem_of_getElem? (i := 11) rfl)
theorem zw_737 : Cond.instanceMethod yX7_undo ∈ zAll := zc_29 _ (List.mem_of_getElem? (i := 12) rfl)
theorem zw_738 : Cond.selects RX7 yX7_undo yX7_undo ∈ zAll := zc_29 _ (List.mem_of_getElem? (i := 13) rfl)
theorem zw_739 : Cond.code yX7_undo cX7_undo 1 (some .int) ∈ zAll := zc_29 _ (List.mem_of_getElem? (i := 14) rfl)
theorem zw_740 : Cond.methodLink RX7 219 yX4_bring ∈ zAll := zc_29 _ (List.mem_of_getElem? (i := 15) rfl)
theorem zw_741 : Cond.instanceMethod yX4_bring ∈ zAll := zc_29 _ (List.mem_of_getElem? (i := 16) rfl)
theorem zw_742 : Cond.selects RX4 yX4_bring yX4_bring ∈ zAll := zc_29 _ (List.mem_of_getElem? (i := 17) rfl)
theorem zw_743 : Cond.code yX4_bring cX4_bring 3 none ∈ zAll := zc_29 _ (List.mem_of_getElem? (i := 18) rfl)
theorem zw_744 : Cond.methodLink RL 137 yX8_undo ∈ zAll := zc_29 _ (List.mem_of_getElem? (i := 19) rfl)
theorem zw_745 : Cond.instanceMethod yX8_undo ∈ zAll := zc_29 _ (List.mem_of_getElem? (i := 20) rfl)
theorem zw_746 : Cond.selects RX8 yX8_undo yX8_undo ∈ zAll := zc_29 _ (List.mem_of_getElem? (i := 21) rfl)
theorem zw_747 : Cond.code yX8_undo cX8_undo 2 (some .int) ∈ zAll := zc_29 _ (List.mem_of_getElem? (i := 22) rfl)
theorem zw_748 : Cond.methodLink RL 138 yX7_save ∈ zAll := zc_29 _ (List.mem_of_getElem? (i := 23) rfl)
theorem zw_749 : Cond.instanceMethod yX7_save ∈ zAll := zc_29 _ (List.mem_of_getElem? (i := 24) rfl)
theorem zw_750 : Cond.selects RX7 yX7_save yX7_save ∈ zAll := zc_30 _ (List.mem_of_getElem? (i := 0) rfl)
theorem zw_751 : Cond.code yX7_save cX7_save 2 (some .int) ∈ zAll := zc_30 _ (List.mem_of_getElem? (i := 1) rfl)
theorem zw_752 : Cond.methodLink RX7 223 yX4_hasPlace ∈ zAll := zc_30 _ (List.mem_of_getElem? (i := 2) rfl)
theorem zw_753 : Cond.methodLink RL 141 yX8_save ∈ zAll := zc_30 _ (List.mem_of_getElem? (i := 3) rfl)
theorem zw_754 : Cond.instanceMethod yX8_save ∈ zAll := zc_30 _ (List.mem_of_getElem? (i := 4) rfl)
theorem zw_755 : Cond.selects RX8 yX8_save yX8_save ∈ zAll := zc_30 _ (List.mem_of_getElem? (i := 5) rfl)
theorem zw_756 : Cond.code yX8_save cX8_save 3 (some .int) ∈ zAll := zc_30 _ (List.mem_of_getElem? (i := 6) rfl)
theorem zw_757 : Cond.methodLink RL 142 yX7_restore ∈ zAll := zc_30 _ (List.mem_of_getElem? (i := 7) rfl)
theorem zw_758 : Cond.instanceMethod yX7_restore ∈ zAll := zc_30 _ (List.mem_of_getElem? (i := 8) rfl)
theorem zw_759 : Cond.selects RX7 yX7_restore yX7_restore ∈ zAll := zc_30 _ (List.mem_of_getElem? (i := 9) rfl)
theorem zw_760 : Cond.code yX7_restore cX7_restore 2 (some .int) ∈ zAll := zc_30 _ (List.mem_of_getElem? (i := 10) rfl)
theorem zw_761 : Cond.methodLink RX7 227 yX4_isFull ∈ zAll := zc_30 _ (List.mem_of_getElem? (i := 11) rfl)
theorem zw_762 : Cond.instanceMethod yX4_isFull ∈ zAll := zc_30 _ (List.mem_of_getElem? (i := 12) rfl)
theorem zw_763 : Cond.selects RX4 yX4_isFull yX4_isFull ∈ zAll := zc_30 _ (List.mem_of_getElem? (i := 13) rfl)
theorem zw_764 : Cond.code yX4_isFull cX4_isFull 2 (some .boolean) ∈ zAll := zc_30 _ (List.mem_of_getElem? (i := 14) rfl)
theorem zw_765 : Cond.methodLink RL 145 yX8_restore ∈ zAll := zc_30 _ (List.mem_of_getElem? (i := 15) rfl)
theorem zw_766 : Cond.instanceMethod yX8_restore ∈ zAll := zc_30 _ (List.mem_of_getElem? (i := 16) rfl)
theorem zw_767 : Cond.selects RX8 yX8_restore yX8_restore ∈ zAll := zc_30 _ (List.mem_of_getElem? (i := 17) rfl)
theorem zw_768 : Cond.code yX8_restore cX8_restore 3 (some .int) ∈ zAll := zc_30 _ (List.mem_of_getElem? (i := 18) rfl)
theorem zt_1 : ∀ w ∈ tables_1_1, w ∈ lw_tbl := fun w h => List.mem_append_right _ (show w ∈ tables_1 from List.mem_append_left _ h)
theorem zt_2 : ∀ w ∈ tables_1_2, w ∈ lw_tbl := fun w h => List.mem_append_right _ (show w ∈ tables_1 from List.mem_append_right _ (List.mem_append_left _ h))
theorem zt_3 : ∀ w ∈ tables_1_3, w ∈ lw_tbl := fun w h => List.mem_append_right _ (show w ∈ tables_1 from List.mem_append_right _ (List.mem_append_right _ (List.mem_append_left _ h)))
theorem zt_4 : ∀ w ∈ tables_1_4, w ∈ lw_tbl := fun w h => List.mem_append_right _ (show w ∈ tables_1 from List.mem_append_right _ (List.mem_append_right _ (List.mem_append_right _ (h))))
theorem zs_1 : ∀ q ∈ lw_privs_1, Cond.selects q.1.cls q.1 q.1 ∈ lw_tbl := fun q h => List.mem_append_left _ (List.mem_map.mpr ⟨q, show q ∈ lw_privs from List.mem_append_left _ h, rfl⟩)
theorem zs_2 : ∀ q ∈ lw_privs_2, Cond.selects q.1.cls q.1 q.1 ∈ lw_tbl := fun q h => List.mem_append_left _ (List.mem_map.mpr ⟨q, show q ∈ lw_privs from List.mem_append_right _ (List.mem_append_left _ h), rfl⟩)
theorem zs_3 : ∀ q ∈ lw_privs_3, Cond.selects q.1.cls q.1 q.1 ∈ lw_tbl := fun q h => List.mem_append_left _ (List.mem_map.mpr ⟨q, show q ∈ lw_privs from List.mem_append_right _ (List.mem_append_right _ (List.mem_append_left _ h)), rfl⟩)
theorem zs_4 : ∀ q ∈ lw_privs_4, Cond.selects q.1.cls q.1 q.1 ∈ lw_tbl := fun q h => List.mem_append_left _ (List.mem_map.mpr ⟨q, show q ∈ lw_privs from List.mem_append_right _ (List.mem_append_right _ (List.mem_append_right _ (h))), rfl⟩)
set_option maxRecDepth 20000 in
theorem zm_0 : ∀ w ∈ zA_0, w ∈ lw_tbl := List.forall_mem_cons.mpr ⟨zt_1 _ (List.mem_of_getElem? (i := 14) rfl), List.forall_mem_cons.mpr ⟨zt_1 _ (List.mem_of_getElem? (i := 15) rfl), List.forall_mem_cons.mpr ⟨zt_1 _ (List.mem_of_getElem? (i := 1) rfl), List.forall_mem_cons.mpr ⟨zt_3 _ (List.mem_of_getElem? (i := 33) rfl), List.forall_mem_cons.mpr ⟨zt_3 _ (List.mem_of_getElem? (i := 34) rfl), List.forall_mem_cons.mpr ⟨zt_1 _ (List.mem_of_getElem? (i := 6) rfl), List.forall_mem_cons.mpr ⟨zt_4 _ (List.mem_of_getElem? (i := 153) rfl), List.forall_mem_cons.mpr ⟨zt_1 _ (List.mem_of_getElem? (i := 16) rfl), List.forall_mem_cons.mpr ⟨zt_1 _ (List.mem_of_getElem? (i := 17) rfl), List.forall_mem_cons.mpr ⟨zt_1 _ (List.mem_of_getElem? (i := 18) rfl), List.forall_mem_cons.mpr ⟨zt_1 _ (List.mem_of_getElem? (i := 19) rfl), List.forall_mem_cons.mpr ⟨zt_1 _ (List.mem_of_getElem? (i := 20) rfl), List.forall_mem_cons.mpr ⟨zt_1 _ (List.mem_of_getElem? (i := 21) rfl), List.forall_mem_cons.mpr ⟨zt_1 _ (List.mem_of_getElem? (i := 22) rfl), List.forall_mem_cons.mpr ⟨zt_1 _ (List.mem_of_getElem? (i := 23) rfl), List.forall_mem_cons.mpr ⟨zt_1 _ (List.mem_of_getElem? (i := 2) rfl), List.forall_mem_cons.mpr ⟨zt_1 _ (List.mem_of_getElem? (i := 111) rfl), List.forall_mem_cons.mpr ⟨zt_1 _ (List.mem_of_getElem? (i := 50) rfl), List.forall_mem_cons.mpr ⟨zt_1 _ (List.mem_of_getElem? (i := 51) rfl), List.forall_mem_cons.mpr ⟨zt_1 _ (List.mem_of_getElem? (i := 3) rfl), List.forall_mem_cons.mpr ⟨zt_1 _ (List.mem_of_getElem? (i := 112) rfl), List.forall_mem_cons.mpr ⟨zt_1 _ (List.mem_of_getElem? (i := 113) rfl), List.forall_mem_cons.mpr ⟨zt_1 _ (List.mem_of_getElem? (i := 67) rfl), List.forall_mem_cons.mpr ⟨zt_1 _ (List.mem_of_getElem? (i := 68) rfl), List.forall_mem_cons.mpr ⟨zt_1 _ (List.mem_of_getElem? (i := 4) rfl), fun _ h => absurd h List.not_mem_nil⟩⟩⟩⟩⟩⟩⟩⟩⟩⟩⟩⟩⟩⟩⟩⟩⟩⟩⟩⟩⟩⟩⟩⟩⟩
set_option maxRecDepth 20000 in
theorem zm_1 : ∀ w ∈ zA_1, w ∈ lw_tbl := List.forall_mem_cons.mpr ⟨zt_1 _ (List.mem_of_getElem? (i := 114) rfl), List.forall_mem_cons.mpr ⟨zt_1 _ (List.mem_of_getElem? (i := 78) rfl), List.forall_mem_cons.mpr ⟨zt_1 _ (List.mem_of_getElem? (i := 79) rfl), List.forall_mem_cons.mpr ⟨zt_1 _ (List.mem_of_getElem? (i := 5) rfl), List.forall_mem_cons.mpr ⟨zt_1 _ (List.mem_of_getElem? (i := 115) rfl), List.forall_mem_cons.mpr ⟨zt_1 _ (List.mem_of_getElem? (i := 139) rfl), List.forall_mem_cons.mpr ⟨zt_1 _ (List.mem_of_getElem? (i := 116) rfl), List.forall_mem_cons.mpr ⟨zt_1 _ (List.mem_of_getElem? (i := 117) rfl), List.forall_mem_cons.mpr ⟨zt_1 _ (List.mem_of_getElem? (i := 118) rfl), List.forall_mem_cons.mpr ⟨zt_1 _ (List.mem_of_getElem? (i := 119) rfl), List.forall_mem_cons.mpr ⟨zt_1 _ (List.mem_of_getElem? (i := 25) rfl), List.forall_mem_cons.mpr ⟨zt_1 _ (List.mem_of_getElem? (i := 26) rfl), List.forall_mem_cons.mpr ⟨zt_1 _ (List.mem_of_getElem? (i := 27) rfl), List.forall_mem_cons.mpr ⟨zt_1 _ (List.mem_of_getElem? (i := 29) rfl), List.forall_mem_cons.mpr ⟨zt_1 _ (List.mem_of_getElem? (i := 28) rfl), List.forall_mem_cons.mpr ⟨zt_1 _ (List.mem_of_getElem? (i := 31) rfl), List.forall_mem_cons.mpr ⟨zt_1 _ (List.mem_of_getElem? (i := 33) rfl), List.forall_mem_cons.mpr ⟨zt_1 _ (List.mem_of_getElem? (i := 35) rfl), List.forall_mem_cons.mpr ⟨zt_1 _ (List.mem_of_getElem? (i := 49) rfl), List.forall_mem_cons.mpr ⟨zt_1 _ (List.mem_of_getElem? (i := 37) rfl), List.forall_mem_cons.mpr ⟨zt_1 _ (List.mem_of_getElem? (i := 52) rfl), List.forall_mem_cons.mpr ⟨zt_1 _ (List.mem_of_getElem? (i := 53) rfl), List.forall_mem_cons.mpr ⟨zt_1 _ (List.mem_of_getElem? (i := 54) rfl), List.forall_mem_cons.mpr ⟨zt_1 _ (List.mem_of_getElem? (i := 55) rfl), List.forall_mem_cons.mpr ⟨zt_1 _ (List.mem_of_getElem? (i := 56) rfl), fun _ h => absurd h List.not_mem_nil⟩⟩⟩⟩⟩⟩⟩⟩⟩⟩⟩⟩⟩⟩⟩⟩⟩⟩⟩⟩⟩⟩⟩⟩⟩
set_option maxRecDepth 20000 in
theorem zm_2 : ∀ w ∈ zA_2, w ∈ lw_tbl := List.forall_mem_cons.mpr ⟨zt_1 _ (List.mem_of_getElem? (i := 59) rfl), List.forall_mem_cons.mpr ⟨zt_1 _ (List.mem_of_getElem? (i := 66) rfl), List.forall_mem_cons.mpr ⟨zt_1 _ (List.mem_of_getElem? (i := 60) rfl), List.forall_mem_cons.mpr ⟨zt_1 _ (List.mem_of_getElem? (i := 70) rfl), List.forall_mem_cons.mpr ⟨zt_1 _ (List.mem_of_getElem? (i := 71) rfl), List.forall_mem_cons.mpr ⟨zt_1 _ (List.mem_of_getElem? (i := 72) rfl), List.forall_mem_cons.mpr ⟨zt_1 _ (List.mem_of_getElem? (i := 77) rfl), List.forall_mem_cons.mpr ⟨zt_1 _ (List.mem_of_getElem? (i := 73) rfl), List.forall_mem_cons.mpr ⟨zt_1 _ (List.mem_of_getElem? (i := 81) rfl), List.forall_mem_cons.mpr ⟨zt_1 _ (List.mem_of_getElem? (i := 82) rfl), List.forall_mem_cons.mpr ⟨zt_1 _ (List.mem_of_getElem? (i := 83) rfl), List.forall_mem_cons.mpr ⟨zt_1 _ (List.mem_of_getElem? (i := 85) rfl), List.forall_mem_cons.mpr ⟨zt_1 _ (List.mem_of_getElem? (i := 86) rfl), List.forall_mem_cons.mpr ⟨zt_1 _ (List.mem_of_getElem? (i := 84) rfl), List.forall_mem_cons.mpr ⟨zt_1 _ (List.mem_of_getElem? (i := 87) rfl), List.forall_mem_cons.mpr ⟨zt_1 _ (List.mem_of_getElem? (i := 89) rfl), List.forall_mem_cons.mpr ⟨zt_1 _ (List.mem_of_getElem? (i := 90) rfl), List.forall_mem_cons.mpr ⟨zt_1 _ (List.mem_of_getElem? (i := 91) rfl), List.forall_mem_cons.mpr ⟨zt_1 _ (List.mem_of_getElem? (i := 92) rfl), List.forall_mem_cons.mpr ⟨zt_1 _ (List.mem_of_getElem? (i := 93) rfl), List.forall_mem_cons.mpr ⟨zt_3 _ (List.mem_of_getElem? (i := 35) rfl), List.forall_mem_cons.mpr ⟨zt_3 _ (List.mem_of_getElem? (i := 36) rfl), List.forall_mem_cons.mpr ⟨zt_3 _ (List.mem_of_getElem? (i := 37) rfl), List.forall_mem_cons.mpr ⟨zt_3 _ (List.mem_of_getElem? (i := 38) rfl), List.forall_mem_cons.mpr ⟨zt_3 _ (List.mem_of_getElem? (i := 44) rfl), fun _ h => absurd h List.not_mem_nil⟩⟩⟩⟩⟩⟩⟩⟩⟩⟩⟩⟩⟩⟩⟩⟩⟩⟩⟩⟩⟩⟩⟩⟩⟩
set_option maxRecDepth 20000 in
theorem zm_3 : ∀ w ∈ zA_3, w ∈ lw_tbl := List.forall_mem_cons.mpr ⟨zt_3 _ (List.mem_of_getElem? (i := 45) rfl), List.forall_mem_cons.mpr ⟨zt_3 _ (List.mem_of_getElem? (i := 47) rfl), List.forall_mem_cons.mpr ⟨zt_3 _ (List.mem_of_getElem? (i := 48) rfl), List.forall_mem_cons.mpr ⟨zt_3 _ (List.mem_of_getElem? (i := 49) rfl), List.forall_mem_cons.mpr ⟨zt_3 _ (List.mem_of_getElem? (i := 53) rfl), List.forall_mem_cons.mpr ⟨zt_3 _ (List.mem_of_getElem? (i := 54) rfl), List.forall_mem_cons.mpr ⟨zt_3 _ (List.mem_of_getElem? (i := 55) rfl), List.forall_mem_cons.mpr ⟨zt_3 _ (List.mem_of_getElem? (i := 56) rfl), List.forall_mem_cons.mpr ⟨zt_3 _ (List.mem_of_getElem? (i := 57) rfl), List.forall_mem_cons.mpr ⟨zt_3 _ (List.mem_of_getElem? (i := 58) rfl), List.forall_mem_cons.mpr ⟨zt_3 _ (List.mem_of_getElem? (i := 59) rfl), List.forall_mem_cons.mpr ⟨zt_3 _ (List.mem_of_getElem? (i := 60) rfl), List.forall_mem_cons.mpr ⟨zt_3 _ (List.mem_of_getElem? (i := 61) rfl), List.forall_mem_cons.mpr ⟨zt_3 _ (List.mem_of_getElem? (i := 43) rfl), List.forall_mem_cons.mpr ⟨zt_3 _ (List.mem_of_getElem? (i := 39) rfl), List.forall_mem_cons.mpr ⟨zt_3 _ (List.mem_of_getElem? (i := 41) rfl), List.forall_mem_cons.mpr ⟨zs_2 _ (List.mem_of_getElem? (i := 3) rfl), List.forall_mem_cons.mpr ⟨zt_3 _ (List.mem_of_getElem? (i := 42) rfl), List.forall_mem_cons.mpr ⟨zt_1 _ (List.mem_of_getElem? (i := 140) rfl), List.forall_mem_cons.mpr ⟨zt_1 _ (List.mem_of_getElem? (i := 141) rfl), List.forall_mem_cons.mpr ⟨zt_1 _ (List.mem_of_getElem? (i := 142) rfl), List.forall_mem_cons.mpr ⟨zt_1 _ (List.mem_of_getElem? (i := 143) rfl), List.forall_mem_cons.mpr ⟨zt_1 _ (List.mem_of_getElem? (i := 144) rfl), List.forall_mem_cons.mpr ⟨zt_1 _ (List.mem_of_getElem? (i := 146) rfl), List.forall_mem_cons.mpr ⟨zs_1 _ (List.mem_of_getElem? (i := 0) rfl), fun _ h => absurd h List.not_mem_nil⟩⟩⟩⟩⟩⟩⟩⟩⟩⟩⟩⟩⟩⟩⟩⟩⟩⟩⟩⟩⟩⟩⟩⟩⟩
set_option maxRecDepth 20000 in
theorem zm_4 : ∀ w ∈ zA_4, w ∈ lw_tbl := List.forall_mem_cons.mpr ⟨zt_1 _ (List.mem_of_getElem? (i := 147) rfl), List.forall_mem_cons.mpr ⟨zt_1 _ (List.mem_of_getElem? (i := 148) rfl), List.forall_mem_cons.mpr ⟨zt_1 _ (List.mem_of_getElem? (i := 149) rfl), List.forall_mem_cons.mpr ⟨zt_1 _ (List.mem_of_getElem? (i := 150) rfl), List.forall_mem_cons.mpr ⟨zt_1 _ (List.mem_of_getElem? (i := 151) rfl), List.forall_mem_cons.mpr ⟨zt_1 _ (List.mem_of_getElem? (i := 152) rfl), List.forall_mem_cons.mpr ⟨zt_1 _ (List.mem_of_getElem? (i := 153) rfl), List.forall_mem_cons.mpr ⟨zt_1 _ (List.mem_of_getElem? (i := 154) rfl), List.forall_mem_cons.mpr ⟨zt_1 _ (List.mem_of_getElem? (i := 155) rfl), List.forall_mem_cons.mpr ⟨zt_1 _ (List.mem_of_getElem? (i := 156) rfl), List.forall_mem_cons.mpr ⟨zt_1 _ (List.mem_of_getElem? (i := 157) rfl), List.forall_mem_cons.mpr ⟨zt_1 _ (List.mem_of_getElem? (i := 158) rfl), List.forall_mem_cons.mpr ⟨zt_1 _ (List.mem_of_getElem? (i := 159) rfl), List.forall_mem_cons.mpr ⟨zt_1 _ (List.mem_of_getElem? (i := 160) rfl), List.forall_mem_cons.mpr ⟨zt_1 _ (List.mem_of_getElem? (i := 161) rfl), List.forall_mem_cons.mpr ⟨zt_1 _ (List.mem_of_getElem? (i := 162) rfl), List.forall_mem_cons.mpr ⟨zt_1 _ (List.mem_of_getElem? (i := 163) rfl), List.forall_mem_cons.mpr ⟨zt_3 _ (List.mem_of_getElem? (i := 101) rfl), List.forall_mem_cons.mpr ⟨zt_3 _ (List.mem_of_getElem? (i := 102) rfl), List.forall_mem_cons.mpr ⟨zt_3 _ (List.mem_of_getElem? (i := 103) rfl), List.forall_mem_cons.mpr ⟨zt_3 _ (List.mem_of_getElem? (i := 104) rfl), List.forall_mem_cons.mpr ⟨zt_3 _ (List.mem_of_getElem? (i := 105) rfl), List.forall_mem_cons.mpr ⟨zt_3 _ (List.mem_of_getElem? (i := 106) rfl), List.forall_mem_cons.mpr ⟨zt_3 _ (List.mem_of_getElem? (i := 107) rfl), List.forall_mem_cons.mpr ⟨zt_3 _ (List.mem_of_getElem? (i := 108) rfl), fun _ h => absurd h List.not_mem_nil⟩⟩⟩⟩⟩⟩⟩⟩⟩⟩⟩⟩⟩⟩⟩⟩⟩⟩⟩⟩⟩⟩⟩⟩⟩
set_option maxRecDepth 20000 in
theorem zm_5 : ∀ w ∈ zA_5, w ∈ lw_tbl := List.forall_mem_cons.mpr ⟨zt_3 _ (List.mem_of_getElem? (i := 110) rfl), List.forall_mem_cons.mpr ⟨zs_2 _ (List.mem_of_getElem? (i := 4) rfl), List.forall_mem_cons.mpr ⟨zt_3 _ (List.mem_of_getElem? (i := 111) rfl), List.forall_mem_cons.mpr ⟨zt_3 _ (List.mem_of_getElem? (i := 46) rfl), List.forall_mem_cons.mpr ⟨zt_1 _ (List.mem_of_getElem? (i := 164) rfl), List.forall_mem_cons.mpr ⟨zt_1 _ (List.mem_of_getElem? (i := 165) rfl), List.forall_mem_cons.mpr ⟨zt_1 _ (List.mem_of_getElem? (i := 166) rfl), List.forall_mem_cons.mpr ⟨zt_1 _ (List.mem_of_getElem? (i := 167) rfl), List.forall_mem_cons.mpr ⟨zt_1 _ (List.mem_of_getElem? (i := 168) rfl), List.forall_mem_cons.mpr ⟨zt_1 _ (List.mem_of_getElem? (i := 170) rfl), List.forall_mem_cons.mpr ⟨zs_1 _ (List.mem_of_getElem? (i := 1) rfl), List.forall_mem_cons.mpr ⟨zt_1 _ (List.mem_of_getElem? (i := 171) rfl), List.forall_mem_cons.mpr ⟨zt_1 _ (List.mem_of_getElem? (i := 172) rfl), List.forall_mem_cons.mpr ⟨zt_1 _ (List.mem_of_getElem? (i := 173) rfl), List.forall_mem_cons.mpr ⟨zt_1 _ (List.mem_of_getElem? (i := 174) rfl), List.forall_mem_cons.mpr ⟨zt_1 _ (List.mem_of_getElem? (i := 175) rfl), List.forall_mem_cons.mpr ⟨zt_1 _ (List.mem_of_getElem? (i := 176) rfl), List.forall_mem_cons.mpr ⟨zt_1 _ (List.mem_of_getElem? (i := 177) rfl), List.forall_mem_cons.mpr ⟨zt_1 _ (List.mem_of_getElem? (i := 178) rfl), List.forall_mem_cons.mpr ⟨zt_1 _ (List.mem_of_getElem? (i := 179) rfl), List.forall_mem_cons.mpr ⟨zt_1 _ (List.mem_of_getElem? (i := 180) rfl), List.forall_mem_cons.mpr ⟨zt_1 _ (List.mem_of_getElem? (i := 182) rfl), List.forall_mem_cons.mpr ⟨zs_1 _ (List.mem_of_getElem? (i := 2) rfl), List.forall_mem_cons.mpr ⟨zt_1 _ (List.mem_of_getElem? (i := 183) rfl), List.forall_mem_cons.mpr ⟨zt_1 _ (List.mem_of_getElem? (i := 184) rfl), fun _ h => absurd h List.not_mem_nil⟩⟩⟩⟩⟩⟩⟩⟩⟩⟩⟩⟩⟩⟩⟩⟩⟩⟩⟩⟩⟩⟩⟩⟩⟩
set_option maxRecDepth 20000 in
theorem zm_6 : ∀ w ∈ zA_6, w ∈ lw_tbl := List.forall_mem_cons.mpr ⟨zt_1 _ (List.mem_of_getElem? (i := 186) rfl), List.forall_mem_cons.mpr ⟨zs_1 _ (List.mem_of_getElem? (i := 3) rfl), List.forall_mem_cons.mpr ⟨zt_1 _ (List.mem_of_getElem? (i := 187) rfl), List.forall_mem_cons.mpr ⟨zt_1 _ (List.mem_of_getElem? (i := 188) rfl), List.forall_mem_cons.mpr ⟨zt_1 _ (List.mem_of_getElem? (i := 190) rfl), List.forall_mem_cons.mpr ⟨zs_1 _ (List.mem_of_getElem? (i := 4) rfl), List.forall_mem_cons.mpr ⟨zt_1 _ (List.mem_of_getElem? (i := 191) rfl), List.forall_mem_cons.mpr ⟨zt_1 _ (List.mem_of_getElem? (i := 192) rfl), List.forall_mem_cons.mpr ⟨zt_1 _ (List.mem_of_getElem? (i := 194) rfl), List.forall_mem_cons.mpr ⟨zs_1 _ (List.mem_of_getElem? (i := 5) rfl), List.forall_mem_cons.mpr ⟨zt_1 _ (List.mem_of_getElem? (i := 195) rfl), List.forall_mem_cons.mpr ⟨zt_1 _ (List.mem_of_getElem? (i := 196) rfl), List.forall_mem_cons.mpr ⟨zt_1 _ (List.mem_of_getElem? (i := 198) rfl), List.forall_mem_cons.mpr ⟨zs_1 _ (List.mem_of_getElem? (i := 6) rfl), List.forall_mem_cons.mpr ⟨zt_1 _ (List.mem_of_getElem? (i := 199) rfl), List.forall_mem_cons.mpr ⟨zt_1 _ (List.mem_of_getElem? (i := 200) rfl), List.forall_mem_cons.mpr ⟨zt_1 _ (List.mem_of_getElem? (i := 202) rfl), List.forall_mem_cons.mpr ⟨zs_1 _ (List.mem_of_getElem? (i := 7) rfl), List.forall_mem_cons.mpr ⟨zt_1 _ (List.mem_of_getElem? (i := 203) rfl), List.forall_mem_cons.mpr ⟨zt_1 _ (List.mem_of_getElem? (i := 204) rfl), List.forall_mem_cons.mpr ⟨zt_1 _ (List.mem_of_getElem? (i := 205) rfl), List.forall_mem_cons.mpr ⟨zt_1 _ (List.mem_of_getElem? (i := 7) rfl), List.forall_mem_cons.mpr ⟨zt_1 _ (List.mem_of_getElem? (i := 206) rfl), List.forall_mem_cons.mpr ⟨zt_1 _ (List.mem_of_getElem? (i := 207) rfl), List.forall_mem_cons.mpr ⟨zt_1 _ (List.mem_of_getElem? (i := 208) rfl), fun _ h => absurd h List.not_mem_nil⟩⟩⟩⟩⟩⟩⟩⟩⟩⟩⟩⟩⟩⟩⟩⟩⟩⟩⟩⟩⟩⟩⟩⟩⟩
set_option maxRecDepth 20000 in
theorem zm_7 : ∀ w ∈ zA_7, w ∈ lw_tbl := List.forall_mem_cons.mpr ⟨zt_1 _ (List.mem_of_getElem? (i := 209) rfl), List.forall_mem_cons.mpr ⟨zt_1 _ (List.mem_of_getElem? (i := 211) rfl), List.forall_mem_cons.mpr ⟨zs_1 _ (List.mem_of_getElem? (i := 8) rfl), List.forall_mem_cons.mpr ⟨zt_1 _ (List.mem_of_getElem? (i := 212) rfl), List.forall_mem_cons.mpr ⟨zt_1 _ (List.mem_of_getElem? (i := 213) rfl), List.forall_mem_cons.mpr ⟨zt_1 _ (List.mem_of_getElem? (i := 214) rfl), List.forall_mem_cons.mpr ⟨zt_1 _ (List.mem_of_getElem? (i := 215) rfl), List.forall_mem_cons.mpr ⟨zt_1 _ (List.mem_of_getElem? (i := 216) rfl), List.forall_mem_cons.mpr ⟨zt_1 _ (List.mem_of_getElem? (i := 217) rfl), List.forall_mem_cons.mpr ⟨zt_1 _ (List.mem_of_getElem? (i := 219) rfl), List.forall_mem_cons.mpr ⟨zs_1 _ (List.mem_of_getElem? (i := 9) rfl), List.forall_mem_cons.mpr ⟨zt_1 _ (List.mem_of_getElem? (i := 220) rfl), List.forall_mem_cons.mpr ⟨zt_1 _ (List.mem_of_getElem? (i := 221) rfl), List.forall_mem_cons.mpr ⟨zt_1 _ (List.mem_of_getElem? (i := 222) rfl), List.forall_mem_cons.mpr ⟨zt_1 _ (List.mem_of_getElem? (i := 223) rfl), List.forall_mem_cons.mpr ⟨zt_1 _ (List.mem_of_getElem? (i := 224) rfl), List.forall_mem_cons.mpr ⟨zt_3 _ (List.mem_of_getElem? (i := 112) rfl), List.forall_mem_cons.mpr ⟨zt_3 _ (List.mem_of_getElem? (i := 113) rfl), List.forall_mem_cons.mpr ⟨zt_3 _ (List.mem_of_getElem? (i := 114) rfl), List.forall_mem_cons.mpr ⟨zt_3 _ (List.mem_of_getElem? (i := 115) rfl), List.forall_mem_cons.mpr ⟨zt_3 _ (List.mem_of_getElem? (i := 50) rfl), List.forall_mem_cons.mpr ⟨zt_3 _ (List.mem_of_getElem? (i := 116) rfl), List.forall_mem_cons.mpr ⟨zt_3 _ (List.mem_of_getElem? (i := 118) rfl), List.forall_mem_cons.mpr ⟨zs_2 _ (List.mem_of_getElem? (i := 5) rfl), List.forall_mem_cons.mpr ⟨zt_3 _ (List.mem_of_getElem? (i := 119) rfl), fun _ h => absurd h List.not_mem_nil⟩⟩⟩⟩⟩⟩⟩⟩⟩⟩⟩⟩⟩⟩⟩⟩⟩⟩⟩⟩⟩⟩⟩⟩⟩
set_option maxRecDepth 20000 in
theorem zm_8 : ∀ w ∈ zA_8, w ∈ lw_tbl := List.forall_mem_cons.mpr ⟨zt_3 _ (List.mem_of_getElem? (i := 51) rfl), List.forall_mem_cons.mpr ⟨zt_3 _ (List.mem_of_getElem? (i := 52) rfl), List.forall_mem_cons.mpr ⟨zt_3 _ (List.mem_of_getElem? (i := 120) rfl), List.forall_mem_cons.mpr ⟨zt_3 _ (List.mem_of_getElem? (i := 122) rfl), List.forall_mem_cons.mpr ⟨zs_2 _ (List.mem_of_getElem? (i := 6) rfl), List.forall_mem_cons.mpr ⟨zt_3 _ (List.mem_of_getElem? (i := 123) rfl), List.forall_mem_cons.mpr ⟨zt_3 _ (List.mem_of_getElem? (i := 124) rfl), List.forall_mem_cons.mpr ⟨zt_3 _ (List.mem_of_getElem? (i := 126) rfl), List.forall_mem_cons.mpr ⟨zs_2 _ (List.mem_of_getElem? (i := 7) rfl), List.forall_mem_cons.mpr ⟨zt_3 _ (List.mem_of_getElem? (i := 127) rfl), List.forall_mem_cons.mpr ⟨zt_3 _ (List.mem_of_getElem? (i := 128) rfl), List.forall_mem_cons.mpr ⟨zt_3 _ (List.mem_of_getElem? (i := 130) rfl), List.forall_mem_cons.mpr ⟨zs_2 _ (List.mem_of_getElem? (i := 8) rfl), List.forall_mem_cons.mpr ⟨zt_3 _ (List.mem_of_getElem? (i := 131) rfl), List.forall_mem_cons.mpr ⟨zt_3 _ (List.mem_of_getElem? (i := 132) rfl), List.forall_mem_cons.mpr ⟨zt_3 _ (List.mem_of_getElem? (i := 134) rfl), List.forall_mem_cons.mpr ⟨zs_2 _ (List.mem_of_getElem? (i := 9) rfl), List.forall_mem_cons.mpr ⟨zt_3 _ (List.mem_of_getElem? (i := 135) rfl), List.forall_mem_cons.mpr ⟨zt_3 _ (List.mem_of_getElem? (i := 136) rfl), List.forall_mem_cons.mpr ⟨zt_3 _ (List.mem_of_getElem? (i := 138) rfl), List.forall_mem_cons.mpr ⟨zs_2 _ (List.mem_of_getElem? (i := 10) rfl), List.forall_mem_cons.mpr ⟨zt_3 _ (List.mem_of_getElem? (i := 139) rfl), List.forall_mem_cons.mpr ⟨zt_3 _ (List.mem_of_getElem? (i := 140) rfl), List.forall_mem_cons.mpr ⟨zt_3 _ (List.mem_of_getElem? (i := 142) rfl), List.forall_mem_cons.mpr ⟨zs_2 _ (List.mem_of_getElem? (i := 11) rfl), fun _ h => absurd h List.not_mem_nil⟩⟩⟩⟩⟩⟩⟩⟩⟩⟩⟩⟩⟩⟩⟩⟩⟩⟩⟩⟩⟩⟩⟩⟩⟩
set_option maxRecDepth 20000 in
theorem zm_9 : ∀ w ∈ zA_9, w ∈ lw_tbl := List.forall_mem_cons.mpr ⟨zt_3 _ (List.mem_of_getElem? (i := 143) rfl), List.forall_mem_cons.mpr ⟨zt_3 _ (List.mem_of_getElem? (i := 144) rfl), List.forall_mem_cons.mpr ⟨zt_3 _ (List.mem_of_getElem? (i := 146) rfl), List.forall_mem_cons.mpr ⟨zs_2 _ (List.mem_of_getElem? (i := 12) rfl), List.forall_mem_cons.mpr ⟨zt_3 _ (List.mem_of_getElem? (i := 147) rfl), List.forall_mem_cons.mpr ⟨zt_1 _ (List.mem_of_getElem? (i := 225) rfl), List.forall_mem_cons.mpr ⟨zt_1 _ (List.mem_of_getElem? (i := 226) rfl), List.forall_mem_cons.mpr ⟨zt_1 _ (List.mem_of_getElem? (i := 227) rfl), List.forall_mem_cons.mpr ⟨zt_1 _ (List.mem_of_getElem? (i := 228) rfl), List.forall_mem_cons.mpr ⟨zt_1 _ (List.mem_of_getElem? (i := 229) rfl), List.forall_mem_cons.mpr ⟨zt_1 _ (List.mem_of_getElem? (i := 230) rfl), List.forall_mem_cons.mpr ⟨zt_1 _ (List.mem_of_getElem? (i := 231) rfl), List.forall_mem_cons.mpr ⟨zt_1 _ (List.mem_of_getElem? (i := 232) rfl), List.forall_mem_cons.mpr ⟨zt_1 _ (List.mem_of_getElem? (i := 233) rfl), List.forall_mem_cons.mpr ⟨zt_1 _ (List.mem_of_getElem? (i := 234) rfl), List.forall_mem_cons.mpr ⟨zt_1 _ (List.mem_of_getElem? (i := 235) rfl), List.forall_mem_cons.mpr ⟨zt_1 _ (List.mem_of_getElem? (i := 236) rfl), List.forall_mem_cons.mpr ⟨zt_1 _ (List.mem_of_getElem? (i := 237) rfl), List.forall_mem_cons.mpr ⟨zt_1 _ (List.mem_of_getElem? (i := 238) rfl), List.forall_mem_cons.mpr ⟨zt_1 _ (List.mem_of_getElem? (i := 239) rfl), List.forall_mem_cons.mpr ⟨zt_2 _ (List.mem_of_getElem? (i := 0) rfl), List.forall_mem_cons.mpr ⟨zt_2 _ (List.mem_of_getElem? (i := 1) rfl), List.forall_mem_cons.mpr ⟨zt_2 _ (List.mem_of_getElem? (i := 2) rfl), List.forall_mem_cons.mpr ⟨zt_2 _ (List.mem_of_getElem? (i := 3) rfl), List.forall_mem_cons.mpr ⟨zt_3 _ (List.mem_of_getElem? (i := 148) rfl), fun _ h => absurd h List.not_mem_nil⟩⟩⟩⟩⟩⟩⟩⟩⟩⟩⟩⟩⟩⟩⟩⟩⟩⟩⟩⟩⟩⟩⟩⟩⟩
set_option maxRecDepth 20000 in
theorem zm_10 : ∀ w ∈ zA_10, w ∈ lw_tbl := List.forall_mem_cons.mpr ⟨zt_3 _ (List.mem_of_getElem? (i := 149) rfl), List.forall_mem_cons.mpr ⟨zt_3 _ (List.mem_of_getElem? (i := 150) rfl), List.forall_mem_cons.mpr ⟨zt_3 _ (List.mem_of_getElem? (i := 151) rfl), List.forall_mem_cons.mpr ⟨zt_3 _ (List.mem_of_getElem? (i := 152) rfl), List.forall_mem_cons.mpr ⟨zt_3 _ (List.mem_of_getElem? (i := 154) rfl), List.forall_mem_cons.mpr ⟨zs_2 _ (List.mem_of_getElem? (i := 13) rfl), List.forall_mem_cons.mpr ⟨zt_3 _ (List.mem_of_getElem? (i := 155) rfl), List.forall_mem_cons.mpr ⟨zt_3 _ (List.mem_of_getElem? (i := 156) rfl), List.forall_mem_cons.mpr ⟨zt_3 _ (List.mem_of_getElem? (i := 158) rfl), List.forall_mem_cons.mpr ⟨zs_2 _ (List.mem_of_getElem? (i := 14) rfl), List.forall_mem_cons.mpr ⟨zt_3 _ (List.mem_of_getElem? (i := 159) rfl), List.forall_mem_cons.mpr ⟨zt_3 _ (List.mem_of_getElem? (i := 160) rfl), List.forall_mem_cons.mpr ⟨zt_3 _ (List.mem_of_getElem? (i := 162) rfl), List.forall_mem_cons.mpr ⟨zs_2 _ (List.mem_of_getElem? (i := 15) rfl), List.forall_mem_cons.mpr ⟨zt_3 _ (List.mem_of_getElem? (i := 163) rfl), List.forall_mem_cons.mpr ⟨zt_3 _ (List.mem_of_getElem? (i := 164) rfl), List.forall_mem_cons.mpr ⟨zt_3 _ (List.mem_of_getElem? (i := 166) rfl), List.forall_mem_cons.mpr ⟨zs_3 _ (List.mem_of_getElem? (i := 0) rfl), List.forall_mem_cons.mpr ⟨zt_3 _ (List.mem_of_getElem? (i := 167) rfl), List.forall_mem_cons.mpr ⟨zt_2 _ (List.mem_of_getElem? (i := 4) rfl), List.forall_mem_cons.mpr ⟨zt_2 _ (List.mem_of_getElem? (i := 5) rfl), List.forall_mem_cons.mpr ⟨zt_2 _ (List.mem_of_getElem? (i := 6) rfl), List.forall_mem_cons.mpr ⟨zt_2 _ (List.mem_of_getElem? (i := 7) rfl), List.forall_mem_cons.mpr ⟨zt_2 _ (List.mem_of_getElem? (i := 8) rfl), List.forall_mem_cons.mpr ⟨zt_2 _ (List.mem_of_getElem? (i := 9) rfl), fun _ h => absurd h List.not_mem_nil⟩⟩⟩⟩⟩⟩⟩⟩⟩⟩⟩⟩⟩⟩⟩⟩⟩⟩⟩⟩⟩⟩⟩⟩⟩
set_option maxRecDepth 20000 in
theorem zm_11 : ∀ w ∈ zA_11, w ∈ lw_tbl := List.forall_mem_cons.mpr ⟨zt_2 _ (List.mem_of_getElem? (i := 10) rfl), List.forall_mem_cons.mpr ⟨zt_2 _ (List.mem_of_getElem? (i := 11) rfl), List.forall_mem_cons.mpr ⟨zt_2 _ (List.mem_of_getElem? (i := 12) rfl), List.forall_mem_cons.mpr ⟨zt_2 _ (List.mem_of_getElem? (i := 13) rfl), List.forall_mem_cons.mpr ⟨zt_2 _ (List.mem_of_getElem? (i := 14) rfl), List.forall_mem_cons.mpr ⟨zt_2 _ (List.mem_of_getElem? (i := 15) rfl), List.forall_mem_cons.mpr ⟨zt_2 _ (List.mem_of_getElem? (i := 16) rfl), List.forall_mem_cons.mpr ⟨zt_2 _ (List.mem_of_getElem? (i := 17) rfl), List.forall_mem_cons.mpr ⟨zt_2 _ (List.mem_of_getElem? (i := 18) rfl), List.forall_mem_cons.mpr ⟨zt_2 _ (List.mem_of_getElem? (i := 19) rfl), List.forall_mem_cons.mpr ⟨zt_2 _ (List.mem_of_getElem? (i := 20) rfl), List.forall_mem_cons.mpr ⟨zt_2 _ (List.mem_of_getElem? (i := 21) rfl), List.forall_mem_cons.mpr ⟨zt_1 _ (List.mem_of_getElem? (i := 8) rfl), List.forall_mem_cons.mpr ⟨zt_2 _ (List.mem_of_getElem? (i := 22) rfl), List.forall_mem_cons.mpr ⟨zt_3 _ (List.mem_of_getElem? (i := 168) rfl), List.forall_mem_cons.mpr ⟨zt_3 _ (List.mem_of_getElem? (i := 169) rfl), List.forall_mem_cons.mpr ⟨zt_3 _ (List.mem_of_getElem? (i := 170) rfl), List.forall_mem_cons.mpr ⟨zt_3 _ (List.mem_of_getElem? (i := 171) rfl), List.forall_mem_cons.mpr ⟨zt_3 _ (List.mem_of_getElem? (i := 172) rfl), List.forall_mem_cons.mpr ⟨zt_3 _ (List.mem_of_getElem? (i := 174) rfl), List.forall_mem_cons.mpr ⟨zs_3 _ (List.mem_of_getElem? (i := 1) rfl), List.forall_mem_cons.mpr ⟨zt_3 _ (List.mem_of_getElem? (i := 175) rfl), List.forall_mem_cons.mpr ⟨zt_2 _ (List.mem_of_getElem? (i := 23) rfl), List.forall_mem_cons.mpr ⟨zt_2 _ (List.mem_of_getElem? (i := 24) rfl), List.forall_mem_cons.mpr ⟨zt_2 _ (List.mem_of_getElem? (i := 25) rfl), fun _ h => absurd h List.not_mem_nil⟩⟩⟩⟩⟩⟩⟩⟩⟩⟩⟩⟩⟩⟩⟩⟩⟩⟩⟩⟩⟩⟩⟩⟩⟩
set_option maxRecDepth 20000 in
theorem zm_12 : ∀ w ∈ zA_12, w ∈ lw_tbl := List.forall_mem_cons.mpr ⟨zt_2 _ (List.mem_of_getElem? (i := 26) rfl), List.forall_mem_cons.mpr ⟨zt_3 _ (List.mem_of_getElem? (i := 176) rfl), List.forall_mem_cons.mpr ⟨zt_3 _ (List.mem_of_getElem? (i := 177) rfl), List.forall_mem_cons.mpr ⟨zt_3 _ (List.mem_of_getElem? (i := 178) rfl), List.forall_mem_cons.mpr ⟨zt_3 _ (List.mem_of_getElem? (i := 179) rfl), List.forall_mem_cons.mpr ⟨zt_2 _ (List.mem_of_getElem? (i := 27) rfl), List.forall_mem_cons.mpr ⟨zt_2 _ (List.mem_of_getElem? (i := 28) rfl), List.forall_mem_cons.mpr ⟨zt_2 _ (List.mem_of_getElem? (i := 29) rfl), List.forall_mem_cons.mpr ⟨zt_2 _ (List.mem_of_getElem? (i := 30) rfl), List.forall_mem_cons.mpr ⟨zt_2 _ (List.mem_of_getElem? (i := 31) rfl), List.forall_mem_cons.mpr ⟨zt_2 _ (List.mem_of_getElem? (i := 32) rfl), List.forall_mem_cons.mpr ⟨zt_2 _ (List.mem_of_getElem? (i := 33) rfl), List.forall_mem_cons.mpr ⟨zt_2 _ (List.mem_of_getElem? (i := 34) rfl), List.forall_mem_cons.mpr ⟨zt_3 _ (List.mem_of_getElem? (i := 180) rfl), List.forall_mem_cons.mpr ⟨zt_3 _ (List.mem_of_getElem? (i := 181) rfl), List.forall_mem_cons.mpr ⟨zt_3 _ (List.mem_of_getElem? (i := 182) rfl), List.forall_mem_cons.mpr ⟨zt_3 _ (List.mem_of_getElem? (i := 183) rfl), List.forall_mem_cons.mpr ⟨zt_2 _ (List.mem_of_getElem? (i := 35) rfl), List.forall_mem_cons.mpr ⟨zt_2 _ (List.mem_of_getElem? (i := 36) rfl), List.forall_mem_cons.mpr ⟨zt_2 _ (List.mem_of_getElem? (i := 37) rfl), List.forall_mem_cons.mpr ⟨zt_2 _ (List.mem_of_getElem? (i := 38) rfl), List.forall_mem_cons.mpr ⟨zt_2 _ (List.mem_of_getElem? (i := 39) rfl), List.forall_mem_cons.mpr ⟨zt_2 _ (List.mem_of_getElem? (i := 41) rfl), List.forall_mem_cons.mpr ⟨zs_1 _ (List.mem_of_getElem? (i := 10) rfl), List.forall_mem_cons.mpr ⟨zt_2 _ (List.mem_of_getElem? (i := 42) rfl), fun _ h => absurd h List.not_mem_nil⟩⟩⟩⟩⟩⟩⟩⟩⟩⟩⟩⟩⟩⟩⟩⟩⟩⟩⟩⟩⟩⟩⟩⟩⟩
set_option maxRecDepth 20000 in
theorem zm_13 : ∀ w ∈ zA_13, w ∈ lw_tbl := List.forall_mem_cons.mpr ⟨zt_2 _ (List.mem_of_getElem? (i := 43) rfl), List.forall_mem_cons.mpr ⟨zt_2 _ (List.mem_of_getElem? (i := 44) rfl), List.forall_mem_cons.mpr ⟨zt_2 _ (List.mem_of_getElem? (i := 45) rfl), List.forall_mem_cons.mpr ⟨zt_3 _ (List.mem_of_getElem? (i := 184) rfl), List.forall_mem_cons.mpr ⟨zt_3 _ (List.mem_of_getElem? (i := 185) rfl), List.forall_mem_cons.mpr ⟨zt_3 _ (List.mem_of_getElem? (i := 186) rfl), List.forall_mem_cons.mpr ⟨zt_3 _ (List.mem_of_getElem? (i := 187) rfl), List.forall_mem_cons.mpr ⟨zt_3 _ (List.mem_of_getElem? (i := 188) rfl), List.forall_mem_cons.mpr ⟨zt_3 _ (List.mem_of_getElem? (i := 190) rfl), List.forall_mem_cons.mpr ⟨zs_3 _ (List.mem_of_getElem? (i := 2) rfl), List.forall_mem_cons.mpr ⟨zt_3 _ (List.mem_of_getElem? (i := 191) rfl), List.forall_mem_cons.mpr ⟨zt_2 _ (List.mem_of_getElem? (i := 46) rfl), List.forall_mem_cons.mpr ⟨zt_2 _ (List.mem_of_getElem? (i := 47) rfl), List.forall_mem_cons.mpr ⟨zt_2 _ (List.mem_of_getElem? (i := 48) rfl), List.forall_mem_cons.mpr ⟨zt_2 _ (List.mem_of_getElem? (i := 49) rfl), List.forall_mem_cons.mpr ⟨zt_2 _ (List.mem_of_getElem? (i := 50) rfl), List.forall_mem_cons.mpr ⟨zt_2 _ (List.mem_of_getElem? (i := 51) rfl), List.forall_mem_cons.mpr ⟨zt_2 _ (List.mem_of_getElem? (i := 52) rfl), List.forall_mem_cons.mpr ⟨zt_2 _ (List.mem_of_getElem? (i := 53) rfl), List.forall_mem_cons.mpr ⟨zt_2 _ (List.mem_of_getElem? (i := 54) rfl), List.forall_mem_cons.mpr ⟨zt_2 _ (List.mem_of_getElem? (i := 55) rfl), List.forall_mem_cons.mpr ⟨zt_1 _ (List.mem_of_getElem? (i := 9) rfl), List.forall_mem_cons.mpr ⟨zt_2 _ (List.mem_of_getElem? (i := 56) rfl), List.forall_mem_cons.mpr ⟨zt_2 _ (List.mem_of_getElem? (i := 57) rfl), List.forall_mem_cons.mpr ⟨zt_2 _ (List.mem_of_getElem? (i := 58) rfl), fun _ h => absurd h List.not_mem_nil⟩⟩⟩⟩⟩⟩⟩⟩⟩⟩⟩⟩⟩⟩⟩⟩⟩⟩⟩⟩⟩⟩⟩⟩⟩
set_option maxRecDepth 20000 in
theorem zm_14 : ∀ w ∈ zA_14, w ∈ lw_tbl := List.forall_mem_cons.mpr ⟨zt_2 _ (List.mem_of_getElem? (i := 59) rfl), List.forall_mem_cons.mpr ⟨zt_2 _ (List.mem_of_getElem? (i := 60) rfl), List.forall_mem_cons.mpr ⟨zt_2 _ (List.mem_of_getElem? (i := 61) rfl), List.forall_mem_cons.mpr ⟨zt_3 _ (List.mem_of_getElem? (i := 192) rfl), List.forall_mem_cons.mpr ⟨zt_3 _ (List.mem_of_getElem? (i := 193) rfl), List.forall_mem_cons.mpr ⟨zt_3 _ (List.mem_of_getElem? (i := 194) rfl), List.forall_mem_cons.mpr ⟨zt_3 _ (List.mem_of_getElem? (i := 195) rfl), List.forall_mem_cons.mpr ⟨zt_3 _ (List.mem_of_getElem? (i := 196) rfl), List.forall_mem_cons.mpr ⟨zt_3 _ (List.mem_of_getElem? (i := 198) rfl), List.forall_mem_cons.mpr ⟨zs_3 _ (List.mem_of_getElem? (i := 3) rfl), List.forall_mem_cons.mpr ⟨zt_3 _ (List.mem_of_getElem? (i := 199) rfl), List.forall_mem_cons.mpr ⟨zt_2 _ (List.mem_of_getElem? (i := 62) rfl), List.forall_mem_cons.mpr ⟨zt_2 _ (List.mem_of_getElem? (i := 63) rfl), List.forall_mem_cons.mpr ⟨zt_2 _ (List.mem_of_getElem? (i := 64) rfl), List.forall_mem_cons.mpr ⟨zt_2 _ (List.mem_of_getElem? (i := 65) rfl), List.forall_mem_cons.mpr ⟨zt_2 _ (List.mem_of_getElem? (i := 66) rfl), List.forall_mem_cons.mpr ⟨zt_2 _ (List.mem_of_getElem? (i := 67) rfl), List.forall_mem_cons.mpr ⟨zt_2 _ (List.mem_of_getElem? (i := 68) rfl), List.forall_mem_cons.mpr ⟨zt_2 _ (List.mem_of_getElem? (i := 69) rfl), List.forall_mem_cons.mpr ⟨zt_2 _ (List.mem_of_getElem? (i := 70) rfl), List.forall_mem_cons.mpr ⟨zt_2 _ (List.mem_of_getElem? (i := 71) rfl), List.forall_mem_cons.mpr ⟨zt_2 _ (List.mem_of_getElem? (i := 72) rfl), List.forall_mem_cons.mpr ⟨zt_2 _ (List.mem_of_getElem? (i := 73) rfl), List.forall_mem_cons.mpr ⟨zt_2 _ (List.mem_of_getElem? (i := 74) rfl), List.forall_mem_cons.mpr ⟨zt_3 _ (List.mem_of_getElem? (i := 200) rfl), fun _ h => absurd h List.not_mem_nil⟩⟩⟩⟩⟩⟩⟩⟩⟩⟩⟩⟩⟩⟩⟩⟩⟩⟩⟩⟩⟩⟩⟩⟩⟩
set_option maxRecDepth 20000 in
theorem zm_15 : ∀ w ∈ zA_15, w ∈ lw_tbl := List.forall_mem_cons.mpr ⟨zt_3 _ (List.mem_of_getElem? (i := 201) rfl), List.forall_mem_cons.mpr ⟨zt_3 _ (List.mem_of_getElem? (i := 202) rfl), List.forall_mem_cons.mpr ⟨zt_3 _ (List.mem_of_getElem? (i := 203) rfl), List.forall_mem_cons.mpr ⟨zt_3 _ (List.mem_of_getElem? (i := 204) rfl), List.forall_mem_cons.mpr ⟨zt_3 _ (List.mem_of_getElem? (i := 206) rfl), List.forall_mem_cons.mpr ⟨zs_3 _ (List.mem_of_getElem? (i := 4) rfl), List.forall_mem_cons.mpr ⟨zt_3 _ (List.mem_of_getElem? (i := 207) rfl), List.forall_mem_cons.mpr ⟨zt_2 _ (List.mem_of_getElem? (i := 75) rfl), List.forall_mem_cons.mpr ⟨zt_2 _ (List.mem_of_getElem? (i := 76) rfl), List.forall_mem_cons.mpr ⟨zt_2 _ (List.mem_of_getElem? (i := 77) rfl), List.forall_mem_cons.mpr ⟨zt_2 _ (List.mem_of_getElem? (i := 78) rfl), List.forall_mem_cons.mpr ⟨zt_3 _ (List.mem_of_getElem? (i := 208) rfl), List.forall_mem_cons.mpr ⟨zt_3 _ (List.mem_of_getElem? (i := 209) rfl), List.forall_mem_cons.mpr ⟨zt_3 _ (List.mem_of_getElem? (i := 210) rfl), List.forall_mem_cons.mpr ⟨zt_3 _ (List.mem_of_getElem? (i := 211) rfl), List.forall_mem_cons.mpr ⟨zt_3 _ (List.mem_of_getElem? (i := 212) rfl), List.forall_mem_cons.mpr ⟨zt_3 _ (List.mem_of_getElem? (i := 214) rfl), List.forall_mem_cons.mpr ⟨zs_3 _ (List.mem_of_getElem? (i := 5) rfl), List.forall_mem_cons.mpr ⟨zt_3 _ (List.mem_of_getElem? (i := 215) rfl), List.forall_mem_cons.mpr ⟨zt_2 _ (List.mem_of_getElem? (i := 79) rfl), List.forall_mem_cons.mpr ⟨zt_2 _ (List.mem_of_getElem? (i := 80) rfl), List.forall_mem_cons.mpr ⟨zt_2 _ (List.mem_of_getElem? (i := 81) rfl), List.forall_mem_cons.mpr ⟨zt_2 _ (List.mem_of_getElem? (i := 82) rfl), List.forall_mem_cons.mpr ⟨zt_2 _ (List.mem_of_getElem? (i := 96) rfl), List.forall_mem_cons.mpr ⟨zt_2 _ (List.mem_of_getElem? (i := 83) rfl), fun _ h => absurd h List.not_mem_nil⟩⟩⟩⟩⟩⟩⟩⟩⟩⟩⟩⟩⟩⟩⟩⟩⟩⟩⟩⟩⟩⟩⟩⟩⟩
set_option maxRecDepth 20000 in
theorem zm_16 : ∀ w ∈ zA_16, w ∈ lw_tbl := List.forall_mem_cons.mpr ⟨zt_2 _ (List.mem_of_getElem? (i := 85) rfl), List.forall_mem_cons.mpr ⟨zs_1 _ (List.mem_of_getElem? (i := 11) rfl), List.forall_mem_cons.mpr ⟨zt_2 _ (List.mem_of_getElem? (i := 86) rfl), List.forall_mem_cons.mpr ⟨zt_2 _ (List.mem_of_getElem? (i := 87) rfl), List.forall_mem_cons.mpr ⟨zt_2 _ (List.mem_of_getElem? (i := 88) rfl), List.forall_mem_cons.mpr ⟨zt_2 _ (List.mem_of_getElem? (i := 89) rfl), List.forall_mem_cons.mpr ⟨zt_2 _ (List.mem_of_getElem? (i := 90) rfl), List.forall_mem_cons.mpr ⟨zt_2 _ (List.mem_of_getElem? (i := 91) rfl), List.forall_mem_cons.mpr ⟨zt_1 _ (List.mem_of_getElem? (i := 10) rfl), List.forall_mem_cons.mpr ⟨zt_2 _ (List.mem_of_getElem? (i := 92) rfl), List.forall_mem_cons.mpr ⟨zt_2 _ (List.mem_of_getElem? (i := 93) rfl), List.forall_mem_cons.mpr ⟨zt_2 _ (List.mem_of_getElem? (i := 94) rfl), List.forall_mem_cons.mpr ⟨zt_2 _ (List.mem_of_getElem? (i := 95) rfl), List.forall_mem_cons.mpr ⟨zt_3 _ (List.mem_of_getElem? (i := 216) rfl), List.forall_mem_cons.mpr ⟨zt_3 _ (List.mem_of_getElem? (i := 217) rfl), List.forall_mem_cons.mpr ⟨zt_3 _ (List.mem_of_getElem? (i := 218) rfl), List.forall_mem_cons.mpr ⟨zt_3 _ (List.mem_of_getElem? (i := 219) rfl), List.forall_mem_cons.mpr ⟨zt_3 _ (List.mem_of_getElem? (i := 220) rfl), List.forall_mem_cons.mpr ⟨zt_3 _ (List.mem_of_getElem? (i := 222) rfl), List.forall_mem_cons.mpr ⟨zs_3 _ (List.mem_of_getElem? (i := 6) rfl), List.forall_mem_cons.mpr ⟨zt_3 _ (List.mem_of_getElem? (i := 223) rfl), List.forall_mem_cons.mpr ⟨zt_2 _ (List.mem_of_getElem? (i := 97) rfl), List.forall_mem_cons.mpr ⟨zt_2 _ (List.mem_of_getElem? (i := 98) rfl), List.forall_mem_cons.mpr ⟨zt_2 _ (List.mem_of_getElem? (i := 99) rfl), List.forall_mem_cons.mpr ⟨zt_2 _ (List.mem_of_getElem? (i := 100) rfl), fun _ h => absurd h List.not_mem_nil⟩⟩⟩⟩⟩⟩⟩⟩⟩⟩⟩⟩⟩⟩⟩⟩⟩⟩⟩⟩⟩⟩⟩⟩⟩
set_option maxRecDepth 20000 in
theorem zm_17 : ∀ w ∈ zA_17, w ∈ lw_tbl := List.forall_mem_cons.mpr ⟨zt_3 _ (List.mem_of_getElem? (i := 224) rfl), List.forall_mem_cons.mpr ⟨zt_3 _ (List.mem_of_getElem? (i := 225) rfl), List.forall_mem_cons.mpr ⟨zt_3 _ (List.mem_of_getElem? (i := 226) rfl), List.forall_mem_cons.mpr ⟨zt_3 _ (List.mem_of_getElem? (i := 227) rfl), List.forall_mem_cons.mpr ⟨zt_2 _ (List.mem_of_getElem? (i := 101) rfl), List.forall_mem_cons.mpr ⟨zt_2 _ (List.mem_of_getElem? (i := 102) rfl), List.forall_mem_cons.mpr ⟨zt_2 _ (List.mem_of_getElem? (i := 103) rfl), List.forall_mem_cons.mpr ⟨zt_2 _ (List.mem_of_getElem? (i := 104) rfl), List.forall_mem_cons.mpr ⟨zt_2 _ (List.mem_of_getElem? (i := 105) rfl), List.forall_mem_cons.mpr ⟨zt_3 _ (List.mem_of_getElem? (i := 228) rfl), List.forall_mem_cons.mpr ⟨zt_3 _ (List.mem_of_getElem? (i := 229) rfl), List.forall_mem_cons.mpr ⟨zt_3 _ (List.mem_of_getElem? (i := 230) rfl), List.forall_mem_cons.mpr ⟨zt_3 _ (List.mem_of_getElem? (i := 231) rfl), List.forall_mem_cons.mpr ⟨zt_2 _ (List.mem_of_getElem? (i := 106) rfl), List.forall_mem_cons.mpr ⟨zt_2 _ (List.mem_of_getElem? (i := 107) rfl), List.forall_mem_cons.mpr ⟨zt_2 _ (List.mem_of_getElem? (i := 108) rfl), List.forall_mem_cons.mpr ⟨zt_2 _ (List.mem_of_getElem? (i := 109) rfl), List.forall_mem_cons.mpr ⟨zt_2 _ (List.mem_of_getElem? (i := 110) rfl), List.forall_mem_cons.mpr ⟨zt_2 _ (List.mem_of_getElem? (i := 112) rfl), List.forall_mem_cons.mpr ⟨zs_1 _ (List.mem_of_getElem? (i := 12) rfl), List.forall_mem_cons.mpr ⟨zt_2 _ (List.mem_of_getElem? (i := 113) rfl), List.forall_mem_cons.mpr ⟨zt_2 _ (List.mem_of_getElem? (i := 114) rfl), List.forall_mem_cons.mpr ⟨zt_2 _ (List.mem_of_getElem? (i := 116) rfl), List.forall_mem_cons.mpr ⟨zs_1 _ (List.mem_of_getElem? (i := 13) rfl), List.forall_mem_cons.mpr ⟨zt_2 _ (List.mem_of_getElem? (i := 117) rfl), fun _ h => absurd h List.not_mem_nil⟩⟩⟩⟩⟩⟩⟩⟩⟩⟩⟩⟩⟩⟩⟩⟩⟩⟩⟩⟩⟩⟩⟩⟩⟩
set_option maxRecDepth 20000 in
theorem zm_18 : ∀ w ∈ zA_18, w ∈ lw_tbl := List.forall_mem_cons.mpr ⟨zt_2 _ (List.mem_of_getElem? (i := 118) rfl), List.forall_mem_cons.mpr ⟨zt_2 _ (List.mem_of_getElem? (i := 119) rfl), List.forall_mem_cons.mpr ⟨zt_2 _ (List.mem_of_getElem? (i := 120) rfl), List.forall_mem_cons.mpr ⟨zt_2 _ (List.mem_of_getElem? (i := 121) rfl), List.forall_mem_cons.mpr ⟨zt_2 _ (List.mem_of_getElem? (i := 122) rfl), List.forall_mem_cons.mpr ⟨zt_2 _ (List.mem_of_getElem? (i := 123) rfl), List.forall_mem_cons.mpr ⟨zt_2 _ (List.mem_of_getElem? (i := 124) rfl), List.forall_mem_cons.mpr ⟨zt_2 _ (List.mem_of_getElem? (i := 126) rfl), List.forall_mem_cons.mpr ⟨zs_1 _ (List.mem_of_getElem? (i := 14) rfl), List.forall_mem_cons.mpr ⟨zt_2 _ (List.mem_of_getElem? (i := 127) rfl), List.forall_mem_cons.mpr ⟨zt_2 _ (List.mem_of_getElem? (i := 128) rfl), List.forall_mem_cons.mpr ⟨zt_2 _ (List.mem_of_getElem? (i := 129) rfl), List.forall_mem_cons.mpr ⟨zt_2 _ (List.mem_of_getElem? (i := 130) rfl), List.forall_mem_cons.mpr ⟨zt_2 _ (List.mem_of_getElem? (i := 131) rfl), List.forall_mem_cons.mpr ⟨zt_2 _ (List.mem_of_getElem? (i := 132) rfl), List.forall_mem_cons.mpr ⟨zt_2 _ (List.mem_of_getElem? (i := 133) rfl), List.forall_mem_cons.mpr ⟨zt_2 _ (List.mem_of_getElem? (i := 134) rfl), List.forall_mem_cons.mpr ⟨zt_2 _ (List.mem_of_getElem? (i := 135) rfl), List.forall_mem_cons.mpr ⟨zt_2 _ (List.mem_of_getElem? (i := 136) rfl), List.forall_mem_cons.mpr ⟨zt_2 _ (List.mem_of_getElem? (i := 137) rfl), List.forall_mem_cons.mpr ⟨zt_2 _ (List.mem_of_getElem? (i := 138) rfl), List.forall_mem_cons.mpr ⟨zt_2 _ (List.mem_of_getElem? (i := 139) rfl), List.forall_mem_cons.mpr ⟨zt_2 _ (List.mem_of_getElem? (i := 140) rfl), List.forall_mem_cons.mpr ⟨zt_2 _ (List.mem_of_getElem? (i := 141) rfl), List.forall_mem_cons.mpr ⟨zt_2 _ (List.mem_of_getElem? (i := 142) rfl), fun _ h => absurd h List.not_mem_nil⟩⟩⟩⟩⟩⟩⟩⟩⟩⟩⟩⟩⟩⟩⟩⟩⟩⟩⟩⟩⟩⟩⟩⟩⟩
set_option maxRecDepth 20000 in
theorem zm_19 : ∀ w ∈ zA_19, w ∈ lw_tbl := List.forall_mem_cons.mpr ⟨zt_2 _ (List.mem_of_getElem? (i := 143) rfl), List.forall_mem_cons.mpr ⟨zt_2 _ (List.mem_of_getElem? (i := 145) rfl), List.forall_mem_cons.mpr ⟨zs_1 _ (List.mem_of_getElem? (i := 15) rfl), List.forall_mem_cons.mpr ⟨zt_2 _ (List.mem_of_getElem? (i := 146) rfl), List.forall_mem_cons.mpr ⟨zt_2 _ (List.mem_of_getElem? (i := 147) rfl), List.forall_mem_cons.mpr ⟨zt_2 _ (List.mem_of_getElem? (i := 148) rfl), List.forall_mem_cons.mpr ⟨zt_2 _ (List.mem_of_getElem? (i := 149) rfl), List.forall_mem_cons.mpr ⟨zt_2 _ (List.mem_of_getElem? (i := 150) rfl), List.forall_mem_cons.mpr ⟨zt_2 _ (List.mem_of_getElem? (i := 151) rfl), List.forall_mem_cons.mpr ⟨zt_2 _ (List.mem_of_getElem? (i := 152) rfl), List.forall_mem_cons.mpr ⟨zt_2 _ (List.mem_of_getElem? (i := 153) rfl), List.forall_mem_cons.mpr ⟨zt_2 _ (List.mem_of_getElem? (i := 154) rfl), List.forall_mem_cons.mpr ⟨zt_2 _ (List.mem_of_getElem? (i := 155) rfl), List.forall_mem_cons.mpr ⟨zt_2 _ (List.mem_of_getElem? (i := 156) rfl), List.forall_mem_cons.mpr ⟨zt_2 _ (List.mem_of_getElem? (i := 157) rfl), List.forall_mem_cons.mpr ⟨zt_3 _ (List.mem_of_getElem? (i := 232) rfl), List.forall_mem_cons.mpr ⟨zt_3 _ (List.mem_of_getElem? (i := 233) rfl), List.forall_mem_cons.mpr ⟨zt_3 _ (List.mem_of_getElem? (i := 234) rfl), List.forall_mem_cons.mpr ⟨zt_3 _ (List.mem_of_getElem? (i := 235) rfl), List.forall_mem_cons.mpr ⟨zt_3 _ (List.mem_of_getElem? (i := 236) rfl), List.forall_mem_cons.mpr ⟨zt_3 _ (List.mem_of_getElem? (i := 238) rfl), List.forall_mem_cons.mpr ⟨zs_3 _ (List.mem_of_getElem? (i := 7) rfl), List.forall_mem_cons.mpr ⟨zt_3 _ (List.mem_of_getElem? (i := 239) rfl), List.forall_mem_cons.mpr ⟨zt_4 _ (List.mem_of_getElem? (i := 0) rfl), List.forall_mem_cons.mpr ⟨zt_4 _ (List.mem_of_getElem? (i := 2) rfl), fun _ h => absurd h List.not_mem_nil⟩⟩⟩⟩⟩⟩⟩⟩⟩⟩⟩⟩⟩⟩⟩⟩⟩⟩⟩⟩⟩⟩⟩⟩⟩
set_option maxRecDepth 20000 in
theorem zm_20 : ∀ w ∈ zA_20, w ∈ lw_tbl := List.forall_mem_cons.mpr ⟨zs_3 _ (List.mem_of_getElem? (i := 8) rfl), List.forall_mem_cons.mpr ⟨zt_4 _ (List.mem_of_getElem? (i := 3) rfl), List.forall_mem_cons.mpr ⟨zt_4 _ (List.mem_of_getElem? (i := 4) rfl), List.forall_mem_cons.mpr ⟨zt_4 _ (List.mem_of_getElem? (i := 6) rfl), List.forall_mem_cons.mpr ⟨zs_3 _ (List.mem_of_getElem? (i := 9) rfl), List.forall_mem_cons.mpr ⟨zt_4 _ (List.mem_of_getElem? (i := 7) rfl), List.forall_mem_cons.mpr ⟨zt_4 _ (List.mem_of_getElem? (i := 8) rfl), List.forall_mem_cons.mpr ⟨zt_4 _ (List.mem_of_getElem? (i := 9) rfl), List.forall_mem_cons.mpr ⟨zt_4 _ (List.mem_of_getElem? (i := 10) rfl), List.forall_mem_cons.mpr ⟨zt_4 _ (List.mem_of_getElem? (i := 11) rfl), List.forall_mem_cons.mpr ⟨zt_4 _ (List.mem_of_getElem? (i := 13) rfl), List.forall_mem_cons.mpr ⟨zs_3 _ (List.mem_of_getElem? (i := 10) rfl), List.forall_mem_cons.mpr ⟨zt_4 _ (List.mem_of_getElem? (i := 14) rfl), List.forall_mem_cons.mpr ⟨zt_4 _ (List.mem_of_getElem? (i := 15) rfl), List.forall_mem_cons.mpr ⟨zt_4 _ (List.mem_of_getElem? (i := 17) rfl), List.forall_mem_cons.mpr ⟨zs_3 _ (List.mem_of_getElem? (i := 11) rfl), List.forall_mem_cons.mpr ⟨zt_4 _ (List.mem_of_getElem? (i := 18) rfl), List.forall_mem_cons.mpr ⟨zt_4 _ (List.mem_of_getElem? (i := 19) rfl), List.forall_mem_cons.mpr ⟨zt_4 _ (List.mem_of_getElem? (i := 21) rfl), List.forall_mem_cons.mpr ⟨zs_3 _ (List.mem_of_getElem? (i := 12) rfl), List.forall_mem_cons.mpr ⟨zt_4 _ (List.mem_of_getElem? (i := 22) rfl), List.forall_mem_cons.mpr ⟨zt_4 _ (List.mem_of_getElem? (i := 23) rfl), List.forall_mem_cons.mpr ⟨zt_4 _ (List.mem_of_getElem? (i := 25) rfl), List.forall_mem_cons.mpr ⟨zs_3 _ (List.mem_of_getElem? (i := 13) rfl), List.forall_mem_cons.mpr ⟨zt_4 _ (List.mem_of_getElem? (i := 26) rfl), fun _ h => absurd h List.not_mem_nil⟩⟩⟩⟩⟩⟩⟩⟩⟩⟩⟩⟩⟩⟩⟩⟩⟩⟩⟩⟩⟩⟩⟩⟩⟩
set_option maxRecDepth 20000 in
theorem zm_21 : ∀ w ∈ zA_21, w ∈ lw_tbl := List.forall_mem_cons.mpr ⟨zt_4 _ (List.mem_of_getElem? (i := 27) rfl), List.forall_mem_cons.mpr ⟨zt_4 _ (List.mem_of_getElem? (i := 29) rfl), List.forall_mem_cons.mpr ⟨zs_3 _ (List.mem_of_getElem? (i := 14) rfl), List.forall_mem_cons.mpr ⟨zt_4 _ (List.mem_of_getElem? (i := 30) rfl), List.forall_mem_cons.mpr ⟨zt_4 _ (List.mem_of_getElem? (i := 31) rfl), List.forall_mem_cons.mpr ⟨zt_4 _ (List.mem_of_getElem? (i := 33) rfl), List.forall_mem_cons.mpr ⟨zs_3 _ (List.mem_of_getElem? (i := 15) rfl), List.forall_mem_cons.mpr ⟨zt_4 _ (List.mem_of_getElem? (i := 34) rfl), List.forall_mem_cons.mpr ⟨zt_4 _ (List.mem_of_getElem? (i := 35) rfl), List.forall_mem_cons.mpr ⟨zt_4 _ (List.mem_of_getElem? (i := 37) rfl), List.forall_mem_cons.mpr ⟨zs_4 _ (List.mem_of_getElem? (i := 0) rfl), List.forall_mem_cons.mpr ⟨zt_4 _ (List.mem_of_getElem? (i := 38) rfl), List.forall_mem_cons.mpr ⟨zt_2 _ (List.mem_of_getElem? (i := 158) rfl), List.forall_mem_cons.mpr ⟨zt_2 _ (List.mem_of_getElem? (i := 159) rfl), List.forall_mem_cons.mpr ⟨zt_2 _ (List.mem_of_getElem? (i := 160) rfl), List.forall_mem_cons.mpr ⟨zt_2 _ (List.mem_of_getElem? (i := 161) rfl), List.forall_mem_cons.mpr ⟨zt_2 _ (List.mem_of_getElem? (i := 162) rfl), List.forall_mem_cons.mpr ⟨zt_4 _ (List.mem_of_getElem? (i := 39) rfl), List.forall_mem_cons.mpr ⟨zt_4 _ (List.mem_of_getElem? (i := 40) rfl), List.forall_mem_cons.mpr ⟨zt_4 _ (List.mem_of_getElem? (i := 41) rfl), List.forall_mem_cons.mpr ⟨zt_4 _ (List.mem_of_getElem? (i := 42) rfl), List.forall_mem_cons.mpr ⟨zt_2 _ (List.mem_of_getElem? (i := 163) rfl), List.forall_mem_cons.mpr ⟨zt_2 _ (List.mem_of_getElem? (i := 164) rfl), List.forall_mem_cons.mpr ⟨zt_2 _ (List.mem_of_getElem? (i := 165) rfl), List.forall_mem_cons.mpr ⟨zt_2 _ (List.mem_of_getElem? (i := 166) rfl), fun _ h => absurd h List.not_mem_nil⟩⟩⟩⟩⟩⟩⟩⟩⟩⟩⟩⟩⟩⟩⟩⟩⟩⟩⟩⟩⟩⟩⟩⟩⟩
set_option maxRecDepth 20000 in
theorem zm_22 : ∀ w ∈ zA_22, w ∈ lw_tbl := List.forall_mem_cons.mpr ⟨zt_2 _ (List.mem_of_getElem? (i := 167) rfl), List.forall_mem_cons.mpr ⟨zt_2 _ (List.mem_of_getElem? (i := 168) rfl), List.forall_mem_cons.mpr ⟨zt_2 _ (List.mem_of_getElem? (i := 169) rfl), List.forall_mem_cons.mpr ⟨zt_2 _ (List.mem_of_getElem? (i := 170) rfl), List.forall_mem_cons.mpr ⟨zt_2 _ (List.mem_of_getElem? (i := 171) rfl), List.forall_mem_cons.mpr ⟨zt_4 _ (List.mem_of_getElem? (i := 43) rfl), List.forall_mem_cons.mpr ⟨zt_4 _ (List.mem_of_getElem? (i := 44) rfl), List.forall_mem_cons.mpr ⟨zt_4 _ (List.mem_of_getElem? (i := 45) rfl), List.forall_mem_cons.mpr ⟨zt_4 _ (List.mem_of_getElem? (i := 46) rfl), List.forall_mem_cons.mpr ⟨zt_4 _ (List.mem_of_getElem? (i := 47) rfl), List.forall_mem_cons.mpr ⟨zt_2 _ (List.mem_of_getElem? (i := 172) rfl), List.forall_mem_cons.mpr ⟨zt_2 _ (List.mem_of_getElem? (i := 173) rfl), List.forall_mem_cons.mpr ⟨zt_2 _ (List.mem_of_getElem? (i := 174) rfl), List.forall_mem_cons.mpr ⟨zt_2 _ (List.mem_of_getElem? (i := 175) rfl), List.forall_mem_cons.mpr ⟨zt_4 _ (List.mem_of_getElem? (i := 48) rfl), List.forall_mem_cons.mpr ⟨zt_4 _ (List.mem_of_getElem? (i := 49) rfl), List.forall_mem_cons.mpr ⟨zt_4 _ (List.mem_of_getElem? (i := 50) rfl), List.forall_mem_cons.mpr ⟨zt_4 _ (List.mem_of_getElem? (i := 51) rfl), List.forall_mem_cons.mpr ⟨zt_2 _ (List.mem_of_getElem? (i := 176) rfl), List.forall_mem_cons.mpr ⟨zt_2 _ (List.mem_of_getElem? (i := 177) rfl), List.forall_mem_cons.mpr ⟨zt_2 _ (List.mem_of_getElem? (i := 178) rfl), List.forall_mem_cons.mpr ⟨zt_2 _ (List.mem_of_getElem? (i := 179) rfl), List.forall_mem_cons.mpr ⟨zt_4 _ (List.mem_of_getElem? (i := 52) rfl), List.forall_mem_cons.mpr ⟨zt_4 _ (List.mem_of_getElem? (i := 53) rfl), List.forall_mem_cons.mpr ⟨zt_4 _ (List.mem_of_getElem? (i := 54) rfl), fun _ h => absurd h List.not_mem_nil⟩⟩⟩⟩⟩⟩⟩⟩⟩⟩⟩⟩⟩⟩⟩⟩⟩⟩⟩⟩⟩⟩⟩⟩⟩
set_option maxRecDepth 20000 in
theorem zm_23 : ∀ w ∈ zA_23, w ∈ lw_tbl := List.forall_mem_cons.mpr ⟨zt_4 _ (List.mem_of_getElem? (i := 55) rfl), List.forall_mem_cons.mpr ⟨zt_4 _ (List.mem_of_getElem? (i := 56) rfl), List.forall_mem_cons.mpr ⟨zt_4 _ (List.mem_of_getElem? (i := 58) rfl), List.forall_mem_cons.mpr ⟨zs_4 _ (List.mem_of_getElem? (i := 1) rfl), List.forall_mem_cons.mpr ⟨zt_4 _ (List.mem_of_getElem? (i := 59) rfl), List.forall_mem_cons.mpr ⟨zt_4 _ (List.mem_of_getElem? (i := 60) rfl), List.forall_mem_cons.mpr ⟨zt_4 _ (List.mem_of_getElem? (i := 62) rfl), List.forall_mem_cons.mpr ⟨zs_4 _ (List.mem_of_getElem? (i := 2) rfl), List.forall_mem_cons.mpr ⟨zt_4 _ (List.mem_of_getElem? (i := 63) rfl), List.forall_mem_cons.mpr ⟨zt_2 _ (List.mem_of_getElem? (i := 180) rfl), List.forall_mem_cons.mpr ⟨zt_2 _ (List.mem_of_getElem? (i := 181) rfl), List.forall_mem_cons.mpr ⟨zt_2 _ (List.mem_of_getElem? (i := 182) rfl), List.forall_mem_cons.mpr ⟨zt_2 _ (List.mem_of_getElem? (i := 183) rfl), List.forall_mem_cons.mpr ⟨zt_2 _ (List.mem_of_getElem? (i := 184) rfl), List.forall_mem_cons.mpr ⟨zt_2 _ (List.mem_of_getElem? (i := 185) rfl), List.forall_mem_cons.mpr ⟨zt_1 _ (List.mem_of_getElem? (i := 11) rfl), List.forall_mem_cons.mpr ⟨zt_2 _ (List.mem_of_getElem? (i := 186) rfl), List.forall_mem_cons.mpr ⟨zt_2 _ (List.mem_of_getElem? (i := 187) rfl), List.forall_mem_cons.mpr ⟨zt_2 _ (List.mem_of_getElem? (i := 188) rfl), List.forall_mem_cons.mpr ⟨zt_4 _ (List.mem_of_getElem? (i := 64) rfl), List.forall_mem_cons.mpr ⟨zt_4 _ (List.mem_of_getElem? (i := 65) rfl), List.forall_mem_cons.mpr ⟨zt_4 _ (List.mem_of_getElem? (i := 66) rfl), List.forall_mem_cons.mpr ⟨zt_4 _ (List.mem_of_getElem? (i := 67) rfl), List.forall_mem_cons.mpr ⟨zt_4 _ (List.mem_of_getElem? (i := 68) rfl), List.forall_mem_cons.mpr ⟨zt_4 _ (List.mem_of_getElem? (i := 69) rfl), fun _ h => absurd h List.not_mem_nil⟩⟩⟩⟩⟩⟩⟩⟩⟩⟩⟩⟩⟩⟩⟩⟩⟩⟩⟩⟩⟩⟩⟩⟩⟩
set_option maxRecDepth 20000 in
theorem zm_24 : ∀ w ∈ zA_24, w ∈ lw_tbl := List.forall_mem_cons.mpr ⟨zt_1 _ (List.mem_of_getElem? (i := 12) rfl), List.forall_mem_cons.mpr ⟨zt_4 _ (List.mem_of_getElem? (i := 70) rfl), List.forall_mem_cons.mpr ⟨zt_4 _ (List.mem_of_getElem? (i := 74) rfl), List.forall_mem_cons.mpr ⟨zt_4 _ (List.mem_of_getElem? (i := 76) rfl), List.forall_mem_cons.mpr ⟨zt_4 _ (List.mem_of_getElem? (i := 75) rfl), List.forall_mem_cons.mpr ⟨zt_4 _ (List.mem_of_getElem? (i := 77) rfl), List.forall_mem_cons.mpr ⟨zt_4 _ (List.mem_of_getElem? (i := 71) rfl), List.forall_mem_cons.mpr ⟨zt_4 _ (List.mem_of_getElem? (i := 72) rfl), List.forall_mem_cons.mpr ⟨zt_4 _ (List.mem_of_getElem? (i := 73) rfl), List.forall_mem_cons.mpr ⟨zt_2 _ (List.mem_of_getElem? (i := 189) rfl), List.forall_mem_cons.mpr ⟨zt_2 _ (List.mem_of_getElem? (i := 190) rfl), List.forall_mem_cons.mpr ⟨zt_2 _ (List.mem_of_getElem? (i := 191) rfl), List.forall_mem_cons.mpr ⟨zt_2 _ (List.mem_of_getElem? (i := 192) rfl), List.forall_mem_cons.mpr ⟨zt_2 _ (List.mem_of_getElem? (i := 193) rfl), List.forall_mem_cons.mpr ⟨zt_2 _ (List.mem_of_getElem? (i := 194) rfl), List.forall_mem_cons.mpr ⟨zt_2 _ (List.mem_of_getElem? (i := 195) rfl), List.forall_mem_cons.mpr ⟨zt_2 _ (List.mem_of_getElem? (i := 196) rfl), List.forall_mem_cons.mpr ⟨zt_4 _ (List.mem_of_getElem? (i := 78) rfl), List.forall_mem_cons.mpr ⟨zt_4 _ (List.mem_of_getElem? (i := 79) rfl), List.forall_mem_cons.mpr ⟨zt_4 _ (List.mem_of_getElem? (i := 80) rfl), List.forall_mem_cons.mpr ⟨zt_4 _ (List.mem_of_getElem? (i := 81) rfl), List.forall_mem_cons.mpr ⟨zt_4 _ (List.mem_of_getElem? (i := 82) rfl), List.forall_mem_cons.mpr ⟨zt_4 _ (List.mem_of_getElem? (i := 83) rfl), List.forall_mem_cons.mpr ⟨zt_1 _ (List.mem_of_getElem? (i := 13) rfl), List.forall_mem_cons.mpr ⟨zt_4 _ (List.mem_of_getElem? (i := 84) rfl), fun _ h => absurd h List.not_mem_nil⟩⟩⟩⟩⟩⟩⟩⟩⟩⟩⟩⟩⟩⟩⟩⟩⟩⟩⟩⟩⟩⟩⟩⟩⟩
set_option maxRecDepth 20000 in
theorem zm_25 : ∀ w ∈ zA_25, w ∈ lw_tbl := List.forall_mem_cons.mpr ⟨zt_4 _ (List.mem_of_getElem? (i := 88) rfl), List.forall_mem_cons.mpr ⟨zt_4 _ (List.mem_of_getElem? (i := 90) rfl), List.forall_mem_cons.mpr ⟨zt_4 _ (List.mem_of_getElem? (i := 89) rfl), List.forall_mem_cons.mpr ⟨zt_4 _ (List.mem_of_getElem? (i := 91) rfl), List.forall_mem_cons.mpr ⟨zt_4 _ (List.mem_of_getElem? (i := 85) rfl), List.forall_mem_cons.mpr ⟨zt_4 _ (List.mem_of_getElem? (i := 86) rfl), List.forall_mem_cons.mpr ⟨zt_4 _ (List.mem_of_getElem? (i := 87) rfl), List.forall_mem_cons.mpr ⟨zt_2 _ (List.mem_of_getElem? (i := 197) rfl), List.forall_mem_cons.mpr ⟨zt_2 _ (List.mem_of_getElem? (i := 198) rfl), List.forall_mem_cons.mpr ⟨zt_2 _ (List.mem_of_getElem? (i := 199) rfl), List.forall_mem_cons.mpr ⟨zt_2 _ (List.mem_of_getElem? (i := 200) rfl), List.forall_mem_cons.mpr ⟨zt_4 _ (List.mem_of_getElem? (i := 92) rfl), List.forall_mem_cons.mpr ⟨zt_4 _ (List.mem_of_getElem? (i := 93) rfl), List.forall_mem_cons.mpr ⟨zt_4 _ (List.mem_of_getElem? (i := 94) rfl), List.forall_mem_cons.mpr ⟨zt_4 _ (List.mem_of_getElem? (i := 95) rfl), List.forall_mem_cons.mpr ⟨zt_4 _ (List.mem_of_getElem? (i := 96) rfl), List.forall_mem_cons.mpr ⟨zt_4 _ (List.mem_of_getElem? (i := 98) rfl), List.forall_mem_cons.mpr ⟨zs_4 _ (List.mem_of_getElem? (i := 3) rfl), List.forall_mem_cons.mpr ⟨zt_4 _ (List.mem_of_getElem? (i := 99) rfl), List.forall_mem_cons.mpr ⟨zt_2 _ (List.mem_of_getElem? (i := 201) rfl), List.forall_mem_cons.mpr ⟨zt_2 _ (List.mem_of_getElem? (i := 202) rfl), List.forall_mem_cons.mpr ⟨zt_2 _ (List.mem_of_getElem? (i := 203) rfl), List.forall_mem_cons.mpr ⟨zt_2 _ (List.mem_of_getElem? (i := 204) rfl), List.forall_mem_cons.mpr ⟨zt_4 _ (List.mem_of_getElem? (i := 100) rfl), List.forall_mem_cons.mpr ⟨zt_4 _ (List.mem_of_getElem? (i := 101) rfl), fun _ h => absurd h List.not_mem_nil⟩⟩⟩⟩⟩⟩⟩⟩⟩⟩⟩⟩⟩⟩⟩⟩⟩⟩⟩⟩⟩⟩⟩⟩⟩
set_option maxRecDepth 20000 in
theorem zm_26 : ∀ w ∈ zA_26, w ∈ lw_tbl := List.forall_mem_cons.mpr ⟨zt_4 _ (List.mem_of_getElem? (i := 102) rfl), List.forall_mem_cons.mpr ⟨zt_4 _ (List.mem_of_getElem? (i := 103) rfl), List.forall_mem_cons.mpr ⟨zt_2 _ (List.mem_of_getElem? (i := 205) rfl), List.forall_mem_cons.mpr ⟨zt_2 _ (List.mem_of_getElem? (i := 206) rfl), List.forall_mem_cons.mpr ⟨zt_2 _ (List.mem_of_getElem? (i := 207) rfl), List.forall_mem_cons.mpr ⟨zt_2 _ (List.mem_of_getElem? (i := 208) rfl), List.forall_mem_cons.mpr ⟨zt_4 _ (List.mem_of_getElem? (i := 104) rfl), List.forall_mem_cons.mpr ⟨zt_4 _ (List.mem_of_getElem? (i := 105) rfl), List.forall_mem_cons.mpr ⟨zt_4 _ (List.mem_of_getElem? (i := 106) rfl), List.forall_mem_cons.mpr ⟨zt_4 _ (List.mem_of_getElem? (i := 107) rfl), List.forall_mem_cons.mpr ⟨zt_2 _ (List.mem_of_getElem? (i := 209) rfl), List.forall_mem_cons.mpr ⟨zt_2 _ (List.mem_of_getElem? (i := 210) rfl), List.forall_mem_cons.mpr ⟨zt_2 _ (List.mem_of_getElem? (i := 211) rfl), List.forall_mem_cons.mpr ⟨zt_2 _ (List.mem_of_getElem? (i := 212) rfl), List.forall_mem_cons.mpr ⟨zt_2 _ (List.mem_of_getElem? (i := 213) rfl), List.forall_mem_cons.mpr ⟨zt_2 _ (List.mem_of_getElem? (i := 215) rfl), List.forall_mem_cons.mpr ⟨zs_2 _ (List.mem_of_getElem? (i := 0) rfl), List.forall_mem_cons.mpr ⟨zt_2 _ (List.mem_of_getElem? (i := 216) rfl), List.forall_mem_cons.mpr ⟨zt_2 _ (List.mem_of_getElem? (i := 217) rfl), List.forall_mem_cons.mpr ⟨zt_2 _ (List.mem_of_getElem? (i := 219) rfl), List.forall_mem_cons.mpr ⟨zs_2 _ (List.mem_of_getElem? (i := 1) rfl), List.forall_mem_cons.mpr ⟨zt_2 _ (List.mem_of_getElem? (i := 220) rfl), List.forall_mem_cons.mpr ⟨zt_2 _ (List.mem_of_getElem? (i := 221) rfl), List.forall_mem_cons.mpr ⟨zt_2 _ (List.mem_of_getElem? (i := 222) rfl), List.forall_mem_cons.mpr ⟨zt_2 _ (List.mem_of_getElem? (i := 223) rfl), fun _ h => absurd h List.not_mem_nil⟩⟩⟩⟩⟩⟩⟩⟩⟩⟩⟩⟩⟩⟩⟩⟩⟩⟩⟩⟩⟩⟩⟩⟩⟩
set_option maxRecDepth 20000 in
theorem zm_27 : ∀ w ∈ zA_27, w ∈ lw_tbl := List.forall_mem_cons.mpr ⟨zt_2 _ (List.mem_of_getElem? (i := 224) rfl), List.forall_mem_cons.mpr ⟨zt_4 _ (List.mem_of_getElem? (i := 108) rfl), List.forall_mem_cons.mpr ⟨zt_4 _ (List.mem_of_getElem? (i := 109) rfl), List.forall_mem_cons.mpr ⟨zt_4 _ (List.mem_of_getElem? (i := 110) rfl), List.forall_mem_cons.mpr ⟨zt_4 _ (List.mem_of_getElem? (i := 111) rfl), List.forall_mem_cons.mpr ⟨zt_4 _ (List.mem_of_getElem? (i := 112) rfl), List.forall_mem_cons.mpr ⟨zt_4 _ (List.mem_of_getElem? (i := 114) rfl), List.forall_mem_cons.mpr ⟨zs_4 _ (List.mem_of_getElem? (i := 4) rfl), List.forall_mem_cons.mpr ⟨zt_4 _ (List.mem_of_getElem? (i := 115) rfl), List.forall_mem_cons.mpr ⟨zt_4 _ (List.mem_of_getElem? (i := 116) rfl), List.forall_mem_cons.mpr ⟨zt_4 _ (List.mem_of_getElem? (i := 118) rfl), List.forall_mem_cons.mpr ⟨zs_4 _ (List.mem_of_getElem? (i := 5) rfl), List.forall_mem_cons.mpr ⟨zt_4 _ (List.mem_of_getElem? (i := 119) rfl), List.forall_mem_cons.mpr ⟨zt_4 _ (List.mem_of_getElem? (i := 120) rfl), List.forall_mem_cons.mpr ⟨zt_4 _ (List.mem_of_getElem? (i := 122) rfl), List.forall_mem_cons.mpr ⟨zs_4 _ (List.mem_of_getElem? (i := 6) rfl), List.forall_mem_cons.mpr ⟨zt_4 _ (List.mem_of_getElem? (i := 123) rfl), List.forall_mem_cons.mpr ⟨zt_2 _ (List.mem_of_getElem? (i := 225) rfl), List.forall_mem_cons.mpr ⟨zt_2 _ (List.mem_of_getElem? (i := 226) rfl), List.forall_mem_cons.mpr ⟨zt_2 _ (List.mem_of_getElem? (i := 227) rfl), List.forall_mem_cons.mpr ⟨zt_2 _ (List.mem_of_getElem? (i := 228) rfl), List.forall_mem_cons.mpr ⟨zt_2 _ (List.mem_of_getElem? (i := 229) rfl), List.forall_mem_cons.mpr ⟨zt_4 _ (List.mem_of_getElem? (i := 124) rfl), List.forall_mem_cons.mpr ⟨zt_4 _ (List.mem_of_getElem? (i := 125) rfl), List.forall_mem_cons.mpr ⟨zt_4 _ (List.mem_of_getElem? (i := 126) rfl), fun _ h => absurd h List.not_mem_nil⟩⟩⟩⟩⟩⟩⟩⟩⟩⟩⟩⟩⟩⟩⟩⟩⟩⟩⟩⟩⟩⟩⟩⟩⟩
set_option maxRecDepth 20000 in
theorem zm_28 : ∀ w ∈ zA_28, w ∈ lw_tbl := List.forall_mem_cons.mpr ⟨zt_4 _ (List.mem_of_getElem? (i := 127) rfl), List.forall_mem_cons.mpr ⟨zt_2 _ (List.mem_of_getElem? (i := 230) rfl), List.forall_mem_cons.mpr ⟨zt_2 _ (List.mem_of_getElem? (i := 231) rfl), List.forall_mem_cons.mpr ⟨zt_2 _ (List.mem_of_getElem? (i := 232) rfl), List.forall_mem_cons.mpr ⟨zt_2 _ (List.mem_of_getElem? (i := 233) rfl), List.forall_mem_cons.mpr ⟨zt_2 _ (List.mem_of_getElem? (i := 234) rfl), List.forall_mem_cons.mpr ⟨zt_2 _ (List.mem_of_getElem? (i := 235) rfl), List.forall_mem_cons.mpr ⟨zt_2 _ (List.mem_of_getElem? (i := 236) rfl), List.forall_mem_cons.mpr ⟨zt_2 _ (List.mem_of_getElem? (i := 237) rfl), List.forall_mem_cons.mpr ⟨zt_2 _ (List.mem_of_getElem? (i := 238) rfl), List.forall_mem_cons.mpr ⟨zt_2 _ (List.mem_of_getElem? (i := 239) rfl), List.forall_mem_cons.mpr ⟨zt_3 _ (List.mem_of_getElem? (i := 0) rfl), List.forall_mem_cons.mpr ⟨zt_3 _ (List.mem_of_getElem? (i := 2) rfl), List.forall_mem_cons.mpr ⟨zs_2 _ (List.mem_of_getElem? (i := 2) rfl), List.forall_mem_cons.mpr ⟨zt_3 _ (List.mem_of_getElem? (i := 3) rfl), List.forall_mem_cons.mpr ⟨zt_4 _ (List.mem_of_getElem? (i := 128) rfl), List.forall_mem_cons.mpr ⟨zt_4 _ (List.mem_of_getElem? (i := 129) rfl), List.forall_mem_cons.mpr ⟨zt_4 _ (List.mem_of_getElem? (i := 130) rfl), List.forall_mem_cons.mpr ⟨zt_4 _ (List.mem_of_getElem? (i := 131) rfl), List.forall_mem_cons.mpr ⟨zt_4 _ (List.mem_of_getElem? (i := 132) rfl), List.forall_mem_cons.mpr ⟨zt_3 _ (List.mem_of_getElem? (i := 4) rfl), List.forall_mem_cons.mpr ⟨zt_3 _ (List.mem_of_getElem? (i := 5) rfl), List.forall_mem_cons.mpr ⟨zt_3 _ (List.mem_of_getElem? (i := 6) rfl), List.forall_mem_cons.mpr ⟨zt_3 _ (List.mem_of_getElem? (i := 7) rfl), List.forall_mem_cons.mpr ⟨zt_4 _ (List.mem_of_getElem? (i := 133) rfl), fun _ h => absurd h List.not_mem_nil⟩⟩⟩⟩⟩⟩⟩⟩⟩⟩⟩⟩⟩⟩⟩⟩⟩⟩⟩⟩⟩⟩⟩⟩⟩
set_option maxRecDepth 20000 in
theorem zm_29 : ∀ w ∈ zA_29, w ∈ lw_tbl := List.forall_mem_cons.mpr ⟨zt_4 _ (List.mem_of_getElem? (i := 134) rfl), List.forall_mem_cons.mpr ⟨zt_4 _ (List.mem_of_getElem? (i := 135) rfl), List.forall_mem_cons.mpr ⟨zt_4 _ (List.mem_of_getElem? (i := 136) rfl), List.forall_mem_cons.mpr ⟨zt_3 _ (List.mem_of_getElem? (i := 8) rfl), List.forall_mem_cons.mpr ⟨zt_3 _ (List.mem_of_getElem? (i := 9) rfl), List.forall_mem_cons.mpr ⟨zt_3 _ (List.mem_of_getElem? (i := 10) rfl), List.forall_mem_cons.mpr ⟨zt_3 _ (List.mem_of_getElem? (i := 11) rfl), List.forall_mem_cons.mpr ⟨zt_4 _ (List.mem_of_getElem? (i := 137) rfl), List.forall_mem_cons.mpr ⟨zt_4 _ (List.mem_of_getElem? (i := 138) rfl), List.forall_mem_cons.mpr ⟨zt_4 _ (List.mem_of_getElem? (i := 139) rfl), List.forall_mem_cons.mpr ⟨zt_4 _ (List.mem_of_getElem? (i := 140) rfl), List.forall_mem_cons.mpr ⟨zt_3 _ (List.mem_of_getElem? (i := 12) rfl), List.forall_mem_cons.mpr ⟨zt_3 _ (List.mem_of_getElem? (i := 13) rfl), List.forall_mem_cons.mpr ⟨zt_3 _ (List.mem_of_getElem? (i := 14) rfl), List.forall_mem_cons.mpr ⟨zt_3 _ (List.mem_of_getElem? (i := 15) rfl), List.forall_mem_cons.mpr ⟨zt_3 _ (List.mem_of_getElem? (i := 16) rfl), List.forall_mem_cons.mpr ⟨zt_3 _ (List.mem_of_getElem? (i := 17) rfl), List.forall_mem_cons.mpr ⟨zt_3 _ (List.mem_of_getElem? (i := 18) rfl), List.forall_mem_cons.mpr ⟨zt_3 _ (List.mem_of_getElem? (i := 19) rfl), List.forall_mem_cons.mpr ⟨zt_4 _ (List.mem_of_getElem? (i := 141) rfl), List.forall_mem_cons.mpr ⟨zt_4 _ (List.mem_of_getElem? (i := 142) rfl), List.forall_mem_cons.mpr ⟨zt_4 _ (List.mem_of_getElem? (i := 143) rfl), List.forall_mem_cons.mpr ⟨zt_4 _ (List.mem_of_getElem? (i := 144) rfl), List.forall_mem_cons.mpr ⟨zt_3 _ (List.mem_of_getElem? (i := 20) rfl), List.forall_mem_cons.mpr ⟨zt_3 _ (List.mem_of_getElem? (i := 21) rfl), fun _ h => absurd h List.not_mem_nil⟩⟩⟩⟩⟩⟩⟩⟩⟩⟩⟩⟩⟩⟩⟩⟩⟩⟩⟩⟩⟩⟩⟩⟩⟩
set_option maxRecDepth 20000 in
theorem zm_30 : ∀ w ∈ zA_30, w ∈ lw_tbl := List.forall_mem_cons.mpr ⟨zt_3 _ (List.mem_of_getElem? (i := 22) rfl), List.forall_mem_cons.mpr ⟨zt_3 _ (List.mem_of_getElem? (i := 23) rfl), List.forall_mem_cons.mpr ⟨zt_3 _ (List.mem_of_getElem? (i := 24) rfl), List.forall_mem_cons.mpr ⟨zt_4 _ (List.mem_of_getElem? (i := 145) rfl), List.forall_mem_cons.mpr ⟨zt_4 _ (List.mem_of_getElem? (i := 146) rfl), List.forall_mem_cons.mpr ⟨zt_4 _ (List.mem_of_getElem? (i := 147) rfl), List.forall_mem_cons.mpr ⟨zt_4 _ (List.mem_of_getElem? (i := 148) rfl), List.forall_mem_cons.mpr ⟨zt_3 _ (List.mem_of_getElem? (i := 25) rfl), List.forall_mem_cons.mpr ⟨zt_3 _ (List.mem_of_getElem? (i := 26) rfl), List.forall_mem_cons.mpr ⟨zt_3 _ (List.mem_of_getElem? (i := 27) rfl), List.forall_mem_cons.mpr ⟨zt_3 _ (List.mem_of_getElem? (i := 28) rfl), List.forall_mem_cons.mpr ⟨zt_3 _ (List.mem_of_getElem? (i := 29) rfl), List.forall_mem_cons.mpr ⟨zt_3 _ (List.mem_of_getElem? (i := 30) rfl), List.forall_mem_cons.mpr ⟨zt_3 _ (List.mem_of_getElem? (i := 31) rfl), List.forall_mem_cons.mpr ⟨zt_3 _ (List.mem_of_getElem? (i := 32) rfl), List.forall_mem_cons.mpr ⟨zt_4 _ (List.mem_of_getElem? (i := 149) rfl), List.forall_mem_cons.mpr ⟨zt_4 _ (List.mem_of_getElem? (i := 150) rfl), List.forall_mem_cons.mpr ⟨zt_4 _ (List.mem_of_getElem? (i := 151) rfl), List.forall_mem_cons.mpr ⟨zt_4 _ (List.mem_of_getElem? (i := 152) rfl), fun _ h => absurd h List.not_mem_nil⟩⟩⟩⟩⟩⟩⟩⟩⟩⟩⟩⟩⟩⟩⟩⟩⟩⟩⟩
abbrev vwCl : List vw_C := [(RX1, TX1, 1), (RX2, TX2, 8), (RX4, TX4, 2), (RX6, TX6, 5), (RX7, TX7, 9), (RX8, TX8, 19)]
theorem zmc_X1 : ∀ w ∈ wsX10, w ∈ lw_tbl := by decide +kernel
theorem zmc_X2 : ∀ w ∈ wsX20, w ∈ lw_tbl := by decide +kernel
theorem zmc_X4 : ∀ w ∈ wsX40, w ∈ lw_tbl := by decide +kernel
theorem zmc_X6 : ∀ w ∈ wsX60, w ∈ lw_tbl := by decide +kernel
theorem zmc_X7 : ∀ w ∈ wsX70, w ∈ lw_tbl := by decide +kernel
theorem zmc_X8 : ∀ w ∈ wsX80, w ∈ lw_tbl := by decide +kernel
theorem zmC : ∀ w ∈ zC, w ∈ lw_tbl := fun w h => (List.mem_append.mp h).elim (zmc_X1 w) (fun h => (List.mem_append.mp h).elim (zmc_X2 w) (fun h => (List.mem_append.mp h).elim (zmc_X4 w) (fun h => (List.mem_append.mp h).elim (zmc_X6 w) (fun h => (List.mem_append.mp h).elim (zmc_X7 w) (fun h => zmc_X8 w h)))))
theorem zAll_in : ∀ w ∈ zAll, w ∈ lw_tbl := fun w h => (List.mem_append.mp h).elim (zm_0 w) (fun h => (List.mem_append.mp h).elim (zm_1 w) (fun h => (List.mem_append.mp h).elim (zm_2 w) (fun h => (List.mem_append.mp h).elim (zm_3 w) (fun h => (List.mem_append.mp h).elim (zm_4 w) (fun h => (List.mem_append.mp h).elim (zm_5 w) (fun h => (List.mem_append.mp h).elim (zm_6 w) (fun h => (List.mem_append.mp h).elim (zm_7 w) (fun h => (List.mem_append.mp h).elim (zm_8 w) (fun h => (List.mem_append.mp h).elim (zm_9 w) (fun h => (List.mem_append.mp h).elim (zm_10 w) (fun h => (List.mem_append.mp h).elim (zm_11 w) (fun h => (List.mem_append.mp h).elim (zm_12 w) (fun h => (List.mem_append.mp h).elim (zm_13 w) (fun h => (List.mem_append.mp h).elim (zm_14 w) (fun h => (List.mem_append.mp h).elim (zm_15 w) (fun h => (List.mem_append.mp h).elim (zm_16 w) (fun h => (List.mem_append.mp h).elim (zm_17 w) (fun h => (List.mem_append.mp h).elim (zm_18 w) (fun h => (List.mem_append.mp h).elim (zm_19 w) (fun h => (List.mem_append.mp h).elim (zm_20 w) (fun h => (List.mem_append.mp h).elim (zm_21 w) (fun h => (List.mem_append.mp h).elim (zm_22 w) (fun h => (List.mem_append.mp h).elim (zm_23 w) (fun h => (List.mem_append.mp h).elim (zm_24 w) (fun h => (List.mem_append.mp h).elim (zm_25 w) (fun h => (List.mem_append.mp h).elim (zm_26 w) (fun h => (List.mem_append.mp h).elim (zm_27 w) (fun h => (List.mem_append.mp h).elim (zm_28 w) (fun h => (List.mem_append.mp h).elim (zm_29 w) (fun h => (List.mem_append.mp h).elim (zm_30 w) (fun h => zmC w h)))))))))))))))))))))))))))))))
theorem zAll_good : ∀ w ∈ zAll, goodWord w = true := List.all_eq_true.mp (by decide +kernel)
theorem zG_V {c1 c2 : Cond} {own C : String} {idx : Nat} {y : MethodName} (h1 : Cond.methodLink own idx y ∈ zAll) (h2 : Cond.instanceMethod y ∈ zAll) (h3 : Cond.selects C y y ∈ zAll) (h4 : Cond.initialized C ∈ zAll) (h5 : c2 ∈ zAll) : GoodIn (c1 :: zAll) (wsV own idx C y (c2 :: zAll)) := by
  intro w hw
  have h : w ∈ zAll := by
    simp only [wsV, List.cons_append, List.nil_append, List.mem_cons] at hw
    rcases hw with rfl | rfl | rfl | rfl | rfl | hw
    · exact h1
    · exact h2
    · exact h3
    · exact h4
    · exact h5
    · exact hw
  exact ⟨List.mem_cons_of_mem _ h, good_of_word (zAll_good w h)⟩
theorem zG_S {c1 c2 : Cond} {own : String} {idx : Nat} {y : MethodName} (h1 : Cond.methodLink own idx y ∈ zAll) (h2 : Cond.static y ∈ zAll) (h4 : Cond.initialized y.cls ∈ zAll) (h5 : c2 ∈ zAll) : GoodIn (c1 :: zAll) (va_wsS own idx y (c2 :: zAll)) := by
  intro w hw
  have h : w ∈ zAll := by
    simp only [va_wsS, List.cons_append, List.nil_append, List.mem_cons] at hw
    rcases hw with rfl | rfl | rfl | rfl | hw
    · exact h1
    · exact h2
    · exact h4
    · exact h5
    · exact hw
  exact ⟨List.mem_cons_of_mem _ h, good_of_word (zAll_good w h)⟩
theorem zG_I {c1 c2 : Cond} (h5 : c2 ∈ zAll) : GoodIn (c1 :: zAll) (c2 :: zAll) := by
  intro w hw
  have h : w ∈ zAll := by
    simp only [List.mem_cons] at hw
    rcases hw with rfl | hw
    · exact h5
    · exact hw
  exact ⟨List.mem_cons_of_mem _ h, good_of_word (zAll_good w h)⟩
end
section
theorem dX0_ofDouble_0 : decode cX0_ofDouble 0 = .ok (.dload_n 0, 1) := by decide +kernel
theorem dX0_ofDouble_1 : decode cX0_ofDouble 1 = .ok (.dconst 0, 1) := by decide +kernel
theorem dX0_ofDouble_2 : decode cX0_ofDouble 2 = .ok (.dcmp .l, 1) := by decide +kernel
theorem dX0_ofDouble_3 : decode cX0_ofDouble 3 = .ok (.ifCond .gt 5, 3) := by decide +kernel
theorem dX0_ofDouble_6 : decode cX0_ofDouble 6 = .ok (.lconst 0, 1) := by decide +kernel
theorem dX0_ofDouble_7 : decode cX0_ofDouble 7 = .ok (.lreturn, 1) := by decide +kernel
theorem dX0_ofDouble_8 : decode cX0_ofDouble 8 = .ok (.dload_n 0, 1) := by decide +kernel
theorem dX0_ofDouble_9 : decode cX0_ofDouble 9 = .ok (.dstore_n 2, 1) := by decide +kernel
theorem dX0_ofDouble_10 : decode cX0_ofDouble 10 = .ok (.iconst 0, 1) := by decide +kernel
theorem dX0_ofDouble_11 : decode cX0_ofDouble 11 = .ok (.istore 4, 2) := by decide +kernel
theorem dX0_ofDouble_13 : decode cX0_ofDouble 13 = .ok (.dload_n 2, 1) := by decide +kernel
theorem dX0_ofDouble_14 : decode cX0_ofDouble 14 = .ok (.ldc2_w 7, 3) := by decide +kernel
theorem dX0_ofDouble_17 : decode cX0_ofDouble 17 = .ok (.dcmp .l, 1) := by decide +kernel
theorem dX0_ofDouble_18 : decode cX0_ofDouble 18 = .ok (.ifCond .lt 23, 3) := by decide +kernel
theorem dX0_ofDouble_21 : decode cX0_ofDouble 21 = .ok (.iload 4, 2) := by decide +kernel
theorem dX0_ofDouble_23 : decode cX0_ofDouble 23 = .ok (.sipush 1023, 3) := by decide +kernel
theorem dX0_ofDouble_26 : decode cX0_ofDouble 26 = .ok (.if_icmp .ge 15, 3) := by decide +kernel
theorem dX0_ofDouble_29 : decode cX0_ofDouble 29 = .ok (.dload_n 2, 1) := by decide +kernel
theorem dX0_ofDouble_30 : decode cX0_ofDouble 30 = .ok (.ldc2_w 7, 3) := by decide +kernel
theorem dX0_ofDouble_33 : decode cX0_ofDouble 33 = .ok (.ddiv, 1) := by decide +kernel
theorem dX0_ofDouble_34 : decode cX0_ofDouble 34 = .ok (.dstore_n 2, 1) := by decide +kernel
theorem dX0_ofDouble_35 : decode cX0_ofDouble 35 = .ok (.iinc 4 1, 3) := by decide +kernel
theorem dX0_ofDouble_38 : decode cX0_ofDouble 38 = .ok (.goto (-25), 3) := by decide +kernel
theorem dX0_ofDouble_41 : decode cX0_ofDouble 41 = .ok (.dload_n 2, 1) := by decide +kernel
theorem dX0_ofDouble_42 : decode cX0_ofDouble 42 = .ok (.dconst 1, 1) := by decide +kernel
theorem dX0_ofDouble_43 : decode cX0_ofDouble 43 = .ok (.dcmp .g, 1) := by decide +kernel
theorem dX0_ofDouble_44 : decode cX0_ofDouble 44 = .ok (.ifCond .ge 23, 3) := by decide +kernel
theorem dX0_ofDouble_47 : decode cX0_ofDouble 47 = .ok (.iload 4, 2) := by decide +kernel
theorem dX0_ofDouble_49 : decode cX0_ofDouble 49 = .ok (.sipush (-1022), 3) := by decide +kernel
theorem dX0_ofDouble_52 : decode cX0_ofDouble 52 = .ok (.if_icmp .le 15, 3) := by decide +kernel
theorem dX0_ofDouble_55 : decode cX0_ofDouble 55 = .ok (.dload_n 2, 1) := by decide +kernel
theorem dX0_ofDouble_56 : decode cX0_ofDouble 56 = .ok (.ldc2_w 7, 3) := by decide +kernel
theorem dX0_ofDouble_59 : decode cX0_ofDouble 59 = .ok (.dmul, 1) := by decide +kernel
theorem dX0_ofDouble_60 : decode cX0_ofDouble 60 = .ok (.dstore_n 2, 1) := by decide +kernel
theorem dX0_ofDouble_61 : decode cX0_ofDouble 61 = .ok (.iinc 4 (-1), 3) := by decide +kernel
theorem dX0_ofDouble_64 : decode cX0_ofDouble 64 = .ok (.goto (-23), 3) := by decide +kernel
theorem dX0_ofDouble_67 : decode cX0_ofDouble 67 = .ok (.dload_n 2, 1) := by decide +kernel
theorem dX0_ofDouble_68 : decode cX0_ofDouble 68 = .ok (.dconst 1, 1) := by decide +kernel
theorem dX0_ofDouble_69 : decode cX0_ofDouble 69 = .ok (.dsub, 1) := by decide +kernel
theorem dX0_ofDouble_70 : decode cX0_ofDouble 70 = .ok (.ldc2_w 11, 3) := by decide +kernel
theorem dX0_ofDouble_73 : decode cX0_ofDouble 73 = .ok (.dmul, 1) := by decide +kernel
theorem dX0_ofDouble_74 : decode cX0_ofDouble 74 = .ok (.d2l, 1) := by decide +kernel
theorem dX0_ofDouble_75 : decode cX0_ofDouble 75 = .ok (.lstore 5, 2) := by decide +kernel
theorem dX0_ofDouble_77 : decode cX0_ofDouble 77 = .ok (.iload 4, 2) := by decide +kernel
theorem dX0_ofDouble_79 : decode cX0_ofDouble 79 = .ok (.sipush 1023, 3) := by decide +kernel
theorem dX0_ofDouble_82 : decode cX0_ofDouble 82 = .ok (.iadd, 1) := by decide +kernel
theorem dX0_ofDouble_83 : decode cX0_ofDouble 83 = .ok (.i2l, 1) := by decide +kernel
theorem dX0_ofDouble_84 : decode cX0_ofDouble 84 = .ok (.bipush 52, 2) := by decide +kernel
theorem dX0_ofDouble_86 : decode cX0_ofDouble 86 = .ok (.lshl, 1) := by decide +kernel
theorem dX0_ofDouble_87 : decode cX0_ofDouble 87 = .ok (.lload 5, 2) := by decide +kernel
theorem dX0_ofDouble_89 : decode cX0_ofDouble 89 = .ok (.lor, 1) := by decide +kernel
theorem dX0_ofDouble_90 : decode cX0_ofDouble 90 = .ok (.lreturn, 1) := by decide +kernel
theorem dX0_ofShare_0 : decode cX0_ofShare 0 = .ok (.fload_n 0, 1) := by decide +kernel
theorem dX0_ofShare_1 : decode cX0_ofShare 1 = .ok (.fconst 0, 1) := by decide +kernel
theorem dX0_ofShare_2 : decode cX0_ofShare 2 = .ok (.fcmp .l, 1) := by decide +kernel
theorem dX0_ofShare_3 : decode cX0_ofShare 3 = .ok (.ifCond .gt 5, 3) := by decide +kernel
theorem dX0_ofShare_6 : decode cX0_ofShare 6 = .ok (.iconst 0, 1) := by decide +kernel
theorem dX0_ofShare_7 : decode cX0_ofShare 7 = .ok (.ireturn, 1) := by decide +kernel
theorem dX0_ofShare_8 : decode cX0_ofShare 8 = .ok (.fload_n 0, 1) := by decide +kernel
theorem dX0_ofShare_9 : decode cX0_ofShare 9 = .ok (.fstore_n 1, 1) := by decide +kernel
theorem dX0_ofShare_10 : decode cX0_ofShare 10 = .ok (.iconst 0, 1) := by decide +kernel
theorem dX0_ofShare_11 : decode cX0_ofShare 11 = .ok (.istore_n 2, 1) := by decide +kernel
theorem dX0_ofShare_12 : decode cX0_ofShare 12 = .ok (.fload_n 1, 1) := by decide +kernel
theorem dX0_ofShare_13 : decode cX0_ofShare 13 = .ok (.fconst 1, 1) := by decide +kernel
theorem dX0_ofShare_14 : decode cX0_ofShare 14 = .ok (.fcmp .g, 1) := by decide +kernel
theorem dX0_ofShare_15 : decode cX0_ofShare 15 = .ok (.ifCond .ge 19, 3) := by decide +kernel
theorem dX0_ofShare_18 : decode cX0_ofShare 18 = .ok (.iload_n 2, 1) := by decide +kernel
theorem dX0_ofShare_19 : decode cX0_ofShare 19 = .ok (.bipush (-126), 2) := by decide +kernel
theorem dX0_ofShare_21 : decode cX0_ofShare 21 = .ok (.if_icmp .le 13, 3) := by decide +kernel
theorem dX0_ofShare_24 : decode cX0_ofShare 24 = .ok (.fload_n 1, 1) := by decide +kernel
theorem dX0_ofShare_25 : decode cX0_ofShare 25 = .ok (.fconst 2, 1) := by decide +kernel
theorem dX0_ofShare_26 : decode cX0_ofShare 26 = .ok (.fmul, 1) := by decide +kernel
theorem dX0_ofShare_27 : decode cX0_ofShare 27 = .ok (.fstore_n 1, 1) := by decide +kernel
theorem dX0_ofShare_28 : decode cX0_ofShare 28 = .ok (.iinc 2 (-1), 3) := by decide +kernel
theorem dX0_ofShare_31 : decode cX0_ofShare 31 = .ok (.goto (-19), 3) := by decide +kernel
theorem dX0_ofShare_34 : decode cX0_ofShare 34 = .ok (.fload_n 1, 1) := by decide +kernel
theorem dX0_ofShare_35 : decode cX0_ofShare 35 = .ok (.fconst 1, 1) := by decide +kernel
theorem dX0_ofShare_36 : decode cX0_ofShare 36 = .ok (.fsub, 1) := by decide +kernel
theorem dX0_ofShare_37 : decode cX0_ofShare 37 = .ok (.ldc 13, 2) := by decide +kernel
theorem dX0_ofShare_39 : decode cX0_ofShare 39 = .ok (.fmul, 1) := by decide +kernel
theorem dX0_ofShare_40 : decode cX0_ofShare 40 = .ok (.f2i, 1) := by decide +kernel
theorem dX0_ofShare_41 : decode cX0_ofShare 41 = .ok (.istore_n 3, 1) := by decide +kernel
theorem dX0_ofShare_42 : decode cX0_ofShare 42 = .ok (.iload_n 2, 1) := by decide +kernel
theorem dX0_ofShare_43 : decode cX0_ofShare 43 = .ok (.bipush 127, 2) := by decide +kernel
theorem dX0_ofShare_45 : decode cX0_ofShare 45 = .ok (.iadd, 1) := by decide +kernel
theorem dX0_ofShare_46 : decode cX0_ofShare 46 = .ok (.bipush 23, 2) := by decide +kernel
theorem dX0_ofShare_48 : decode cX0_ofShare 48 = .ok (.ishl, 1) := by decide +kernel
theorem dX0_ofShare_49 : decode cX0_ofShare 49 = .ok (.iload_n 3, 1) := by decide +kernel
theorem dX0_ofShare_50 : decode cX0_ofShare 50 = .ok (.ior, 1) := by decide +kernel
theorem dX0_ofShare_51 : decode cX0_ofShare 51 = .ok (.ireturn, 1) := by decide +kernel
theorem dX1_init_0 : decode cX1_init 0 = .ok (.aload_n 0, 1) := by decide +kernel
theorem dX1_init_1 : decode cX1_init 1 = .ok (.invokespecial 3, 3) := by decide +kernel
theorem dX1_init_4 : decode cX1_init 4 = .ok (.aload_n 0, 1) := by decide +kernel
theorem dX1_init_5 : decode cX1_init 5 = .ok (.bipush 17, 2) := by decide +kernel
theorem dX1_init_7 : decode cX1_init 7 = .ok (.newarray .int, 2) := by decide +kernel
theorem dX1_init_9 : decode cX1_init 9 = .ok (.putfield 9, 3) := by decide +kernel
theorem dX1_init_12 : decode cX1_init 12 = .ok (.return_, 1) := by decide +kernel
theorem dX1_tell_0 : decode cX1_tell 0 = .ok (.iconst 0, 1) := by decide +kernel
theorem dX1_tell_1 : decode cX1_tell 1 = .ok (.istore 4, 2) := by decide +kernel
theorem dX1_tell_3 : decode cX1_tell 3 = .ok (.iload 4, 2) := by decide +kernel
theorem dX1_tell_5 : decode cX1_tell 5 = .ok (.aload_n 0, 1) := by decide +kernel
theorem dX1_tell_6 : decode cX1_tell 6 = .ok (.getfield 9, 3) := by decide +kernel
theorem dX1_tell_9 : decode cX1_tell 9 = .ok (.arraylength, 1) := by decide +kernel
theorem dX1_tell_10 : decode cX1_tell 10 = .ok (.if_icmp .ge 17, 3) := by decide +kernel
theorem dX1_tell_13 : decode cX1_tell 13 = .ok (.aload_n 0, 1) := by decide +kernel
theorem dX1_tell_14 : decode cX1_tell 14 = .ok (.getfield 9, 3) := by decide +kernel
theorem dX1_tell_17 : decode cX1_tell 17 = .ok (.iload 4, 2) := by decide +kernel
theorem dX1_tell_19 : decode cX1_tell 19 = .ok (.iconst 0, 1) := by decide +kernel
theorem dX1_tell_20 : decode cX1_tell 20 = .ok (.iastore, 1) := by decide +kernel
theorem dX1_tell_21 : decode cX1_tell 21 = .ok (.iinc 4 1, 3) := by decide +kernel
theorem dX1_tell_24 : decode cX1_tell 24 = .ok (.goto (-21), 3) := by decide +kernel
theorem dX1_tell_27 : decode cX1_tell 27 = .ok (.iconst 0, 1) := by decide +kernel
theorem dX1_tell_28 : decode cX1_tell 28 = .ok (.istore 4, 2) := by decide +kernel
theorem dX1_tell_30 : decode cX1_tell 30 = .ok (.iconst 0, 1) := by decide +kernel
theorem dX1_tell_31 : decode cX1_tell 31 = .ok (.istore 5, 2) := by decide +kernel
theorem dX1_tell_33 : decode cX1_tell 33 = .ok (.iload 5, 2) := by decide +kernel
theorem dX1_tell_35 : decode cX1_tell 35 = .ok (.iload_n 3, 1) := by decide +kernel
theorem dX1_tell_36 : decode cX1_tell 36 = .ok (.if_icmp .ge 70, 3) := by decide +kernel
theorem dX1_tell_39 : decode cX1_tell 39 = .ok (.iload 4, 2) := by decide +kernel
theorem dX1_tell_41 : decode cX1_tell 41 = .ok (.iload 5, 2) := by decide +kernel
theorem dX1_tell_43 : decode cX1_tell 43 = .ok (.ishr, 1) := by decide +kernel
theorem dX1_tell_44 : decode cX1_tell 44 = .ok (.iconst 1, 1) := by decide +kernel
theorem dX1_tell_45 : decode cX1_tell 45 = .ok (.iand, 1) := by decide +kernel
theorem dX1_tell_46 : decode cX1_tell 46 = .ok (.ifCond .ne 54, 3) := by decide +kernel
theorem dX1_tell_49 : decode cX1_tell 49 = .ok (.lload_n 1, 1) := by decide +kernel
theorem dX1_tell_50 : decode cX1_tell 50 = .ok (.iload 5, 2) := by decide +kernel
theorem dX1_tell_52 : decode cX1_tell 52 = .ok (.invokestatic 15, 3) := by decide +kernel
theorem dX1_tell_55 : decode cX1_tell 55 = .ok (.istore 6, 2) := by decide +kernel
theorem dX1_tell_57 : decode cX1_tell 57 = .ok (.iload 5, 2) := by decide +kernel
theorem dX1_tell_59 : decode cX1_tell 59 = .ok (.istore 7, 2) := by decide +kernel
theorem dX1_tell_61 : decode cX1_tell 61 = .ok (.iconst 0, 1) := by decide +kernel
theorem dX1_tell_62 : decode cX1_tell 62 = .ok (.istore 8, 2) := by decide +kernel
theorem dX1_tell_64 : decode cX1_tell 64 = .ok (.iload 8, 2) := by decide +kernel
theorem dX1_tell_66 : decode cX1_tell 66 = .ok (.iload 6, 2) := by decide +kernel
theorem dX1_tell_68 : decode cX1_tell 68 = .ok (.if_icmp .ge 26, 3) := by decide +kernel
theorem dX1_tell_71 : decode cX1_tell 71 = .ok (.iload 4, 2) := by decide +kernel
theorem dX1_tell_73 : decode cX1_tell 73 = .ok (.iconst 1, 1) := by decide +kernel
theorem dX1_tell_74 : decode cX1_tell 74 = .ok (.iload 7, 2) := by decide +kernel
theorem dX1_tell_76 : decode cX1_tell 76 = .ok (.ishl, 1) := by decide +kernel
theorem dX1_tell_77 : decode cX1_tell 77 = .ok (.ior, 1) := by decide +kernel
theorem dX1_tell_78 : decode cX1_tell 78 = .ok (.istore 4, 2) := by decide +kernel
theorem dX1_tell_80 : decode cX1_tell 80 = .ok (.lload_n 1, 1) := by decide +kernel
theorem dX1_tell_81 : decode cX1_tell 81 = .ok (.iload 7, 2) := by decide +kernel
theorem dX1_tell_83 : decode cX1_tell 83 = .ok (.invokestatic 21, 3) := by decide +kernel
theorem dX1_tell_86 : decode cX1_tell 86 = .ok (.istore 7, 2) := by decide +kernel
theorem dX1_tell_88 : decode cX1_tell 88 = .ok (.iinc 8 1, 3) := by decide +kernel
theorem dX1_tell_91 : decode cX1_tell 91 = .ok (.goto (-27), 3) := by decide +kernel
theorem dX1_tell_94 : decode cX1_tell 94 = .ok (.aload_n 0, 1) := by decide +kernel
theorem dX1_tell_95 : decode cX1_tell 95 = .ok (.iload 6, 2) := by decide +kernel
theorem dX1_tell_97 : decode cX1_tell 97 = .ok (.invokevirtual 24, 3) := by decide +kernel
theorem dX1_tell_100 : decode cX1_tell 100 = .ok (.iinc 5 1, 3) := by decide +kernel
theorem dX1_tell_103 : decode cX1_tell 103 = .ok (.goto (-70), 3) := by decide +kernel
theorem dX1_tell_106 : decode cX1_tell 106 = .ok (.return_, 1) := by decide +kernel
theorem dX1_add_0 : decode cX1_add 0 = .ok (.iload_n 1, 1) := by decide +kernel
theorem dX1_add_1 : decode cX1_add 1 = .ok (.ifCond .lt 22, 3) := by decide +kernel
theorem dX1_add_4 : decode cX1_add 4 = .ok (.iload_n 1, 1) := by decide +kernel
theorem dX1_add_5 : decode cX1_add 5 = .ok (.aload_n 0, 1) := by decide +kernel
theorem dX1_add_6 : decode cX1_add 6 = .ok (.getfield 9, 3) := by decide +kernel
theorem dX1_add_9 : decode cX1_add 9 = .ok (.arraylength, 1) := by decide +kernel
theorem dX1_add_10 : decode cX1_add 10 = .ok (.if_icmp .ge 13, 3) := by decide +kernel
theorem dX1_add_13 : decode cX1_add 13 = .ok (.aload_n 0, 1) := by decide +kernel
theorem dX1_add_14 : decode cX1_add 14 = .ok (.getfield 9, 3) := by decide +kernel
theorem dX1_add_17 : decode cX1_add 17 = .ok (.iload_n 1, 1) := by decide +kernel
theorem dX1_add_18 : decode cX1_add 18 = .ok (.dup2, 1) := by decide +kernel
theorem dX1_add_19 : decode cX1_add 19 = .ok (.iaload, 1) := by decide +kernel
theorem dX1_add_20 : decode cX1_add 20 = .ok (.iconst 1, 1) := by decide +kernel
theorem dX1_add_21 : decode cX1_add 21 = .ok (.iadd, 1) := by decide +kernel
theorem dX1_add_22 : decode cX1_add 22 = .ok (.iastore, 1) := by decide +kernel
theorem dX1_add_23 : decode cX1_add 23 = .ok (.return_, 1) := by decide +kernel
theorem dX1_howMany_0 : decode cX1_howMany 0 = .ok (.iconst 0, 1) := by decide +kernel
theorem dX1_howMany_1 : decode cX1_howMany 1 = .ok (.istore_n 1, 1) := by decide +kernel
theorem dX1_howMany_2 : decode cX1_howMany 2 = .ok (.iconst 1, 1) := by decide +kernel
theorem dX1_howMany_3 : decode cX1_howMany 3 = .ok (.istore_n 2, 1) := by decide +kernel
theorem dX1_howMany_4 : decode cX1_howMany 4 = .ok (.iload_n 2, 1) := by decide +kernel
theorem dX1_howMany_5 : decode cX1_howMany 5 = .ok (.aload_n 0, 1) := by decide +kernel
theorem dX1_howMany_6 : decode cX1_howMany 6 = .ok (.getfield 9, 3) := by decide +kernel
theorem dX1_howMany_9 : decode cX1_howMany 9 = .ok (.arraylength, 1) := by decide +kernel
theorem dX1_howMany_10 : decode cX1_howMany 10 = .ok (.if_icmp .ge 18, 3) := by decide +kernel
theorem dX1_howMany_13 : decode cX1_howMany 13 = .ok (.iload_n 1, 1) := by decide +kernel
theorem dX1_howMany_14 : decode cX1_howMany 14 = .ok (.aload_n 0, 1) := by decide +kernel
theorem dX1_howMany_15 : decode cX1_howMany 15 = .ok (.getfield 9, 3) := by decide +kernel
theorem dX1_howMany_18 : decode cX1_howMany 18 = .ok (.iload_n 2, 1) := by decide +kernel
theorem dX1_howMany_19 : decode cX1_howMany 19 = .ok (.iaload, 1) := by decide +kernel
theorem dX1_howMany_20 : decode cX1_howMany 20 = .ok (.iadd, 1) := by decide +kernel
theorem dX1_howMany_21 : decode cX1_howMany 21 = .ok (.istore_n 1, 1) := by decide +kernel
theorem dX1_howMany_22 : decode cX1_howMany 22 = .ok (.iinc 2 1, 3) := by decide +kernel
theorem dX1_howMany_25 : decode cX1_howMany 25 = .ok (.goto (-21), 3) := by decide +kernel
theorem dX1_howMany_28 : decode cX1_howMany 28 = .ok (.iload_n 1, 1) := by decide +kernel
theorem dX1_howMany_29 : decode cX1_howMany 29 = .ok (.ireturn, 1) := by decide +kernel
theorem dX1_longest_0 : decode cX1_longest 0 = .ok (.iconst 0, 1) := by decide +kernel
theorem dX1_longest_1 : decode cX1_longest 1 = .ok (.istore_n 1, 1) := by decide +kernel
theorem dX1_longest_2 : decode cX1_longest 2 = .ok (.iconst 1, 1) := by decide +kernel
theorem dX1_longest_3 : decode cX1_longest 3 = .ok (.istore_n 2, 1) := by decide +kernel
theorem dX1_longest_4 : decode cX1_longest 4 = .ok (.iload_n 2, 1) := by decide +kernel
theorem dX1_longest_5 : decode cX1_longest 5 = .ok (.aload_n 0, 1) := by decide +kernel
theorem dX1_longest_6 : decode cX1_longest 6 = .ok (.getfield 9, 3) := by decide +kernel
theorem dX1_longest_9 : decode cX1_longest 9 = .ok (.arraylength, 1) := by decide +kernel
theorem dX1_longest_10 : decode cX1_longest 10 = .ok (.if_icmp .ge 20, 3) := by decide +kernel
theorem dX1_longest_13 : decode cX1_longest 13 = .ok (.aload_n 0, 1) := by decide +kernel
theorem dX1_longest_14 : decode cX1_longest 14 = .ok (.getfield 9, 3) := by decide +kernel
theorem dX1_longest_17 : decode cX1_longest 17 = .ok (.iload_n 2, 1) := by decide +kernel
theorem dX1_longest_18 : decode cX1_longest 18 = .ok (.iaload, 1) := by decide +kernel
theorem dX1_longest_19 : decode cX1_longest 19 = .ok (.ifCond .le 5, 3) := by decide +kernel
theorem dX1_longest_22 : decode cX1_longest 22 = .ok (.iload_n 2, 1) := by decide +kernel
theorem dX1_longest_23 : decode cX1_longest 23 = .ok (.istore_n 1, 1) := by decide +kernel
theorem dX1_longest_24 : decode cX1_longest 24 = .ok (.iinc 2 1, 3) := by decide +kernel
theorem dX1_longest_27 : decode cX1_longest 27 = .ok (.goto (-23), 3) := by decide +kernel
theorem dX1_longest_30 : decode cX1_longest 30 = .ok (.iload_n 1, 1) := by decide +kernel
theorem dX1_longest_31 : decode cX1_longest 31 = .ok (.ireturn, 1) := by decide +kernel
theorem dX1_order_0 : decode cX1_order 0 = .ok (.iconst 1, 1) := by decide +kernel
theorem dX1_order_1 : decode cX1_order 1 = .ok (.istore_n 1, 1) := by decide +kernel
theorem dX1_order_2 : decode cX1_order 2 = .ok (.iconst 1, 1) := by decide +kernel
theorem dX1_order_3 : decode cX1_order 3 = .ok (.istore_n 2, 1) := by decide +kernel
theorem dX1_order_4 : decode cX1_order 4 = .ok (.iload_n 2, 1) := by decide +kernel
theorem dX1_order_5 : decode cX1_order 5 = .ok (.aload_n 0, 1) := by decide +kernel
theorem dX1_order_6 : decode cX1_order 6 = .ok (.getfield 9, 3) := by decide +kernel
theorem dX1_order_9 : decode cX1_order 9 = .ok (.arraylength, 1) := by decide +kernel
theorem dX1_order_10 : decode cX1_order 10 = .ok (.if_icmp .ge 24, 3) := by decide +kernel
theorem dX1_order_13 : decode cX1_order 13 = .ok (.aload_n 0, 1) := by decide +kernel
theorem dX1_order_14 : decode cX1_order 14 = .ok (.getfield 9, 3) := by decide +kernel
theorem dX1_order_17 : decode cX1_order 17 = .ok (.iload_n 2, 1) := by decide +kernel
theorem dX1_order_18 : decode cX1_order 18 = .ok (.iaload, 1) := by decide +kernel
theorem dX1_order_19 : decode cX1_order 19 = .ok (.ifCond .le 9, 3) := by decide +kernel
theorem dX1_order_22 : decode cX1_order 22 = .ok (.iload_n 1, 1) := by decide +kernel
theorem dX1_order_23 : decode cX1_order 23 = .ok (.iload_n 2, 1) := by decide +kernel
theorem dX1_order_24 : decode cX1_order 24 = .ok (.invokestatic 28, 3) := by decide +kernel
theorem dX1_order_27 : decode cX1_order 27 = .ok (.istore_n 1, 1) := by decide +kernel
theorem dX1_order_28 : decode cX1_order 28 = .ok (.iinc 2 1, 3) := by decide +kernel
theorem dX1_order_31 : decode cX1_order 31 = .ok (.goto (-27), 3) := by decide +kernel
theorem dX1_order_34 : decode cX1_order 34 = .ok (.iload_n 1, 1) := by decide +kernel
theorem dX1_order_35 : decode cX1_order 35 = .ok (.ireturn, 1) := by decide +kernel
theorem dX1_leastMultiple_0 : decode cX1_leastMultiple 0 = .ok (.iconst 1, 1) := by decide +kernel
theorem dX1_leastMultiple_1 : decode cX1_leastMultiple 1 = .ok (.istore_n 2, 1) := by decide +kernel
theorem dX1_leastMultiple_2 : decode cX1_leastMultiple 2 = .ok (.iload_n 2, 1) := by decide +kernel
theorem dX1_leastMultiple_3 : decode cX1_leastMultiple 3 = .ok (.iload_n 1, 1) := by decide +kernel
theorem dX1_leastMultiple_4 : decode cX1_leastMultiple 4 = .ok (.if_icmp .ge 21, 3) := by decide +kernel
theorem dX1_leastMultiple_7 : decode cX1_leastMultiple 7 = .ok (.iload_n 0, 1) := by decide +kernel
theorem dX1_leastMultiple_8 : decode cX1_leastMultiple 8 = .ok (.iload_n 2, 1) := by decide +kernel
theorem dX1_leastMultiple_9 : decode cX1_leastMultiple 9 = .ok (.imul, 1) := by decide +kernel
theorem dX1_leastMultiple_10 : decode cX1_leastMultiple 10 = .ok (.iload_n 1, 1) := by decide +kernel
theorem dX1_leastMultiple_11 : decode cX1_leastMultiple 11 = .ok (.irem, 1) := by decide +kernel
theorem dX1_leastMultiple_12 : decode cX1_leastMultiple 12 = .ok (.ifCond .ne 7, 3) := by decide +kernel
theorem dX1_leastMultiple_15 : decode cX1_leastMultiple 15 = .ok (.iload_n 0, 1) := by decide +kernel
theorem dX1_leastMultiple_16 : decode cX1_leastMultiple 16 = .ok (.iload_n 2, 1) := by decide +kernel
theorem dX1_leastMultiple_17 : decode cX1_leastMultiple 17 = .ok (.imul, 1) := by decide +kernel
theorem dX1_leastMultiple_18 : decode cX1_leastMultiple 18 = .ok (.ireturn, 1) := by decide +kernel
theorem dX1_leastMultiple_19 : decode cX1_leastMultiple 19 = .ok (.iinc 2 1, 3) := by decide +kernel
theorem dX1_leastMultiple_22 : decode cX1_leastMultiple 22 = .ok (.goto (-20), 3) := by decide +kernel
theorem dX1_leastMultiple_25 : decode cX1_leastMultiple 25 = .ok (.iload_n 0, 1) := by decide +kernel
theorem dX1_leastMultiple_26 : decode cX1_leastMultiple 26 = .ok (.iload_n 1, 1) := by decide +kernel
theorem dX1_leastMultiple_27 : decode cX1_leastMultiple 27 = .ok (.imul, 1) := by decide +kernel
theorem dX1_leastMultiple_28 : decode cX1_leastMultiple 28 = .ok (.ireturn, 1) := by decide +kernel
theorem dX1_marksThatCommute_0 : decode cX1_marksThatCommute 0 = .ok (.lconst 1, 1) := by decide +kernel
theorem dX1_marksThatCommute_1 : decode cX1_marksThatCommute 1 = .ok (.lstore_n 1, 1) := by decide +kernel
theorem dX1_marksThatCommute_2 : decode cX1_marksThatCommute 2 = .ok (.iconst 1, 1) := by decide +kernel
theorem dX1_marksThatCommute_3 : decode cX1_marksThatCommute 3 = .ok (.istore_n 3, 1) := by decide +kernel
theorem dX1_marksThatCommute_4 : decode cX1_marksThatCommute 4 = .ok (.iload_n 3, 1) := by decide +kernel
theorem dX1_marksThatCommute_5 : decode cX1_marksThatCommute 5 = .ok (.aload_n 0, 1) := by decide +kernel
theorem dX1_marksThatCommute_6 : decode cX1_marksThatCommute 6 = .ok (.getfield 9, 3) := by decide +kernel
theorem dX1_marksThatCommute_9 : decode cX1_marksThatCommute 9 = .ok (.arraylength, 1) := by decide +kernel
theorem dX1_marksThatCommute_10 : decode cX1_marksThatCommute 10 = .ok (.if_icmp .ge 38, 3) := by decide +kernel
theorem dX1_marksThatCommute_13 : decode cX1_marksThatCommute 13 = .ok (.iconst 1, 1) := by decide +kernel
theorem dX1_marksThatCommute_14 : decode cX1_marksThatCommute 14 = .ok (.istore 4, 2) := by decide +kernel
theorem dX1_marksThatCommute_16 : decode cX1_marksThatCommute 16 = .ok (.iload 4, 2) := by decide +kernel
theorem dX1_marksThatCommute_18 : decode cX1_marksThatCommute 18 = .ok (.aload_n 0, 1) := by decide +kernel
theorem dX1_marksThatCommute_19 : decode cX1_marksThatCommute 19 = .ok (.getfield 9, 3) := by decide +kernel
theorem dX1_marksThatCommute_22 : decode cX1_marksThatCommute 22 = .ok (.iload_n 3, 1) := by decide +kernel
theorem dX1_marksThatCommute_23 : decode cX1_marksThatCommute 23 = .ok (.iaload, 1) := by decide +kernel
theorem dX1_marksThatCommute_24 : decode cX1_marksThatCommute 24 = .ok (.if_icmp .gt 18, 3) := by decide +kernel
theorem dX1_marksThatCommute_27 : decode cX1_marksThatCommute 27 = .ok (.lload_n 1, 1) := by decide +kernel
theorem dX1_marksThatCommute_28 : decode cX1_marksThatCommute 28 = .ok (.iload_n 3, 1) := by decide +kernel
theorem dX1_marksThatCommute_29 : decode cX1_marksThatCommute 29 = .ok (.i2l, 1) := by decide +kernel
theorem dX1_marksThatCommute_30 : decode cX1_marksThatCommute 30 = .ok (.lmul, 1) := by decide +kernel
theorem dX1_marksThatCommute_31 : decode cX1_marksThatCommute 31 = .ok (.iload 4, 2) := by decide +kernel
theorem dX1_marksThatCommute_33 : decode cX1_marksThatCommute 33 = .ok (.i2l, 1) := by decide +kernel
theorem dX1_marksThatCommute_34 : decode cX1_marksThatCommute 34 = .ok (.lmul, 1) := by decide +kernel
theorem dX1_marksThatCommute_35 : decode cX1_marksThatCommute 35 = .ok (.lstore_n 1, 1) := by decide +kernel
theorem dX1_marksThatCommute_36 : decode cX1_marksThatCommute 36 = .ok (.iinc 4 1, 3) := by decide +kernel
theorem dX1_marksThatCommute_39 : decode cX1_marksThatCommute 39 = .ok (.goto (-23), 3) := by decide +kernel
theorem dX1_marksThatCommute_42 : decode cX1_marksThatCommute 42 = .ok (.iinc 3 1, 3) := by decide +kernel
theorem dX1_marksThatCommute_45 : decode cX1_marksThatCommute 45 = .ok (.goto (-41), 3) := by decide +kernel
theorem dX1_marksThatCommute_48 : decode cX1_marksThatCommute 48 = .ok (.lload_n 1, 1) := by decide +kernel
theorem dX1_marksThatCommute_49 : decode cX1_marksThatCommute 49 = .ok (.lreturn, 1) := by decide +kernel
theorem dX2_init_0 : decode cX2_init 0 = .ok (.aload_n 0, 1) := by decide +kernel
theorem dX2_init_1 : decode cX2_init 1 = .ok (.invokespecial 3, 3) := by decide +kernel
theorem dX2_init_4 : decode cX2_init 4 = .ok (.aload_n 0, 1) := by decide +kernel
theorem dX2_init_5 : decode cX2_init 5 = .ok (.bipush 8, 2) := by decide +kernel
theorem dX2_init_7 : decode cX2_init 7 = .ok (.putfield 9, 3) := by decide +kernel
theorem dX2_init_10 : decode cX2_init 10 = .ok (.aload_n 0, 1) := by decide +kernel
theorem dX2_init_11 : decode cX2_init 11 = .ok (.iconst 0, 1) := by decide +kernel
theorem dX2_init_12 : decode cX2_init 12 = .ok (.putfield 15, 3) := by decide +kernel
theorem dX2_init_15 : decode cX2_init 15 = .ok (.aload_n 0, 1) := by decide +kernel
theorem dX2_init_16 : decode cX2_init 16 = .ok (.ldc2_w 20, 3) := by decide +kernel
theorem dX2_init_19 : decode cX2_init 19 = .ok (.putfield 22, 3) := by decide +kernel
theorem dX2_init_22 : decode cX2_init 22 = .ok (.aload_n 0, 1) := by decide +kernel
theorem dX2_init_23 : decode cX2_init 23 = .ok (.iconst 0, 1) := by decide +kernel
theorem dX2_init_24 : decode cX2_init 24 = .ok (.putfield 26, 3) := by decide +kernel
theorem dX2_init_27 : decode cX2_init 27 = .ok (.aload_n 0, 1) := by decide +kernel
theorem dX2_init_28 : decode cX2_init 28 = .ok (.iconst 0, 1) := by decide +kernel
theorem dX2_init_29 : decode cX2_init 29 = .ok (.putfield 29, 3) := by decide +kernel
theorem dX2_init_32 : decode cX2_init 32 = .ok (.aload_n 0, 1) := by decide +kernel
theorem dX2_init_33 : decode cX2_init 33 = .ok (.iconst 0, 1) := by decide +kernel
theorem dX2_init_34 : decode cX2_init 34 = .ok (.putfield 32, 3) := by decide +kernel
theorem dX2_init_37 : decode cX2_init 37 = .ok (.aload_n 0, 1) := by decide +kernel
theorem dX2_init_38 : decode cX2_init 38 = .ok (.iconst 0, 1) := by decide +kernel
theorem dX2_init_39 : decode cX2_init 39 = .ok (.putfield 35, 3) := by decide +kernel
theorem dX2_init_42 : decode cX2_init 42 = .ok (.aload_n 0, 1) := by decide +kernel
theorem dX2_init_43 : decode cX2_init 43 = .ok (.iconst 0, 1) := by decide +kernel
theorem dX2_init_44 : decode cX2_init 44 = .ok (.putfield 38, 3) := by decide +kernel
theorem dX2_init_47 : decode cX2_init 47 = .ok (.return_, 1) := by decide +kernel
theorem dX2_begin_0 : decode cX2_begin 0 = .ok (.aload_n 0, 1) := by decide +kernel
theorem dX2_begin_1 : decode cX2_begin 1 = .ok (.iload_n 1, 1) := by decide +kernel
theorem dX2_begin_2 : decode cX2_begin 2 = .ok (.putfield 9, 3) := by decide +kernel
theorem dX2_begin_5 : decode cX2_begin 5 = .ok (.aload_n 0, 1) := by decide +kernel
theorem dX2_begin_6 : decode cX2_begin 6 = .ok (.iconst 0, 1) := by decide +kernel
theorem dX2_begin_7 : decode cX2_begin 7 = .ok (.putfield 15, 3) := by decide +kernel
theorem dX2_begin_10 : decode cX2_begin 10 = .ok (.aload_n 0, 1) := by decide +kernel
theorem dX2_begin_11 : decode cX2_begin 11 = .ok (.ldc2_w 20, 3) := by decide +kernel
theorem dX2_begin_14 : decode cX2_begin 14 = .ok (.putfield 22, 3) := by decide +kernel
theorem dX2_begin_17 : decode cX2_begin 17 = .ok (.aload_n 0, 1) := by decide +kernel
theorem dX2_begin_18 : decode cX2_begin 18 = .ok (.iconst 0, 1) := by decide +kernel
theorem dX2_begin_19 : decode cX2_begin 19 = .ok (.putfield 26, 3) := by decide +kernel
theorem dX2_begin_22 : decode cX2_begin 22 = .ok (.return_, 1) := by decide +kernel
theorem dX2_takes_0 : decode cX2_takes 0 = .ok (.aload_n 0, 1) := by decide +kernel
theorem dX2_takes_1 : decode cX2_takes 1 = .ok (.getfield 15, 3) := by decide +kernel
theorem dX2_takes_4 : decode cX2_takes 4 = .ok (.tableswitch 137 0 4 #[36, 137, 61, 68, 55], 36) := by decide +kernel
theorem dX2_takes_40 : decode cX2_takes 40 = .ok (.iload_n 1, 1) := by decide +kernel
theorem dX2_takes_41 : decode cX2_takes 41 = .ok (.bipush 101, 2) := by decide +kernel
theorem dX2_takes_43 : decode cX2_takes 43 = .ok (.if_icmp .ne 10, 3) := by decide +kernel
theorem dX2_takes_46 : decode cX2_takes 46 = .ok (.aload_n 0, 1) := by decide +kernel
theorem dX2_takes_47 : decode cX2_takes 47 = .ok (.invokevirtual 41, 3) := by decide +kernel
theorem dX2_takes_50 : decode cX2_takes 50 = .ok (.goto 8, 3) := by decide +kernel
theorem dX2_takes_53 : decode cX2_takes 53 = .ok (.aload_n 0, 1) := by decide +kernel
theorem dX2_takes_54 : decode cX2_takes 54 = .ok (.iload_n 1, 1) := by decide +kernel
theorem dX2_takes_55 : decode cX2_takes 55 = .ok (.invokevirtual 45, 3) := by decide +kernel
theorem dX2_takes_58 : decode cX2_takes 58 = .ok (.ireturn, 1) := by decide +kernel
theorem dX2_takes_59 : decode cX2_takes 59 = .ok (.aload_n 0, 1) := by decide +kernel
theorem dX2_takes_60 : decode cX2_takes 60 = .ok (.iload_n 1, 1) := by decide +kernel
theorem dX2_takes_61 : decode cX2_takes 61 = .ok (.invokevirtual 45, 3) := by decide +kernel
theorem dX2_takes_64 : decode cX2_takes 64 = .ok (.ireturn, 1) := by decide +kernel
theorem dX2_takes_65 : decode cX2_takes 65 = .ok (.aload_n 0, 1) := by decide +kernel
theorem dX2_takes_66 : decode cX2_takes 66 = .ok (.iload_n 1, 1) := by decide +kernel
theorem dX2_takes_67 : decode cX2_takes 67 = .ok (.iconst 0, 1) := by decide +kernel
theorem dX2_takes_68 : decode cX2_takes 68 = .ok (.invokevirtual 49, 3) := by decide +kernel
theorem dX2_takes_71 : decode cX2_takes 71 = .ok (.ireturn, 1) := by decide +kernel
theorem dX2_takes_72 : decode cX2_takes 72 = .ok (.iload_n 1, 1) := by decide +kernel
theorem dX2_takes_73 : decode cX2_takes 73 = .ok (.bipush 44, 2) := by decide +kernel
theorem dX2_takes_75 : decode cX2_takes 75 = .ok (.if_icmp .ne 8, 3) := by decide +kernel
theorem dX2_takes_78 : decode cX2_takes 78 = .ok (.aload_n 0, 1) := by decide +kernel
theorem dX2_takes_79 : decode cX2_takes 79 = .ok (.invokevirtual 53, 3) := by decide +kernel
theorem dX2_takes_82 : decode cX2_takes 82 = .ok (.ireturn, 1) := by decide +kernel
theorem dX2_takes_83 : decode cX2_takes 83 = .ok (.iload_n 1, 1) := by decide +kernel
theorem dX2_takes_84 : decode cX2_takes 84 = .ok (.bipush 41, 2) := by decide +kernel
theorem dX2_takes_86 : decode cX2_takes 86 = .ok (.if_icmp .ne 30, 3) := by decide +kernel
theorem dX2_takes_89 : decode cX2_takes 89 = .ok (.aload_n 0, 1) := by decide +kernel
theorem dX2_takes_90 : decode cX2_takes 90 = .ok (.getfield 32, 3) := by decide +kernel
theorem dX2_takes_93 : decode cX2_takes 93 = .ok (.ifCond .le 21, 3) := by decide +kernel
theorem dX2_takes_96 : decode cX2_takes 96 = .ok (.aload_n 0, 1) := by decide +kernel
theorem dX2_takes_97 : decode cX2_takes 97 = .ok (.invokevirtual 53, 3) := by decide +kernel
theorem dX2_takes_100 : decode cX2_takes 100 = .ok (.ifCond .eq 14, 3) := by decide +kernel
theorem dX2_takes_103 : decode cX2_takes 103 = .ok (.aload_n 0, 1) := by decide +kernel
theorem dX2_takes_104 : decode cX2_takes 104 = .ok (.invokevirtual 56, 3) := by decide +kernel
theorem dX2_takes_107 : decode cX2_takes 107 = .ok (.ifCond .eq 7, 3) := by decide +kernel
theorem dX2_takes_110 : decode cX2_takes 110 = .ok (.iconst 1, 1) := by decide +kernel
theorem dX2_takes_111 : decode cX2_takes 111 = .ok (.goto 4, 3) := by decide +kernel
theorem dX2_takes_114 : decode cX2_takes 114 = .ok (.iconst 0, 1) := by decide +kernel
theorem dX2_takes_115 : decode cX2_takes 115 = .ok (.ireturn, 1) := by decide +kernel
theorem dX2_takes_116 : decode cX2_takes 116 = .ok (.aload_n 0, 1) := by decide +kernel
theorem dX2_takes_117 : decode cX2_takes 117 = .ok (.getfield 29, 3) := by decide +kernel
theorem dX2_takes_120 : decode cX2_takes 120 = .ok (.ifCond .le 19, 3) := by decide +kernel
theorem dX2_takes_123 : decode cX2_takes 123 = .ok (.aload_n 0, 1) := by decide +kernel
theorem dX2_takes_124 : decode cX2_takes 124 = .ok (.iload_n 1, 1) := by decide +kernel
theorem dX2_takes_125 : decode cX2_takes 125 = .ok (.aload_n 0, 1) := by decide +kernel
theorem dX2_takes_126 : decode cX2_takes 126 = .ok (.getfield 29, 3) := by decide +kernel
theorem dX2_takes_129 : decode cX2_takes 129 = .ok (.invokevirtual 49, 3) := by decide +kernel
theorem dX2_takes_132 : decode cX2_takes 132 = .ok (.ifCond .eq 7, 3) := by decide +kernel
theorem dX2_takes_135 : decode cX2_takes 135 = .ok (.iconst 1, 1) := by decide +kernel
theorem dX2_takes_136 : decode cX2_takes 136 = .ok (.goto 4, 3) := by decide +kernel
theorem dX2_takes_139 : decode cX2_takes 139 = .ok (.iconst 0, 1) := by decide +kernel
theorem dX2_takes_140 : decode cX2_takes 140 = .ok (.ireturn, 1) := by decide +kernel
theorem dX2_takes_141 : decode cX2_takes 141 = .ok (.iconst 0, 1) := by decide +kernel
theorem dX2_takes_142 : decode cX2_takes 142 = .ok (.ireturn, 1) := by decide +kernel
theorem dX2_mayEnd_0 : decode cX2_mayEnd 0 = .ok (.aload_n 0, 1) := by decide +kernel
theorem dX2_mayEnd_1 : decode cX2_mayEnd 1 = .ok (.getfield 15, 3) := by decide +kernel
theorem dX2_mayEnd_4 : decode cX2_mayEnd 4 = .ok (.iconst 1, 1) := by decide +kernel
theorem dX2_mayEnd_5 : decode cX2_mayEnd 5 = .ok (.if_icmp .eq 11, 3) := by decide +kernel
theorem dX2_mayEnd_8 : decode cX2_mayEnd 8 = .ok (.aload_n 0, 1) := by decide +kernel
theorem dX2_mayEnd_9 : decode cX2_mayEnd 9 = .ok (.getfield 15, 3) := by decide +kernel
theorem dX2_mayEnd_12 : decode cX2_mayEnd 12 = .ok (.iconst 4, 1) := by decide +kernel
theorem dX2_mayEnd_13 : decode cX2_mayEnd 13 = .ok (.if_icmp .ne 7, 3) := by decide +kernel
theorem dX2_mayEnd_16 : decode cX2_mayEnd 16 = .ok (.iconst 1, 1) := by decide +kernel
theorem dX2_mayEnd_17 : decode cX2_mayEnd 17 = .ok (.goto 4, 3) := by decide +kernel
theorem dX2_mayEnd_20 : decode cX2_mayEnd 20 = .ok (.iconst 0, 1) := by decide +kernel
theorem dX2_mayEnd_21 : decode cX2_mayEnd 21 = .ok (.ireturn, 1) := by decide +kernel
theorem dX2_takesStay_0 : decode cX2_takesStay 0 = .ok (.aload_n 0, 1) := by decide +kernel
theorem dX2_takesStay_1 : decode cX2_takesStay 1 = .ok (.iconst 1, 1) := by decide +kernel
theorem dX2_takesStay_2 : decode cX2_takesStay 2 = .ok (.putfield 15, 3) := by decide +kernel
theorem dX2_takesStay_5 : decode cX2_takesStay 5 = .ok (.iconst 1, 1) := by decide +kernel
theorem dX2_takesStay_6 : decode cX2_takesStay 6 = .ok (.ireturn, 1) := by decide +kernel
theorem dX2_takesOpening_0 : decode cX2_takesOpening 0 = .ok (.iload_n 1, 1) := by decide +kernel
theorem dX2_takesOpening_1 : decode cX2_takesOpening 1 = .ok (.bipush 40, 2) := by decide +kernel
theorem dX2_takesOpening_3 : decode cX2_takesOpening 3 = .ok (.if_icmp .eq 5, 3) := by decide +kernel
theorem dX2_takesOpening_6 : decode cX2_takesOpening 6 = .ok (.iconst 0, 1) := by decide +kernel
theorem dX2_takesOpening_7 : decode cX2_takesOpening 7 = .ok (.ireturn, 1) := by decide +kernel
theorem dX2_takesOpening_8 : decode cX2_takesOpening 8 = .ok (.aload_n 0, 1) := by decide +kernel
theorem dX2_takesOpening_9 : decode cX2_takesOpening 9 = .ok (.iconst 2, 1) := by decide +kernel
theorem dX2_takesOpening_10 : decode cX2_takesOpening 10 = .ok (.putfield 15, 3) := by decide +kernel
theorem dX2_takesOpening_13 : decode cX2_takesOpening 13 = .ok (.aload_n 0, 1) := by decide +kernel
theorem dX2_takesOpening_14 : decode cX2_takesOpening 14 = .ok (.iconst 0, 1) := by decide +kernel
theorem dX2_takesOpening_15 : decode cX2_takesOpening 15 = .ok (.putfield 32, 3) := by decide +kernel
theorem dX2_takesOpening_18 : decode cX2_takesOpening 18 = .ok (.iconst 1, 1) := by decide +kernel
theorem dX2_takesOpening_19 : decode cX2_takesOpening 19 = .ok (.ireturn, 1) := by decide +kernel
theorem dX2_takesDigit_0 : decode cX2_takesDigit 0 = .ok (.iload_n 1, 1) := by decide +kernel
theorem dX2_takesDigit_1 : decode cX2_takesDigit 1 = .ok (.bipush 48, 2) := by decide +kernel
theorem dX2_takesDigit_3 : decode cX2_takesDigit 3 = .ok (.if_icmp .lt 9, 3) := by decide +kernel
theorem dX2_takesDigit_6 : decode cX2_takesDigit 6 = .ok (.iload_n 1, 1) := by decide +kernel
theorem dX2_takesDigit_7 : decode cX2_takesDigit 7 = .ok (.bipush 57, 2) := by decide +kernel
theorem dX2_takesDigit_9 : decode cX2_takesDigit 9 = .ok (.if_icmp .le 5, 3) := by decide +kernel
theorem dX2_takesDigit_12 : decode cX2_takesDigit 12 = .ok (.iconst 0, 1) := by decide +kernel
theorem dX2_takesDigit_13 : decode cX2_takesDigit 13 = .ok (.ireturn, 1) := by decide +kernel
theorem dX2_takesDigit_14 : decode cX2_takesDigit 14 = .ok (.bipush 10, 2) := by decide +kernel
theorem dX2_takesDigit_16 : decode cX2_takesDigit 16 = .ok (.iload_n 2, 1) := by decide +kernel
theorem dX2_takesDigit_17 : decode cX2_takesDigit 17 = .ok (.imul, 1) := by decide +kernel
theorem dX2_takesDigit_18 : decode cX2_takesDigit 18 = .ok (.iload_n 1, 1) := by decide +kernel
theorem dX2_takesDigit_19 : decode cX2_takesDigit 19 = .ok (.bipush 48, 2) := by decide +kernel
theorem dX2_takesDigit_21 : decode cX2_takesDigit 21 = .ok (.isub, 1) := by decide +kernel
theorem dX2_takesDigit_22 : decode cX2_takesDigit 22 = .ok (.iadd, 1) := by decide +kernel
theorem dX2_takesDigit_23 : decode cX2_takesDigit 23 = .ok (.istore_n 3, 1) := by decide +kernel
theorem dX2_takesDigit_24 : decode cX2_takesDigit 24 = .ok (.aload_n 0, 1) := by decide +kernel
theorem dX2_takesDigit_25 : decode cX2_takesDigit 25 = .ok (.iload_n 3, 1) := by decide +kernel
theorem dX2_takesDigit_26 : decode cX2_takesDigit 26 = .ok (.invokevirtual 59, 3) := by decide +kernel
theorem dX2_takesDigit_29 : decode cX2_takesDigit 29 = .ok (.ifCond .ne 5, 3) := by decide +kernel
theorem dX2_takesDigit_32 : decode cX2_takesDigit 32 = .ok (.iconst 0, 1) := by decide +kernel
theorem dX2_takesDigit_33 : decode cX2_takesDigit 33 = .ok (.ireturn, 1) := by decide +kernel
theorem dX2_takesDigit_34 : decode cX2_takesDigit 34 = .ok (.aload_n 0, 1) := by decide +kernel
theorem dX2_takesDigit_35 : decode cX2_takesDigit 35 = .ok (.iload_n 3, 1) := by decide +kernel
theorem dX2_takesDigit_36 : decode cX2_takesDigit 36 = .ok (.putfield 29, 3) := by decide +kernel
theorem dX2_takesDigit_39 : decode cX2_takesDigit 39 = .ok (.aload_n 0, 1) := by decide +kernel
theorem dX2_takesDigit_40 : decode cX2_takesDigit 40 = .ok (.iconst 3, 1) := by decide +kernel
theorem dX2_takesDigit_41 : decode cX2_takesDigit 41 = .ok (.putfield 15, 3) := by decide +kernel
theorem dX2_takesDigit_44 : decode cX2_takesDigit 44 = .ok (.iconst 1, 1) := by decide +kernel
theorem dX2_takesDigit_45 : decode cX2_takesDigit 45 = .ok (.ireturn, 1) := by decide +kernel
theorem dX2_beginsFreePlace_0 : decode cX2_beginsFreePlace 0 = .ok (.iconst 0, 1) := by decide +kernel
theorem dX2_beginsFreePlace_1 : decode cX2_beginsFreePlace 1 = .ok (.istore_n 2, 1) := by decide +kernel
theorem dX2_beginsFreePlace_2 : decode cX2_beginsFreePlace 2 = .ok (.iload_n 2, 1) := by decide +kernel
theorem dX2_beginsFreePlace_3 : decode cX2_beginsFreePlace 3 = .ok (.aload_n 0, 1) := by decide +kernel
theorem dX2_beginsFreePlace_4 : decode cX2_beginsFreePlace 4 = .ok (.getfield 9, 3) := by decide +kernel
theorem dX2_beginsFreePlace_7 : decode cX2_beginsFreePlace 7 = .ok (.if_icmp .ge 36, 3) := by decide +kernel
theorem dX2_beginsFreePlace_10 : decode cX2_beginsFreePlace 10 = .ok (.aload_n 0, 1) := by decide +kernel
theorem dX2_beginsFreePlace_11 : decode cX2_beginsFreePlace 11 = .ok (.iload_n 2, 1) := by decide +kernel
theorem dX2_beginsFreePlace_12 : decode cX2_beginsFreePlace 12 = .ok (.invokevirtual 63, 3) := by decide +kernel
theorem dX2_beginsFreePlace_15 : decode cX2_beginsFreePlace 15 = .ok (.ifCond .eq 22, 3) := by decide +kernel
theorem dX2_beginsFreePlace_18 : decode cX2_beginsFreePlace 18 = .ok (.iload_n 2, 1) := by decide +kernel
theorem dX2_beginsFreePlace_19 : decode cX2_beginsFreePlace 19 = .ok (.iload_n 1, 1) := by decide +kernel
theorem dX2_beginsFreePlace_20 : decode cX2_beginsFreePlace 20 = .ok (.if_icmp .eq 15, 3) := by decide +kernel
theorem dX2_beginsFreePlace_23 : decode cX2_beginsFreePlace 23 = .ok (.iload_n 1, 1) := by decide +kernel
theorem dX2_beginsFreePlace_24 : decode cX2_beginsFreePlace 24 = .ok (.ifCond .le 13, 3) := by decide +kernel
theorem dX2_beginsFreePlace_27 : decode cX2_beginsFreePlace 27 = .ok (.iload_n 2, 1) := by decide +kernel
theorem dX2_beginsFreePlace_28 : decode cX2_beginsFreePlace 28 = .ok (.bipush 10, 2) := by decide +kernel
theorem dX2_beginsFreePlace_30 : decode cX2_beginsFreePlace 30 = .ok (.idiv, 1) := by decide +kernel
theorem dX2_beginsFreePlace_31 : decode cX2_beginsFreePlace 31 = .ok (.iload_n 1, 1) := by decide +kernel
theorem dX2_beginsFreePlace_32 : decode cX2_beginsFreePlace 32 = .ok (.if_icmp .ne 5, 3) := by decide +kernel
theorem dX2_beginsFreePlace_35 : decode cX2_beginsFreePlace 35 = .ok (.iconst 1, 1) := by decide +kernel
theorem dX2_beginsFreePlace_36 : decode cX2_beginsFreePlace 36 = .ok (.ireturn, 1) := by decide +kernel
theorem dX2_beginsFreePlace_37 : decode cX2_beginsFreePlace 37 = .ok (.iinc 2 1, 3) := by decide +kernel
theorem dX2_beginsFreePlace_40 : decode cX2_beginsFreePlace 40 = .ok (.goto (-38), 3) := by decide +kernel
theorem dX2_beginsFreePlace_43 : decode cX2_beginsFreePlace 43 = .ok (.iconst 0, 1) := by decide +kernel
theorem dX2_beginsFreePlace_44 : decode cX2_beginsFreePlace 44 = .ok (.ireturn, 1) := by decide +kernel
theorem dX2_isFree_0 : decode cX2_isFree 0 = .ok (.iload_n 1, 1) := by decide +kernel
theorem dX2_isFree_1 : decode cX2_isFree 1 = .ok (.ifCond .lt 26, 3) := by decide +kernel
theorem dX2_isFree_4 : decode cX2_isFree 4 = .ok (.iload_n 1, 1) := by decide +kernel
theorem dX2_isFree_5 : decode cX2_isFree 5 = .ok (.aload_n 0, 1) := by decide +kernel
theorem dX2_isFree_6 : decode cX2_isFree 6 = .ok (.getfield 9, 3) := by decide +kernel
theorem dX2_isFree_9 : decode cX2_isFree 9 = .ok (.if_icmp .ge 18, 3) := by decide +kernel
theorem dX2_isFree_12 : decode cX2_isFree 12 = .ok (.aload_n 0, 1) := by decide +kernel
theorem dX2_isFree_13 : decode cX2_isFree 13 = .ok (.getfield 26, 3) := by decide +kernel
theorem dX2_isFree_16 : decode cX2_isFree 16 = .ok (.iload_n 1, 1) := by decide +kernel
theorem dX2_isFree_17 : decode cX2_isFree 17 = .ok (.ishr, 1) := by decide +kernel
theorem dX2_isFree_18 : decode cX2_isFree 18 = .ok (.iconst 1, 1) := by decide +kernel
theorem dX2_isFree_19 : decode cX2_isFree 19 = .ok (.iand, 1) := by decide +kernel
theorem dX2_isFree_20 : decode cX2_isFree 20 = .ok (.ifCond .ne 7, 3) := by decide +kernel
theorem dX2_isFree_23 : decode cX2_isFree 23 = .ok (.iconst 1, 1) := by decide +kernel
theorem dX2_isFree_24 : decode cX2_isFree 24 = .ok (.goto 4, 3) := by decide +kernel
theorem dX2_isFree_27 : decode cX2_isFree 27 = .ok (.iconst 0, 1) := by decide +kernel
theorem dX2_isFree_28 : decode cX2_isFree 28 = .ok (.ireturn, 1) := by decide +kernel
theorem dX2_endsPlace_0 : decode cX2_endsPlace 0 = .ok (.aload_n 0, 1) := by decide +kernel
theorem dX2_endsPlace_1 : decode cX2_endsPlace 1 = .ok (.aload_n 0, 1) := by decide +kernel
theorem dX2_endsPlace_2 : decode cX2_endsPlace 2 = .ok (.getfield 29, 3) := by decide +kernel
theorem dX2_endsPlace_5 : decode cX2_endsPlace 5 = .ok (.invokevirtual 63, 3) := by decide +kernel
theorem dX2_endsPlace_8 : decode cX2_endsPlace 8 = .ok (.ifCond .ne 5, 3) := by decide +kernel
theorem dX2_endsPlace_11 : decode cX2_endsPlace 11 = .ok (.iconst 0, 1) := by decide +kernel
theorem dX2_endsPlace_12 : decode cX2_endsPlace 12 = .ok (.ireturn, 1) := by decide +kernel
theorem dX2_endsPlace_13 : decode cX2_endsPlace 13 = .ok (.aload_n 0, 1) := by decide +kernel
theorem dX2_endsPlace_14 : decode cX2_endsPlace 14 = .ok (.aload_n 0, 1) := by decide +kernel
theorem dX2_endsPlace_15 : decode cX2_endsPlace 15 = .ok (.getfield 26, 3) := by decide +kernel
theorem dX2_endsPlace_18 : decode cX2_endsPlace 18 = .ok (.iconst 1, 1) := by decide +kernel
theorem dX2_endsPlace_19 : decode cX2_endsPlace 19 = .ok (.aload_n 0, 1) := by decide +kernel
theorem dX2_endsPlace_20 : decode cX2_endsPlace 20 = .ok (.getfield 29, 3) := by decide +kernel
theorem dX2_endsPlace_23 : decode cX2_endsPlace 23 = .ok (.ishl, 1) := by decide +kernel
theorem dX2_endsPlace_24 : decode cX2_endsPlace 24 = .ok (.ior, 1) := by decide +kernel
theorem dX2_endsPlace_25 : decode cX2_endsPlace 25 = .ok (.putfield 26, 3) := by decide +kernel
theorem dX2_endsPlace_28 : decode cX2_endsPlace 28 = .ok (.aload_n 0, 1) := by decide +kernel
theorem dX2_endsPlace_29 : decode cX2_endsPlace 29 = .ok (.getfield 32, 3) := by decide +kernel
theorem dX2_endsPlace_32 : decode cX2_endsPlace 32 = .ok (.ifCond .ne 14, 3) := by decide +kernel
theorem dX2_endsPlace_35 : decode cX2_endsPlace 35 = .ok (.aload_n 0, 1) := by decide +kernel
theorem dX2_endsPlace_36 : decode cX2_endsPlace 36 = .ok (.aload_n 0, 1) := by decide +kernel
theorem dX2_endsPlace_37 : decode cX2_endsPlace 37 = .ok (.getfield 29, 3) := by decide +kernel
theorem dX2_endsPlace_40 : decode cX2_endsPlace 40 = .ok (.putfield 35, 3) := by decide +kernel
theorem dX2_endsPlace_43 : decode cX2_endsPlace 43 = .ok (.goto 22, 3) := by decide +kernel
theorem dX2_endsPlace_46 : decode cX2_endsPlace 46 = .ok (.aload_n 0, 1) := by decide +kernel
theorem dX2_endsPlace_47 : decode cX2_endsPlace 47 = .ok (.aload_n 0, 1) := by decide +kernel
theorem dX2_endsPlace_48 : decode cX2_endsPlace 48 = .ok (.getfield 22, 3) := by decide +kernel
theorem dX2_endsPlace_51 : decode cX2_endsPlace 51 = .ok (.aload_n 0, 1) := by decide +kernel
theorem dX2_endsPlace_52 : decode cX2_endsPlace 52 = .ok (.getfield 38, 3) := by decide +kernel
theorem dX2_endsPlace_55 : decode cX2_endsPlace 55 = .ok (.aload_n 0, 1) := by decide +kernel
theorem dX2_endsPlace_56 : decode cX2_endsPlace 56 = .ok (.getfield 29, 3) := by decide +kernel
theorem dX2_endsPlace_59 : decode cX2_endsPlace 59 = .ok (.invokestatic 66, 3) := by decide +kernel
theorem dX2_endsPlace_62 : decode cX2_endsPlace 62 = .ok (.putfield 22, 3) := by decide +kernel
theorem dX2_endsPlace_65 : decode cX2_endsPlace 65 = .ok (.aload_n 0, 1) := by decide +kernel
theorem dX2_endsPlace_66 : decode cX2_endsPlace 66 = .ok (.aload_n 0, 1) := by decide +kernel
theorem dX2_endsPlace_67 : decode cX2_endsPlace 67 = .ok (.getfield 29, 3) := by decide +kernel
theorem dX2_endsPlace_70 : decode cX2_endsPlace 70 = .ok (.putfield 38, 3) := by decide +kernel
theorem dX2_endsPlace_73 : decode cX2_endsPlace 73 = .ok (.aload_n 0, 1) := by decide +kernel
theorem dX2_endsPlace_74 : decode cX2_endsPlace 74 = .ok (.dup, 1) := by decide +kernel
theorem dX2_endsPlace_75 : decode cX2_endsPlace 75 = .ok (.getfield 32, 3) := by decide +kernel
theorem dX2_endsPlace_78 : decode cX2_endsPlace 78 = .ok (.iconst 1, 1) := by decide +kernel
theorem dX2_endsPlace_79 : decode cX2_endsPlace 79 = .ok (.iadd, 1) := by decide +kernel
theorem dX2_endsPlace_80 : decode cX2_endsPlace 80 = .ok (.putfield 32, 3) := by decide +kernel
theorem dX2_endsPlace_83 : decode cX2_endsPlace 83 = .ok (.aload_n 0, 1) := by decide +kernel
theorem dX2_endsPlace_84 : decode cX2_endsPlace 84 = .ok (.iconst 2, 1) := by decide +kernel
theorem dX2_endsPlace_85 : decode cX2_endsPlace 85 = .ok (.putfield 15, 3) := by decide +kernel
theorem dX2_endsPlace_88 : decode cX2_endsPlace 88 = .ok (.iconst 1, 1) := by decide +kernel
theorem dX2_endsPlace_89 : decode cX2_endsPlace 89 = .ok (.ireturn, 1) := by decide +kernel
theorem dX2_closesCycle_0 : decode cX2_closesCycle 0 = .ok (.aload_n 0, 1) := by decide +kernel
theorem dX2_closesCycle_1 : decode cX2_closesCycle 1 = .ok (.aload_n 0, 1) := by decide +kernel
theorem dX2_closesCycle_2 : decode cX2_closesCycle 2 = .ok (.getfield 22, 3) := by decide +kernel
theorem dX2_closesCycle_5 : decode cX2_closesCycle 5 = .ok (.aload_n 0, 1) := by decide +kernel
theorem dX2_closesCycle_6 : decode cX2_closesCycle 6 = .ok (.getfield 38, 3) := by decide +kernel
theorem dX2_closesCycle_9 : decode cX2_closesCycle 9 = .ok (.aload_n 0, 1) := by decide +kernel
theorem dX2_closesCycle_10 : decode cX2_closesCycle 10 = .ok (.getfield 35, 3) := by decide +kernel
theorem dX2_closesCycle_13 : decode cX2_closesCycle 13 = .ok (.invokestatic 66, 3) := by decide +kernel
theorem dX2_closesCycle_16 : decode cX2_closesCycle 16 = .ok (.putfield 22, 3) := by decide +kernel
theorem dX2_closesCycle_19 : decode cX2_closesCycle 19 = .ok (.aload_n 0, 1) := by decide +kernel
theorem dX2_closesCycle_20 : decode cX2_closesCycle 20 = .ok (.iconst 4, 1) := by decide +kernel
theorem dX2_closesCycle_21 : decode cX2_closesCycle 21 = .ok (.putfield 15, 3) := by decide +kernel
theorem dX2_closesCycle_24 : decode cX2_closesCycle 24 = .ok (.iconst 1, 1) := by decide +kernel
theorem dX2_closesCycle_25 : decode cX2_closesCycle 25 = .ok (.ireturn, 1) := by decide +kernel
theorem dX3_to_0 : decode cX3_to 0 = .ok (.lload_n 0, 1) := by decide +kernel
theorem dX3_to_1 : decode cX3_to 1 = .ok (.iconst 4, 1) := by decide +kernel
theorem dX3_to_2 : decode cX3_to 2 = .ok (.iload_n 2, 1) := by decide +kernel
theorem dX3_to_3 : decode cX3_to 3 = .ok (.imul, 1) := by decide +kernel
theorem dX3_to_4 : decode cX3_to 4 = .ok (.lushr, 1) := by decide +kernel
theorem dX3_to_5 : decode cX3_to 5 = .ok (.l2i, 1) := by decide +kernel
theorem dX3_to_6 : decode cX3_to 6 = .ok (.bipush 15, 2) := by decide +kernel
theorem dX3_to_8 : decode cX3_to 8 = .ok (.iand, 1) := by decide +kernel
theorem dX3_to_9 : decode cX3_to 9 = .ok (.ireturn, 1) := by decide +kernel
theorem dX3_from_0 : decode cX3_from 0 = .ok (.iconst 0, 1) := by decide +kernel
theorem dX3_from_1 : decode cX3_from 1 = .ok (.istore_n 3, 1) := by decide +kernel
theorem dX3_from_2 : decode cX3_from 2 = .ok (.iload_n 3, 1) := by decide +kernel
theorem dX3_from_3 : decode cX3_from 3 = .ok (.bipush 16, 2) := by decide +kernel
theorem dX3_from_5 : decode cX3_from 5 = .ok (.if_icmp .ge 20, 3) := by decide +kernel
theorem dX3_from_8 : decode cX3_from 8 = .ok (.lload_n 0, 1) := by decide +kernel
theorem dX3_from_9 : decode cX3_from 9 = .ok (.iload_n 3, 1) := by decide +kernel
theorem dX3_from_10 : decode cX3_from 10 = .ok (.invokestatic 9, 3) := by decide +kernel
theorem dX3_from_13 : decode cX3_from 13 = .ok (.iload_n 2, 1) := by decide +kernel
theorem dX3_from_14 : decode cX3_from 14 = .ok (.if_icmp .ne 5, 3) := by decide +kernel
theorem dX3_from_17 : decode cX3_from 17 = .ok (.iload_n 3, 1) := by decide +kernel
theorem dX3_from_18 : decode cX3_from 18 = .ok (.ireturn, 1) := by decide +kernel
theorem dX3_from_19 : decode cX3_from 19 = .ok (.iinc 3 1, 3) := by decide +kernel
theorem dX3_from_22 : decode cX3_from 22 = .ok (.goto (-20), 3) := by decide +kernel
theorem dX3_from_25 : decode cX3_from 25 = .ok (.iconst 0, 1) := by decide +kernel
theorem dX3_from_26 : decode cX3_from 26 = .ok (.ireturn, 1) := by decide +kernel
theorem dX3_with_0 : decode cX3_with 0 = .ok (.lload_n 0, 1) := by decide +kernel
theorem dX3_with_1 : decode cX3_with 1 = .ok (.ldc2_w 15, 3) := by decide +kernel
theorem dX3_with_4 : decode cX3_with 4 = .ok (.iconst 4, 1) := by decide +kernel
theorem dX3_with_5 : decode cX3_with 5 = .ok (.iload_n 2, 1) := by decide +kernel
theorem dX3_with_6 : decode cX3_with 6 = .ok (.imul, 1) := by decide +kernel
theorem dX3_with_7 : decode cX3_with 7 = .ok (.lshl, 1) := by decide +kernel
theorem dX3_with_8 : decode cX3_with 8 = .ok (.ldc2_w 17, 3) := by decide +kernel
theorem dX3_with_11 : decode cX3_with 11 = .ok (.lxor, 1) := by decide +kernel
theorem dX3_with_12 : decode cX3_with 12 = .ok (.land, 1) := by decide +kernel
theorem dX3_with_13 : decode cX3_with 13 = .ok (.lstore 4, 2) := by decide +kernel
theorem dX3_with_15 : decode cX3_with 15 = .ok (.lload 4, 2) := by decide +kernel
theorem dX3_with_17 : decode cX3_with 17 = .ok (.iload_n 3, 1) := by decide +kernel
theorem dX3_with_18 : decode cX3_with 18 = .ok (.bipush 15, 2) := by decide +kernel
theorem dX3_with_20 : decode cX3_with 20 = .ok (.iand, 1) := by decide +kernel
theorem dX3_with_21 : decode cX3_with 21 = .ok (.i2l, 1) := by decide +kernel
theorem dX3_with_22 : decode cX3_with 22 = .ok (.iconst 4, 1) := by decide +kernel
theorem dX3_with_23 : decode cX3_with 23 = .ok (.iload_n 2, 1) := by decide +kernel
theorem dX3_with_24 : decode cX3_with 24 = .ok (.imul, 1) := by decide +kernel
theorem dX3_with_25 : decode cX3_with 25 = .ok (.lshl, 1) := by decide +kernel
theorem dX3_with_26 : decode cX3_with 26 = .ok (.lor, 1) := by decide +kernel
theorem dX3_with_27 : decode cX3_with 27 = .ok (.lreturn, 1) := by decide +kernel
theorem dX3_then_0 : decode cX3_then 0 = .ok (.lconst 0, 1) := by decide +kernel
theorem dX3_then_1 : decode cX3_then 1 = .ok (.lstore 4, 2) := by decide +kernel
theorem dX3_then_3 : decode cX3_then 3 = .ok (.iconst 0, 1) := by decide +kernel
theorem dX3_then_4 : decode cX3_then 4 = .ok (.istore 6, 2) := by decide +kernel
theorem dX3_then_6 : decode cX3_then 6 = .ok (.iload 6, 2) := by decide +kernel
theorem dX3_then_8 : decode cX3_then 8 = .ok (.bipush 16, 2) := by decide +kernel
theorem dX3_then_10 : decode cX3_then 10 = .ok (.if_icmp .ge 28, 3) := by decide +kernel
theorem dX3_then_13 : decode cX3_then 13 = .ok (.lload 4, 2) := by decide +kernel
theorem dX3_then_15 : decode cX3_then 15 = .ok (.iload 6, 2) := by decide +kernel
theorem dX3_then_17 : decode cX3_then 17 = .ok (.lload_n 2, 1) := by decide +kernel
theorem dX3_then_18 : decode cX3_then 18 = .ok (.lload_n 0, 1) := by decide +kernel
theorem dX3_then_19 : decode cX3_then 19 = .ok (.iload 6, 2) := by decide +kernel
theorem dX3_then_21 : decode cX3_then 21 = .ok (.invokestatic 9, 3) := by decide +kernel
theorem dX3_then_24 : decode cX3_then 24 = .ok (.invokestatic 9, 3) := by decide +kernel
theorem dX3_then_27 : decode cX3_then 27 = .ok (.invokestatic 19, 3) := by decide +kernel
theorem dX3_then_30 : decode cX3_then 30 = .ok (.lstore 4, 2) := by decide +kernel
theorem dX3_then_32 : decode cX3_then 32 = .ok (.iinc 6 1, 3) := by decide +kernel
theorem dX3_then_35 : decode cX3_then 35 = .ok (.goto (-29), 3) := by decide +kernel
theorem dX3_then_38 : decode cX3_then 38 = .ok (.lload 4, 2) := by decide +kernel
theorem dX3_then_40 : decode cX3_then 40 = .ok (.lreturn, 1) := by decide +kernel
theorem dX3_inverse_0 : decode cX3_inverse 0 = .ok (.lconst 0, 1) := by decide +kernel
theorem dX3_inverse_1 : decode cX3_inverse 1 = .ok (.lstore_n 2, 1) := by decide +kernel
theorem dX3_inverse_2 : decode cX3_inverse 2 = .ok (.iconst 0, 1) := by decide +kernel
theorem dX3_inverse_3 : decode cX3_inverse 3 = .ok (.istore 4, 2) := by decide +kernel
theorem dX3_inverse_5 : decode cX3_inverse 5 = .ok (.iload 4, 2) := by decide +kernel
theorem dX3_inverse_7 : decode cX3_inverse 7 = .ok (.bipush 16, 2) := by decide +kernel
theorem dX3_inverse_9 : decode cX3_inverse 9 = .ok (.if_icmp .ge 22, 3) := by decide +kernel
theorem dX3_inverse_12 : decode cX3_inverse 12 = .ok (.lload_n 2, 1) := by decide +kernel
theorem dX3_inverse_13 : decode cX3_inverse 13 = .ok (.lload_n 0, 1) := by decide +kernel
theorem dX3_inverse_14 : decode cX3_inverse 14 = .ok (.iload 4, 2) := by decide +kernel
theorem dX3_inverse_16 : decode cX3_inverse 16 = .ok (.invokestatic 9, 3) := by decide +kernel
theorem dX3_inverse_19 : decode cX3_inverse 19 = .ok (.iload 4, 2) := by decide +kernel
theorem dX3_inverse_21 : decode cX3_inverse 21 = .ok (.invokestatic 19, 3) := by decide +kernel
theorem dX3_inverse_24 : decode cX3_inverse 24 = .ok (.lstore_n 2, 1) := by decide +kernel
theorem dX3_inverse_25 : decode cX3_inverse 25 = .ok (.iinc 4 1, 3) := by decide +kernel
theorem dX3_inverse_28 : decode cX3_inverse 28 = .ok (.goto (-23), 3) := by decide +kernel
theorem dX3_inverse_31 : decode cX3_inverse 31 = .ok (.lload_n 2, 1) := by decide +kernel
theorem dX3_inverse_32 : decode cX3_inverse 32 = .ok (.lreturn, 1) := by decide +kernel
theorem dX3_times_0 : decode cX3_times 0 = .ok (.lconst 0, 1) := by decide +kernel
theorem dX3_times_1 : decode cX3_times 1 = .ok (.lstore_n 3, 1) := by decide +kernel
theorem dX3_times_2 : decode cX3_times 2 = .ok (.iconst 0, 1) := by decide +kernel
theorem dX3_times_3 : decode cX3_times 3 = .ok (.istore 5, 2) := by decide +kernel
theorem dX3_times_5 : decode cX3_times 5 = .ok (.iload 5, 2) := by decide +kernel
theorem dX3_times_7 : decode cX3_times 7 = .ok (.bipush 16, 2) := by decide +kernel
theorem dX3_times_9 : decode cX3_times 9 = .ok (.if_icmp .ge 23, 3) := by decide +kernel
theorem dX3_times_12 : decode cX3_times 12 = .ok (.lload_n 3, 1) := by decide +kernel
theorem dX3_times_13 : decode cX3_times 13 = .ok (.iload 5, 2) := by decide +kernel
theorem dX3_times_15 : decode cX3_times 15 = .ok (.lload_n 0, 1) := by decide +kernel
theorem dX3_times_16 : decode cX3_times 16 = .ok (.iload_n 2, 1) := by decide +kernel
theorem dX3_times_17 : decode cX3_times 17 = .ok (.iload 5, 2) := by decide +kernel
theorem dX3_times_19 : decode cX3_times 19 = .ok (.invokestatic 23, 3) := by decide +kernel
theorem dX3_times_22 : decode cX3_times 22 = .ok (.invokestatic 19, 3) := by decide +kernel
theorem dX3_times_25 : decode cX3_times 25 = .ok (.lstore_n 3, 1) := by decide +kernel
theorem dX3_times_26 : decode cX3_times 26 = .ok (.iinc 5 1, 3) := by decide +kernel
theorem dX3_times_29 : decode cX3_times 29 = .ok (.goto (-24), 3) := by decide +kernel
theorem dX3_times_32 : decode cX3_times 32 = .ok (.lload_n 3, 1) := by decide +kernel
theorem dX3_times_33 : decode cX3_times 33 = .ok (.lreturn, 1) := by decide +kernel
theorem dX3_toAfter_0 : decode cX3_toAfter 0 = .ok (.lload_n 0, 1) := by decide +kernel
theorem dX3_toAfter_1 : decode cX3_toAfter 1 = .ok (.iload_n 3, 1) := by decide +kernel
theorem dX3_toAfter_2 : decode cX3_toAfter 2 = .ok (.invokestatic 27, 3) := by decide +kernel
theorem dX3_toAfter_5 : decode cX3_toAfter 5 = .ok (.istore 4, 2) := by decide +kernel
theorem dX3_toAfter_7 : decode cX3_toAfter 7 = .ok (.iload 4, 2) := by decide +kernel
theorem dX3_toAfter_9 : decode cX3_toAfter 9 = .ok (.ifCond .le 12, 3) := by decide +kernel
theorem dX3_toAfter_12 : decode cX3_toAfter 12 = .ok (.iload_n 2, 1) := by decide +kernel
theorem dX3_toAfter_13 : decode cX3_toAfter 13 = .ok (.iload 4, 2) := by decide +kernel
theorem dX3_toAfter_15 : decode cX3_toAfter 15 = .ok (.invokestatic 30, 3) := by decide +kernel
theorem dX3_toAfter_18 : decode cX3_toAfter 18 = .ok (.goto 4, 3) := by decide +kernel
theorem dX3_toAfter_21 : decode cX3_toAfter 21 = .ok (.iconst 0, 1) := by decide +kernel
theorem dX3_toAfter_22 : decode cX3_toAfter 22 = .ok (.istore 5, 2) := by decide +kernel
theorem dX3_toAfter_24 : decode cX3_toAfter 24 = .ok (.iload_n 3, 1) := by decide +kernel
theorem dX3_toAfter_25 : decode cX3_toAfter 25 = .ok (.istore 6, 2) := by decide +kernel
theorem dX3_toAfter_27 : decode cX3_toAfter 27 = .ok (.iconst 0, 1) := by decide +kernel
theorem dX3_toAfter_28 : decode cX3_toAfter 28 = .ok (.istore 7, 2) := by decide +kernel
theorem dX3_toAfter_30 : decode cX3_toAfter 30 = .ok (.iload 7, 2) := by decide +kernel
theorem dX3_toAfter_32 : decode cX3_toAfter 32 = .ok (.iload 5, 2) := by decide +kernel
theorem dX3_toAfter_34 : decode cX3_toAfter 34 = .ok (.if_icmp .ge 17, 3) := by decide +kernel
theorem dX3_toAfter_37 : decode cX3_toAfter 37 = .ok (.lload_n 0, 1) := by decide +kernel
theorem dX3_toAfter_38 : decode cX3_toAfter 38 = .ok (.iload 6, 2) := by decide +kernel
theorem dX3_toAfter_40 : decode cX3_toAfter 40 = .ok (.invokestatic 9, 3) := by decide +kernel
theorem dX3_toAfter_43 : decode cX3_toAfter 43 = .ok (.istore 6, 2) := by decide +kernel
theorem dX3_toAfter_45 : decode cX3_toAfter 45 = .ok (.iinc 7 1, 3) := by decide +kernel
theorem dX3_toAfter_48 : decode cX3_toAfter 48 = .ok (.goto (-18), 3) := by decide +kernel
theorem dX3_toAfter_51 : decode cX3_toAfter 51 = .ok (.iload 6, 2) := by decide +kernel
theorem dX3_toAfter_53 : decode cX3_toAfter 53 = .ok (.ireturn, 1) := by decide +kernel
theorem dX3_cycleLength_0 : decode cX3_cycleLength 0 = .ok (.iconst 1, 1) := by decide +kernel
theorem dX3_cycleLength_1 : decode cX3_cycleLength 1 = .ok (.istore_n 3, 1) := by decide +kernel
theorem dX3_cycleLength_2 : decode cX3_cycleLength 2 = .ok (.lload_n 0, 1) := by decide +kernel
theorem dX3_cycleLength_3 : decode cX3_cycleLength 3 = .ok (.iload_n 2, 1) := by decide +kernel
theorem dX3_cycleLength_4 : decode cX3_cycleLength 4 = .ok (.invokestatic 9, 3) := by decide +kernel
theorem dX3_cycleLength_7 : decode cX3_cycleLength 7 = .ok (.istore 4, 2) := by decide +kernel
theorem dX3_cycleLength_9 : decode cX3_cycleLength 9 = .ok (.iload 4, 2) := by decide +kernel
theorem dX3_cycleLength_11 : decode cX3_cycleLength 11 = .ok (.iload_n 2, 1) := by decide +kernel
theorem dX3_cycleLength_12 : decode cX3_cycleLength 12 = .ok (.if_icmp .eq 23, 3) := by decide +kernel
theorem dX3_cycleLength_15 : decode cX3_cycleLength 15 = .ok (.iload_n 3, 1) := by decide +kernel
theorem dX3_cycleLength_16 : decode cX3_cycleLength 16 = .ok (.bipush 16, 2) := by decide +kernel
theorem dX3_cycleLength_18 : decode cX3_cycleLength 18 = .ok (.if_icmp .ge 17, 3) := by decide +kernel
theorem dX3_cycleLength_21 : decode cX3_cycleLength 21 = .ok (.lload_n 0, 1) := by decide +kernel
theorem dX3_cycleLength_22 : decode cX3_cycleLength 22 = .ok (.iload 4, 2) := by decide +kernel
theorem dX3_cycleLength_24 : decode cX3_cycleLength 24 = .ok (.invokestatic 9, 3) := by decide +kernel
theorem dX3_cycleLength_27 : decode cX3_cycleLength 27 = .ok (.istore 4, 2) := by decide +kernel
theorem dX3_cycleLength_29 : decode cX3_cycleLength 29 = .ok (.iinc 3 1, 3) := by decide +kernel
theorem dX3_cycleLength_32 : decode cX3_cycleLength 32 = .ok (.goto (-23), 3) := by decide +kernel
theorem dX3_cycleLength_35 : decode cX3_cycleLength 35 = .ok (.iload_n 3, 1) := by decide +kernel
theorem dX3_cycleLength_36 : decode cX3_cycleLength 36 = .ok (.ireturn, 1) := by decide +kernel
theorem dX3_fixedPlaces_0 : decode cX3_fixedPlaces 0 = .ok (.iconst 0, 1) := by decide +kernel
theorem dX3_fixedPlaces_1 : decode cX3_fixedPlaces 1 = .ok (.istore_n 3, 1) := by decide +kernel
theorem dX3_fixedPlaces_2 : decode cX3_fixedPlaces 2 = .ok (.iconst 0, 1) := by decide +kernel
theorem dX3_fixedPlaces_3 : decode cX3_fixedPlaces 3 = .ok (.istore 4, 2) := by decide +kernel
theorem dX3_fixedPlaces_5 : decode cX3_fixedPlaces 5 = .ok (.iload 4, 2) := by decide +kernel
theorem dX3_fixedPlaces_7 : decode cX3_fixedPlaces 7 = .ok (.iload_n 2, 1) := by decide +kernel
theorem dX3_fixedPlaces_8 : decode cX3_fixedPlaces 8 = .ok (.if_icmp .ge 27, 3) := by decide +kernel
theorem dX3_fixedPlaces_11 : decode cX3_fixedPlaces 11 = .ok (.lload_n 0, 1) := by decide +kernel
theorem dX3_fixedPlaces_12 : decode cX3_fixedPlaces 12 = .ok (.iload 4, 2) := by decide +kernel
theorem dX3_fixedPlaces_14 : decode cX3_fixedPlaces 14 = .ok (.invokestatic 9, 3) := by decide +kernel
theorem dX3_fixedPlaces_17 : decode cX3_fixedPlaces 17 = .ok (.iload 4, 2) := by decide +kernel
theorem dX3_fixedPlaces_19 : decode cX3_fixedPlaces 19 = .ok (.if_icmp .ne 10, 3) := by decide +kernel
theorem dX3_fixedPlaces_22 : decode cX3_fixedPlaces 22 = .ok (.iload_n 3, 1) := by decide +kernel
theorem dX3_fixedPlaces_23 : decode cX3_fixedPlaces 23 = .ok (.iconst 1, 1) := by decide +kernel
theorem dX3_fixedPlaces_24 : decode cX3_fixedPlaces 24 = .ok (.iload 4, 2) := by decide +kernel
theorem dX3_fixedPlaces_26 : decode cX3_fixedPlaces 26 = .ok (.ishl, 1) := by decide +kernel
theorem dX3_fixedPlaces_27 : decode cX3_fixedPlaces 27 = .ok (.ior, 1) := by decide +kernel
theorem dX3_fixedPlaces_28 : decode cX3_fixedPlaces 28 = .ok (.istore_n 3, 1) := by decide +kernel
theorem dX3_fixedPlaces_29 : decode cX3_fixedPlaces 29 = .ok (.iinc 4 1, 3) := by decide +kernel
theorem dX3_fixedPlaces_32 : decode cX3_fixedPlaces 32 = .ok (.goto (-27), 3) := by decide +kernel
theorem dX3_fixedPlaces_35 : decode cX3_fixedPlaces 35 = .ok (.iload_n 3, 1) := by decide +kernel
theorem dX3_fixedPlaces_36 : decode cX3_fixedPlaces 36 = .ok (.ireturn, 1) := by decide +kernel
theorem dX4_init_0 : decode cX4_init 0 = .ok (.aload_n 0, 1) := by decide +kernel
theorem dX4_init_1 : decode cX4_init 1 = .ok (.invokespecial 1, 3) := by decide +kernel
theorem dX4_init_4 : decode cX4_init 4 = .ok (.iload_n 1, 1) := by decide +kernel
theorem dX4_init_5 : decode cX4_init 5 = .ok (.ifCond .le 7, 3) := by decide +kernel
theorem dX4_init_8 : decode cX4_init 8 = .ok (.iload_n 1, 1) := by decide +kernel
theorem dX4_init_9 : decode cX4_init 9 = .ok (.goto 4, 3) := by decide +kernel
theorem dX4_init_12 : decode cX4_init 12 = .ok (.iconst 0, 1) := by decide +kernel
theorem dX4_init_13 : decode cX4_init 13 = .ok (.istore_n 2, 1) := by decide +kernel
theorem dX4_init_14 : decode cX4_init 14 = .ok (.aload_n 0, 1) := by decide +kernel
theorem dX4_init_15 : decode cX4_init 15 = .ok (.iload_n 2, 1) := by decide +kernel
theorem dX4_init_16 : decode cX4_init 16 = .ok (.anewarray 7, 3) := by decide +kernel
theorem dX4_init_19 : decode cX4_init 19 = .ok (.putfield 9, 3) := by decide +kernel
theorem dX4_init_22 : decode cX4_init 22 = .ok (.aload_n 0, 1) := by decide +kernel
theorem dX4_init_23 : decode cX4_init 23 = .ok (.iload_n 2, 1) := by decide +kernel
theorem dX4_init_24 : decode cX4_init 24 = .ok (.newarray .boolean, 2) := by decide +kernel
theorem dX4_init_26 : decode cX4_init 26 = .ok (.putfield 15, 3) := by decide +kernel
theorem dX4_init_29 : decode cX4_init 29 = .ok (.iconst 0, 1) := by decide +kernel
theorem dX4_init_30 : decode cX4_init 30 = .ok (.istore_n 3, 1) := by decide +kernel
theorem dX4_init_31 : decode cX4_init 31 = .ok (.iload_n 3, 1) := by decide +kernel
theorem dX4_init_32 : decode cX4_init 32 = .ok (.aload_n 0, 1) := by decide +kernel
theorem dX4_init_33 : decode cX4_init 33 = .ok (.getfield 9, 3) := by decide +kernel
theorem dX4_init_36 : decode cX4_init 36 = .ok (.arraylength, 1) := by decide +kernel
theorem dX4_init_37 : decode cX4_init 37 = .ok (.if_icmp .ge 22, 3) := by decide +kernel
theorem dX4_init_40 : decode cX4_init 40 = .ok (.aload_n 0, 1) := by decide +kernel
theorem dX4_init_41 : decode cX4_init 41 = .ok (.getfield 9, 3) := by decide +kernel
theorem dX4_init_44 : decode cX4_init 44 = .ok (.iload_n 3, 1) := by decide +kernel
theorem dX4_init_45 : decode cX4_init 45 = .ok (.new 7, 3) := by decide +kernel
theorem dX4_init_48 : decode cX4_init 48 = .ok (.dup, 1) := by decide +kernel
theorem dX4_init_49 : decode cX4_init 49 = .ok (.invokespecial 19, 3) := by decide +kernel
theorem dX4_init_52 : decode cX4_init 52 = .ok (.aastore, 1) := by decide +kernel
theorem dX4_init_53 : decode cX4_init 53 = .ok (.iinc 3 1, 3) := by decide +kernel
theorem dX4_init_56 : decode cX4_init 56 = .ok (.goto (-25), 3) := by decide +kernel
theorem dX4_init_59 : decode cX4_init 59 = .ok (.return_, 1) := by decide +kernel
theorem dX4_hasPlace_0 : decode cX4_hasPlace 0 = .ok (.iload_n 1, 1) := by decide +kernel
theorem dX4_hasPlace_1 : decode cX4_hasPlace 1 = .ok (.ifCond .lt 25, 3) := by decide +kernel
theorem dX4_hasPlace_4 : decode cX4_hasPlace 4 = .ok (.iload_n 1, 1) := by decide +kernel
theorem dX4_hasPlace_5 : decode cX4_hasPlace 5 = .ok (.aload_n 0, 1) := by decide +kernel
theorem dX4_hasPlace_6 : decode cX4_hasPlace 6 = .ok (.getfield 9, 3) := by decide +kernel
theorem dX4_hasPlace_9 : decode cX4_hasPlace 9 = .ok (.arraylength, 1) := by decide +kernel
theorem dX4_hasPlace_10 : decode cX4_hasPlace 10 = .ok (.if_icmp .ge 16, 3) := by decide +kernel
theorem dX4_hasPlace_13 : decode cX4_hasPlace 13 = .ok (.iload_n 1, 1) := by decide +kernel
theorem dX4_hasPlace_14 : decode cX4_hasPlace 14 = .ok (.aload_n 0, 1) := by decide +kernel
theorem dX4_hasPlace_15 : decode cX4_hasPlace 15 = .ok (.getfield 15, 3) := by decide +kernel
theorem dX4_hasPlace_18 : decode cX4_hasPlace 18 = .ok (.arraylength, 1) := by decide +kernel
theorem dX4_hasPlace_19 : decode cX4_hasPlace 19 = .ok (.if_icmp .ge 7, 3) := by decide +kernel
theorem dX4_hasPlace_22 : decode cX4_hasPlace 22 = .ok (.iconst 1, 1) := by decide +kernel
theorem dX4_hasPlace_23 : decode cX4_hasPlace 23 = .ok (.goto 4, 3) := by decide +kernel
theorem dX4_hasPlace_26 : decode cX4_hasPlace 26 = .ok (.iconst 0, 1) := by decide +kernel
theorem dX4_hasPlace_27 : decode cX4_hasPlace 27 = .ok (.ireturn, 1) := by decide +kernel
theorem dX4_isFull_0 : decode cX4_isFull 0 = .ok (.aload_n 0, 1) := by decide +kernel
theorem dX4_isFull_1 : decode cX4_isFull 1 = .ok (.iload_n 1, 1) := by decide +kernel
theorem dX4_isFull_2 : decode cX4_isFull 2 = .ok (.invokevirtual 20, 3) := by decide +kernel
theorem dX4_isFull_5 : decode cX4_isFull 5 = .ok (.ifCond .eq 16, 3) := by decide +kernel
theorem dX4_isFull_8 : decode cX4_isFull 8 = .ok (.aload_n 0, 1) := by decide +kernel
theorem dX4_isFull_9 : decode cX4_isFull 9 = .ok (.getfield 15, 3) := by decide +kernel
theorem dX4_isFull_12 : decode cX4_isFull 12 = .ok (.iload_n 1, 1) := by decide +kernel
theorem dX4_isFull_13 : decode cX4_isFull 13 = .ok (.baload, 1) := by decide +kernel
theorem dX4_isFull_14 : decode cX4_isFull 14 = .ok (.ifCond .eq 7, 3) := by decide +kernel
theorem dX4_isFull_17 : decode cX4_isFull 17 = .ok (.iconst 1, 1) := by decide +kernel
theorem dX4_isFull_18 : decode cX4_isFull 18 = .ok (.goto 4, 3) := by decide +kernel
theorem dX4_isFull_21 : decode cX4_isFull 21 = .ok (.iconst 0, 1) := by decide +kernel
theorem dX4_isFull_22 : decode cX4_isFull 22 = .ok (.ireturn, 1) := by decide +kernel
theorem dX4_keep_0 : decode cX4_keep 0 = .ok (.aload_n 0, 1) := by decide +kernel
theorem dX4_keep_1 : decode cX4_keep 1 = .ok (.iload_n 1, 1) := by decide +kernel
theorem dX4_keep_2 : decode cX4_keep 2 = .ok (.invokevirtual 20, 3) := by decide +kernel
theorem dX4_keep_5 : decode cX4_keep 5 = .ok (.ifCond .eq 33, 3) := by decide +kernel
theorem dX4_keep_8 : decode cX4_keep 8 = .ok (.aload_n 0, 1) := by decide +kernel
theorem dX4_keep_9 : decode cX4_keep 9 = .ok (.getfield 9, 3) := by decide +kernel
theorem dX4_keep_12 : decode cX4_keep 12 = .ok (.iload_n 1, 1) := by decide +kernel
theorem dX4_keep_13 : decode cX4_keep 13 = .ok (.aaload, 1) := by decide +kernel
theorem dX4_keep_14 : decode cX4_keep 14 = .ok (.ifnull 24, 3) := by decide +kernel
theorem dX4_keep_17 : decode cX4_keep 17 = .ok (.aload_n 2, 1) := by decide +kernel
theorem dX4_keep_18 : decode cX4_keep 18 = .ok (.ifnull 20, 3) := by decide +kernel
theorem dX4_keep_21 : decode cX4_keep 21 = .ok (.aload_n 0, 1) := by decide +kernel
theorem dX4_keep_22 : decode cX4_keep 22 = .ok (.getfield 9, 3) := by decide +kernel
theorem dX4_keep_25 : decode cX4_keep 25 = .ok (.iload_n 1, 1) := by decide +kernel
theorem dX4_keep_26 : decode cX4_keep 26 = .ok (.aaload, 1) := by decide +kernel
theorem dX4_keep_27 : decode cX4_keep 27 = .ok (.aload_n 2, 1) := by decide +kernel
theorem dX4_keep_28 : decode cX4_keep 28 = .ok (.invokevirtual 24, 3) := by decide +kernel
theorem dX4_keep_31 : decode cX4_keep 31 = .ok (.aload_n 0, 1) := by decide +kernel
theorem dX4_keep_32 : decode cX4_keep 32 = .ok (.getfield 15, 3) := by decide +kernel
theorem dX4_keep_35 : decode cX4_keep 35 = .ok (.iload_n 1, 1) := by decide +kernel
theorem dX4_keep_36 : decode cX4_keep 36 = .ok (.iconst 1, 1) := by decide +kernel
theorem dX4_keep_37 : decode cX4_keep 37 = .ok (.bastore, 1) := by decide +kernel
theorem dX4_keep_38 : decode cX4_keep 38 = .ok (.return_, 1) := by decide +kernel
theorem dX4_bring_0 : decode cX4_bring 0 = .ok (.aload_n 0, 1) := by decide +kernel
theorem dX4_bring_1 : decode cX4_bring 1 = .ok (.iload_n 1, 1) := by decide +kernel
theorem dX4_bring_2 : decode cX4_bring 2 = .ok (.invokevirtual 20, 3) := by decide +kernel
theorem dX4_bring_5 : decode cX4_bring 5 = .ok (.ifCond .eq 26, 3) := by decide +kernel
theorem dX4_bring_8 : decode cX4_bring 8 = .ok (.aload_n 0, 1) := by decide +kernel
theorem dX4_bring_9 : decode cX4_bring 9 = .ok (.getfield 9, 3) := by decide +kernel
theorem dX4_bring_12 : decode cX4_bring 12 = .ok (.iload_n 1, 1) := by decide +kernel
theorem dX4_bring_13 : decode cX4_bring 13 = .ok (.aaload, 1) := by decide +kernel
theorem dX4_bring_14 : decode cX4_bring 14 = .ok (.ifnull 17, 3) := by decide +kernel
theorem dX4_bring_17 : decode cX4_bring 17 = .ok (.aload_n 2, 1) := by decide +kernel
theorem dX4_bring_18 : decode cX4_bring 18 = .ok (.ifnull 13, 3) := by decide +kernel
theorem dX4_bring_21 : decode cX4_bring 21 = .ok (.aload_n 2, 1) := by decide +kernel
theorem dX4_bring_22 : decode cX4_bring 22 = .ok (.aload_n 0, 1) := by decide +kernel
theorem dX4_bring_23 : decode cX4_bring 23 = .ok (.getfield 9, 3) := by decide +kernel
theorem dX4_bring_26 : decode cX4_bring 26 = .ok (.iload_n 1, 1) := by decide +kernel
theorem dX4_bring_27 : decode cX4_bring 27 = .ok (.aaload, 1) := by decide +kernel
theorem dX4_bring_28 : decode cX4_bring 28 = .ok (.invokevirtual 24, 3) := by decide +kernel
theorem dX4_bring_31 : decode cX4_bring 31 = .ok (.return_, 1) := by decide +kernel
theorem dX5_cutTo_0 : decode cX5_cutTo 0 = .ok (.iload_n 1, 1) := by decide +kernel
theorem dX5_cutTo_1 : decode cX5_cutTo 1 = .ok (.iload_n 0, 1) := by decide +kernel
theorem dX5_cutTo_2 : decode cX5_cutTo 2 = .ok (.if_icmp .ge 11, 3) := by decide +kernel
theorem dX5_cutTo_5 : decode cX5_cutTo 5 = .ok (.iload_n 1, 1) := by decide +kernel
theorem dX5_cutTo_6 : decode cX5_cutTo 6 = .ok (.iload_n 0, 1) := by decide +kernel
theorem dX5_cutTo_7 : decode cX5_cutTo 7 = .ok (.isub, 1) := by decide +kernel
theorem dX5_cutTo_8 : decode cX5_cutTo 8 = .ok (.iload_n 2, 1) := by decide +kernel
theorem dX5_cutTo_9 : decode cX5_cutTo 9 = .ok (.iadd, 1) := by decide +kernel
theorem dX5_cutTo_10 : decode cX5_cutTo 10 = .ok (.goto 6, 3) := by decide +kernel
theorem dX5_cutTo_13 : decode cX5_cutTo 13 = .ok (.iload_n 1, 1) := by decide +kernel
theorem dX5_cutTo_14 : decode cX5_cutTo 14 = .ok (.iload_n 0, 1) := by decide +kernel
theorem dX5_cutTo_15 : decode cX5_cutTo 15 = .ok (.isub, 1) := by decide +kernel
theorem dX5_cutTo_16 : decode cX5_cutTo 16 = .ok (.ireturn, 1) := by decide +kernel
theorem dX5_riffleTo_0 : decode cX5_riffleTo 0 = .ok (.iload_n 0, 1) := by decide +kernel
theorem dX5_riffleTo_1 : decode cX5_riffleTo 1 = .ok (.ifCond .eq 9, 3) := by decide +kernel
theorem dX5_riffleTo_4 : decode cX5_riffleTo 4 = .ok (.iload_n 2, 1) := by decide +kernel
theorem dX5_riffleTo_5 : decode cX5_riffleTo 5 = .ok (.iconst 2, 1) := by decide +kernel
theorem dX5_riffleTo_6 : decode cX5_riffleTo 6 = .ok (.idiv, 1) := by decide +kernel
theorem dX5_riffleTo_7 : decode cX5_riffleTo 7 = .ok (.goto 8, 3) := by decide +kernel
theorem dX5_riffleTo_10 : decode cX5_riffleTo 10 = .ok (.iload_n 2, 1) := by decide +kernel
theorem dX5_riffleTo_11 : decode cX5_riffleTo 11 = .ok (.iconst 1, 1) := by decide +kernel
theorem dX5_riffleTo_12 : decode cX5_riffleTo 12 = .ok (.iadd, 1) := by decide +kernel
theorem dX5_riffleTo_13 : decode cX5_riffleTo 13 = .ok (.iconst 2, 1) := by decide +kernel
theorem dX5_riffleTo_14 : decode cX5_riffleTo 14 = .ok (.idiv, 1) := by decide +kernel
theorem dX5_riffleTo_15 : decode cX5_riffleTo 15 = .ok (.istore_n 3, 1) := by decide +kernel
theorem dX5_riffleTo_16 : decode cX5_riffleTo 16 = .ok (.iload_n 0, 1) := by decide +kernel
theorem dX5_riffleTo_17 : decode cX5_riffleTo 17 = .ok (.ifCond .eq 7, 3) := by decide +kernel
theorem dX5_riffleTo_20 : decode cX5_riffleTo 20 = .ok (.iconst 1, 1) := by decide +kernel
theorem dX5_riffleTo_21 : decode cX5_riffleTo 21 = .ok (.goto 4, 3) := by decide +kernel
theorem dX5_riffleTo_24 : decode cX5_riffleTo 24 = .ok (.iconst 0, 1) := by decide +kernel
theorem dX5_riffleTo_25 : decode cX5_riffleTo 25 = .ok (.istore 4, 2) := by decide +kernel
theorem dX5_riffleTo_27 : decode cX5_riffleTo 27 = .ok (.iload_n 1, 1) := by decide +kernel
theorem dX5_riffleTo_28 : decode cX5_riffleTo 28 = .ok (.iload_n 3, 1) := by decide +kernel
theorem dX5_riffleTo_29 : decode cX5_riffleTo 29 = .ok (.if_icmp .ge 12, 3) := by decide +kernel
theorem dX5_riffleTo_32 : decode cX5_riffleTo 32 = .ok (.iconst 2, 1) := by decide +kernel
theorem dX5_riffleTo_33 : decode cX5_riffleTo 33 = .ok (.iload_n 1, 1) := by decide +kernel
theorem dX5_riffleTo_34 : decode cX5_riffleTo 34 = .ok (.imul, 1) := by decide +kernel
theorem dX5_riffleTo_35 : decode cX5_riffleTo 35 = .ok (.iload 4, 2) := by decide +kernel
theorem dX5_riffleTo_37 : decode cX5_riffleTo 37 = .ok (.iadd, 1) := by decide +kernel
theorem dX5_riffleTo_38 : decode cX5_riffleTo 38 = .ok (.goto 13, 3) := by decide +kernel
theorem dX5_riffleTo_41 : decode cX5_riffleTo 41 = .ok (.iconst 2, 1) := by decide +kernel
theorem dX5_riffleTo_42 : decode cX5_riffleTo 42 = .ok (.iload_n 1, 1) := by decide +kernel
theorem dX5_riffleTo_43 : decode cX5_riffleTo 43 = .ok (.iload_n 3, 1) := by decide +kernel
theorem dX5_riffleTo_44 : decode cX5_riffleTo 44 = .ok (.isub, 1) := by decide +kernel
theorem dX5_riffleTo_45 : decode cX5_riffleTo 45 = .ok (.imul, 1) := by decide +kernel
theorem dX5_riffleTo_46 : decode cX5_riffleTo 46 = .ok (.iconst 1, 1) := by decide +kernel
theorem dX5_riffleTo_47 : decode cX5_riffleTo 47 = .ok (.iadd, 1) := by decide +kernel
theorem dX5_riffleTo_48 : decode cX5_riffleTo 48 = .ok (.iload 4, 2) := by decide +kernel
theorem dX5_riffleTo_50 : decode cX5_riffleTo 50 = .ok (.isub, 1) := by decide +kernel
theorem dX5_riffleTo_51 : decode cX5_riffleTo 51 = .ok (.ireturn, 1) := by decide +kernel
theorem dX5_stepTo_0 : decode cX5_stepTo 0 = .ok (.iload_n 0, 1) := by decide +kernel
theorem dX5_stepTo_1 : decode cX5_stepTo 1 = .ok (.tableswitch 48 0 2 #[27, 34, 41], 27) := by decide +kernel
theorem dX5_stepTo_28 : decode cX5_stepTo 28 = .ok (.iconst 1, 1) := by decide +kernel
theorem dX5_stepTo_29 : decode cX5_stepTo 29 = .ok (.iload_n 1, 1) := by decide +kernel
theorem dX5_stepTo_30 : decode cX5_stepTo 30 = .ok (.iload_n 2, 1) := by decide +kernel
theorem dX5_stepTo_31 : decode cX5_stepTo 31 = .ok (.invokestatic 7, 3) := by decide +kernel
theorem dX5_stepTo_34 : decode cX5_stepTo 34 = .ok (.ireturn, 1) := by decide +kernel
theorem dX5_stepTo_35 : decode cX5_stepTo 35 = .ok (.iconst 0, 1) := by decide +kernel
theorem dX5_stepTo_36 : decode cX5_stepTo 36 = .ok (.iload_n 1, 1) := by decide +kernel
theorem dX5_stepTo_37 : decode cX5_stepTo 37 = .ok (.iload_n 2, 1) := by decide +kernel
theorem dX5_stepTo_38 : decode cX5_stepTo 38 = .ok (.invokestatic 13, 3) := by decide +kernel
theorem dX5_stepTo_41 : decode cX5_stepTo 41 = .ok (.ireturn, 1) := by decide +kernel
theorem dX5_stepTo_42 : decode cX5_stepTo 42 = .ok (.iconst 1, 1) := by decide +kernel
theorem dX5_stepTo_43 : decode cX5_stepTo 43 = .ok (.iload_n 1, 1) := by decide +kernel
theorem dX5_stepTo_44 : decode cX5_stepTo 44 = .ok (.iload_n 2, 1) := by decide +kernel
theorem dX5_stepTo_45 : decode cX5_stepTo 45 = .ok (.invokestatic 13, 3) := by decide +kernel
theorem dX5_stepTo_48 : decode cX5_stepTo 48 = .ok (.ireturn, 1) := by decide +kernel
theorem dX5_stepTo_49 : decode cX5_stepTo 49 = .ok (.iload_n 2, 1) := by decide +kernel
theorem dX5_stepTo_50 : decode cX5_stepTo 50 = .ok (.iconst 1, 1) := by decide +kernel
theorem dX5_stepTo_51 : decode cX5_stepTo 51 = .ok (.isub, 1) := by decide +kernel
theorem dX5_stepTo_52 : decode cX5_stepTo 52 = .ok (.iload_n 1, 1) := by decide +kernel
theorem dX5_stepTo_53 : decode cX5_stepTo 53 = .ok (.isub, 1) := by decide +kernel
theorem dX5_stepTo_54 : decode cX5_stepTo 54 = .ok (.ireturn, 1) := by decide +kernel
theorem dX5_cutBy_0 : decode cX5_cutBy 0 = .ok (.ldc2_w 19, 3) := by decide +kernel
theorem dX5_cutBy_3 : decode cX5_cutBy 3 = .ok (.lstore_n 2, 1) := by decide +kernel
theorem dX5_cutBy_4 : decode cX5_cutBy 4 = .ok (.iconst 0, 1) := by decide +kernel
theorem dX5_cutBy_5 : decode cX5_cutBy 5 = .ok (.istore 4, 2) := by decide +kernel
theorem dX5_cutBy_7 : decode cX5_cutBy 7 = .ok (.iload 4, 2) := by decide +kernel
theorem dX5_cutBy_9 : decode cX5_cutBy 9 = .ok (.iload_n 1, 1) := by decide +kernel
theorem dX5_cutBy_10 : decode cX5_cutBy 10 = .ok (.if_icmp .ge 23, 3) := by decide +kernel
theorem dX5_cutBy_13 : decode cX5_cutBy 13 = .ok (.lload_n 2, 1) := by decide +kernel
theorem dX5_cutBy_14 : decode cX5_cutBy 14 = .ok (.iload 4, 2) := by decide +kernel
theorem dX5_cutBy_16 : decode cX5_cutBy 16 = .ok (.iload_n 0, 1) := by decide +kernel
theorem dX5_cutBy_17 : decode cX5_cutBy 17 = .ok (.iload 4, 2) := by decide +kernel
theorem dX5_cutBy_19 : decode cX5_cutBy 19 = .ok (.iload_n 1, 1) := by decide +kernel
theorem dX5_cutBy_20 : decode cX5_cutBy 20 = .ok (.invokestatic 7, 3) := by decide +kernel
theorem dX5_cutBy_23 : decode cX5_cutBy 23 = .ok (.invokestatic 21, 3) := by decide +kernel
theorem dX5_cutBy_26 : decode cX5_cutBy 26 = .ok (.lstore_n 2, 1) := by decide +kernel
theorem dX5_cutBy_27 : decode cX5_cutBy 27 = .ok (.iinc 4 1, 3) := by decide +kernel
theorem dX5_cutBy_30 : decode cX5_cutBy 30 = .ok (.goto (-23), 3) := by decide +kernel
theorem dX5_cutBy_33 : decode cX5_cutBy 33 = .ok (.lload_n 2, 1) := by decide +kernel
theorem dX5_cutBy_34 : decode cX5_cutBy 34 = .ok (.lreturn, 1) := by decide +kernel
theorem dX5_stepBy_0 : decode cX5_stepBy 0 = .ok (.ldc2_w 19, 3) := by decide +kernel
theorem dX5_stepBy_3 : decode cX5_stepBy 3 = .ok (.lstore_n 2, 1) := by decide +kernel
theorem dX5_stepBy_4 : decode cX5_stepBy 4 = .ok (.iconst 0, 1) := by decide +kernel
theorem dX5_stepBy_5 : decode cX5_stepBy 5 = .ok (.istore 4, 2) := by decide +kernel
theorem dX5_stepBy_7 : decode cX5_stepBy 7 = .ok (.iload 4, 2) := by decide +kernel
theorem dX5_stepBy_9 : decode cX5_stepBy 9 = .ok (.iload_n 1, 1) := by decide +kernel
theorem dX5_stepBy_10 : decode cX5_stepBy 10 = .ok (.if_icmp .ge 23, 3) := by decide +kernel
theorem dX5_stepBy_13 : decode cX5_stepBy 13 = .ok (.lload_n 2, 1) := by decide +kernel
theorem dX5_stepBy_14 : decode cX5_stepBy 14 = .ok (.iload 4, 2) := by decide +kernel
theorem dX5_stepBy_16 : decode cX5_stepBy 16 = .ok (.iload_n 0, 1) := by decide +kernel
theorem dX5_stepBy_17 : decode cX5_stepBy 17 = .ok (.iload 4, 2) := by decide +kernel
theorem dX5_stepBy_19 : decode cX5_stepBy 19 = .ok (.iload_n 1, 1) := by decide +kernel
theorem dX5_stepBy_20 : decode cX5_stepBy 20 = .ok (.invokestatic 25, 3) := by decide +kernel
theorem dX5_stepBy_23 : decode cX5_stepBy 23 = .ok (.invokestatic 21, 3) := by decide +kernel
theorem dX5_stepBy_26 : decode cX5_stepBy 26 = .ok (.lstore_n 2, 1) := by decide +kernel
theorem dX5_stepBy_27 : decode cX5_stepBy 27 = .ok (.iinc 4 1, 3) := by decide +kernel
theorem dX5_stepBy_30 : decode cX5_stepBy 30 = .ok (.goto (-23), 3) := by decide +kernel
theorem dX5_stepBy_33 : decode cX5_stepBy 33 = .ok (.lload_n 2, 1) := by decide +kernel
theorem dX5_stepBy_34 : decode cX5_stepBy 34 = .ok (.lreturn, 1) := by decide +kernel
theorem dX5_becomesBy_0 : decode cX5_becomesBy 0 = .ok (.ldc2_w 19, 3) := by decide +kernel
theorem dX5_becomesBy_3 : decode cX5_becomesBy 3 = .ok (.lstore 4, 2) := by decide +kernel
theorem dX5_becomesBy_5 : decode cX5_becomesBy 5 = .ok (.iconst 0, 1) := by decide +kernel
theorem dX5_becomesBy_6 : decode cX5_becomesBy 6 = .ok (.istore 6, 2) := by decide +kernel
theorem dX5_becomesBy_8 : decode cX5_becomesBy 8 = .ok (.iload 6, 2) := by decide +kernel
theorem dX5_becomesBy_10 : decode cX5_becomesBy 10 = .ok (.iload_n 3, 1) := by decide +kernel
theorem dX5_becomesBy_11 : decode cX5_becomesBy 11 = .ok (.if_icmp .ge 34, 3) := by decide +kernel
theorem dX5_becomesBy_14 : decode cX5_becomesBy 14 = .ok (.lload 4, 2) := by decide +kernel
theorem dX5_becomesBy_16 : decode cX5_becomesBy 16 = .ok (.iload_n 2, 1) := by decide +kernel
theorem dX5_becomesBy_17 : decode cX5_becomesBy 17 = .ok (.iload 6, 2) := by decide +kernel
theorem dX5_becomesBy_19 : decode cX5_becomesBy 19 = .ok (.iload_n 3, 1) := by decide +kernel
theorem dX5_becomesBy_20 : decode cX5_becomesBy 20 = .ok (.invokestatic 7, 3) := by decide +kernel
theorem dX5_becomesBy_23 : decode cX5_becomesBy 23 = .ok (.iload_n 2, 1) := by decide +kernel
theorem dX5_becomesBy_24 : decode cX5_becomesBy 24 = .ok (.lload_n 0, 1) := by decide +kernel
theorem dX5_becomesBy_25 : decode cX5_becomesBy 25 = .ok (.iload 6, 2) := by decide +kernel
theorem dX5_becomesBy_27 : decode cX5_becomesBy 27 = .ok (.invokestatic 28, 3) := by decide +kernel
theorem dX5_becomesBy_30 : decode cX5_becomesBy 30 = .ok (.iload_n 3, 1) := by decide +kernel
theorem dX5_becomesBy_31 : decode cX5_becomesBy 31 = .ok (.invokestatic 7, 3) := by decide +kernel
theorem dX5_becomesBy_34 : decode cX5_becomesBy 34 = .ok (.invokestatic 21, 3) := by decide +kernel
theorem dX5_becomesBy_37 : decode cX5_becomesBy 37 = .ok (.lstore 4, 2) := by decide +kernel
theorem dX5_becomesBy_39 : decode cX5_becomesBy 39 = .ok (.iinc 6 1, 3) := by decide +kernel
theorem dX5_becomesBy_42 : decode cX5_becomesBy 42 = .ok (.goto (-34), 3) := by decide +kernel
theorem dX5_becomesBy_45 : decode cX5_becomesBy 45 = .ok (.lload 4, 2) := by decide +kernel
theorem dX5_becomesBy_47 : decode cX5_becomesBy 47 = .ok (.lreturn, 1) := by decide +kernel
theorem dX6_init_0 : decode cX6_init 0 = .ok (.aload_n 0, 1) := by decide +kernel
theorem dX6_init_1 : decode cX6_init 1 = .ok (.invokespecial 3, 3) := by decide +kernel
theorem dX6_init_4 : decode cX6_init 4 = .ok (.aload_n 0, 1) := by decide +kernel
theorem dX6_init_5 : decode cX6_init 5 = .ok (.bipush 8, 2) := by decide +kernel
theorem dX6_init_7 : decode cX6_init 7 = .ok (.putfield 9, 3) := by decide +kernel
theorem dX6_init_10 : decode cX6_init 10 = .ok (.aload_n 0, 1) := by decide +kernel
theorem dX6_init_11 : decode cX6_init 11 = .ok (.ldc2_w 17, 3) := by decide +kernel
theorem dX6_init_14 : decode cX6_init 14 = .ok (.putfield 19, 3) := by decide +kernel
theorem dX6_init_17 : decode cX6_init 17 = .ok (.aload_n 0, 1) := by decide +kernel
theorem dX6_init_18 : decode cX6_init 18 = .ok (.ldc2_w 17, 3) := by decide +kernel
theorem dX6_init_21 : decode cX6_init 21 = .ok (.putfield 23, 3) := by decide +kernel
theorem dX6_init_24 : decode cX6_init 24 = .ok (.aload_n 0, 1) := by decide +kernel
theorem dX6_init_25 : decode cX6_init 25 = .ok (.iconst 0, 1) := by decide +kernel
theorem dX6_init_26 : decode cX6_init 26 = .ok (.putfield 26, 3) := by decide +kernel
theorem dX6_init_29 : decode cX6_init 29 = .ok (.aload_n 0, 1) := by decide +kernel
theorem dX6_init_30 : decode cX6_init 30 = .ok (.bipush 6, 2) := by decide +kernel
theorem dX6_init_32 : decode cX6_init 32 = .ok (.newarray .long, 2) := by decide +kernel
theorem dX6_init_34 : decode cX6_init 34 = .ok (.putfield 29, 3) := by decide +kernel
theorem dX6_init_37 : decode cX6_init 37 = .ok (.return_, 1) := by decide +kernel
theorem dX6_layInOrder_0 : decode cX6_layInOrder 0 = .ok (.aload_n 0, 1) := by decide +kernel
theorem dX6_layInOrder_1 : decode cX6_layInOrder 1 = .ok (.iload_n 1, 1) := by decide +kernel
theorem dX6_layInOrder_2 : decode cX6_layInOrder 2 = .ok (.putfield 9, 3) := by decide +kernel
theorem dX6_layInOrder_5 : decode cX6_layInOrder 5 = .ok (.aload_n 0, 1) := by decide +kernel
theorem dX6_layInOrder_6 : decode cX6_layInOrder 6 = .ok (.ldc2_w 17, 3) := by decide +kernel
theorem dX6_layInOrder_9 : decode cX6_layInOrder 9 = .ok (.putfield 19, 3) := by decide +kernel
theorem dX6_layInOrder_12 : decode cX6_layInOrder 12 = .ok (.aload_n 0, 1) := by decide +kernel
theorem dX6_layInOrder_13 : decode cX6_layInOrder 13 = .ok (.ldc2_w 17, 3) := by decide +kernel
theorem dX6_layInOrder_16 : decode cX6_layInOrder 16 = .ok (.putfield 23, 3) := by decide +kernel
theorem dX6_layInOrder_19 : decode cX6_layInOrder 19 = .ok (.aload_n 0, 1) := by decide +kernel
theorem dX6_layInOrder_20 : decode cX6_layInOrder 20 = .ok (.iconst 0, 1) := by decide +kernel
theorem dX6_layInOrder_21 : decode cX6_layInOrder 21 = .ok (.putfield 26, 3) := by decide +kernel
theorem dX6_layInOrder_24 : decode cX6_layInOrder 24 = .ok (.return_, 1) := by decide +kernel
theorem dX6_copyFrom_0 : decode cX6_copyFrom 0 = .ok (.aload_n 0, 1) := by decide +kernel
theorem dX6_copyFrom_1 : decode cX6_copyFrom 1 = .ok (.aload_n 1, 1) := by decide +kernel
theorem dX6_copyFrom_2 : decode cX6_copyFrom 2 = .ok (.getfield 9, 3) := by decide +kernel
theorem dX6_copyFrom_5 : decode cX6_copyFrom 5 = .ok (.putfield 9, 3) := by decide +kernel
theorem dX6_copyFrom_8 : decode cX6_copyFrom 8 = .ok (.aload_n 0, 1) := by decide +kernel
theorem dX6_copyFrom_9 : decode cX6_copyFrom 9 = .ok (.aload_n 1, 1) := by decide +kernel
theorem dX6_copyFrom_10 : decode cX6_copyFrom 10 = .ok (.getfield 19, 3) := by decide +kernel
theorem dX6_copyFrom_13 : decode cX6_copyFrom 13 = .ok (.putfield 19, 3) := by decide +kernel
theorem dX6_copyFrom_16 : decode cX6_copyFrom 16 = .ok (.aload_n 0, 1) := by decide +kernel
theorem dX6_copyFrom_17 : decode cX6_copyFrom 17 = .ok (.aload_n 1, 1) := by decide +kernel
theorem dX6_copyFrom_18 : decode cX6_copyFrom 18 = .ok (.getfield 23, 3) := by decide +kernel
theorem dX6_copyFrom_21 : decode cX6_copyFrom 21 = .ok (.putfield 23, 3) := by decide +kernel
theorem dX6_copyFrom_24 : decode cX6_copyFrom 24 = .ok (.aload_n 0, 1) := by decide +kernel
theorem dX6_copyFrom_25 : decode cX6_copyFrom 25 = .ok (.aload_n 1, 1) := by decide +kernel
theorem dX6_copyFrom_26 : decode cX6_copyFrom 26 = .ok (.getfield 26, 3) := by decide +kernel
theorem dX6_copyFrom_29 : decode cX6_copyFrom 29 = .ok (.putfield 26, 3) := by decide +kernel
theorem dX6_copyFrom_32 : decode cX6_copyFrom 32 = .ok (.iconst 0, 1) := by decide +kernel
theorem dX6_copyFrom_33 : decode cX6_copyFrom 33 = .ok (.istore_n 2, 1) := by decide +kernel
theorem dX6_copyFrom_34 : decode cX6_copyFrom 34 = .ok (.iload_n 2, 1) := by decide +kernel
theorem dX6_copyFrom_35 : decode cX6_copyFrom 35 = .ok (.aload_n 0, 1) := by decide +kernel
theorem dX6_copyFrom_36 : decode cX6_copyFrom 36 = .ok (.getfield 29, 3) := by decide +kernel
theorem dX6_copyFrom_39 : decode cX6_copyFrom 39 = .ok (.arraylength, 1) := by decide +kernel
theorem dX6_copyFrom_40 : decode cX6_copyFrom 40 = .ok (.if_icmp .ge 30, 3) := by decide +kernel
theorem dX6_copyFrom_43 : decode cX6_copyFrom 43 = .ok (.iload_n 2, 1) := by decide +kernel
theorem dX6_copyFrom_44 : decode cX6_copyFrom 44 = .ok (.aload_n 1, 1) := by decide +kernel
theorem dX6_copyFrom_45 : decode cX6_copyFrom 45 = .ok (.getfield 29, 3) := by decide +kernel
theorem dX6_copyFrom_48 : decode cX6_copyFrom 48 = .ok (.arraylength, 1) := by decide +kernel
theorem dX6_copyFrom_49 : decode cX6_copyFrom 49 = .ok (.if_icmp .ge 21, 3) := by decide +kernel
theorem dX6_copyFrom_52 : decode cX6_copyFrom 52 = .ok (.aload_n 0, 1) := by decide +kernel
theorem dX6_copyFrom_53 : decode cX6_copyFrom 53 = .ok (.getfield 29, 3) := by decide +kernel
theorem dX6_copyFrom_56 : decode cX6_copyFrom 56 = .ok (.iload_n 2, 1) := by decide +kernel
theorem dX6_copyFrom_57 : decode cX6_copyFrom 57 = .ok (.aload_n 1, 1) := by decide +kernel
theorem dX6_copyFrom_58 : decode cX6_copyFrom 58 = .ok (.getfield 29, 3) := by decide +kernel
theorem dX6_copyFrom_61 : decode cX6_copyFrom 61 = .ok (.iload_n 2, 1) := by decide +kernel
theorem dX6_copyFrom_62 : decode cX6_copyFrom 62 = .ok (.laload, 1) := by decide +kernel
theorem dX6_copyFrom_63 : decode cX6_copyFrom 63 = .ok (.lastore, 1) := by decide +kernel
theorem dX6_copyFrom_64 : decode cX6_copyFrom 64 = .ok (.iinc 2 1, 3) := by decide +kernel
theorem dX6_copyFrom_67 : decode cX6_copyFrom 67 = .ok (.goto (-33), 3) := by decide +kernel
theorem dX6_copyFrom_70 : decode cX6_copyFrom 70 = .ok (.return_, 1) := by decide +kernel
theorem dX6_hasPlace_0 : decode cX6_hasPlace 0 = .ok (.iload_n 1, 1) := by decide +kernel
theorem dX6_hasPlace_1 : decode cX6_hasPlace 1 = .ok (.ifCond .lt 15, 3) := by decide +kernel
theorem dX6_hasPlace_4 : decode cX6_hasPlace 4 = .ok (.iload_n 1, 1) := by decide +kernel
theorem dX6_hasPlace_5 : decode cX6_hasPlace 5 = .ok (.aload_n 0, 1) := by decide +kernel
theorem dX6_hasPlace_6 : decode cX6_hasPlace 6 = .ok (.getfield 9, 3) := by decide +kernel
theorem dX6_hasPlace_9 : decode cX6_hasPlace 9 = .ok (.if_icmp .ge 7, 3) := by decide +kernel
theorem dX6_hasPlace_12 : decode cX6_hasPlace 12 = .ok (.iconst 1, 1) := by decide +kernel
theorem dX6_hasPlace_13 : decode cX6_hasPlace 13 = .ok (.goto 4, 3) := by decide +kernel
theorem dX6_hasPlace_16 : decode cX6_hasPlace 16 = .ok (.iconst 0, 1) := by decide +kernel
theorem dX6_hasPlace_17 : decode cX6_hasPlace 17 = .ok (.ireturn, 1) := by decide +kernel
theorem dX6_hasMark_0 : decode cX6_hasMark 0 = .ok (.iload_n 1, 1) := by decide +kernel
theorem dX6_hasMark_1 : decode cX6_hasMark 1 = .ok (.ifCond .lt 15, 3) := by decide +kernel
theorem dX6_hasMark_4 : decode cX6_hasMark 4 = .ok (.iload_n 1, 1) := by decide +kernel
theorem dX6_hasMark_5 : decode cX6_hasMark 5 = .ok (.aload_n 0, 1) := by decide +kernel
theorem dX6_hasMark_6 : decode cX6_hasMark 6 = .ok (.getfield 26, 3) := by decide +kernel
theorem dX6_hasMark_9 : decode cX6_hasMark 9 = .ok (.if_icmp .ge 7, 3) := by decide +kernel
theorem dX6_hasMark_12 : decode cX6_hasMark 12 = .ok (.iconst 1, 1) := by decide +kernel
theorem dX6_hasMark_13 : decode cX6_hasMark 13 = .ok (.goto 4, 3) := by decide +kernel
theorem dX6_hasMark_16 : decode cX6_hasMark 16 = .ok (.iconst 0, 1) := by decide +kernel
theorem dX6_hasMark_17 : decode cX6_hasMark 17 = .ok (.ireturn, 1) := by decide +kernel
theorem dX6_movesOf_0 : decode cX6_movesOf 0 = .ok (.iload_n 1, 1) := by decide +kernel
theorem dX6_movesOf_1 : decode cX6_movesOf 1 = .ok (.ifCond .lt 21, 3) := by decide +kernel
theorem dX6_movesOf_4 : decode cX6_movesOf 4 = .ok (.iload_n 1, 1) := by decide +kernel
theorem dX6_movesOf_5 : decode cX6_movesOf 5 = .ok (.aload_n 0, 1) := by decide +kernel
theorem dX6_movesOf_6 : decode cX6_movesOf 6 = .ok (.getfield 29, 3) := by decide +kernel
theorem dX6_movesOf_9 : decode cX6_movesOf 9 = .ok (.arraylength, 1) := by decide +kernel
theorem dX6_movesOf_10 : decode cX6_movesOf 10 = .ok (.if_icmp .ge 12, 3) := by decide +kernel
theorem dX6_movesOf_13 : decode cX6_movesOf 13 = .ok (.aload_n 0, 1) := by decide +kernel
theorem dX6_movesOf_14 : decode cX6_movesOf 14 = .ok (.getfield 29, 3) := by decide +kernel
theorem dX6_movesOf_17 : decode cX6_movesOf 17 = .ok (.iload_n 1, 1) := by decide +kernel
theorem dX6_movesOf_18 : decode cX6_movesOf 18 = .ok (.laload, 1) := by decide +kernel
theorem dX6_movesOf_19 : decode cX6_movesOf 19 = .ok (.goto 6, 3) := by decide +kernel
theorem dX6_movesOf_22 : decode cX6_movesOf 22 = .ok (.ldc2_w 17, 3) := by decide +kernel
theorem dX6_movesOf_25 : decode cX6_movesOf 25 = .ok (.lreturn, 1) := by decide +kernel
theorem dX6_addMark_0 : decode cX6_addMark 0 = .ok (.aload_n 0, 1) := by decide +kernel
theorem dX6_addMark_1 : decode cX6_addMark 1 = .ok (.getfield 26, 3) := by decide +kernel
theorem dX6_addMark_4 : decode cX6_addMark 4 = .ok (.istore_n 3, 1) := by decide +kernel
theorem dX6_addMark_5 : decode cX6_addMark 5 = .ok (.iload_n 3, 1) := by decide +kernel
theorem dX6_addMark_6 : decode cX6_addMark 6 = .ok (.ifCond .lt 29, 3) := by decide +kernel
theorem dX6_addMark_9 : decode cX6_addMark 9 = .ok (.iload_n 3, 1) := by decide +kernel
theorem dX6_addMark_10 : decode cX6_addMark 10 = .ok (.aload_n 0, 1) := by decide +kernel
theorem dX6_addMark_11 : decode cX6_addMark 11 = .ok (.getfield 29, 3) := by decide +kernel
theorem dX6_addMark_14 : decode cX6_addMark 14 = .ok (.arraylength, 1) := by decide +kernel
theorem dX6_addMark_15 : decode cX6_addMark 15 = .ok (.if_icmp .ge 20, 3) := by decide +kernel
theorem dX6_addMark_18 : decode cX6_addMark 18 = .ok (.aload_n 0, 1) := by decide +kernel
theorem dX6_addMark_19 : decode cX6_addMark 19 = .ok (.getfield 29, 3) := by decide +kernel
theorem dX6_addMark_22 : decode cX6_addMark 22 = .ok (.iload_n 3, 1) := by decide +kernel
theorem dX6_addMark_23 : decode cX6_addMark 23 = .ok (.lload_n 1, 1) := by decide +kernel
theorem dX6_addMark_24 : decode cX6_addMark 24 = .ok (.lastore, 1) := by decide +kernel
theorem dX6_addMark_25 : decode cX6_addMark 25 = .ok (.aload_n 0, 1) := by decide +kernel
theorem dX6_addMark_26 : decode cX6_addMark 26 = .ok (.dup, 1) := by decide +kernel
theorem dX6_addMark_27 : decode cX6_addMark 27 = .ok (.getfield 26, 3) := by decide +kernel
theorem dX6_addMark_30 : decode cX6_addMark 30 = .ok (.iconst 1, 1) := by decide +kernel
theorem dX6_addMark_31 : decode cX6_addMark 31 = .ok (.iadd, 1) := by decide +kernel
theorem dX6_addMark_32 : decode cX6_addMark 32 = .ok (.putfield 26, 3) := by decide +kernel
theorem dX6_addMark_35 : decode cX6_addMark 35 = .ok (.iload_n 3, 1) := by decide +kernel
theorem dX6_addMark_36 : decode cX6_addMark 36 = .ok (.ireturn, 1) := by decide +kernel
theorem dX6_removeMark_0 : decode cX6_removeMark 0 = .ok (.iload_n 1, 1) := by decide +kernel
theorem dX6_removeMark_1 : decode cX6_removeMark 1 = .ok (.istore_n 2, 1) := by decide +kernel
theorem dX6_removeMark_2 : decode cX6_removeMark 2 = .ok (.iload_n 2, 1) := by decide +kernel
theorem dX6_removeMark_3 : decode cX6_removeMark 3 = .ok (.ifCond .lt 34, 3) := by decide +kernel
theorem dX6_removeMark_6 : decode cX6_removeMark 6 = .ok (.iload_n 2, 1) := by decide +kernel
theorem dX6_removeMark_7 : decode cX6_removeMark 7 = .ok (.iconst 1, 1) := by decide +kernel
theorem dX6_removeMark_8 : decode cX6_removeMark 8 = .ok (.iadd, 1) := by decide +kernel
theorem dX6_removeMark_9 : decode cX6_removeMark 9 = .ok (.aload_n 0, 1) := by decide +kernel
theorem dX6_removeMark_10 : decode cX6_removeMark 10 = .ok (.getfield 29, 3) := by decide +kernel
theorem dX6_removeMark_13 : decode cX6_removeMark 13 = .ok (.arraylength, 1) := by decide +kernel
theorem dX6_removeMark_14 : decode cX6_removeMark 14 = .ok (.if_icmp .ge 23, 3) := by decide +kernel
theorem dX6_removeMark_17 : decode cX6_removeMark 17 = .ok (.aload_n 0, 1) := by decide +kernel
theorem dX6_removeMark_18 : decode cX6_removeMark 18 = .ok (.getfield 29, 3) := by decide +kernel
theorem dX6_removeMark_21 : decode cX6_removeMark 21 = .ok (.iload_n 2, 1) := by decide +kernel
theorem dX6_removeMark_22 : decode cX6_removeMark 22 = .ok (.aload_n 0, 1) := by decide +kernel
theorem dX6_removeMark_23 : decode cX6_removeMark 23 = .ok (.getfield 29, 3) := by decide +kernel
theorem dX6_removeMark_26 : decode cX6_removeMark 26 = .ok (.iload_n 2, 1) := by decide +kernel
theorem dX6_removeMark_27 : decode cX6_removeMark 27 = .ok (.iconst 1, 1) := by decide +kernel
theorem dX6_removeMark_28 : decode cX6_removeMark 28 = .ok (.iadd, 1) := by decide +kernel
theorem dX6_removeMark_29 : decode cX6_removeMark 29 = .ok (.laload, 1) := by decide +kernel
theorem dX6_removeMark_30 : decode cX6_removeMark 30 = .ok (.lastore, 1) := by decide +kernel
theorem dX6_removeMark_31 : decode cX6_removeMark 31 = .ok (.iinc 2 1, 3) := by decide +kernel
theorem dX6_removeMark_34 : decode cX6_removeMark 34 = .ok (.goto (-32), 3) := by decide +kernel
theorem dX6_removeMark_37 : decode cX6_removeMark 37 = .ok (.aload_n 0, 1) := by decide +kernel
theorem dX6_removeMark_38 : decode cX6_removeMark 38 = .ok (.dup, 1) := by decide +kernel
theorem dX6_removeMark_39 : decode cX6_removeMark 39 = .ok (.getfield 26, 3) := by decide +kernel
theorem dX6_removeMark_42 : decode cX6_removeMark 42 = .ok (.iconst 1, 1) := by decide +kernel
theorem dX6_removeMark_43 : decode cX6_removeMark 43 = .ok (.isub, 1) := by decide +kernel
theorem dX6_removeMark_44 : decode cX6_removeMark 44 = .ok (.putfield 26, 3) := by decide +kernel
theorem dX6_removeMark_47 : decode cX6_removeMark 47 = .ok (.return_, 1) := by decide +kernel
theorem dX6_lowestMark_0 : decode cX6_lowestMark 0 = .ok (.iconst 0, 1) := by decide +kernel
theorem dX6_lowestMark_1 : decode cX6_lowestMark 1 = .ok (.istore_n 3, 1) := by decide +kernel
theorem dX6_lowestMark_2 : decode cX6_lowestMark 2 = .ok (.iload_n 3, 1) := by decide +kernel
theorem dX6_lowestMark_3 : decode cX6_lowestMark 3 = .ok (.aload_n 0, 1) := by decide +kernel
theorem dX6_lowestMark_4 : decode cX6_lowestMark 4 = .ok (.getfield 26, 3) := by decide +kernel
theorem dX6_lowestMark_7 : decode cX6_lowestMark 7 = .ok (.if_icmp .ge 31, 3) := by decide +kernel
theorem dX6_lowestMark_10 : decode cX6_lowestMark 10 = .ok (.iload_n 3, 1) := by decide +kernel
theorem dX6_lowestMark_11 : decode cX6_lowestMark 11 = .ok (.aload_n 0, 1) := by decide +kernel
theorem dX6_lowestMark_12 : decode cX6_lowestMark 12 = .ok (.getfield 29, 3) := by decide +kernel
theorem dX6_lowestMark_15 : decode cX6_lowestMark 15 = .ok (.arraylength, 1) := by decide +kernel
theorem dX6_lowestMark_16 : decode cX6_lowestMark 16 = .ok (.if_icmp .ge 22, 3) := by decide +kernel
theorem dX6_lowestMark_19 : decode cX6_lowestMark 19 = .ok (.aload_n 0, 1) := by decide +kernel
theorem dX6_lowestMark_20 : decode cX6_lowestMark 20 = .ok (.getfield 29, 3) := by decide +kernel
theorem dX6_lowestMark_23 : decode cX6_lowestMark 23 = .ok (.iload_n 3, 1) := by decide +kernel
theorem dX6_lowestMark_24 : decode cX6_lowestMark 24 = .ok (.laload, 1) := by decide +kernel
theorem dX6_lowestMark_25 : decode cX6_lowestMark 25 = .ok (.lload_n 1, 1) := by decide +kernel
theorem dX6_lowestMark_26 : decode cX6_lowestMark 26 = .ok (.lcmp, 1) := by decide +kernel
theorem dX6_lowestMark_27 : decode cX6_lowestMark 27 = .ok (.ifCond .ne 5, 3) := by decide +kernel
theorem dX6_lowestMark_30 : decode cX6_lowestMark 30 = .ok (.iload_n 3, 1) := by decide +kernel
theorem dX6_lowestMark_31 : decode cX6_lowestMark 31 = .ok (.ireturn, 1) := by decide +kernel
theorem dX6_lowestMark_32 : decode cX6_lowestMark 32 = .ok (.iinc 3 1, 3) := by decide +kernel
theorem dX6_lowestMark_35 : decode cX6_lowestMark 35 = .ok (.goto (-33), 3) := by decide +kernel
theorem dX6_lowestMark_38 : decode cX6_lowestMark 38 = .ok (.bipush (-6), 2) := by decide +kernel
theorem dX6_lowestMark_40 : decode cX6_lowestMark 40 = .ok (.ireturn, 1) := by decide +kernel
end
section
theorem dX7_init_0 : decode cX7_init 0 = .ok (.aload_n 0, 1) := by decide +kernel
theorem dX7_init_1 : decode cX7_init 1 = .ok (.invokespecial 1, 3) := by decide +kernel
theorem dX7_init_4 : decode cX7_init 4 = .ok (.aload_n 0, 1) := by decide +kernel
theorem dX7_init_5 : decode cX7_init 5 = .ok (.new 7, 3) := by decide +kernel
theorem dX7_init_8 : decode cX7_init 8 = .ok (.dup, 1) := by decide +kernel
theorem dX7_init_9 : decode cX7_init 9 = .ok (.invokespecial 9, 3) := by decide +kernel
theorem dX7_init_12 : decode cX7_init 12 = .ok (.putfield 10, 3) := by decide +kernel
theorem dX7_init_15 : decode cX7_init 15 = .ok (.aload_n 0, 1) := by decide +kernel
theorem dX7_init_16 : decode cX7_init 16 = .ok (.new 16, 3) := by decide +kernel
theorem dX7_init_19 : decode cX7_init 19 = .ok (.dup, 1) := by decide +kernel
theorem dX7_init_20 : decode cX7_init 20 = .ok (.bipush 6, 2) := by decide +kernel
theorem dX7_init_22 : decode cX7_init 22 = .ok (.invokespecial 18, 3) := by decide +kernel
theorem dX7_init_25 : decode cX7_init 25 = .ok (.putfield 21, 3) := by decide +kernel
theorem dX7_init_28 : decode cX7_init 28 = .ok (.aload_n 0, 1) := by decide +kernel
theorem dX7_init_29 : decode cX7_init 29 = .ok (.new 16, 3) := by decide +kernel
theorem dX7_init_32 : decode cX7_init 32 = .ok (.dup, 1) := by decide +kernel
theorem dX7_init_33 : decode cX7_init 33 = .ok (.iconst 2, 1) := by decide +kernel
theorem dX7_init_34 : decode cX7_init 34 = .ok (.invokespecial 18, 3) := by decide +kernel
theorem dX7_init_37 : decode cX7_init 37 = .ok (.putfield 25, 3) := by decide +kernel
theorem dX7_init_40 : decode cX7_init 40 = .ok (.aload_n 0, 1) := by decide +kernel
theorem dX7_init_41 : decode cX7_init 41 = .ok (.new 28, 3) := by decide +kernel
theorem dX7_init_44 : decode cX7_init 44 = .ok (.dup, 1) := by decide +kernel
theorem dX7_init_45 : decode cX7_init 45 = .ok (.invokespecial 30, 3) := by decide +kernel
theorem dX7_init_48 : decode cX7_init 48 = .ok (.putfield 31, 3) := by decide +kernel
theorem dX7_init_51 : decode cX7_init 51 = .ok (.aload_n 0, 1) := by decide +kernel
theorem dX7_init_52 : decode cX7_init 52 = .ok (.new 35, 3) := by decide +kernel
theorem dX7_init_55 : decode cX7_init 55 = .ok (.dup, 1) := by decide +kernel
theorem dX7_init_56 : decode cX7_init 56 = .ok (.invokespecial 37, 3) := by decide +kernel
theorem dX7_init_59 : decode cX7_init 59 = .ok (.putfield 38, 3) := by decide +kernel
theorem dX7_init_62 : decode cX7_init 62 = .ok (.aload_n 0, 1) := by decide +kernel
theorem dX7_init_63 : decode cX7_init 63 = .ok (.bipush 80, 2) := by decide +kernel
theorem dX7_init_65 : decode cX7_init 65 = .ok (.newarray .char, 2) := by decide +kernel
theorem dX7_init_67 : decode cX7_init 67 = .ok (.putfield 42, 3) := by decide +kernel
theorem dX7_init_70 : decode cX7_init 70 = .ok (.aload_n 0, 1) := by decide +kernel
theorem dX7_init_71 : decode cX7_init 71 = .ok (.iconst 0, 1) := by decide +kernel
theorem dX7_init_72 : decode cX7_init 72 = .ok (.putfield 46, 3) := by decide +kernel
theorem dX7_init_75 : decode cX7_init 75 = .ok (.aload_n 0, 1) := by decide +kernel
theorem dX7_init_76 : decode cX7_init 76 = .ok (.iconst 0, 1) := by decide +kernel
theorem dX7_init_77 : decode cX7_init 77 = .ok (.putfield 50, 3) := by decide +kernel
theorem dX7_init_80 : decode cX7_init 80 = .ok (.aload_n 0, 1) := by decide +kernel
theorem dX7_init_81 : decode cX7_init 81 = .ok (.iconst 0, 1) := by decide +kernel
theorem dX7_init_82 : decode cX7_init 82 = .ok (.putfield 53, 3) := by decide +kernel
theorem dX7_init_85 : decode cX7_init 85 = .ok (.return_, 1) := by decide +kernel
theorem dX7_set_0 : decode cX7_set 0 = .ok (.iload_n 1, 1) := by decide +kernel
theorem dX7_set_1 : decode cX7_set 1 = .ok (.iconst 2, 1) := by decide +kernel
theorem dX7_set_2 : decode cX7_set 2 = .ok (.if_icmp .lt 9, 3) := by decide +kernel
theorem dX7_set_5 : decode cX7_set 5 = .ok (.iload_n 1, 1) := by decide +kernel
theorem dX7_set_6 : decode cX7_set 6 = .ok (.bipush 16, 2) := by decide +kernel
theorem dX7_set_8 : decode cX7_set 8 = .ok (.if_icmp .le 6, 3) := by decide +kernel
theorem dX7_set_11 : decode cX7_set 11 = .ok (.bipush (-2), 2) := by decide +kernel
theorem dX7_set_13 : decode cX7_set 13 = .ok (.ireturn, 1) := by decide +kernel
theorem dX7_set_14 : decode cX7_set 14 = .ok (.aload_n 0, 1) := by decide +kernel
theorem dX7_set_15 : decode cX7_set 15 = .ok (.getfield 10, 3) := by decide +kernel
theorem dX7_set_18 : decode cX7_set 18 = .ok (.getfield 56, 3) := by decide +kernel
theorem dX7_set_21 : decode cX7_set 21 = .ok (.istore_n 2, 1) := by decide +kernel
theorem dX7_set_22 : decode cX7_set 22 = .ok (.aload_n 0, 1) := by decide +kernel
theorem dX7_set_23 : decode cX7_set 23 = .ok (.invokevirtual 59, 3) := by decide +kernel
theorem dX7_set_26 : decode cX7_set 26 = .ok (.aload_n 0, 1) := by decide +kernel
theorem dX7_set_27 : decode cX7_set 27 = .ok (.getfield 10, 3) := by decide +kernel
theorem dX7_set_30 : decode cX7_set 30 = .ok (.iload_n 1, 1) := by decide +kernel
theorem dX7_set_31 : decode cX7_set 31 = .ok (.invokevirtual 62, 3) := by decide +kernel
theorem dX7_set_34 : decode cX7_set 34 = .ok (.iload_n 2, 1) := by decide +kernel
theorem dX7_set_35 : decode cX7_set 35 = .ok (.ireturn, 1) := by decide +kernel
theorem dX7_mark_0 : decode cX7_mark 0 = .ok (.aload_n 0, 1) := by decide +kernel
theorem dX7_mark_1 : decode cX7_mark 1 = .ok (.invokevirtual 65, 3) := by decide +kernel
theorem dX7_mark_4 : decode cX7_mark 4 = .ok (.bipush (-6), 2) := by decide +kernel
theorem dX7_mark_6 : decode cX7_mark 6 = .ok (.if_icmp .eq 6, 3) := by decide +kernel
theorem dX7_mark_9 : decode cX7_mark 9 = .ok (.bipush (-3), 2) := by decide +kernel
theorem dX7_mark_11 : decode cX7_mark 11 = .ok (.ireturn, 1) := by decide +kernel
theorem dX7_mark_12 : decode cX7_mark 12 = .ok (.aload_n 0, 1) := by decide +kernel
theorem dX7_mark_13 : decode cX7_mark 13 = .ok (.aload_n 0, 1) := by decide +kernel
theorem dX7_mark_14 : decode cX7_mark 14 = .ok (.getfield 38, 3) := by decide +kernel
theorem dX7_mark_17 : decode cX7_mark 17 = .ok (.getfield 69, 3) := by decide +kernel
theorem dX7_mark_20 : decode cX7_mark 20 = .ok (.invokevirtual 73, 3) := by decide +kernel
theorem dX7_mark_23 : decode cX7_mark 23 = .ok (.istore_n 1, 1) := by decide +kernel
theorem dX7_mark_24 : decode cX7_mark 24 = .ok (.iload_n 1, 1) := by decide +kernel
theorem dX7_mark_25 : decode cX7_mark 25 = .ok (.bipush (-4), 2) := by decide +kernel
theorem dX7_mark_27 : decode cX7_mark 27 = .ok (.if_icmp .eq 8, 3) := by decide +kernel
theorem dX7_mark_30 : decode cX7_mark 30 = .ok (.aload_n 0, 1) := by decide +kernel
theorem dX7_mark_31 : decode cX7_mark 31 = .ok (.iconst 0, 1) := by decide +kernel
theorem dX7_mark_32 : decode cX7_mark 32 = .ok (.putfield 46, 3) := by decide +kernel
theorem dX7_mark_35 : decode cX7_mark 35 = .ok (.iload_n 1, 1) := by decide +kernel
theorem dX7_mark_36 : decode cX7_mark 36 = .ok (.ireturn, 1) := by decide +kernel
theorem dX7_product_0 : decode cX7_product 0 = .ok (.aload_n 0, 1) := by decide +kernel
theorem dX7_product_1 : decode cX7_product 1 = .ok (.getfield 10, 3) := by decide +kernel
theorem dX7_product_4 : decode cX7_product 4 = .ok (.iload_n 1, 1) := by decide +kernel
theorem dX7_product_5 : decode cX7_product 5 = .ok (.invokevirtual 77, 3) := by decide +kernel
theorem dX7_product_8 : decode cX7_product 8 = .ok (.ifCond .eq 14, 3) := by decide +kernel
theorem dX7_product_11 : decode cX7_product 11 = .ok (.aload_n 0, 1) := by decide +kernel
theorem dX7_product_12 : decode cX7_product 12 = .ok (.getfield 10, 3) := by decide +kernel
theorem dX7_product_15 : decode cX7_product 15 = .ok (.iload_n 2, 1) := by decide +kernel
theorem dX7_product_16 : decode cX7_product 16 = .ok (.invokevirtual 77, 3) := by decide +kernel
theorem dX7_product_19 : decode cX7_product 19 = .ok (.ifCond .ne 5, 3) := by decide +kernel
theorem dX7_product_22 : decode cX7_product 22 = .ok (.iconst (-1), 1) := by decide +kernel
theorem dX7_product_23 : decode cX7_product 23 = .ok (.ireturn, 1) := by decide +kernel
theorem dX7_product_24 : decode cX7_product 24 = .ok (.aload_n 0, 1) := by decide +kernel
theorem dX7_product_25 : decode cX7_product 25 = .ok (.aload_n 0, 1) := by decide +kernel
theorem dX7_product_26 : decode cX7_product 26 = .ok (.getfield 10, 3) := by decide +kernel
theorem dX7_product_29 : decode cX7_product 29 = .ok (.iload_n 1, 1) := by decide +kernel
theorem dX7_product_30 : decode cX7_product 30 = .ok (.invokevirtual 81, 3) := by decide +kernel
theorem dX7_product_33 : decode cX7_product 33 = .ok (.aload_n 0, 1) := by decide +kernel
theorem dX7_product_34 : decode cX7_product 34 = .ok (.getfield 10, 3) := by decide +kernel
theorem dX7_product_37 : decode cX7_product 37 = .ok (.iload_n 2, 1) := by decide +kernel
theorem dX7_product_38 : decode cX7_product 38 = .ok (.invokevirtual 81, 3) := by decide +kernel
theorem dX7_product_41 : decode cX7_product 41 = .ok (.invokestatic 85, 3) := by decide +kernel
theorem dX7_product_44 : decode cX7_product 44 = .ok (.invokevirtual 73, 3) := by decide +kernel
theorem dX7_product_47 : decode cX7_product 47 = .ok (.ireturn, 1) := by decide +kernel
theorem dX7_power_0 : decode cX7_power 0 = .ok (.aload_n 0, 1) := by decide +kernel
theorem dX7_power_1 : decode cX7_power 1 = .ok (.getfield 10, 3) := by decide +kernel
theorem dX7_power_4 : decode cX7_power 4 = .ok (.iload_n 1, 1) := by decide +kernel
theorem dX7_power_5 : decode cX7_power 5 = .ok (.invokevirtual 77, 3) := by decide +kernel
theorem dX7_power_8 : decode cX7_power 8 = .ok (.ifCond .ne 5, 3) := by decide +kernel
theorem dX7_power_11 : decode cX7_power 11 = .ok (.iconst (-1), 1) := by decide +kernel
theorem dX7_power_12 : decode cX7_power 12 = .ok (.ireturn, 1) := by decide +kernel
theorem dX7_power_13 : decode cX7_power 13 = .ok (.iload_n 2, 1) := by decide +kernel
theorem dX7_power_14 : decode cX7_power 14 = .ok (.invokestatic 91, 3) := by decide +kernel
theorem dX7_power_17 : decode cX7_power 17 = .ok (.ifCond .ne 6, 3) := by decide +kernel
theorem dX7_power_20 : decode cX7_power 20 = .ok (.bipush (-2), 2) := by decide +kernel
theorem dX7_power_22 : decode cX7_power 22 = .ok (.ireturn, 1) := by decide +kernel
theorem dX7_power_23 : decode cX7_power 23 = .ok (.aload_n 0, 1) := by decide +kernel
theorem dX7_power_24 : decode cX7_power 24 = .ok (.aload_n 0, 1) := by decide +kernel
theorem dX7_power_25 : decode cX7_power 25 = .ok (.getfield 10, 3) := by decide +kernel
theorem dX7_power_28 : decode cX7_power 28 = .ok (.iload_n 1, 1) := by decide +kernel
theorem dX7_power_29 : decode cX7_power 29 = .ok (.invokevirtual 81, 3) := by decide +kernel
theorem dX7_power_32 : decode cX7_power 32 = .ok (.iload_n 2, 1) := by decide +kernel
theorem dX7_power_33 : decode cX7_power 33 = .ok (.invokestatic 94, 3) := by decide +kernel
theorem dX7_power_36 : decode cX7_power 36 = .ok (.invokevirtual 73, 3) := by decide +kernel
theorem dX7_power_39 : decode cX7_power 39 = .ok (.ireturn, 1) := by decide +kernel
theorem dX7_trick_0 : decode cX7_trick 0 = .ok (.aload_n 0, 1) := by decide +kernel
theorem dX7_trick_1 : decode cX7_trick 1 = .ok (.aload_n 0, 1) := by decide +kernel
theorem dX7_trick_2 : decode cX7_trick 2 = .ok (.getfield 10, 3) := by decide +kernel
theorem dX7_trick_5 : decode cX7_trick 5 = .ok (.getfield 98, 3) := by decide +kernel
theorem dX7_trick_8 : decode cX7_trick 8 = .ok (.invokevirtual 73, 3) := by decide +kernel
theorem dX7_trick_11 : decode cX7_trick 11 = .ok (.ireturn, 1) := by decide +kernel
theorem dX7_drop_0 : decode cX7_drop 0 = .ok (.aload_n 0, 1) := by decide +kernel
theorem dX7_drop_1 : decode cX7_drop 1 = .ok (.getfield 10, 3) := by decide +kernel
theorem dX7_drop_4 : decode cX7_drop 4 = .ok (.iload_n 1, 1) := by decide +kernel
theorem dX7_drop_5 : decode cX7_drop 5 = .ok (.invokevirtual 77, 3) := by decide +kernel
theorem dX7_drop_8 : decode cX7_drop 8 = .ok (.ifCond .ne 5, 3) := by decide +kernel
theorem dX7_drop_11 : decode cX7_drop 11 = .ok (.iconst (-1), 1) := by decide +kernel
theorem dX7_drop_12 : decode cX7_drop 12 = .ok (.ireturn, 1) := by decide +kernel
theorem dX7_drop_13 : decode cX7_drop 13 = .ok (.aload_n 0, 1) := by decide +kernel
theorem dX7_drop_14 : decode cX7_drop 14 = .ok (.invokevirtual 59, 3) := by decide +kernel
theorem dX7_drop_17 : decode cX7_drop 17 = .ok (.aload_n 0, 1) := by decide +kernel
theorem dX7_drop_18 : decode cX7_drop 18 = .ok (.getfield 10, 3) := by decide +kernel
theorem dX7_drop_21 : decode cX7_drop 21 = .ok (.iload_n 1, 1) := by decide +kernel
theorem dX7_drop_22 : decode cX7_drop 22 = .ok (.invokevirtual 101, 3) := by decide +kernel
theorem dX7_drop_25 : decode cX7_drop 25 = .ok (.aload_n 0, 1) := by decide +kernel
theorem dX7_drop_26 : decode cX7_drop 26 = .ok (.getfield 10, 3) := by decide +kernel
theorem dX7_drop_29 : decode cX7_drop 29 = .ok (.getfield 104, 3) := by decide +kernel
theorem dX7_drop_32 : decode cX7_drop 32 = .ok (.ireturn, 1) := by decide +kernel
theorem dX7_play_0 : decode cX7_play 0 = .ok (.aload_n 0, 1) := by decide +kernel
theorem dX7_play_1 : decode cX7_play 1 = .ok (.getfield 10, 3) := by decide +kernel
theorem dX7_play_4 : decode cX7_play 4 = .ok (.iload_n 1, 1) := by decide +kernel
theorem dX7_play_5 : decode cX7_play 5 = .ok (.invokevirtual 77, 3) := by decide +kernel
theorem dX7_play_8 : decode cX7_play 8 = .ok (.ifCond .ne 5, 3) := by decide +kernel
theorem dX7_play_11 : decode cX7_play 11 = .ok (.iconst (-1), 1) := by decide +kernel
theorem dX7_play_12 : decode cX7_play 12 = .ok (.ireturn, 1) := by decide +kernel
theorem dX7_play_13 : decode cX7_play 13 = .ok (.aload_n 0, 1) := by decide +kernel
theorem dX7_play_14 : decode cX7_play 14 = .ok (.aload_n 0, 1) := by decide +kernel
theorem dX7_play_15 : decode cX7_play 15 = .ok (.getfield 10, 3) := by decide +kernel
theorem dX7_play_18 : decode cX7_play 18 = .ok (.iload_n 1, 1) := by decide +kernel
theorem dX7_play_19 : decode cX7_play 19 = .ok (.invokevirtual 81, 3) := by decide +kernel
theorem dX7_play_22 : decode cX7_play 22 = .ok (.invokevirtual 107, 3) := by decide +kernel
theorem dX7_play_25 : decode cX7_play 25 = .ok (.ireturn, 1) := by decide +kernel
theorem dX7_cut_0 : decode cX7_cut 0 = .ok (.aload_n 0, 1) := by decide +kernel
theorem dX7_cut_1 : decode cX7_cut 1 = .ok (.getfield 10, 3) := by decide +kernel
theorem dX7_cut_4 : decode cX7_cut 4 = .ok (.iload_n 1, 1) := by decide +kernel
theorem dX7_cut_5 : decode cX7_cut 5 = .ok (.invokevirtual 110, 3) := by decide +kernel
theorem dX7_cut_8 : decode cX7_cut 8 = .ok (.ifCond .ne 6, 3) := by decide +kernel
theorem dX7_cut_11 : decode cX7_cut 11 = .ok (.bipush (-2), 2) := by decide +kernel
theorem dX7_cut_13 : decode cX7_cut 13 = .ok (.ireturn, 1) := by decide +kernel
theorem dX7_cut_14 : decode cX7_cut 14 = .ok (.aload_n 0, 1) := by decide +kernel
theorem dX7_cut_15 : decode cX7_cut 15 = .ok (.iload_n 1, 1) := by decide +kernel
theorem dX7_cut_16 : decode cX7_cut 16 = .ok (.aload_n 0, 1) := by decide +kernel
theorem dX7_cut_17 : decode cX7_cut 17 = .ok (.getfield 10, 3) := by decide +kernel
theorem dX7_cut_20 : decode cX7_cut 20 = .ok (.getfield 56, 3) := by decide +kernel
theorem dX7_cut_23 : decode cX7_cut 23 = .ok (.invokestatic 113, 3) := by decide +kernel
theorem dX7_cut_26 : decode cX7_cut 26 = .ok (.invokevirtual 107, 3) := by decide +kernel
theorem dX7_cut_29 : decode cX7_cut 29 = .ok (.ireturn, 1) := by decide +kernel
theorem dX7_riffle_0 : decode cX7_riffle 0 = .ok (.iload_n 1, 1) := by decide +kernel
theorem dX7_riffle_1 : decode cX7_riffle 1 = .ok (.ifCond .eq 11, 3) := by decide +kernel
theorem dX7_riffle_4 : decode cX7_riffle 4 = .ok (.iload_n 1, 1) := by decide +kernel
theorem dX7_riffle_5 : decode cX7_riffle 5 = .ok (.iconst 1, 1) := by decide +kernel
theorem dX7_riffle_6 : decode cX7_riffle 6 = .ok (.if_icmp .eq 6, 3) := by decide +kernel
theorem dX7_riffle_9 : decode cX7_riffle 9 = .ok (.bipush (-2), 2) := by decide +kernel
theorem dX7_riffle_11 : decode cX7_riffle 11 = .ok (.ireturn, 1) := by decide +kernel
theorem dX7_riffle_12 : decode cX7_riffle 12 = .ok (.aload_n 0, 1) := by decide +kernel
theorem dX7_riffle_13 : decode cX7_riffle 13 = .ok (.iload_n 1, 1) := by decide +kernel
theorem dX7_riffle_14 : decode cX7_riffle 14 = .ok (.iconst 1, 1) := by decide +kernel
theorem dX7_riffle_15 : decode cX7_riffle 15 = .ok (.if_icmp .ne 7, 3) := by decide +kernel
theorem dX7_riffle_18 : decode cX7_riffle 18 = .ok (.iconst 2, 1) := by decide +kernel
theorem dX7_riffle_19 : decode cX7_riffle 19 = .ok (.goto 4, 3) := by decide +kernel
theorem dX7_riffle_22 : decode cX7_riffle 22 = .ok (.iconst 1, 1) := by decide +kernel
theorem dX7_riffle_23 : decode cX7_riffle 23 = .ok (.aload_n 0, 1) := by decide +kernel
theorem dX7_riffle_24 : decode cX7_riffle 24 = .ok (.getfield 10, 3) := by decide +kernel
theorem dX7_riffle_27 : decode cX7_riffle 27 = .ok (.getfield 56, 3) := by decide +kernel
theorem dX7_riffle_30 : decode cX7_riffle 30 = .ok (.invokestatic 119, 3) := by decide +kernel
theorem dX7_riffle_33 : decode cX7_riffle 33 = .ok (.invokevirtual 107, 3) := by decide +kernel
theorem dX7_riffle_36 : decode cX7_riffle 36 = .ok (.ireturn, 1) := by decide +kernel
theorem dX7_turn_0 : decode cX7_turn 0 = .ok (.aload_n 0, 1) := by decide +kernel
theorem dX7_turn_1 : decode cX7_turn 1 = .ok (.iconst 3, 1) := by decide +kernel
theorem dX7_turn_2 : decode cX7_turn 2 = .ok (.aload_n 0, 1) := by decide +kernel
theorem dX7_turn_3 : decode cX7_turn 3 = .ok (.getfield 10, 3) := by decide +kernel
theorem dX7_turn_6 : decode cX7_turn 6 = .ok (.getfield 56, 3) := by decide +kernel
theorem dX7_turn_9 : decode cX7_turn 9 = .ok (.invokestatic 119, 3) := by decide +kernel
theorem dX7_turn_12 : decode cX7_turn 12 = .ok (.invokevirtual 107, 3) := by decide +kernel
theorem dX7_turn_15 : decode cX7_turn 15 = .ok (.ireturn, 1) := by decide +kernel
theorem dX7_restart_0 : decode cX7_restart 0 = .ok (.aload_n 0, 1) := by decide +kernel
theorem dX7_restart_1 : decode cX7_restart 1 = .ok (.invokevirtual 122, 3) := by decide +kernel
theorem dX7_restart_4 : decode cX7_restart 4 = .ok (.istore_n 1, 1) := by decide +kernel
theorem dX7_restart_5 : decode cX7_restart 5 = .ok (.aload_n 0, 1) := by decide +kernel
theorem dX7_restart_6 : decode cX7_restart 6 = .ok (.invokevirtual 59, 3) := by decide +kernel
theorem dX7_restart_9 : decode cX7_restart 9 = .ok (.aload_n 0, 1) := by decide +kernel
theorem dX7_restart_10 : decode cX7_restart 10 = .ok (.getfield 10, 3) := by decide +kernel
theorem dX7_restart_13 : decode cX7_restart 13 = .ok (.ldc2_w 125, 3) := by decide +kernel
theorem dX7_restart_16 : decode cX7_restart 16 = .ok (.putfield 98, 3) := by decide +kernel
theorem dX7_restart_19 : decode cX7_restart 19 = .ok (.iload_n 1, 1) := by decide +kernel
theorem dX7_restart_20 : decode cX7_restart 20 = .ok (.ireturn, 1) := by decide +kernel
theorem dX7_at_0 : decode cX7_at 0 = .ok (.aload_n 0, 1) := by decide +kernel
theorem dX7_at_1 : decode cX7_at 1 = .ok (.getfield 10, 3) := by decide +kernel
theorem dX7_at_4 : decode cX7_at 4 = .ok (.iload_n 1, 1) := by decide +kernel
theorem dX7_at_5 : decode cX7_at 5 = .ok (.invokevirtual 110, 3) := by decide +kernel
theorem dX7_at_8 : decode cX7_at 8 = .ok (.ifCond .eq 17, 3) := by decide +kernel
theorem dX7_at_11 : decode cX7_at 11 = .ok (.aload_n 0, 1) := by decide +kernel
theorem dX7_at_12 : decode cX7_at 12 = .ok (.getfield 10, 3) := by decide +kernel
theorem dX7_at_15 : decode cX7_at 15 = .ok (.getfield 127, 3) := by decide +kernel
theorem dX7_at_18 : decode cX7_at 18 = .ok (.iload_n 1, 1) := by decide +kernel
theorem dX7_at_19 : decode cX7_at 19 = .ok (.invokestatic 130, 3) := by decide +kernel
theorem dX7_at_22 : decode cX7_at 22 = .ok (.goto 4, 3) := by decide +kernel
theorem dX7_at_25 : decode cX7_at 25 = .ok (.iconst (-1), 1) := by decide +kernel
theorem dX7_at_26 : decode cX7_at 26 = .ok (.ireturn, 1) := by decide +kernel
theorem dX7_where_0 : decode cX7_where 0 = .ok (.aload_n 0, 1) := by decide +kernel
theorem dX7_where_1 : decode cX7_where 1 = .ok (.getfield 10, 3) := by decide +kernel
theorem dX7_where_4 : decode cX7_where 4 = .ok (.iload_n 1, 1) := by decide +kernel
theorem dX7_where_5 : decode cX7_where 5 = .ok (.invokevirtual 110, 3) := by decide +kernel
theorem dX7_where_8 : decode cX7_where 8 = .ok (.ifCond .eq 17, 3) := by decide +kernel
theorem dX7_where_11 : decode cX7_where 11 = .ok (.aload_n 0, 1) := by decide +kernel
theorem dX7_where_12 : decode cX7_where 12 = .ok (.getfield 10, 3) := by decide +kernel
theorem dX7_where_15 : decode cX7_where 15 = .ok (.getfield 127, 3) := by decide +kernel
theorem dX7_where_18 : decode cX7_where 18 = .ok (.iload_n 1, 1) := by decide +kernel
theorem dX7_where_19 : decode cX7_where 19 = .ok (.invokestatic 134, 3) := by decide +kernel
theorem dX7_where_22 : decode cX7_where 22 = .ok (.goto 4, 3) := by decide +kernel
theorem dX7_where_25 : decode cX7_where 25 = .ok (.iconst (-1), 1) := by decide +kernel
theorem dX7_where_26 : decode cX7_where 26 = .ok (.ireturn, 1) := by decide +kernel
theorem dX7_of_0 : decode cX7_of 0 = .ok (.aload_n 0, 1) := by decide +kernel
theorem dX7_of_1 : decode cX7_of 1 = .ok (.iload_n 1, 1) := by decide +kernel
theorem dX7_of_2 : decode cX7_of 2 = .ok (.invokevirtual 137, 3) := by decide +kernel
theorem dX7_of_5 : decode cX7_of 5 = .ok (.ifCond .ne 5, 3) := by decide +kernel
theorem dX7_of_8 : decode cX7_of 8 = .ok (.iconst (-1), 1) := by decide +kernel
theorem dX7_of_9 : decode cX7_of 9 = .ok (.ireturn, 1) := by decide +kernel
theorem dX7_of_10 : decode cX7_of 10 = .ok (.aload_n 0, 1) := by decide +kernel
theorem dX7_of_11 : decode cX7_of 11 = .ok (.iload_n 1, 1) := by decide +kernel
theorem dX7_of_12 : decode cX7_of 12 = .ok (.invokevirtual 140, 3) := by decide +kernel
theorem dX7_of_15 : decode cX7_of 15 = .ok (.lstore_n 3, 1) := by decide +kernel
theorem dX7_of_16 : decode cX7_of 16 = .ok (.aload_n 0, 1) := by decide +kernel
theorem dX7_of_17 : decode cX7_of 17 = .ok (.getfield 31, 3) := by decide +kernel
theorem dX7_of_20 : decode cX7_of 20 = .ok (.lload_n 3, 1) := by decide +kernel
theorem dX7_of_21 : decode cX7_of 21 = .ok (.aload_n 0, 1) := by decide +kernel
theorem dX7_of_22 : decode cX7_of 22 = .ok (.getfield 10, 3) := by decide +kernel
theorem dX7_of_25 : decode cX7_of 25 = .ok (.getfield 56, 3) := by decide +kernel
theorem dX7_of_28 : decode cX7_of 28 = .ok (.invokevirtual 143, 3) := by decide +kernel
theorem dX7_of_31 : decode cX7_of 31 = .ok (.iload_n 2, 1) := by decide +kernel
theorem dX7_of_32 : decode cX7_of 32 = .ok (.tableswitch 124 0 6 #[44, 52, 60, 72, 80, 106, 112], 44) := by decide +kernel
theorem dX7_of_76 : decode cX7_of 76 = .ok (.aload_n 0, 1) := by decide +kernel
theorem dX7_of_77 : decode cX7_of 77 = .ok (.getfield 31, 3) := by decide +kernel
theorem dX7_of_80 : decode cX7_of 80 = .ok (.invokevirtual 147, 3) := by decide +kernel
theorem dX7_of_83 : decode cX7_of 83 = .ok (.ireturn, 1) := by decide +kernel
theorem dX7_of_84 : decode cX7_of 84 = .ok (.aload_n 0, 1) := by decide +kernel
theorem dX7_of_85 : decode cX7_of 85 = .ok (.getfield 31, 3) := by decide +kernel
theorem dX7_of_88 : decode cX7_of 88 = .ok (.invokevirtual 150, 3) := by decide +kernel
theorem dX7_of_91 : decode cX7_of 91 = .ok (.ireturn, 1) := by decide +kernel
theorem dX7_of_92 : decode cX7_of 92 = .ok (.lload_n 3, 1) := by decide +kernel
theorem dX7_of_93 : decode cX7_of 93 = .ok (.aload_n 0, 1) := by decide +kernel
theorem dX7_of_94 : decode cX7_of 94 = .ok (.getfield 10, 3) := by decide +kernel
theorem dX7_of_97 : decode cX7_of 97 = .ok (.getfield 56, 3) := by decide +kernel
theorem dX7_of_100 : decode cX7_of 100 = .ok (.invokestatic 153, 3) := by decide +kernel
theorem dX7_of_103 : decode cX7_of 103 = .ok (.ireturn, 1) := by decide +kernel
theorem dX7_of_104 : decode cX7_of 104 = .ok (.aload_n 0, 1) := by decide +kernel
theorem dX7_of_105 : decode cX7_of 105 = .ok (.getfield 31, 3) := by decide +kernel
theorem dX7_of_108 : decode cX7_of 108 = .ok (.invokevirtual 156, 3) := by decide +kernel
theorem dX7_of_111 : decode cX7_of 111 = .ok (.ireturn, 1) := by decide +kernel
theorem dX7_of_112 : decode cX7_of 112 = .ok (.aload_n 0, 1) := by decide +kernel
theorem dX7_of_113 : decode cX7_of 113 = .ok (.getfield 10, 3) := by decide +kernel
theorem dX7_of_116 : decode cX7_of 116 = .ok (.getfield 56, 3) := by decide +kernel
theorem dX7_of_119 : decode cX7_of 119 = .ok (.aload_n 0, 1) := by decide +kernel
theorem dX7_of_120 : decode cX7_of 120 = .ok (.getfield 31, 3) := by decide +kernel
theorem dX7_of_123 : decode cX7_of 123 = .ok (.invokevirtual 150, 3) := by decide +kernel
theorem dX7_of_126 : decode cX7_of 126 = .ok (.isub, 1) := by decide +kernel
theorem dX7_of_127 : decode cX7_of 127 = .ok (.iconst 2, 1) := by decide +kernel
theorem dX7_of_128 : decode cX7_of 128 = .ok (.irem, 1) := by decide +kernel
theorem dX7_of_129 : decode cX7_of 129 = .ok (.ifCond .ne 7, 3) := by decide +kernel
theorem dX7_of_132 : decode cX7_of 132 = .ok (.iconst 2, 1) := by decide +kernel
theorem dX7_of_133 : decode cX7_of 133 = .ok (.goto 4, 3) := by decide +kernel
theorem dX7_of_136 : decode cX7_of 136 = .ok (.iconst 0, 1) := by decide +kernel
theorem dX7_of_137 : decode cX7_of 137 = .ok (.ireturn, 1) := by decide +kernel
theorem dX7_of_138 : decode cX7_of 138 = .ok (.aload_n 0, 1) := by decide +kernel
theorem dX7_of_139 : decode cX7_of 139 = .ok (.lload_n 3, 1) := by decide +kernel
theorem dX7_of_140 : decode cX7_of 140 = .ok (.invokevirtual 159, 3) := by decide +kernel
theorem dX7_of_143 : decode cX7_of 143 = .ok (.ireturn, 1) := by decide +kernel
theorem dX7_of_144 : decode cX7_of 144 = .ok (.aload_n 0, 1) := by decide +kernel
theorem dX7_of_145 : decode cX7_of 145 = .ok (.getfield 10, 3) := by decide +kernel
theorem dX7_of_148 : decode cX7_of 148 = .ok (.lload_n 3, 1) := by decide +kernel
theorem dX7_of_149 : decode cX7_of 149 = .ok (.invokestatic 162, 3) := by decide +kernel
theorem dX7_of_152 : decode cX7_of 152 = .ok (.invokevirtual 166, 3) := by decide +kernel
theorem dX7_of_155 : decode cX7_of 155 = .ok (.ireturn, 1) := by decide +kernel
theorem dX7_of_156 : decode cX7_of 156 = .ok (.bipush (-2), 2) := by decide +kernel
theorem dX7_of_158 : decode cX7_of 158 = .ok (.ireturn, 1) := by decide +kernel
theorem dX7_image_0 : decode cX7_image 0 = .ok (.aload_n 0, 1) := by decide +kernel
theorem dX7_image_1 : decode cX7_image 1 = .ok (.iload_n 1, 1) := by decide +kernel
theorem dX7_image_2 : decode cX7_image 2 = .ok (.invokevirtual 137, 3) := by decide +kernel
theorem dX7_image_5 : decode cX7_image 5 = .ok (.ifCond .eq 14, 3) := by decide +kernel
theorem dX7_image_8 : decode cX7_image 8 = .ok (.aload_n 0, 1) := by decide +kernel
theorem dX7_image_9 : decode cX7_image 9 = .ok (.getfield 10, 3) := by decide +kernel
theorem dX7_image_12 : decode cX7_image 12 = .ok (.iload_n 3, 1) := by decide +kernel
theorem dX7_image_13 : decode cX7_image 13 = .ok (.invokevirtual 110, 3) := by decide +kernel
theorem dX7_image_16 : decode cX7_image 16 = .ok (.ifCond .ne 5, 3) := by decide +kernel
theorem dX7_image_19 : decode cX7_image 19 = .ok (.iconst (-1), 1) := by decide +kernel
theorem dX7_image_20 : decode cX7_image 20 = .ok (.ireturn, 1) := by decide +kernel
theorem dX7_image_21 : decode cX7_image 21 = .ok (.iload_n 2, 1) := by decide +kernel
theorem dX7_image_22 : decode cX7_image 22 = .ok (.invokestatic 91, 3) := by decide +kernel
theorem dX7_image_25 : decode cX7_image 25 = .ok (.ifCond .ne 6, 3) := by decide +kernel
theorem dX7_image_28 : decode cX7_image 28 = .ok (.bipush (-2), 2) := by decide +kernel
theorem dX7_image_30 : decode cX7_image 30 = .ok (.ireturn, 1) := by decide +kernel
theorem dX7_image_31 : decode cX7_image 31 = .ok (.aload_n 0, 1) := by decide +kernel
theorem dX7_image_32 : decode cX7_image 32 = .ok (.iload_n 1, 1) := by decide +kernel
theorem dX7_image_33 : decode cX7_image 33 = .ok (.invokevirtual 140, 3) := by decide +kernel
theorem dX7_image_36 : decode cX7_image 36 = .ok (.iload_n 2, 1) := by decide +kernel
theorem dX7_image_37 : decode cX7_image 37 = .ok (.iload_n 3, 1) := by decide +kernel
theorem dX7_image_38 : decode cX7_image 38 = .ok (.invokestatic 169, 3) := by decide +kernel
theorem dX7_image_41 : decode cX7_image 41 = .ok (.ireturn, 1) := by decide +kernel
theorem dX7_commuting_0 : decode cX7_commuting 0 = .ok (.aload_n 0, 1) := by decide +kernel
theorem dX7_commuting_1 : decode cX7_commuting 1 = .ok (.iload_n 1, 1) := by decide +kernel
theorem dX7_commuting_2 : decode cX7_commuting 2 = .ok (.invokevirtual 137, 3) := by decide +kernel
theorem dX7_commuting_5 : decode cX7_commuting 5 = .ok (.ifCond .ne 7, 3) := by decide +kernel
theorem dX7_commuting_8 : decode cX7_commuting 8 = .ok (.ldc2_w 173, 3) := by decide +kernel
theorem dX7_commuting_11 : decode cX7_commuting 11 = .ok (.lreturn, 1) := by decide +kernel
theorem dX7_commuting_12 : decode cX7_commuting 12 = .ok (.aload_n 0, 1) := by decide +kernel
theorem dX7_commuting_13 : decode cX7_commuting 13 = .ok (.getfield 31, 3) := by decide +kernel
theorem dX7_commuting_16 : decode cX7_commuting 16 = .ok (.aload_n 0, 1) := by decide +kernel
theorem dX7_commuting_17 : decode cX7_commuting 17 = .ok (.iload_n 1, 1) := by decide +kernel
theorem dX7_commuting_18 : decode cX7_commuting 18 = .ok (.invokevirtual 140, 3) := by decide +kernel
theorem dX7_commuting_21 : decode cX7_commuting 21 = .ok (.aload_n 0, 1) := by decide +kernel
theorem dX7_commuting_22 : decode cX7_commuting 22 = .ok (.getfield 10, 3) := by decide +kernel
theorem dX7_commuting_25 : decode cX7_commuting 25 = .ok (.getfield 56, 3) := by decide +kernel
theorem dX7_commuting_28 : decode cX7_commuting 28 = .ok (.invokevirtual 143, 3) := by decide +kernel
theorem dX7_commuting_31 : decode cX7_commuting 31 = .ok (.aload_n 0, 1) := by decide +kernel
theorem dX7_commuting_32 : decode cX7_commuting 32 = .ok (.getfield 31, 3) := by decide +kernel
theorem dX7_commuting_35 : decode cX7_commuting 35 = .ok (.invokevirtual 175, 3) := by decide +kernel
theorem dX7_commuting_38 : decode cX7_commuting 38 = .ok (.lreturn, 1) := by decide +kernel
theorem dX7_commute_0 : decode cX7_commute 0 = .ok (.aload_n 0, 1) := by decide +kernel
theorem dX7_commute_1 : decode cX7_commute 1 = .ok (.iload_n 1, 1) := by decide +kernel
theorem dX7_commute_2 : decode cX7_commute 2 = .ok (.invokevirtual 137, 3) := by decide +kernel
theorem dX7_commute_5 : decode cX7_commute 5 = .ok (.ifCond .eq 11, 3) := by decide +kernel
theorem dX7_commute_8 : decode cX7_commute 8 = .ok (.aload_n 0, 1) := by decide +kernel
theorem dX7_commute_9 : decode cX7_commute 9 = .ok (.iload_n 2, 1) := by decide +kernel
theorem dX7_commute_10 : decode cX7_commute 10 = .ok (.invokevirtual 137, 3) := by decide +kernel
theorem dX7_commute_13 : decode cX7_commute 13 = .ok (.ifCond .ne 5, 3) := by decide +kernel
theorem dX7_commute_16 : decode cX7_commute 16 = .ok (.iconst (-1), 1) := by decide +kernel
theorem dX7_commute_17 : decode cX7_commute 17 = .ok (.ireturn, 1) := by decide +kernel
theorem dX7_commute_18 : decode cX7_commute 18 = .ok (.aload_n 0, 1) := by decide +kernel
theorem dX7_commute_19 : decode cX7_commute 19 = .ok (.iload_n 1, 1) := by decide +kernel
theorem dX7_commute_20 : decode cX7_commute 20 = .ok (.invokevirtual 140, 3) := by decide +kernel
theorem dX7_commute_23 : decode cX7_commute 23 = .ok (.lstore_n 3, 1) := by decide +kernel
theorem dX7_commute_24 : decode cX7_commute 24 = .ok (.aload_n 0, 1) := by decide +kernel
theorem dX7_commute_25 : decode cX7_commute 25 = .ok (.iload_n 2, 1) := by decide +kernel
theorem dX7_commute_26 : decode cX7_commute 26 = .ok (.invokevirtual 140, 3) := by decide +kernel
theorem dX7_commute_29 : decode cX7_commute 29 = .ok (.lstore 5, 2) := by decide +kernel
theorem dX7_commute_31 : decode cX7_commute 31 = .ok (.lload_n 3, 1) := by decide +kernel
theorem dX7_commute_32 : decode cX7_commute 32 = .ok (.lload 5, 2) := by decide +kernel
theorem dX7_commute_34 : decode cX7_commute 34 = .ok (.invokestatic 85, 3) := by decide +kernel
theorem dX7_commute_37 : decode cX7_commute 37 = .ok (.lload 5, 2) := by decide +kernel
theorem dX7_commute_39 : decode cX7_commute 39 = .ok (.lload_n 3, 1) := by decide +kernel
theorem dX7_commute_40 : decode cX7_commute 40 = .ok (.invokestatic 85, 3) := by decide +kernel
theorem dX7_commute_43 : decode cX7_commute 43 = .ok (.lcmp, 1) := by decide +kernel
theorem dX7_commute_44 : decode cX7_commute 44 = .ok (.ifCond .ne 7, 3) := by decide +kernel
theorem dX7_commute_47 : decode cX7_commute 47 = .ok (.iconst 1, 1) := by decide +kernel
theorem dX7_commute_48 : decode cX7_commute 48 = .ok (.goto 4, 3) := by decide +kernel
theorem dX7_commute_51 : decode cX7_commute 51 = .ok (.iconst 0, 1) := by decide +kernel
theorem dX7_commute_52 : decode cX7_commute 52 = .ok (.ireturn, 1) := by decide +kernel
theorem dX7_count_0 : decode cX7_count 0 = .ok (.iload_n 1, 1) := by decide +kernel
theorem dX7_count_1 : decode cX7_count 1 = .ok (.tableswitch 112 0 6 #[43, 51, 59, 77, 97, 102, 107], 43) := by decide +kernel
theorem dX7_count_44 : decode cX7_count 44 = .ok (.aload_n 0, 1) := by decide +kernel
theorem dX7_count_45 : decode cX7_count 45 = .ok (.getfield 10, 3) := by decide +kernel
theorem dX7_count_48 : decode cX7_count 48 = .ok (.getfield 56, 3) := by decide +kernel
theorem dX7_count_51 : decode cX7_count 51 = .ok (.ireturn, 1) := by decide +kernel
theorem dX7_count_52 : decode cX7_count 52 = .ok (.aload_n 0, 1) := by decide +kernel
theorem dX7_count_53 : decode cX7_count 53 = .ok (.getfield 10, 3) := by decide +kernel
theorem dX7_count_56 : decode cX7_count 56 = .ok (.getfield 104, 3) := by decide +kernel
theorem dX7_count_59 : decode cX7_count 59 = .ok (.ireturn, 1) := by decide +kernel
theorem dX7_count_60 : decode cX7_count 60 = .ok (.aload_n 0, 1) := by decide +kernel
theorem dX7_count_61 : decode cX7_count 61 = .ok (.getfield 10, 3) := by decide +kernel
theorem dX7_count_64 : decode cX7_count 64 = .ok (.getfield 127, 3) := by decide +kernel
theorem dX7_count_67 : decode cX7_count 67 = .ok (.aload_n 0, 1) := by decide +kernel
theorem dX7_count_68 : decode cX7_count 68 = .ok (.getfield 10, 3) := by decide +kernel
theorem dX7_count_71 : decode cX7_count 71 = .ok (.getfield 56, 3) := by decide +kernel
theorem dX7_count_74 : decode cX7_count 74 = .ok (.invokestatic 153, 3) := by decide +kernel
theorem dX7_count_77 : decode cX7_count 77 = .ok (.ireturn, 1) := by decide +kernel
theorem dX7_count_78 : decode cX7_count 78 = .ok (.aload_n 0, 1) := by decide +kernel
theorem dX7_count_79 : decode cX7_count 79 = .ok (.getfield 10, 3) := by decide +kernel
theorem dX7_count_82 : decode cX7_count 82 = .ok (.getfield 127, 3) := by decide +kernel
theorem dX7_count_85 : decode cX7_count 85 = .ok (.ldc2_w 125, 3) := by decide +kernel
theorem dX7_count_88 : decode cX7_count 88 = .ok (.lcmp, 1) := by decide +kernel
theorem dX7_count_89 : decode cX7_count 89 = .ok (.ifCond .ne 7, 3) := by decide +kernel
theorem dX7_count_92 : decode cX7_count 92 = .ok (.iconst 1, 1) := by decide +kernel
theorem dX7_count_93 : decode cX7_count 93 = .ok (.goto 4, 3) := by decide +kernel
theorem dX7_count_96 : decode cX7_count 96 = .ok (.iconst 0, 1) := by decide +kernel
theorem dX7_count_97 : decode cX7_count 97 = .ok (.ireturn, 1) := by decide +kernel
theorem dX7_count_98 : decode cX7_count 98 = .ok (.aload_n 0, 1) := by decide +kernel
theorem dX7_count_99 : decode cX7_count 99 = .ok (.invokevirtual 122, 3) := by decide +kernel
theorem dX7_count_102 : decode cX7_count 102 = .ok (.ireturn, 1) := by decide +kernel
theorem dX7_count_103 : decode cX7_count 103 = .ok (.aload_n 0, 1) := by decide +kernel
theorem dX7_count_104 : decode cX7_count 104 = .ok (.getfield 46, 3) := by decide +kernel
theorem dX7_count_107 : decode cX7_count 107 = .ok (.ireturn, 1) := by decide +kernel
theorem dX7_count_108 : decode cX7_count 108 = .ok (.aload_n 0, 1) := by decide +kernel
theorem dX7_count_109 : decode cX7_count 109 = .ok (.getfield 50, 3) := by decide +kernel
theorem dX7_count_112 : decode cX7_count 112 = .ok (.ireturn, 1) := by decide +kernel
theorem dX7_count_113 : decode cX7_count 113 = .ok (.bipush (-2), 2) := by decide +kernel
theorem dX7_count_115 : decode cX7_count 115 = .ok (.ireturn, 1) := by decide +kernel
theorem dX7_spread_0 : decode cX7_spread 0 = .ok (.dconst 0, 1) := by decide +kernel
theorem dX7_spread_1 : decode cX7_spread 1 = .ok (.dstore_n 1, 1) := by decide +kernel
theorem dX7_spread_2 : decode cX7_spread 2 = .ok (.iconst 0, 1) := by decide +kernel
theorem dX7_spread_3 : decode cX7_spread 3 = .ok (.istore_n 3, 1) := by decide +kernel
theorem dX7_spread_4 : decode cX7_spread 4 = .ok (.iload_n 3, 1) := by decide +kernel
theorem dX7_spread_5 : decode cX7_spread 5 = .ok (.aload_n 0, 1) := by decide +kernel
theorem dX7_spread_6 : decode cX7_spread 6 = .ok (.getfield 10, 3) := by decide +kernel
theorem dX7_spread_9 : decode cX7_spread 9 = .ok (.getfield 56, 3) := by decide +kernel
theorem dX7_spread_12 : decode cX7_spread 12 = .ok (.if_icmp .ge 41, 3) := by decide +kernel
theorem dX7_spread_15 : decode cX7_spread 15 = .ok (.aload_n 0, 1) := by decide +kernel
theorem dX7_spread_16 : decode cX7_spread 16 = .ok (.getfield 10, 3) := by decide +kernel
theorem dX7_spread_19 : decode cX7_spread 19 = .ok (.getfield 127, 3) := by decide +kernel
theorem dX7_spread_22 : decode cX7_spread 22 = .ok (.iload_n 3, 1) := by decide +kernel
theorem dX7_spread_23 : decode cX7_spread 23 = .ok (.invokestatic 130, 3) := by decide +kernel
theorem dX7_spread_26 : decode cX7_spread 26 = .ok (.iload_n 3, 1) := by decide +kernel
theorem dX7_spread_27 : decode cX7_spread 27 = .ok (.isub, 1) := by decide +kernel
theorem dX7_spread_28 : decode cX7_spread 28 = .ok (.istore 4, 2) := by decide +kernel
theorem dX7_spread_30 : decode cX7_spread 30 = .ok (.dload_n 1, 1) := by decide +kernel
theorem dX7_spread_31 : decode cX7_spread 31 = .ok (.iload 4, 2) := by decide +kernel
theorem dX7_spread_33 : decode cX7_spread 33 = .ok (.ifCond .ge 9, 3) := by decide +kernel
theorem dX7_spread_36 : decode cX7_spread 36 = .ok (.iload 4, 2) := by decide +kernel
theorem dX7_spread_38 : decode cX7_spread 38 = .ok (.ineg, 1) := by decide +kernel
theorem dX7_spread_39 : decode cX7_spread 39 = .ok (.goto 5, 3) := by decide +kernel
theorem dX7_spread_42 : decode cX7_spread 42 = .ok (.iload 4, 2) := by decide +kernel
theorem dX7_spread_44 : decode cX7_spread 44 = .ok (.i2d, 1) := by decide +kernel
theorem dX7_spread_45 : decode cX7_spread 45 = .ok (.dadd, 1) := by decide +kernel
theorem dX7_spread_46 : decode cX7_spread 46 = .ok (.dstore_n 1, 1) := by decide +kernel
theorem dX7_spread_47 : decode cX7_spread 47 = .ok (.iinc 3 1, 3) := by decide +kernel
theorem dX7_spread_50 : decode cX7_spread 50 = .ok (.goto (-46), 3) := by decide +kernel
theorem dX7_spread_53 : decode cX7_spread 53 = .ok (.aload_n 0, 1) := by decide +kernel
theorem dX7_spread_54 : decode cX7_spread 54 = .ok (.getfield 10, 3) := by decide +kernel
theorem dX7_spread_57 : decode cX7_spread 57 = .ok (.getfield 56, 3) := by decide +kernel
theorem dX7_spread_60 : decode cX7_spread 60 = .ok (.ifCond .le 16, 3) := by decide +kernel
theorem dX7_spread_63 : decode cX7_spread 63 = .ok (.dload_n 1, 1) := by decide +kernel
theorem dX7_spread_64 : decode cX7_spread 64 = .ok (.aload_n 0, 1) := by decide +kernel
theorem dX7_spread_65 : decode cX7_spread 65 = .ok (.getfield 10, 3) := by decide +kernel
theorem dX7_spread_68 : decode cX7_spread 68 = .ok (.getfield 56, 3) := by decide +kernel
theorem dX7_spread_71 : decode cX7_spread 71 = .ok (.i2d, 1) := by decide +kernel
theorem dX7_spread_72 : decode cX7_spread 72 = .ok (.ddiv, 1) := by decide +kernel
theorem dX7_spread_73 : decode cX7_spread 73 = .ok (.goto 4, 3) := by decide +kernel
theorem dX7_spread_76 : decode cX7_spread 76 = .ok (.dconst 0, 1) := by decide +kernel
theorem dX7_spread_77 : decode cX7_spread 77 = .ok (.invokestatic 179, 3) := by decide +kernel
theorem dX7_spread_80 : decode cX7_spread 80 = .ok (.lreturn, 1) := by decide +kernel
theorem dX7_share_0 : decode cX7_share 0 = .ok (.aload_n 0, 1) := by decide +kernel
theorem dX7_share_1 : decode cX7_share 1 = .ok (.getfield 10, 3) := by decide +kernel
theorem dX7_share_4 : decode cX7_share 4 = .ok (.getfield 127, 3) := by decide +kernel
theorem dX7_share_7 : decode cX7_share 7 = .ok (.aload_n 0, 1) := by decide +kernel
theorem dX7_share_8 : decode cX7_share 8 = .ok (.getfield 10, 3) := by decide +kernel
theorem dX7_share_11 : decode cX7_share 11 = .ok (.getfield 56, 3) := by decide +kernel
theorem dX7_share_14 : decode cX7_share 14 = .ok (.invokestatic 153, 3) := by decide +kernel
theorem dX7_share_17 : decode cX7_share 17 = .ok (.invokestatic 185, 3) := by decide +kernel
theorem dX7_share_20 : decode cX7_share 20 = .ok (.istore_n 1, 1) := by decide +kernel
theorem dX7_share_21 : decode cX7_share 21 = .ok (.aload_n 0, 1) := by decide +kernel
theorem dX7_share_22 : decode cX7_share 22 = .ok (.getfield 10, 3) := by decide +kernel
theorem dX7_share_25 : decode cX7_share 25 = .ok (.getfield 56, 3) := by decide +kernel
theorem dX7_share_28 : decode cX7_share 28 = .ok (.ifCond .le 17, 3) := by decide +kernel
theorem dX7_share_31 : decode cX7_share 31 = .ok (.iload_n 1, 1) := by decide +kernel
theorem dX7_share_32 : decode cX7_share 32 = .ok (.i2f, 1) := by decide +kernel
theorem dX7_share_33 : decode cX7_share 33 = .ok (.aload_n 0, 1) := by decide +kernel
theorem dX7_share_34 : decode cX7_share 34 = .ok (.getfield 10, 3) := by decide +kernel
theorem dX7_share_37 : decode cX7_share 37 = .ok (.getfield 56, 3) := by decide +kernel
theorem dX7_share_40 : decode cX7_share 40 = .ok (.i2f, 1) := by decide +kernel
theorem dX7_share_41 : decode cX7_share 41 = .ok (.fdiv, 1) := by decide +kernel
theorem dX7_share_42 : decode cX7_share 42 = .ok (.goto 4, 3) := by decide +kernel
theorem dX7_share_45 : decode cX7_share 45 = .ok (.fconst 0, 1) := by decide +kernel
theorem dX7_share_46 : decode cX7_share 46 = .ok (.invokestatic 191, 3) := by decide +kernel
theorem dX7_share_49 : decode cX7_share 49 = .ok (.ireturn, 1) := by decide +kernel
theorem dX7_byCut_0 : decode cX7_byCut 0 = .ok (.aload_n 0, 1) := by decide +kernel
theorem dX7_byCut_1 : decode cX7_byCut 1 = .ok (.getfield 10, 3) := by decide +kernel
theorem dX7_byCut_4 : decode cX7_byCut 4 = .ok (.iload_n 1, 1) := by decide +kernel
theorem dX7_byCut_5 : decode cX7_byCut 5 = .ok (.invokevirtual 77, 3) := by decide +kernel
theorem dX7_byCut_8 : decode cX7_byCut 8 = .ok (.ifCond .eq 14, 3) := by decide +kernel
theorem dX7_byCut_11 : decode cX7_byCut 11 = .ok (.aload_n 0, 1) := by decide +kernel
theorem dX7_byCut_12 : decode cX7_byCut 12 = .ok (.getfield 10, 3) := by decide +kernel
theorem dX7_byCut_15 : decode cX7_byCut 15 = .ok (.iload_n 3, 1) := by decide +kernel
theorem dX7_byCut_16 : decode cX7_byCut 16 = .ok (.invokevirtual 110, 3) := by decide +kernel
theorem dX7_byCut_19 : decode cX7_byCut 19 = .ok (.ifCond .ne 5, 3) := by decide +kernel
theorem dX7_byCut_22 : decode cX7_byCut 22 = .ok (.iconst (-1), 1) := by decide +kernel
theorem dX7_byCut_23 : decode cX7_byCut 23 = .ok (.ireturn, 1) := by decide +kernel
theorem dX7_byCut_24 : decode cX7_byCut 24 = .ok (.aload_n 0, 1) := by decide +kernel
theorem dX7_byCut_25 : decode cX7_byCut 25 = .ok (.getfield 10, 3) := by decide +kernel
theorem dX7_byCut_28 : decode cX7_byCut 28 = .ok (.iload_n 2, 1) := by decide +kernel
theorem dX7_byCut_29 : decode cX7_byCut 29 = .ok (.invokevirtual 110, 3) := by decide +kernel
theorem dX7_byCut_32 : decode cX7_byCut 32 = .ok (.ifCond .ne 6, 3) := by decide +kernel
theorem dX7_byCut_35 : decode cX7_byCut 35 = .ok (.bipush (-2), 2) := by decide +kernel
theorem dX7_byCut_37 : decode cX7_byCut 37 = .ok (.ireturn, 1) := by decide +kernel
theorem dX7_byCut_38 : decode cX7_byCut 38 = .ok (.aload_n 0, 1) := by decide +kernel
theorem dX7_byCut_39 : decode cX7_byCut 39 = .ok (.getfield 10, 3) := by decide +kernel
theorem dX7_byCut_42 : decode cX7_byCut 42 = .ok (.iload_n 1, 1) := by decide +kernel
theorem dX7_byCut_43 : decode cX7_byCut 43 = .ok (.invokevirtual 81, 3) := by decide +kernel
theorem dX7_byCut_46 : decode cX7_byCut 46 = .ok (.iload_n 2, 1) := by decide +kernel
theorem dX7_byCut_47 : decode cX7_byCut 47 = .ok (.aload_n 0, 1) := by decide +kernel
theorem dX7_byCut_48 : decode cX7_byCut 48 = .ok (.getfield 10, 3) := by decide +kernel
theorem dX7_byCut_51 : decode cX7_byCut 51 = .ok (.getfield 56, 3) := by decide +kernel
theorem dX7_byCut_54 : decode cX7_byCut 54 = .ok (.invokestatic 195, 3) := by decide +kernel
theorem dX7_byCut_57 : decode cX7_byCut 57 = .ok (.iload_n 3, 1) := by decide +kernel
theorem dX7_byCut_58 : decode cX7_byCut 58 = .ok (.invokestatic 134, 3) := by decide +kernel
theorem dX7_byCut_61 : decode cX7_byCut 61 = .ok (.ireturn, 1) := by decide +kernel
theorem dX7_becomes_0 : decode cX7_becomes 0 = .ok (.aload_n 0, 1) := by decide +kernel
theorem dX7_becomes_1 : decode cX7_becomes 1 = .ok (.getfield 10, 3) := by decide +kernel
theorem dX7_becomes_4 : decode cX7_becomes 4 = .ok (.iload_n 1, 1) := by decide +kernel
theorem dX7_becomes_5 : decode cX7_becomes 5 = .ok (.invokevirtual 77, 3) := by decide +kernel
theorem dX7_becomes_8 : decode cX7_becomes 8 = .ok (.ifCond .ne 5, 3) := by decide +kernel
theorem dX7_becomes_11 : decode cX7_becomes 11 = .ok (.iconst (-1), 1) := by decide +kernel
theorem dX7_becomes_12 : decode cX7_becomes 12 = .ok (.ireturn, 1) := by decide +kernel
theorem dX7_becomes_13 : decode cX7_becomes 13 = .ok (.aload_n 0, 1) := by decide +kernel
theorem dX7_becomes_14 : decode cX7_becomes 14 = .ok (.getfield 10, 3) := by decide +kernel
theorem dX7_becomes_17 : decode cX7_becomes 17 = .ok (.iload_n 2, 1) := by decide +kernel
theorem dX7_becomes_18 : decode cX7_becomes 18 = .ok (.invokevirtual 110, 3) := by decide +kernel
theorem dX7_becomes_21 : decode cX7_becomes 21 = .ok (.ifCond .ne 6, 3) := by decide +kernel
theorem dX7_becomes_24 : decode cX7_becomes 24 = .ok (.bipush (-2), 2) := by decide +kernel
theorem dX7_becomes_26 : decode cX7_becomes 26 = .ok (.ireturn, 1) := by decide +kernel
theorem dX7_becomes_27 : decode cX7_becomes 27 = .ok (.aload_n 0, 1) := by decide +kernel
theorem dX7_becomes_28 : decode cX7_becomes 28 = .ok (.getfield 10, 3) := by decide +kernel
theorem dX7_becomes_31 : decode cX7_becomes 31 = .ok (.aload_n 0, 1) := by decide +kernel
theorem dX7_becomes_32 : decode cX7_becomes 32 = .ok (.getfield 10, 3) := by decide +kernel
theorem dX7_becomes_35 : decode cX7_becomes 35 = .ok (.iload_n 1, 1) := by decide +kernel
theorem dX7_becomes_36 : decode cX7_becomes 36 = .ok (.invokevirtual 81, 3) := by decide +kernel
theorem dX7_becomes_39 : decode cX7_becomes 39 = .ok (.iload_n 2, 1) := by decide +kernel
theorem dX7_becomes_40 : decode cX7_becomes 40 = .ok (.aload_n 0, 1) := by decide +kernel
theorem dX7_becomes_41 : decode cX7_becomes 41 = .ok (.getfield 10, 3) := by decide +kernel
theorem dX7_becomes_44 : decode cX7_becomes 44 = .ok (.getfield 56, 3) := by decide +kernel
theorem dX7_becomes_47 : decode cX7_becomes 47 = .ok (.invokestatic 195, 3) := by decide +kernel
theorem dX7_becomes_50 : decode cX7_becomes 50 = .ok (.invokevirtual 166, 3) := by decide +kernel
theorem dX7_becomes_53 : decode cX7_becomes 53 = .ok (.ireturn, 1) := by decide +kernel
theorem dX7_ordersIn_0 : decode cX7_ordersIn 0 = .ok (.aload_n 0, 1) := by decide +kernel
theorem dX7_ordersIn_1 : decode cX7_ordersIn 1 = .ok (.getfield 10, 3) := by decide +kernel
theorem dX7_ordersIn_4 : decode cX7_ordersIn 4 = .ok (.iload_n 1, 1) := by decide +kernel
theorem dX7_ordersIn_5 : decode cX7_ordersIn 5 = .ok (.invokevirtual 77, 3) := by decide +kernel
theorem dX7_ordersIn_8 : decode cX7_ordersIn 8 = .ok (.ifCond .ne 5, 3) := by decide +kernel
theorem dX7_ordersIn_11 : decode cX7_ordersIn 11 = .ok (.iconst (-1), 1) := by decide +kernel
theorem dX7_ordersIn_12 : decode cX7_ordersIn 12 = .ok (.ireturn, 1) := by decide +kernel
theorem dX7_ordersIn_13 : decode cX7_ordersIn 13 = .ok (.aload_n 0, 1) := by decide +kernel
theorem dX7_ordersIn_14 : decode cX7_ordersIn 14 = .ok (.getfield 10, 3) := by decide +kernel
theorem dX7_ordersIn_17 : decode cX7_ordersIn 17 = .ok (.iload_n 1, 1) := by decide +kernel
theorem dX7_ordersIn_18 : decode cX7_ordersIn 18 = .ok (.invokevirtual 81, 3) := by decide +kernel
theorem dX7_ordersIn_21 : decode cX7_ordersIn 21 = .ok (.lstore_n 2, 1) := by decide +kernel
theorem dX7_ordersIn_22 : decode cX7_ordersIn 22 = .ok (.aload_n 0, 1) := by decide +kernel
theorem dX7_ordersIn_23 : decode cX7_ordersIn 23 = .ok (.getfield 10, 3) := by decide +kernel
theorem dX7_ordersIn_26 : decode cX7_ordersIn 26 = .ok (.getfield 127, 3) := by decide +kernel
theorem dX7_ordersIn_29 : decode cX7_ordersIn 29 = .ok (.lstore 4, 2) := by decide +kernel
theorem dX7_ordersIn_31 : decode cX7_ordersIn 31 = .ok (.aload_n 0, 1) := by decide +kernel
theorem dX7_ordersIn_32 : decode cX7_ordersIn 32 = .ok (.getfield 31, 3) := by decide +kernel
theorem dX7_ordersIn_35 : decode cX7_ordersIn 35 = .ok (.lload_n 2, 1) := by decide +kernel
theorem dX7_ordersIn_36 : decode cX7_ordersIn 36 = .ok (.aload_n 0, 1) := by decide +kernel
theorem dX7_ordersIn_37 : decode cX7_ordersIn 37 = .ok (.getfield 10, 3) := by decide +kernel
theorem dX7_ordersIn_40 : decode cX7_ordersIn 40 = .ok (.getfield 56, 3) := by decide +kernel
theorem dX7_ordersIn_43 : decode cX7_ordersIn 43 = .ok (.invokevirtual 143, 3) := by decide +kernel
theorem dX7_ordersIn_46 : decode cX7_ordersIn 46 = .ok (.aload_n 0, 1) := by decide +kernel
theorem dX7_ordersIn_47 : decode cX7_ordersIn 47 = .ok (.getfield 31, 3) := by decide +kernel
theorem dX7_ordersIn_50 : decode cX7_ordersIn 50 = .ok (.invokevirtual 147, 3) := by decide +kernel
theorem dX7_ordersIn_53 : decode cX7_ordersIn 53 = .ok (.istore 6, 2) := by decide +kernel
theorem dX7_ordersIn_55 : decode cX7_ordersIn 55 = .ok (.iconst 0, 1) := by decide +kernel
theorem dX7_ordersIn_56 : decode cX7_ordersIn 56 = .ok (.istore 7, 2) := by decide +kernel
theorem dX7_ordersIn_58 : decode cX7_ordersIn 58 = .ok (.iload 7, 2) := by decide +kernel
theorem dX7_ordersIn_60 : decode cX7_ordersIn 60 = .ok (.iload 6, 2) := by decide +kernel
theorem dX7_ordersIn_62 : decode cX7_ordersIn 62 = .ok (.if_icmp .ge 29, 3) := by decide +kernel
theorem dX7_ordersIn_65 : decode cX7_ordersIn 65 = .ok (.lload 4, 2) := by decide +kernel
theorem dX7_ordersIn_67 : decode cX7_ordersIn 67 = .ok (.ldc2_w 125, 3) := by decide +kernel
theorem dX7_ordersIn_70 : decode cX7_ordersIn 70 = .ok (.lcmp, 1) := by decide +kernel
theorem dX7_ordersIn_71 : decode cX7_ordersIn 71 = .ok (.ifCond .ne 6, 3) := by decide +kernel
theorem dX7_ordersIn_74 : decode cX7_ordersIn 74 = .ok (.iload 7, 2) := by decide +kernel
theorem dX7_ordersIn_76 : decode cX7_ordersIn 76 = .ok (.ireturn, 1) := by decide +kernel
theorem dX7_ordersIn_77 : decode cX7_ordersIn 77 = .ok (.lload 4, 2) := by decide +kernel
theorem dX7_ordersIn_79 : decode cX7_ordersIn 79 = .ok (.lload_n 2, 1) := by decide +kernel
theorem dX7_ordersIn_80 : decode cX7_ordersIn 80 = .ok (.invokestatic 85, 3) := by decide +kernel
theorem dX7_ordersIn_83 : decode cX7_ordersIn 83 = .ok (.lstore 4, 2) := by decide +kernel
theorem dX7_ordersIn_85 : decode cX7_ordersIn 85 = .ok (.iinc 7 1, 3) := by decide +kernel
theorem dX7_ordersIn_88 : decode cX7_ordersIn 88 = .ok (.goto (-30), 3) := by decide +kernel
theorem dX7_ordersIn_91 : decode cX7_ordersIn 91 = .ok (.bipush (-6), 2) := by decide +kernel
theorem dX7_ordersIn_93 : decode cX7_ordersIn 93 = .ok (.ireturn, 1) := by decide +kernel
theorem dX7_fewestSteps_0 : decode cX7_fewestSteps 0 = .ok (.iconst 0, 1) := by decide +kernel
theorem dX7_fewestSteps_1 : decode cX7_fewestSteps 1 = .ok (.istore_n 1, 1) := by decide +kernel
theorem dX7_fewestSteps_2 : decode cX7_fewestSteps 2 = .ok (.iload_n 1, 1) := by decide +kernel
theorem dX7_fewestSteps_3 : decode cX7_fewestSteps 3 = .ok (.iconst 5, 1) := by decide +kernel
theorem dX7_fewestSteps_4 : decode cX7_fewestSteps 4 = .ok (.if_icmp .gt 21, 3) := by decide +kernel
theorem dX7_fewestSteps_7 : decode cX7_fewestSteps 7 = .ok (.aload_n 0, 1) := by decide +kernel
theorem dX7_fewestSteps_8 : decode cX7_fewestSteps 8 = .ok (.iload_n 1, 1) := by decide +kernel
theorem dX7_fewestSteps_9 : decode cX7_fewestSteps 9 = .ok (.invokevirtual 199, 3) := by decide +kernel
theorem dX7_fewestSteps_12 : decode cX7_fewestSteps 12 = .ok (.bipush (-6), 2) := by decide +kernel
theorem dX7_fewestSteps_14 : decode cX7_fewestSteps 14 = .ok (.if_icmp .eq 5, 3) := by decide +kernel
theorem dX7_fewestSteps_17 : decode cX7_fewestSteps 17 = .ok (.iload_n 1, 1) := by decide +kernel
theorem dX7_fewestSteps_18 : decode cX7_fewestSteps 18 = .ok (.ireturn, 1) := by decide +kernel
theorem dX7_fewestSteps_19 : decode cX7_fewestSteps 19 = .ok (.iinc 1 1, 3) := by decide +kernel
theorem dX7_fewestSteps_22 : decode cX7_fewestSteps 22 = .ok (.goto (-20), 3) := by decide +kernel
theorem dX7_fewestSteps_25 : decode cX7_fewestSteps 25 = .ok (.bipush (-6), 2) := by decide +kernel
theorem dX7_fewestSteps_27 : decode cX7_fewestSteps 27 = .ok (.ireturn, 1) := by decide +kernel
theorem dX7_firstStep_0 : decode cX7_firstStep 0 = .ok (.aload_n 0, 1) := by decide +kernel
theorem dX7_firstStep_1 : decode cX7_firstStep 1 = .ok (.invokevirtual 202, 3) := by decide +kernel
theorem dX7_firstStep_4 : decode cX7_firstStep 4 = .ok (.istore_n 1, 1) := by decide +kernel
theorem dX7_firstStep_5 : decode cX7_firstStep 5 = .ok (.iload_n 1, 1) := by decide +kernel
theorem dX7_firstStep_6 : decode cX7_firstStep 6 = .ok (.ifCond .le 16, 3) := by decide +kernel
theorem dX7_firstStep_9 : decode cX7_firstStep 9 = .ok (.aload_n 0, 1) := by decide +kernel
theorem dX7_firstStep_10 : decode cX7_firstStep 10 = .ok (.iload_n 1, 1) := by decide +kernel
theorem dX7_firstStep_11 : decode cX7_firstStep 11 = .ok (.invokevirtual 199, 3) := by decide +kernel
theorem dX7_firstStep_14 : decode cX7_firstStep 14 = .ok (.iload_n 1, 1) := by decide +kernel
theorem dX7_firstStep_15 : decode cX7_firstStep 15 = .ok (.iconst 0, 1) := by decide +kernel
theorem dX7_firstStep_16 : decode cX7_firstStep 16 = .ok (.invokestatic 205, 3) := by decide +kernel
theorem dX7_firstStep_19 : decode cX7_firstStep 19 = .ok (.goto 5, 3) := by decide +kernel
theorem dX7_firstStep_22 : decode cX7_firstStep 22 = .ok (.bipush (-6), 2) := by decide +kernel
theorem dX7_firstStep_24 : decode cX7_firstStep 24 = .ok (.ireturn, 1) := by decide +kernel
theorem dX7_put_0 : decode cX7_put 0 = .ok (.lload_n 1, 1) := by decide +kernel
theorem dX7_put_1 : decode cX7_put 1 = .ok (.invokestatic 209, 3) := by decide +kernel
theorem dX7_put_4 : decode cX7_put 4 = .ok (.istore_n 3, 1) := by decide +kernel
theorem dX7_put_5 : decode cX7_put 5 = .ok (.iload_n 3, 1) := by decide +kernel
theorem dX7_put_6 : decode cX7_put 6 = .ok (.ifCond .ne 6, 3) := by decide +kernel
theorem dX7_put_9 : decode cX7_put 9 = .ok (.bipush (-2), 2) := by decide +kernel
theorem dX7_put_11 : decode cX7_put 11 = .ok (.ireturn, 1) := by decide +kernel
theorem dX7_put_12 : decode cX7_put 12 = .ok (.aload_n 0, 1) := by decide +kernel
theorem dX7_put_13 : decode cX7_put 13 = .ok (.getfield 46, 3) := by decide +kernel
theorem dX7_put_16 : decode cX7_put 16 = .ok (.iload_n 3, 1) := by decide +kernel
theorem dX7_put_17 : decode cX7_put 17 = .ok (.iadd, 1) := by decide +kernel
theorem dX7_put_18 : decode cX7_put 18 = .ok (.bipush 80, 2) := by decide +kernel
theorem dX7_put_20 : decode cX7_put 20 = .ok (.if_icmp .le 6, 3) := by decide +kernel
theorem dX7_put_23 : decode cX7_put 23 = .ok (.bipush (-4), 2) := by decide +kernel
theorem dX7_put_25 : decode cX7_put 25 = .ok (.ireturn, 1) := by decide +kernel
theorem dX7_put_26 : decode cX7_put 26 = .ok (.iload_n 3, 1) := by decide +kernel
theorem dX7_put_27 : decode cX7_put 27 = .ok (.iconst 1, 1) := by decide +kernel
theorem dX7_put_28 : decode cX7_put 28 = .ok (.isub, 1) := by decide +kernel
theorem dX7_put_29 : decode cX7_put 29 = .ok (.istore 4, 2) := by decide +kernel
theorem dX7_put_31 : decode cX7_put 31 = .ok (.iload 4, 2) := by decide +kernel
theorem dX7_put_33 : decode cX7_put 33 = .ok (.ifCond .lt 20, 3) := by decide +kernel
theorem dX7_put_36 : decode cX7_put 36 = .ok (.aload_n 0, 1) := by decide +kernel
theorem dX7_put_37 : decode cX7_put 37 = .ok (.lload_n 1, 1) := by decide +kernel
theorem dX7_put_38 : decode cX7_put 38 = .ok (.iload 4, 2) := by decide +kernel
theorem dX7_put_40 : decode cX7_put 40 = .ok (.invokestatic 212, 3) := by decide +kernel
theorem dX7_put_43 : decode cX7_put 43 = .ok (.i2c, 1) := by decide +kernel
theorem dX7_put_44 : decode cX7_put 44 = .ok (.invokevirtual 215, 3) := by decide +kernel
theorem dX7_put_47 : decode cX7_put 47 = .ok (.iinc 4 (-1), 3) := by decide +kernel
theorem dX7_put_50 : decode cX7_put 50 = .ok (.goto (-19), 3) := by decide +kernel
theorem dX7_put_53 : decode cX7_put 53 = .ok (.aload_n 0, 1) := by decide +kernel
theorem dX7_put_54 : decode cX7_put 54 = .ok (.getfield 46, 3) := by decide +kernel
theorem dX7_put_57 : decode cX7_put 57 = .ok (.ireturn, 1) := by decide +kernel
theorem dX7_wipe_0 : decode cX7_wipe 0 = .ok (.aload_n 0, 1) := by decide +kernel
theorem dX7_wipe_1 : decode cX7_wipe 1 = .ok (.getfield 46, 3) := by decide +kernel
theorem dX7_wipe_4 : decode cX7_wipe 4 = .ok (.istore_n 1, 1) := by decide +kernel
theorem dX7_wipe_5 : decode cX7_wipe 5 = .ok (.aload_n 0, 1) := by decide +kernel
theorem dX7_wipe_6 : decode cX7_wipe 6 = .ok (.iconst 0, 1) := by decide +kernel
theorem dX7_wipe_7 : decode cX7_wipe 7 = .ok (.putfield 46, 3) := by decide +kernel
theorem dX7_wipe_10 : decode cX7_wipe 10 = .ok (.iload_n 1, 1) := by decide +kernel
theorem dX7_wipe_11 : decode cX7_wipe 11 = .ok (.ireturn, 1) := by decide +kernel
theorem dX7_fault_0 : decode cX7_fault 0 = .ok (.aload_n 0, 1) := by decide +kernel
theorem dX7_fault_1 : decode cX7_fault 1 = .ok (.invokevirtual 65, 3) := by decide +kernel
theorem dX7_fault_4 : decode cX7_fault 4 = .ok (.ireturn, 1) := by decide +kernel
theorem dX7_undo_0 : decode cX7_undo 0 = .ok (.aload_n 0, 1) := by decide +kernel
theorem dX7_undo_1 : decode cX7_undo 1 = .ok (.getfield 50, 3) := by decide +kernel
theorem dX7_undo_4 : decode cX7_undo 4 = .ok (.ifCond .ne 6, 3) := by decide +kernel
theorem dX7_undo_7 : decode cX7_undo 7 = .ok (.bipush (-5), 2) := by decide +kernel
theorem dX7_undo_9 : decode cX7_undo 9 = .ok (.ireturn, 1) := by decide +kernel
theorem dX7_undo_10 : decode cX7_undo 10 = .ok (.aload_n 0, 1) := by decide +kernel
theorem dX7_undo_11 : decode cX7_undo 11 = .ok (.aload_n 0, 1) := by decide +kernel
theorem dX7_undo_12 : decode cX7_undo 12 = .ok (.getfield 53, 3) := by decide +kernel
theorem dX7_undo_15 : decode cX7_undo 15 = .ok (.ifCond .ne 7, 3) := by decide +kernel
theorem dX7_undo_18 : decode cX7_undo 18 = .ok (.iconst 5, 1) := by decide +kernel
theorem dX7_undo_19 : decode cX7_undo 19 = .ok (.goto 9, 3) := by decide +kernel
theorem dX7_undo_22 : decode cX7_undo 22 = .ok (.aload_n 0, 1) := by decide +kernel
theorem dX7_undo_23 : decode cX7_undo 23 = .ok (.getfield 53, 3) := by decide +kernel
theorem dX7_undo_26 : decode cX7_undo 26 = .ok (.iconst 1, 1) := by decide +kernel
theorem dX7_undo_27 : decode cX7_undo 27 = .ok (.isub, 1) := by decide +kernel
theorem dX7_undo_28 : decode cX7_undo 28 = .ok (.putfield 53, 3) := by decide +kernel
theorem dX7_undo_31 : decode cX7_undo 31 = .ok (.aload_n 0, 1) := by decide +kernel
theorem dX7_undo_32 : decode cX7_undo 32 = .ok (.getfield 21, 3) := by decide +kernel
theorem dX7_undo_35 : decode cX7_undo 35 = .ok (.aload_n 0, 1) := by decide +kernel
theorem dX7_undo_36 : decode cX7_undo 36 = .ok (.getfield 53, 3) := by decide +kernel
theorem dX7_undo_39 : decode cX7_undo 39 = .ok (.aload_n 0, 1) := by decide +kernel
theorem dX7_undo_40 : decode cX7_undo 40 = .ok (.getfield 10, 3) := by decide +kernel
theorem dX7_undo_43 : decode cX7_undo 43 = .ok (.invokevirtual 219, 3) := by decide +kernel
theorem dX7_undo_46 : decode cX7_undo 46 = .ok (.aload_n 0, 1) := by decide +kernel
theorem dX7_undo_47 : decode cX7_undo 47 = .ok (.dup, 1) := by decide +kernel
theorem dX7_undo_48 : decode cX7_undo 48 = .ok (.getfield 50, 3) := by decide +kernel
theorem dX7_undo_51 : decode cX7_undo 51 = .ok (.iconst 1, 1) := by decide +kernel
theorem dX7_undo_52 : decode cX7_undo 52 = .ok (.isub, 1) := by decide +kernel
theorem dX7_undo_53 : decode cX7_undo 53 = .ok (.putfield 50, 3) := by decide +kernel
theorem dX7_undo_56 : decode cX7_undo 56 = .ok (.aload_n 0, 1) := by decide +kernel
theorem dX7_undo_57 : decode cX7_undo 57 = .ok (.getfield 50, 3) := by decide +kernel
theorem dX7_undo_60 : decode cX7_undo 60 = .ok (.ireturn, 1) := by decide +kernel
theorem dX7_save_0 : decode cX7_save 0 = .ok (.aload_n 0, 1) := by decide +kernel
theorem dX7_save_1 : decode cX7_save 1 = .ok (.getfield 25, 3) := by decide +kernel
theorem dX7_save_4 : decode cX7_save 4 = .ok (.iload_n 1, 1) := by decide +kernel
theorem dX7_save_5 : decode cX7_save 5 = .ok (.invokevirtual 223, 3) := by decide +kernel
theorem dX7_save_8 : decode cX7_save 8 = .ok (.ifCond .ne 6, 3) := by decide +kernel
theorem dX7_save_11 : decode cX7_save 11 = .ok (.bipush (-2), 2) := by decide +kernel
theorem dX7_save_13 : decode cX7_save 13 = .ok (.ireturn, 1) := by decide +kernel
theorem dX7_save_14 : decode cX7_save 14 = .ok (.aload_n 0, 1) := by decide +kernel
theorem dX7_save_15 : decode cX7_save 15 = .ok (.getfield 25, 3) := by decide +kernel
theorem dX7_save_18 : decode cX7_save 18 = .ok (.iload_n 1, 1) := by decide +kernel
theorem dX7_save_19 : decode cX7_save 19 = .ok (.aload_n 0, 1) := by decide +kernel
theorem dX7_save_20 : decode cX7_save 20 = .ok (.getfield 10, 3) := by decide +kernel
theorem dX7_save_23 : decode cX7_save 23 = .ok (.invokevirtual 224, 3) := by decide +kernel
theorem dX7_save_26 : decode cX7_save 26 = .ok (.aload_n 0, 1) := by decide +kernel
theorem dX7_save_27 : decode cX7_save 27 = .ok (.getfield 10, 3) := by decide +kernel
theorem dX7_save_30 : decode cX7_save 30 = .ok (.getfield 104, 3) := by decide +kernel
theorem dX7_save_33 : decode cX7_save 33 = .ok (.ireturn, 1) := by decide +kernel
theorem dX7_restore_0 : decode cX7_restore 0 = .ok (.aload_n 0, 1) := by decide +kernel
theorem dX7_restore_1 : decode cX7_restore 1 = .ok (.getfield 25, 3) := by decide +kernel
theorem dX7_restore_4 : decode cX7_restore 4 = .ok (.iload_n 1, 1) := by decide +kernel
theorem dX7_restore_5 : decode cX7_restore 5 = .ok (.invokevirtual 223, 3) := by decide +kernel
theorem dX7_restore_8 : decode cX7_restore 8 = .ok (.ifCond .ne 6, 3) := by decide +kernel
theorem dX7_restore_11 : decode cX7_restore 11 = .ok (.bipush (-2), 2) := by decide +kernel
theorem dX7_restore_13 : decode cX7_restore 13 = .ok (.ireturn, 1) := by decide +kernel
theorem dX7_restore_14 : decode cX7_restore 14 = .ok (.aload_n 0, 1) := by decide +kernel
theorem dX7_restore_15 : decode cX7_restore 15 = .ok (.getfield 25, 3) := by decide +kernel
theorem dX7_restore_18 : decode cX7_restore 18 = .ok (.iload_n 1, 1) := by decide +kernel
theorem dX7_restore_19 : decode cX7_restore 19 = .ok (.invokevirtual 227, 3) := by decide +kernel
theorem dX7_restore_22 : decode cX7_restore 22 = .ok (.ifCond .ne 6, 3) := by decide +kernel
theorem dX7_restore_25 : decode cX7_restore 25 = .ok (.bipush (-5), 2) := by decide +kernel
theorem dX7_restore_27 : decode cX7_restore 27 = .ok (.ireturn, 1) := by decide +kernel
theorem dX7_restore_28 : decode cX7_restore 28 = .ok (.aload_n 0, 1) := by decide +kernel
theorem dX7_restore_29 : decode cX7_restore 29 = .ok (.invokevirtual 59, 3) := by decide +kernel
theorem dX7_restore_32 : decode cX7_restore 32 = .ok (.aload_n 0, 1) := by decide +kernel
theorem dX7_restore_33 : decode cX7_restore 33 = .ok (.getfield 25, 3) := by decide +kernel
theorem dX7_restore_36 : decode cX7_restore 36 = .ok (.iload_n 1, 1) := by decide +kernel
theorem dX7_restore_37 : decode cX7_restore 37 = .ok (.aload_n 0, 1) := by decide +kernel
theorem dX7_restore_38 : decode cX7_restore 38 = .ok (.getfield 10, 3) := by decide +kernel
theorem dX7_restore_41 : decode cX7_restore 41 = .ok (.invokevirtual 219, 3) := by decide +kernel
theorem dX7_restore_44 : decode cX7_restore 44 = .ok (.aload_n 0, 1) := by decide +kernel
theorem dX7_restore_45 : decode cX7_restore 45 = .ok (.getfield 10, 3) := by decide +kernel
theorem dX7_restore_48 : decode cX7_restore 48 = .ok (.getfield 104, 3) := by decide +kernel
theorem dX7_restore_51 : decode cX7_restore 51 = .ok (.ireturn, 1) := by decide +kernel
theorem dX7_keepForUndo_0 : decode cX7_keepForUndo 0 = .ok (.aload_n 0, 1) := by decide +kernel
theorem dX7_keepForUndo_1 : decode cX7_keepForUndo 1 = .ok (.getfield 21, 3) := by decide +kernel
theorem dX7_keepForUndo_4 : decode cX7_keepForUndo 4 = .ok (.aload_n 0, 1) := by decide +kernel
theorem dX7_keepForUndo_5 : decode cX7_keepForUndo 5 = .ok (.getfield 53, 3) := by decide +kernel
theorem dX7_keepForUndo_8 : decode cX7_keepForUndo 8 = .ok (.aload_n 0, 1) := by decide +kernel
theorem dX7_keepForUndo_9 : decode cX7_keepForUndo 9 = .ok (.getfield 10, 3) := by decide +kernel
theorem dX7_keepForUndo_12 : decode cX7_keepForUndo 12 = .ok (.invokevirtual 224, 3) := by decide +kernel
theorem dX7_keepForUndo_15 : decode cX7_keepForUndo 15 = .ok (.aload_n 0, 1) := by decide +kernel
theorem dX7_keepForUndo_16 : decode cX7_keepForUndo 16 = .ok (.aload_n 0, 1) := by decide +kernel
theorem dX7_keepForUndo_17 : decode cX7_keepForUndo 17 = .ok (.getfield 53, 3) := by decide +kernel
theorem dX7_keepForUndo_20 : decode cX7_keepForUndo 20 = .ok (.iconst 1, 1) := by decide +kernel
theorem dX7_keepForUndo_21 : decode cX7_keepForUndo 21 = .ok (.iadd, 1) := by decide +kernel
theorem dX7_keepForUndo_22 : decode cX7_keepForUndo 22 = .ok (.bipush 6, 2) := by decide +kernel
theorem dX7_keepForUndo_24 : decode cX7_keepForUndo 24 = .ok (.if_icmp .ne 7, 3) := by decide +kernel
theorem dX7_keepForUndo_27 : decode cX7_keepForUndo 27 = .ok (.iconst 0, 1) := by decide +kernel
theorem dX7_keepForUndo_28 : decode cX7_keepForUndo 28 = .ok (.goto 9, 3) := by decide +kernel
theorem dX7_keepForUndo_31 : decode cX7_keepForUndo 31 = .ok (.aload_n 0, 1) := by decide +kernel
theorem dX7_keepForUndo_32 : decode cX7_keepForUndo 32 = .ok (.getfield 53, 3) := by decide +kernel
theorem dX7_keepForUndo_35 : decode cX7_keepForUndo 35 = .ok (.iconst 1, 1) := by decide +kernel
theorem dX7_keepForUndo_36 : decode cX7_keepForUndo 36 = .ok (.iadd, 1) := by decide +kernel
theorem dX7_keepForUndo_37 : decode cX7_keepForUndo 37 = .ok (.putfield 53, 3) := by decide +kernel
theorem dX7_keepForUndo_40 : decode cX7_keepForUndo 40 = .ok (.aload_n 0, 1) := by decide +kernel
theorem dX7_keepForUndo_41 : decode cX7_keepForUndo 41 = .ok (.getfield 50, 3) := by decide +kernel
theorem dX7_keepForUndo_44 : decode cX7_keepForUndo 44 = .ok (.bipush 6, 2) := by decide +kernel
theorem dX7_keepForUndo_46 : decode cX7_keepForUndo 46 = .ok (.if_icmp .ge 13, 3) := by decide +kernel
theorem dX7_keepForUndo_49 : decode cX7_keepForUndo 49 = .ok (.aload_n 0, 1) := by decide +kernel
theorem dX7_keepForUndo_50 : decode cX7_keepForUndo 50 = .ok (.dup, 1) := by decide +kernel
theorem dX7_keepForUndo_51 : decode cX7_keepForUndo 51 = .ok (.getfield 50, 3) := by decide +kernel
theorem dX7_keepForUndo_54 : decode cX7_keepForUndo 54 = .ok (.iconst 1, 1) := by decide +kernel
theorem dX7_keepForUndo_55 : decode cX7_keepForUndo 55 = .ok (.iadd, 1) := by decide +kernel
theorem dX7_keepForUndo_56 : decode cX7_keepForUndo 56 = .ok (.putfield 50, 3) := by decide +kernel
theorem dX7_keepForUndo_59 : decode cX7_keepForUndo 59 = .ok (.return_, 1) := by decide +kernel
theorem dX7_comes_0 : decode cX7_comes 0 = .ok (.aload_n 0, 1) := by decide +kernel
theorem dX7_comes_1 : decode cX7_comes 1 = .ok (.getfield 10, 3) := by decide +kernel
theorem dX7_comes_4 : decode cX7_comes 4 = .ok (.getfield 104, 3) := by decide +kernel
theorem dX7_comes_7 : decode cX7_comes 7 = .ok (.bipush 6, 2) := by decide +kernel
theorem dX7_comes_9 : decode cX7_comes 9 = .ok (.if_icmp .lt 6, 3) := by decide +kernel
theorem dX7_comes_12 : decode cX7_comes 12 = .ok (.bipush (-4), 2) := by decide +kernel
theorem dX7_comes_14 : decode cX7_comes 14 = .ok (.ireturn, 1) := by decide +kernel
theorem dX7_comes_15 : decode cX7_comes 15 = .ok (.aload_n 0, 1) := by decide +kernel
theorem dX7_comes_16 : decode cX7_comes 16 = .ok (.invokevirtual 59, 3) := by decide +kernel
theorem dX7_comes_19 : decode cX7_comes 19 = .ok (.aload_n 0, 1) := by decide +kernel
theorem dX7_comes_20 : decode cX7_comes 20 = .ok (.getfield 10, 3) := by decide +kernel
theorem dX7_comes_23 : decode cX7_comes 23 = .ok (.lload_n 1, 1) := by decide +kernel
theorem dX7_comes_24 : decode cX7_comes 24 = .ok (.invokevirtual 230, 3) := by decide +kernel
theorem dX7_comes_27 : decode cX7_comes 27 = .ok (.ireturn, 1) := by decide +kernel
theorem dX7_moveDeck_0 : decode cX7_moveDeck 0 = .ok (.aload_n 0, 1) := by decide +kernel
theorem dX7_moveDeck_1 : decode cX7_moveDeck 1 = .ok (.invokevirtual 59, 3) := by decide +kernel
theorem dX7_moveDeck_4 : decode cX7_moveDeck 4 = .ok (.aload_n 0, 1) := by decide +kernel
theorem dX7_moveDeck_5 : decode cX7_moveDeck 5 = .ok (.getfield 10, 3) := by decide +kernel
theorem dX7_moveDeck_8 : decode cX7_moveDeck 8 = .ok (.aload_n 0, 1) := by decide +kernel
theorem dX7_moveDeck_9 : decode cX7_moveDeck 9 = .ok (.getfield 10, 3) := by decide +kernel
theorem dX7_moveDeck_12 : decode cX7_moveDeck 12 = .ok (.getfield 127, 3) := by decide +kernel
theorem dX7_moveDeck_15 : decode cX7_moveDeck 15 = .ok (.lload_n 1, 1) := by decide +kernel
theorem dX7_moveDeck_16 : decode cX7_moveDeck 16 = .ok (.invokestatic 85, 3) := by decide +kernel
theorem dX7_moveDeck_19 : decode cX7_moveDeck 19 = .ok (.putfield 127, 3) := by decide +kernel
theorem dX7_moveDeck_22 : decode cX7_moveDeck 22 = .ok (.aload_n 0, 1) := by decide +kernel
theorem dX7_moveDeck_23 : decode cX7_moveDeck 23 = .ok (.getfield 10, 3) := by decide +kernel
theorem dX7_moveDeck_26 : decode cX7_moveDeck 26 = .ok (.aload_n 0, 1) := by decide +kernel
theorem dX7_moveDeck_27 : decode cX7_moveDeck 27 = .ok (.getfield 10, 3) := by decide +kernel
theorem dX7_moveDeck_30 : decode cX7_moveDeck 30 = .ok (.getfield 98, 3) := by decide +kernel
theorem dX7_moveDeck_33 : decode cX7_moveDeck 33 = .ok (.lload_n 1, 1) := by decide +kernel
theorem dX7_moveDeck_34 : decode cX7_moveDeck 34 = .ok (.invokestatic 85, 3) := by decide +kernel
theorem dX7_moveDeck_37 : decode cX7_moveDeck 37 = .ok (.putfield 98, 3) := by decide +kernel
theorem dX7_moveDeck_40 : decode cX7_moveDeck 40 = .ok (.aload_n 0, 1) := by decide +kernel
theorem dX7_moveDeck_41 : decode cX7_moveDeck 41 = .ok (.getfield 10, 3) := by decide +kernel
theorem dX7_moveDeck_44 : decode cX7_moveDeck 44 = .ok (.getfield 127, 3) := by decide +kernel
theorem dX7_moveDeck_47 : decode cX7_moveDeck 47 = .ok (.iconst 0, 1) := by decide +kernel
theorem dX7_moveDeck_48 : decode cX7_moveDeck 48 = .ok (.invokestatic 130, 3) := by decide +kernel
theorem dX7_moveDeck_51 : decode cX7_moveDeck 51 = .ok (.ireturn, 1) := by decide +kernel
theorem dX7_placesMoved_0 : decode cX7_placesMoved 0 = .ok (.aload_n 0, 1) := by decide +kernel
theorem dX7_placesMoved_1 : decode cX7_placesMoved 1 = .ok (.getfield 10, 3) := by decide +kernel
theorem dX7_placesMoved_4 : decode cX7_placesMoved 4 = .ok (.getfield 56, 3) := by decide +kernel
theorem dX7_placesMoved_7 : decode cX7_placesMoved 7 = .ok (.aload_n 0, 1) := by decide +kernel
theorem dX7_placesMoved_8 : decode cX7_placesMoved 8 = .ok (.getfield 10, 3) := by decide +kernel
theorem dX7_placesMoved_11 : decode cX7_placesMoved 11 = .ok (.getfield 98, 3) := by decide +kernel
theorem dX7_placesMoved_14 : decode cX7_placesMoved 14 = .ok (.aload_n 0, 1) := by decide +kernel
theorem dX7_placesMoved_15 : decode cX7_placesMoved 15 = .ok (.getfield 10, 3) := by decide +kernel
theorem dX7_placesMoved_18 : decode cX7_placesMoved 18 = .ok (.getfield 56, 3) := by decide +kernel
theorem dX7_placesMoved_21 : decode cX7_placesMoved 21 = .ok (.invokestatic 153, 3) := by decide +kernel
theorem dX7_placesMoved_24 : decode cX7_placesMoved 24 = .ok (.invokestatic 185, 3) := by decide +kernel
theorem dX7_placesMoved_27 : decode cX7_placesMoved 27 = .ok (.isub, 1) := by decide +kernel
theorem dX7_placesMoved_28 : decode cX7_placesMoved 28 = .ok (.ireturn, 1) := by decide +kernel
theorem dX7_isMarkOrTrick_0 : decode cX7_isMarkOrTrick 0 = .ok (.iload_n 1, 1) := by decide +kernel
theorem dX7_isMarkOrTrick_1 : decode cX7_isMarkOrTrick 1 = .ok (.bipush (-6), 2) := by decide +kernel
theorem dX7_isMarkOrTrick_3 : decode cX7_isMarkOrTrick 3 = .ok (.if_icmp .eq 14, 3) := by decide +kernel
theorem dX7_isMarkOrTrick_6 : decode cX7_isMarkOrTrick 6 = .ok (.aload_n 0, 1) := by decide +kernel
theorem dX7_isMarkOrTrick_7 : decode cX7_isMarkOrTrick 7 = .ok (.getfield 10, 3) := by decide +kernel
theorem dX7_isMarkOrTrick_10 : decode cX7_isMarkOrTrick 10 = .ok (.iload_n 1, 1) := by decide +kernel
theorem dX7_isMarkOrTrick_11 : decode cX7_isMarkOrTrick 11 = .ok (.invokevirtual 77, 3) := by decide +kernel
theorem dX7_isMarkOrTrick_14 : decode cX7_isMarkOrTrick 14 = .ok (.ifCond .eq 7, 3) := by decide +kernel
theorem dX7_isMarkOrTrick_17 : decode cX7_isMarkOrTrick 17 = .ok (.iconst 1, 1) := by decide +kernel
theorem dX7_isMarkOrTrick_18 : decode cX7_isMarkOrTrick 18 = .ok (.goto 4, 3) := by decide +kernel
theorem dX7_isMarkOrTrick_21 : decode cX7_isMarkOrTrick 21 = .ok (.iconst 0, 1) := by decide +kernel
theorem dX7_isMarkOrTrick_22 : decode cX7_isMarkOrTrick 22 = .ok (.ireturn, 1) := by decide +kernel
theorem dX7_markOrTrick_0 : decode cX7_markOrTrick 0 = .ok (.iload_n 1, 1) := by decide +kernel
theorem dX7_markOrTrick_1 : decode cX7_markOrTrick 1 = .ok (.bipush (-6), 2) := by decide +kernel
theorem dX7_markOrTrick_3 : decode cX7_markOrTrick 3 = .ok (.if_icmp .ne 13, 3) := by decide +kernel
theorem dX7_markOrTrick_6 : decode cX7_markOrTrick 6 = .ok (.aload_n 0, 1) := by decide +kernel
theorem dX7_markOrTrick_7 : decode cX7_markOrTrick 7 = .ok (.getfield 10, 3) := by decide +kernel
theorem dX7_markOrTrick_10 : decode cX7_markOrTrick 10 = .ok (.getfield 98, 3) := by decide +kernel
theorem dX7_markOrTrick_13 : decode cX7_markOrTrick 13 = .ok (.goto 11, 3) := by decide +kernel
theorem dX7_markOrTrick_16 : decode cX7_markOrTrick 16 = .ok (.aload_n 0, 1) := by decide +kernel
theorem dX7_markOrTrick_17 : decode cX7_markOrTrick 17 = .ok (.getfield 10, 3) := by decide +kernel
theorem dX7_markOrTrick_20 : decode cX7_markOrTrick 20 = .ok (.iload_n 1, 1) := by decide +kernel
theorem dX7_markOrTrick_21 : decode cX7_markOrTrick 21 = .ok (.invokevirtual 81, 3) := by decide +kernel
theorem dX7_markOrTrick_24 : decode cX7_markOrTrick 24 = .ok (.lreturn, 1) := by decide +kernel
theorem dX7_isPower_0 : decode cX7_isPower 0 = .ok (.iload_n 0, 1) := by decide +kernel
theorem dX7_isPower_1 : decode cX7_isPower 1 = .ok (.sipush (-999), 3) := by decide +kernel
theorem dX7_isPower_4 : decode cX7_isPower 4 = .ok (.if_icmp .lt 14, 3) := by decide +kernel
theorem dX7_isPower_7 : decode cX7_isPower 7 = .ok (.iload_n 0, 1) := by decide +kernel
theorem dX7_isPower_8 : decode cX7_isPower 8 = .ok (.sipush 999, 3) := by decide +kernel
theorem dX7_isPower_11 : decode cX7_isPower 11 = .ok (.if_icmp .gt 7, 3) := by decide +kernel
theorem dX7_isPower_14 : decode cX7_isPower 14 = .ok (.iconst 1, 1) := by decide +kernel
theorem dX7_isPower_15 : decode cX7_isPower 15 = .ok (.goto 4, 3) := by decide +kernel
theorem dX7_isPower_18 : decode cX7_isPower 18 = .ok (.iconst 0, 1) := by decide +kernel
theorem dX7_isPower_19 : decode cX7_isPower 19 = .ok (.ireturn, 1) := by decide +kernel
theorem dX7_cutsThatStay_0 : decode cX7_cutsThatStay 0 = .ok (.iconst 0, 1) := by decide +kernel
theorem dX7_cutsThatStay_1 : decode cX7_cutsThatStay 1 = .ok (.istore_n 3, 1) := by decide +kernel
theorem dX7_cutsThatStay_2 : decode cX7_cutsThatStay 2 = .ok (.iconst 0, 1) := by decide +kernel
theorem dX7_cutsThatStay_3 : decode cX7_cutsThatStay 3 = .ok (.istore 4, 2) := by decide +kernel
theorem dX7_cutsThatStay_5 : decode cX7_cutsThatStay 5 = .ok (.iload 4, 2) := by decide +kernel
theorem dX7_cutsThatStay_7 : decode cX7_cutsThatStay 7 = .ok (.aload_n 0, 1) := by decide +kernel
theorem dX7_cutsThatStay_8 : decode cX7_cutsThatStay 8 = .ok (.getfield 10, 3) := by decide +kernel
theorem dX7_cutsThatStay_11 : decode cX7_cutsThatStay 11 = .ok (.getfield 56, 3) := by decide +kernel
theorem dX7_cutsThatStay_14 : decode cX7_cutsThatStay 14 = .ok (.if_icmp .ge 34, 3) := by decide +kernel
theorem dX7_cutsThatStay_17 : decode cX7_cutsThatStay 17 = .ok (.lload_n 1, 1) := by decide +kernel
theorem dX7_cutsThatStay_18 : decode cX7_cutsThatStay 18 = .ok (.iload 4, 2) := by decide +kernel
theorem dX7_cutsThatStay_20 : decode cX7_cutsThatStay 20 = .ok (.aload_n 0, 1) := by decide +kernel
theorem dX7_cutsThatStay_21 : decode cX7_cutsThatStay 21 = .ok (.getfield 10, 3) := by decide +kernel
theorem dX7_cutsThatStay_24 : decode cX7_cutsThatStay 24 = .ok (.getfield 56, 3) := by decide +kernel
theorem dX7_cutsThatStay_27 : decode cX7_cutsThatStay 27 = .ok (.invokestatic 195, 3) := by decide +kernel
theorem dX7_cutsThatStay_30 : decode cX7_cutsThatStay 30 = .ok (.lload_n 1, 1) := by decide +kernel
theorem dX7_cutsThatStay_31 : decode cX7_cutsThatStay 31 = .ok (.lcmp, 1) := by decide +kernel
theorem dX7_cutsThatStay_32 : decode cX7_cutsThatStay 32 = .ok (.ifCond .ne 10, 3) := by decide +kernel
theorem dX7_cutsThatStay_35 : decode cX7_cutsThatStay 35 = .ok (.iload_n 3, 1) := by decide +kernel
theorem dX7_cutsThatStay_36 : decode cX7_cutsThatStay 36 = .ok (.iconst 1, 1) := by decide +kernel
theorem dX7_cutsThatStay_37 : decode cX7_cutsThatStay 37 = .ok (.iload 4, 2) := by decide +kernel
theorem dX7_cutsThatStay_39 : decode cX7_cutsThatStay 39 = .ok (.ishl, 1) := by decide +kernel
theorem dX7_cutsThatStay_40 : decode cX7_cutsThatStay 40 = .ok (.ior, 1) := by decide +kernel
theorem dX7_cutsThatStay_41 : decode cX7_cutsThatStay 41 = .ok (.istore_n 3, 1) := by decide +kernel
theorem dX7_cutsThatStay_42 : decode cX7_cutsThatStay 42 = .ok (.iinc 4 1, 3) := by decide +kernel
theorem dX7_cutsThatStay_45 : decode cX7_cutsThatStay 45 = .ok (.goto (-40), 3) := by decide +kernel
theorem dX7_cutsThatStay_48 : decode cX7_cutsThatStay 48 = .ok (.iload_n 3, 1) := by decide +kernel
theorem dX7_cutsThatStay_49 : decode cX7_cutsThatStay 49 = .ok (.ireturn, 1) := by decide +kernel
theorem dX7_lowestWay_0 : decode cX7_lowestWay 0 = .ok (.iconst 1, 1) := by decide +kernel
theorem dX7_lowestWay_1 : decode cX7_lowestWay 1 = .ok (.iconst 2, 1) := by decide +kernel
theorem dX7_lowestWay_2 : decode cX7_lowestWay 2 = .ok (.iload_n 1, 1) := by decide +kernel
theorem dX7_lowestWay_3 : decode cX7_lowestWay 3 = .ok (.imul, 1) := by decide +kernel
theorem dX7_lowestWay_4 : decode cX7_lowestWay 4 = .ok (.ishl, 1) := by decide +kernel
theorem dX7_lowestWay_5 : decode cX7_lowestWay 5 = .ok (.istore_n 2, 1) := by decide +kernel
theorem dX7_lowestWay_6 : decode cX7_lowestWay 6 = .ok (.iconst 0, 1) := by decide +kernel
theorem dX7_lowestWay_7 : decode cX7_lowestWay 7 = .ok (.istore_n 3, 1) := by decide +kernel
theorem dX7_lowestWay_8 : decode cX7_lowestWay 8 = .ok (.iload_n 3, 1) := by decide +kernel
theorem dX7_lowestWay_9 : decode cX7_lowestWay 9 = .ok (.iload_n 2, 1) := by decide +kernel
theorem dX7_lowestWay_10 : decode cX7_lowestWay 10 = .ok (.if_icmp .ge 20, 3) := by decide +kernel
theorem dX7_lowestWay_13 : decode cX7_lowestWay 13 = .ok (.aload_n 0, 1) := by decide +kernel
theorem dX7_lowestWay_14 : decode cX7_lowestWay 14 = .ok (.iload_n 3, 1) := by decide +kernel
theorem dX7_lowestWay_15 : decode cX7_lowestWay 15 = .ok (.iload_n 1, 1) := by decide +kernel
theorem dX7_lowestWay_16 : decode cX7_lowestWay 16 = .ok (.invokevirtual 233, 3) := by decide +kernel
theorem dX7_lowestWay_19 : decode cX7_lowestWay 19 = .ok (.ifCond .eq 5, 3) := by decide +kernel
theorem dX7_lowestWay_22 : decode cX7_lowestWay 22 = .ok (.iload_n 3, 1) := by decide +kernel
theorem dX7_lowestWay_23 : decode cX7_lowestWay 23 = .ok (.ireturn, 1) := by decide +kernel
theorem dX7_lowestWay_24 : decode cX7_lowestWay 24 = .ok (.iinc 3 1, 3) := by decide +kernel
theorem dX7_lowestWay_27 : decode cX7_lowestWay 27 = .ok (.goto (-19), 3) := by decide +kernel
theorem dX7_lowestWay_30 : decode cX7_lowestWay 30 = .ok (.bipush (-6), 2) := by decide +kernel
theorem dX7_lowestWay_32 : decode cX7_lowestWay 32 = .ok (.ireturn, 1) := by decide +kernel
theorem dX7_ordersDeck_0 : decode cX7_ordersDeck 0 = .ok (.iconst 0, 1) := by decide +kernel
theorem dX7_ordersDeck_1 : decode cX7_ordersDeck 1 = .ok (.istore_n 3, 1) := by decide +kernel
theorem dX7_ordersDeck_2 : decode cX7_ordersDeck 2 = .ok (.iload_n 3, 1) := by decide +kernel
theorem dX7_ordersDeck_3 : decode cX7_ordersDeck 3 = .ok (.aload_n 0, 1) := by decide +kernel
theorem dX7_ordersDeck_4 : decode cX7_ordersDeck 4 = .ok (.getfield 10, 3) := by decide +kernel
theorem dX7_ordersDeck_7 : decode cX7_ordersDeck 7 = .ok (.getfield 56, 3) := by decide +kernel
theorem dX7_ordersDeck_10 : decode cX7_ordersDeck 10 = .ok (.if_icmp .ge 66, 3) := by decide +kernel
theorem dX7_ordersDeck_13 : decode cX7_ordersDeck 13 = .ok (.aload_n 0, 1) := by decide +kernel
theorem dX7_ordersDeck_14 : decode cX7_ordersDeck 14 = .ok (.getfield 10, 3) := by decide +kernel
theorem dX7_ordersDeck_17 : decode cX7_ordersDeck 17 = .ok (.getfield 127, 3) := by decide +kernel
theorem dX7_ordersDeck_20 : decode cX7_ordersDeck 20 = .ok (.iload_n 3, 1) := by decide +kernel
theorem dX7_ordersDeck_21 : decode cX7_ordersDeck 21 = .ok (.invokestatic 134, 3) := by decide +kernel
theorem dX7_ordersDeck_24 : decode cX7_ordersDeck 24 = .ok (.istore 4, 2) := by decide +kernel
theorem dX7_ordersDeck_26 : decode cX7_ordersDeck 26 = .ok (.iconst 0, 1) := by decide +kernel
theorem dX7_ordersDeck_27 : decode cX7_ordersDeck 27 = .ok (.istore 5, 2) := by decide +kernel
theorem dX7_ordersDeck_29 : decode cX7_ordersDeck 29 = .ok (.iload 5, 2) := by decide +kernel
theorem dX7_ordersDeck_31 : decode cX7_ordersDeck 31 = .ok (.iload_n 2, 1) := by decide +kernel
theorem dX7_ordersDeck_32 : decode cX7_ordersDeck 32 = .ok (.if_icmp .ge 30, 3) := by decide +kernel
theorem dX7_ordersDeck_35 : decode cX7_ordersDeck 35 = .ok (.iload_n 1, 1) := by decide +kernel
theorem dX7_ordersDeck_36 : decode cX7_ordersDeck 36 = .ok (.iload_n 2, 1) := by decide +kernel
theorem dX7_ordersDeck_37 : decode cX7_ordersDeck 37 = .ok (.iload 5, 2) := by decide +kernel
theorem dX7_ordersDeck_39 : decode cX7_ordersDeck 39 = .ok (.invokestatic 205, 3) := by decide +kernel
theorem dX7_ordersDeck_42 : decode cX7_ordersDeck 42 = .ok (.iload 4, 2) := by decide +kernel
theorem dX7_ordersDeck_44 : decode cX7_ordersDeck 44 = .ok (.aload_n 0, 1) := by decide +kernel
theorem dX7_ordersDeck_45 : decode cX7_ordersDeck 45 = .ok (.getfield 10, 3) := by decide +kernel
theorem dX7_ordersDeck_48 : decode cX7_ordersDeck 48 = .ok (.getfield 56, 3) := by decide +kernel
theorem dX7_ordersDeck_51 : decode cX7_ordersDeck 51 = .ok (.invokestatic 237, 3) := by decide +kernel
theorem dX7_ordersDeck_54 : decode cX7_ordersDeck 54 = .ok (.istore 4, 2) := by decide +kernel
theorem dX7_ordersDeck_56 : decode cX7_ordersDeck 56 = .ok (.iinc 5 1, 3) := by decide +kernel
theorem dX7_ordersDeck_59 : decode cX7_ordersDeck 59 = .ok (.goto (-30), 3) := by decide +kernel
theorem dX7_ordersDeck_62 : decode cX7_ordersDeck 62 = .ok (.iload 4, 2) := by decide +kernel
theorem dX7_ordersDeck_64 : decode cX7_ordersDeck 64 = .ok (.iload_n 3, 1) := by decide +kernel
theorem dX7_ordersDeck_65 : decode cX7_ordersDeck 65 = .ok (.if_icmp .eq 5, 3) := by decide +kernel
theorem dX7_ordersDeck_68 : decode cX7_ordersDeck 68 = .ok (.iconst 0, 1) := by decide +kernel
theorem dX7_ordersDeck_69 : decode cX7_ordersDeck 69 = .ok (.ireturn, 1) := by decide +kernel
theorem dX7_ordersDeck_70 : decode cX7_ordersDeck 70 = .ok (.iinc 3 1, 3) := by decide +kernel
theorem dX7_ordersDeck_73 : decode cX7_ordersDeck 73 = .ok (.goto (-71), 3) := by decide +kernel
theorem dX7_ordersDeck_76 : decode cX7_ordersDeck 76 = .ok (.iconst 1, 1) := by decide +kernel
theorem dX7_ordersDeck_77 : decode cX7_ordersDeck 77 = .ok (.ireturn, 1) := by decide +kernel
theorem dX7_stepOfWay_0 : decode cX7_stepOfWay 0 = .ok (.iload_n 0, 1) := by decide +kernel
theorem dX7_stepOfWay_1 : decode cX7_stepOfWay 1 = .ok (.iconst 2, 1) := by decide +kernel
theorem dX7_stepOfWay_2 : decode cX7_stepOfWay 2 = .ok (.iload_n 1, 1) := by decide +kernel
theorem dX7_stepOfWay_3 : decode cX7_stepOfWay 3 = .ok (.iconst 1, 1) := by decide +kernel
theorem dX7_stepOfWay_4 : decode cX7_stepOfWay 4 = .ok (.isub, 1) := by decide +kernel
theorem dX7_stepOfWay_5 : decode cX7_stepOfWay 5 = .ok (.iload_n 2, 1) := by decide +kernel
theorem dX7_stepOfWay_6 : decode cX7_stepOfWay 6 = .ok (.isub, 1) := by decide +kernel
theorem dX7_stepOfWay_7 : decode cX7_stepOfWay 7 = .ok (.imul, 1) := by decide +kernel
theorem dX7_stepOfWay_8 : decode cX7_stepOfWay 8 = .ok (.ishr, 1) := by decide +kernel
theorem dX7_stepOfWay_9 : decode cX7_stepOfWay 9 = .ok (.iconst 3, 1) := by decide +kernel
theorem dX7_stepOfWay_10 : decode cX7_stepOfWay 10 = .ok (.iand, 1) := by decide +kernel
theorem dX7_stepOfWay_11 : decode cX7_stepOfWay 11 = .ok (.ireturn, 1) := by decide +kernel
theorem dX7_charactersIn_0 : decode cX7_charactersIn 0 = .ok (.iconst 0, 1) := by decide +kernel
theorem dX7_charactersIn_1 : decode cX7_charactersIn 1 = .ok (.istore_n 2, 1) := by decide +kernel
theorem dX7_charactersIn_2 : decode cX7_charactersIn 2 = .ok (.iload_n 2, 1) := by decide +kernel
theorem dX7_charactersIn_3 : decode cX7_charactersIn 3 = .ok (.bipush 8, 2) := by decide +kernel
theorem dX7_charactersIn_5 : decode cX7_charactersIn 5 = .ok (.if_icmp .ge 37, 3) := by decide +kernel
theorem dX7_charactersIn_8 : decode cX7_charactersIn 8 = .ok (.lload_n 0, 1) := by decide +kernel
theorem dX7_charactersIn_9 : decode cX7_charactersIn 9 = .ok (.iload_n 2, 1) := by decide +kernel
theorem dX7_charactersIn_10 : decode cX7_charactersIn 10 = .ok (.invokestatic 212, 3) := by decide +kernel
theorem dX7_charactersIn_13 : decode cX7_charactersIn 13 = .ok (.ifCond .eq 29, 3) := by decide +kernel
theorem dX7_charactersIn_16 : decode cX7_charactersIn 16 = .ok (.lload_n 0, 1) := by decide +kernel
theorem dX7_charactersIn_17 : decode cX7_charactersIn 17 = .ok (.iload_n 2, 1) := by decide +kernel
theorem dX7_charactersIn_18 : decode cX7_charactersIn 18 = .ok (.invokestatic 212, 3) := by decide +kernel
theorem dX7_charactersIn_21 : decode cX7_charactersIn 21 = .ok (.istore_n 3, 1) := by decide +kernel
theorem dX7_charactersIn_22 : decode cX7_charactersIn 22 = .ok (.iload_n 3, 1) := by decide +kernel
theorem dX7_charactersIn_23 : decode cX7_charactersIn 23 = .ok (.bipush 33, 2) := by decide +kernel
theorem dX7_charactersIn_25 : decode cX7_charactersIn 25 = .ok (.if_icmp .lt 9, 3) := by decide +kernel
theorem dX7_charactersIn_28 : decode cX7_charactersIn 28 = .ok (.iload_n 3, 1) := by decide +kernel
theorem dX7_charactersIn_29 : decode cX7_charactersIn 29 = .ok (.bipush 126, 2) := by decide +kernel
theorem dX7_charactersIn_31 : decode cX7_charactersIn 31 = .ok (.if_icmp .le 5, 3) := by decide +kernel
theorem dX7_charactersIn_34 : decode cX7_charactersIn 34 = .ok (.iconst 0, 1) := by decide +kernel
theorem dX7_charactersIn_35 : decode cX7_charactersIn 35 = .ok (.ireturn, 1) := by decide +kernel
theorem dX7_charactersIn_36 : decode cX7_charactersIn 36 = .ok (.iinc 2 1, 3) := by decide +kernel
theorem dX7_charactersIn_39 : decode cX7_charactersIn 39 = .ok (.goto (-37), 3) := by decide +kernel
theorem dX7_charactersIn_42 : decode cX7_charactersIn 42 = .ok (.iload_n 2, 1) := by decide +kernel
theorem dX7_charactersIn_43 : decode cX7_charactersIn 43 = .ok (.bipush 8, 2) := by decide +kernel
theorem dX7_charactersIn_45 : decode cX7_charactersIn 45 = .ok (.if_icmp .eq 14, 3) := by decide +kernel
theorem dX7_charactersIn_48 : decode cX7_charactersIn 48 = .ok (.lload_n 0, 1) := by decide +kernel
theorem dX7_charactersIn_49 : decode cX7_charactersIn 49 = .ok (.bipush 8, 2) := by decide +kernel
theorem dX7_charactersIn_51 : decode cX7_charactersIn 51 = .ok (.iload_n 2, 1) := by decide +kernel
theorem dX7_charactersIn_52 : decode cX7_charactersIn 52 = .ok (.imul, 1) := by decide +kernel
theorem dX7_charactersIn_53 : decode cX7_charactersIn 53 = .ok (.lushr, 1) := by decide +kernel
theorem dX7_charactersIn_54 : decode cX7_charactersIn 54 = .ok (.lconst 0, 1) := by decide +kernel
theorem dX7_charactersIn_55 : decode cX7_charactersIn 55 = .ok (.lcmp, 1) := by decide +kernel
theorem dX7_charactersIn_56 : decode cX7_charactersIn 56 = .ok (.ifCond .ne 7, 3) := by decide +kernel
theorem dX7_charactersIn_59 : decode cX7_charactersIn 59 = .ok (.iload_n 2, 1) := by decide +kernel
theorem dX7_charactersIn_60 : decode cX7_charactersIn 60 = .ok (.goto 4, 3) := by decide +kernel
theorem dX7_charactersIn_63 : decode cX7_charactersIn 63 = .ok (.iconst 0, 1) := by decide +kernel
theorem dX7_charactersIn_64 : decode cX7_charactersIn 64 = .ok (.ireturn, 1) := by decide +kernel
theorem dX7_codeAt_0 : decode cX7_codeAt 0 = .ok (.lload_n 0, 1) := by decide +kernel
theorem dX7_codeAt_1 : decode cX7_codeAt 1 = .ok (.bipush 8, 2) := by decide +kernel
theorem dX7_codeAt_3 : decode cX7_codeAt 3 = .ok (.iload_n 2, 1) := by decide +kernel
theorem dX7_codeAt_4 : decode cX7_codeAt 4 = .ok (.imul, 1) := by decide +kernel
theorem dX7_codeAt_5 : decode cX7_codeAt 5 = .ok (.lushr, 1) := by decide +kernel
theorem dX7_codeAt_6 : decode cX7_codeAt 6 = .ok (.l2i, 1) := by decide +kernel
theorem dX7_codeAt_7 : decode cX7_codeAt 7 = .ok (.sipush 255, 3) := by decide +kernel
theorem dX7_codeAt_10 : decode cX7_codeAt 10 = .ok (.iand, 1) := by decide +kernel
theorem dX7_codeAt_11 : decode cX7_codeAt 11 = .ok (.ireturn, 1) := by decide +kernel
theorem dX7_append_0 : decode cX7_append 0 = .ok (.aload_n 0, 1) := by decide +kernel
theorem dX7_append_1 : decode cX7_append 1 = .ok (.getfield 46, 3) := by decide +kernel
theorem dX7_append_4 : decode cX7_append 4 = .ok (.ifCond .lt 35, 3) := by decide +kernel
theorem dX7_append_7 : decode cX7_append 7 = .ok (.aload_n 0, 1) := by decide +kernel
theorem dX7_append_8 : decode cX7_append 8 = .ok (.getfield 46, 3) := by decide +kernel
theorem dX7_append_11 : decode cX7_append 11 = .ok (.aload_n 0, 1) := by decide +kernel
theorem dX7_append_12 : decode cX7_append 12 = .ok (.getfield 42, 3) := by decide +kernel
theorem dX7_append_15 : decode cX7_append 15 = .ok (.arraylength, 1) := by decide +kernel
theorem dX7_append_16 : decode cX7_append 16 = .ok (.if_icmp .ge 23, 3) := by decide +kernel
theorem dX7_append_19 : decode cX7_append 19 = .ok (.aload_n 0, 1) := by decide +kernel
theorem dX7_append_20 : decode cX7_append 20 = .ok (.getfield 42, 3) := by decide +kernel
theorem dX7_append_23 : decode cX7_append 23 = .ok (.aload_n 0, 1) := by decide +kernel
theorem dX7_append_24 : decode cX7_append 24 = .ok (.getfield 46, 3) := by decide +kernel
theorem dX7_append_27 : decode cX7_append 27 = .ok (.iload_n 1, 1) := by decide +kernel
theorem dX7_append_28 : decode cX7_append 28 = .ok (.castore, 1) := by decide +kernel
theorem dX7_append_29 : decode cX7_append 29 = .ok (.aload_n 0, 1) := by decide +kernel
theorem dX7_append_30 : decode cX7_append 30 = .ok (.dup, 1) := by decide +kernel
theorem dX7_append_31 : decode cX7_append 31 = .ok (.getfield 46, 3) := by decide +kernel
theorem dX7_append_34 : decode cX7_append 34 = .ok (.iconst 1, 1) := by decide +kernel
theorem dX7_append_35 : decode cX7_append 35 = .ok (.iadd, 1) := by decide +kernel
theorem dX7_append_36 : decode cX7_append 36 = .ok (.putfield 46, 3) := by decide +kernel
theorem dX7_append_39 : decode cX7_append 39 = .ok (.return_, 1) := by decide +kernel
theorem dX7_readPad_0 : decode cX7_readPad 0 = .ok (.aload_n 0, 1) := by decide +kernel
theorem dX7_readPad_1 : decode cX7_readPad 1 = .ok (.getfield 38, 3) := by decide +kernel
theorem dX7_readPad_4 : decode cX7_readPad 4 = .ok (.aload_n 0, 1) := by decide +kernel
theorem dX7_readPad_5 : decode cX7_readPad 5 = .ok (.getfield 10, 3) := by decide +kernel
theorem dX7_readPad_8 : decode cX7_readPad 8 = .ok (.getfield 56, 3) := by decide +kernel
theorem dX7_readPad_11 : decode cX7_readPad 11 = .ok (.invokevirtual 240, 3) := by decide +kernel
theorem dX7_readPad_14 : decode cX7_readPad 14 = .ok (.iconst 0, 1) := by decide +kernel
theorem dX7_readPad_15 : decode cX7_readPad 15 = .ok (.istore_n 1, 1) := by decide +kernel
theorem dX7_readPad_16 : decode cX7_readPad 16 = .ok (.iload_n 1, 1) := by decide +kernel
theorem dX7_readPad_17 : decode cX7_readPad 17 = .ok (.aload_n 0, 1) := by decide +kernel
theorem dX7_readPad_18 : decode cX7_readPad 18 = .ok (.getfield 46, 3) := by decide +kernel
theorem dX7_readPad_21 : decode cX7_readPad 21 = .ok (.if_icmp .ge 36, 3) := by decide +kernel
theorem dX7_readPad_24 : decode cX7_readPad 24 = .ok (.iload_n 1, 1) := by decide +kernel
theorem dX7_readPad_25 : decode cX7_readPad 25 = .ok (.aload_n 0, 1) := by decide +kernel
theorem dX7_readPad_26 : decode cX7_readPad 26 = .ok (.getfield 42, 3) := by decide +kernel
theorem dX7_readPad_29 : decode cX7_readPad 29 = .ok (.arraylength, 1) := by decide +kernel
theorem dX7_readPad_30 : decode cX7_readPad 30 = .ok (.if_icmp .ge 27, 3) := by decide +kernel
theorem dX7_readPad_33 : decode cX7_readPad 33 = .ok (.aload_n 0, 1) := by decide +kernel
theorem dX7_readPad_34 : decode cX7_readPad 34 = .ok (.getfield 38, 3) := by decide +kernel
theorem dX7_readPad_37 : decode cX7_readPad 37 = .ok (.aload_n 0, 1) := by decide +kernel
theorem dX7_readPad_38 : decode cX7_readPad 38 = .ok (.getfield 42, 3) := by decide +kernel
theorem dX7_readPad_41 : decode cX7_readPad 41 = .ok (.iload_n 1, 1) := by decide +kernel
theorem dX7_readPad_42 : decode cX7_readPad 42 = .ok (.caload, 1) := by decide +kernel
theorem dX7_readPad_43 : decode cX7_readPad 43 = .ok (.invokevirtual 243, 3) := by decide +kernel
theorem dX7_readPad_46 : decode cX7_readPad 46 = .ok (.ifCond .ne 5, 3) := by decide +kernel
theorem dX7_readPad_49 : decode cX7_readPad 49 = .ok (.iload_n 1, 1) := by decide +kernel
theorem dX7_readPad_50 : decode cX7_readPad 50 = .ok (.ireturn, 1) := by decide +kernel
theorem dX7_readPad_51 : decode cX7_readPad 51 = .ok (.iinc 1 1, 3) := by decide +kernel
theorem dX7_readPad_54 : decode cX7_readPad 54 = .ok (.goto (-38), 3) := by decide +kernel
theorem dX7_readPad_57 : decode cX7_readPad 57 = .ok (.aload_n 0, 1) := by decide +kernel
theorem dX7_readPad_58 : decode cX7_readPad 58 = .ok (.getfield 38, 3) := by decide +kernel
theorem dX7_readPad_61 : decode cX7_readPad 61 = .ok (.invokevirtual 247, 3) := by decide +kernel
theorem dX7_readPad_64 : decode cX7_readPad 64 = .ok (.ifCond .eq 8, 3) := by decide +kernel
theorem dX7_readPad_67 : decode cX7_readPad 67 = .ok (.bipush (-6), 2) := by decide +kernel
theorem dX7_readPad_69 : decode cX7_readPad 69 = .ok (.goto 7, 3) := by decide +kernel
theorem dX7_readPad_72 : decode cX7_readPad 72 = .ok (.aload_n 0, 1) := by decide +kernel
theorem dX7_readPad_73 : decode cX7_readPad 73 = .ok (.getfield 46, 3) := by decide +kernel
theorem dX7_readPad_76 : decode cX7_readPad 76 = .ok (.ireturn, 1) := by decide +kernel
end
section
theorem dX8_init_0 : decode cX8_init 0 = .ok (.aload_n 0, 1) := by decide +kernel
theorem dX8_init_1 : decode cX8_init 1 = .ok (.invokespecial 1, 3) := by decide +kernel
theorem dX8_init_4 : decode cX8_init 4 = .ok (.aload_n 0, 1) := by decide +kernel
theorem dX8_init_5 : decode cX8_init 5 = .ok (.sipush 130, 3) := by decide +kernel
theorem dX8_init_8 : decode cX8_init 8 = .ok (.newarray .int, 2) := by decide +kernel
theorem dX8_init_10 : decode cX8_init 10 = .ok (.putfield 7, 3) := by decide +kernel
theorem dX8_init_13 : decode cX8_init 13 = .ok (.aload_n 0, 1) := by decide +kernel
theorem dX8_init_14 : decode cX8_init 14 = .ok (.sipush 780, 3) := by decide +kernel
theorem dX8_init_17 : decode cX8_init 17 = .ok (.newarray .int, 2) := by decide +kernel
theorem dX8_init_19 : decode cX8_init 19 = .ok (.putfield 13, 3) := by decide +kernel
theorem dX8_init_22 : decode cX8_init 22 = .ok (.aload_n 0, 1) := by decide +kernel
theorem dX8_init_23 : decode cX8_init 23 = .ok (.sipush 260, 3) := by decide +kernel
theorem dX8_init_26 : decode cX8_init 26 = .ok (.newarray .int, 2) := by decide +kernel
theorem dX8_init_28 : decode cX8_init 28 = .ok (.putfield 16, 3) := by decide +kernel
theorem dX8_init_31 : decode cX8_init 31 = .ok (.aload_n 0, 1) := by decide +kernel
theorem dX8_init_32 : decode cX8_init 32 = .ok (.iconst 2, 1) := by decide +kernel
theorem dX8_init_33 : decode cX8_init 33 = .ok (.newarray .boolean, 2) := by decide +kernel
theorem dX8_init_35 : decode cX8_init 35 = .ok (.putfield 19, 3) := by decide +kernel
theorem dX8_init_38 : decode cX8_init 38 = .ok (.aload_n 0, 1) := by decide +kernel
theorem dX8_init_39 : decode cX8_init 39 = .ok (.bipush 80, 2) := by decide +kernel
theorem dX8_init_41 : decode cX8_init 41 = .ok (.newarray .int, 2) := by decide +kernel
theorem dX8_init_43 : decode cX8_init 43 = .ok (.putfield 23, 3) := by decide +kernel
theorem dX8_init_46 : decode cX8_init 46 = .ok (.aload_n 0, 1) := by decide +kernel
theorem dX8_init_47 : decode cX8_init 47 = .ok (.bipush 16, 2) := by decide +kernel
theorem dX8_init_49 : decode cX8_init 49 = .ok (.newarray .int, 2) := by decide +kernel
theorem dX8_init_51 : decode cX8_init 51 = .ok (.putfield 26, 3) := by decide +kernel
theorem dX8_init_54 : decode cX8_init 54 = .ok (.aload_n 0, 1) := by decide +kernel
theorem dX8_init_55 : decode cX8_init 55 = .ok (.bipush 16, 2) := by decide +kernel
theorem dX8_init_57 : decode cX8_init 57 = .ok (.newarray .boolean, 2) := by decide +kernel
theorem dX8_init_59 : decode cX8_init 59 = .ok (.putfield 29, 3) := by decide +kernel
theorem dX8_init_62 : decode cX8_init 62 = .ok (.aload_n 0, 1) := by decide +kernel
theorem dX8_init_63 : decode cX8_init 63 = .ok (.bipush 16, 2) := by decide +kernel
theorem dX8_init_65 : decode cX8_init 65 = .ok (.newarray .int, 2) := by decide +kernel
theorem dX8_init_67 : decode cX8_init 67 = .ok (.putfield 32, 3) := by decide +kernel
theorem dX8_init_70 : decode cX8_init 70 = .ok (.aload_n 0, 1) := by decide +kernel
theorem dX8_init_71 : decode cX8_init 71 = .ok (.bipush 16, 2) := by decide +kernel
theorem dX8_init_73 : decode cX8_init 73 = .ok (.newarray .int, 2) := by decide +kernel
theorem dX8_init_75 : decode cX8_init 75 = .ok (.putfield 35, 3) := by decide +kernel
theorem dX8_init_78 : decode cX8_init 78 = .ok (.aload_n 0, 1) := by decide +kernel
theorem dX8_init_79 : decode cX8_init 79 = .ok (.bipush 16, 2) := by decide +kernel
theorem dX8_init_81 : decode cX8_init 81 = .ok (.newarray .int, 2) := by decide +kernel
theorem dX8_init_83 : decode cX8_init 83 = .ok (.putfield 38, 3) := by decide +kernel
theorem dX8_init_86 : decode cX8_init 86 = .ok (.aload_n 0, 1) := by decide +kernel
theorem dX8_init_87 : decode cX8_init 87 = .ok (.bipush 16, 2) := by decide +kernel
theorem dX8_init_89 : decode cX8_init 89 = .ok (.newarray .int, 2) := by decide +kernel
theorem dX8_init_91 : decode cX8_init 91 = .ok (.putfield 41, 3) := by decide +kernel
theorem dX8_init_94 : decode cX8_init 94 = .ok (.aload_n 0, 1) := by decide +kernel
theorem dX8_init_95 : decode cX8_init 95 = .ok (.bipush 16, 2) := by decide +kernel
theorem dX8_init_97 : decode cX8_init 97 = .ok (.newarray .int, 2) := by decide +kernel
theorem dX8_init_99 : decode cX8_init 99 = .ok (.putfield 44, 3) := by decide +kernel
theorem dX8_init_102 : decode cX8_init 102 = .ok (.aload_n 0, 1) := by decide +kernel
theorem dX8_init_103 : decode cX8_init 103 = .ok (.bipush 16, 2) := by decide +kernel
theorem dX8_init_105 : decode cX8_init 105 = .ok (.newarray .boolean, 2) := by decide +kernel
theorem dX8_init_107 : decode cX8_init 107 = .ok (.putfield 47, 3) := by decide +kernel
theorem dX8_init_110 : decode cX8_init 110 = .ok (.aload_n 0, 1) := by decide +kernel
theorem dX8_init_111 : decode cX8_init 111 = .ok (.bipush 17, 2) := by decide +kernel
theorem dX8_init_113 : decode cX8_init 113 = .ok (.newarray .int, 2) := by decide +kernel
theorem dX8_init_115 : decode cX8_init 115 = .ok (.putfield 50, 3) := by decide +kernel
theorem dX8_init_118 : decode cX8_init 118 = .ok (.aload_n 0, 1) := by decide +kernel
theorem dX8_init_119 : decode cX8_init 119 = .ok (.iconst 0, 1) := by decide +kernel
theorem dX8_init_120 : decode cX8_init 120 = .ok (.putfield 53, 3) := by decide +kernel
theorem dX8_init_123 : decode cX8_init 123 = .ok (.aload_n 0, 1) := by decide +kernel
theorem dX8_init_124 : decode cX8_init 124 = .ok (.bipush 8, 2) := by decide +kernel
theorem dX8_init_126 : decode cX8_init 126 = .ok (.invokevirtual 57, 3) := by decide +kernel
theorem dX8_init_129 : decode cX8_init 129 = .ok (.return_, 1) := by decide +kernel
theorem dX8_in_0 : decode cX8_in 0 = .ok (.iload_n 0, 1) := by decide +kernel
theorem dX8_in_1 : decode cX8_in 1 = .ok (.iload_n 1, 1) := by decide +kernel
theorem dX8_in_2 : decode cX8_in 2 = .ok (.if_icmp .lt 12, 3) := by decide +kernel
theorem dX8_in_5 : decode cX8_in 5 = .ok (.iload_n 0, 1) := by decide +kernel
theorem dX8_in_6 : decode cX8_in 6 = .ok (.iload_n 2, 1) := by decide +kernel
theorem dX8_in_7 : decode cX8_in 7 = .ok (.if_icmp .gt 7, 3) := by decide +kernel
theorem dX8_in_10 : decode cX8_in 10 = .ok (.iconst 1, 1) := by decide +kernel
theorem dX8_in_11 : decode cX8_in 11 = .ok (.goto 4, 3) := by decide +kernel
theorem dX8_in_14 : decode cX8_in 14 = .ok (.iconst 0, 1) := by decide +kernel
theorem dX8_in_15 : decode cX8_in 15 = .ok (.ireturn, 1) := by decide +kernel
theorem dX8_begins_0 : decode cX8_begins 0 = .ok (.iconst 0, 1) := by decide +kernel
theorem dX8_begins_1 : decode cX8_begins 1 = .ok (.istore_n 2, 1) := by decide +kernel
theorem dX8_begins_2 : decode cX8_begins 2 = .ok (.iload_n 2, 1) := by decide +kernel
theorem dX8_begins_3 : decode cX8_begins 3 = .ok (.sipush 130, 3) := by decide +kernel
theorem dX8_begins_6 : decode cX8_begins 6 = .ok (.if_icmp .ge 16, 3) := by decide +kernel
theorem dX8_begins_9 : decode cX8_begins 9 = .ok (.aload_n 0, 1) := by decide +kernel
theorem dX8_begins_10 : decode cX8_begins 10 = .ok (.getfield 7, 3) := by decide +kernel
theorem dX8_begins_13 : decode cX8_begins 13 = .ok (.iload_n 2, 1) := by decide +kernel
theorem dX8_begins_14 : decode cX8_begins 14 = .ok (.iconst 0, 1) := by decide +kernel
theorem dX8_begins_15 : decode cX8_begins 15 = .ok (.iastore, 1) := by decide +kernel
theorem dX8_begins_16 : decode cX8_begins 16 = .ok (.iinc 2 1, 3) := by decide +kernel
theorem dX8_begins_19 : decode cX8_begins 19 = .ok (.goto (-17), 3) := by decide +kernel
theorem dX8_begins_22 : decode cX8_begins 22 = .ok (.aload_n 0, 1) := by decide +kernel
theorem dX8_begins_23 : decode cX8_begins 23 = .ok (.getfield 7, 3) := by decide +kernel
theorem dX8_begins_26 : decode cX8_begins 26 = .ok (.iconst 0, 1) := by decide +kernel
theorem dX8_begins_27 : decode cX8_begins 27 = .ok (.iload_n 1, 1) := by decide +kernel
theorem dX8_begins_28 : decode cX8_begins 28 = .ok (.iastore, 1) := by decide +kernel
theorem dX8_begins_29 : decode cX8_begins 29 = .ok (.iconst 0, 1) := by decide +kernel
theorem dX8_begins_30 : decode cX8_begins 30 = .ok (.istore_n 2, 1) := by decide +kernel
theorem dX8_begins_31 : decode cX8_begins 31 = .ok (.iload_n 2, 1) := by decide +kernel
theorem dX8_begins_32 : decode cX8_begins 32 = .ok (.iload_n 1, 1) := by decide +kernel
theorem dX8_begins_33 : decode cX8_begins 33 = .ok (.if_icmp .ge 28, 3) := by decide +kernel
theorem dX8_begins_36 : decode cX8_begins 36 = .ok (.aload_n 0, 1) := by decide +kernel
theorem dX8_begins_37 : decode cX8_begins 37 = .ok (.getfield 7, 3) := by decide +kernel
theorem dX8_begins_40 : decode cX8_begins 40 = .ok (.iconst 2, 1) := by decide +kernel
theorem dX8_begins_41 : decode cX8_begins 41 = .ok (.iload_n 2, 1) := by decide +kernel
theorem dX8_begins_42 : decode cX8_begins 42 = .ok (.iadd, 1) := by decide +kernel
theorem dX8_begins_43 : decode cX8_begins 43 = .ok (.iload_n 2, 1) := by decide +kernel
theorem dX8_begins_44 : decode cX8_begins 44 = .ok (.iastore, 1) := by decide +kernel
theorem dX8_begins_45 : decode cX8_begins 45 = .ok (.aload_n 0, 1) := by decide +kernel
theorem dX8_begins_46 : decode cX8_begins 46 = .ok (.getfield 7, 3) := by decide +kernel
theorem dX8_begins_49 : decode cX8_begins 49 = .ok (.bipush 18, 2) := by decide +kernel
theorem dX8_begins_51 : decode cX8_begins 51 = .ok (.iload_n 2, 1) := by decide +kernel
theorem dX8_begins_52 : decode cX8_begins 52 = .ok (.iadd, 1) := by decide +kernel
theorem dX8_begins_53 : decode cX8_begins 53 = .ok (.iload_n 2, 1) := by decide +kernel
theorem dX8_begins_54 : decode cX8_begins 54 = .ok (.iastore, 1) := by decide +kernel
theorem dX8_begins_55 : decode cX8_begins 55 = .ok (.iinc 2 1, 3) := by decide +kernel
theorem dX8_begins_58 : decode cX8_begins 58 = .ok (.goto (-27), 3) := by decide +kernel
theorem dX8_begins_61 : decode cX8_begins 61 = .ok (.return_, 1) := by decide +kernel
theorem dX8_records_0 : decode cX8_records 0 = .ok (.aload_n 0, 1) := by decide +kernel
theorem dX8_records_1 : decode cX8_records 1 = .ok (.getfield 61, 3) := by decide +kernel
theorem dX8_records_4 : decode cX8_records 4 = .ok (.bipush 6, 2) := by decide +kernel
theorem dX8_records_6 : decode cX8_records 6 = .ok (.if_icmp .ne 44, 3) := by decide +kernel
theorem dX8_records_9 : decode cX8_records 9 = .ok (.iconst 0, 1) := by decide +kernel
theorem dX8_records_10 : decode cX8_records 10 = .ok (.istore_n 1, 1) := by decide +kernel
theorem dX8_records_11 : decode cX8_records 11 = .ok (.iload_n 1, 1) := by decide +kernel
theorem dX8_records_12 : decode cX8_records 12 = .ok (.sipush 650, 3) := by decide +kernel
theorem dX8_records_15 : decode cX8_records 15 = .ok (.if_icmp .ge 25, 3) := by decide +kernel
theorem dX8_records_18 : decode cX8_records 18 = .ok (.aload_n 0, 1) := by decide +kernel
theorem dX8_records_19 : decode cX8_records 19 = .ok (.getfield 13, 3) := by decide +kernel
theorem dX8_records_22 : decode cX8_records 22 = .ok (.iload_n 1, 1) := by decide +kernel
theorem dX8_records_23 : decode cX8_records 23 = .ok (.aload_n 0, 1) := by decide +kernel
theorem dX8_records_24 : decode cX8_records 24 = .ok (.getfield 13, 3) := by decide +kernel
theorem dX8_records_27 : decode cX8_records 27 = .ok (.iload_n 1, 1) := by decide +kernel
theorem dX8_records_28 : decode cX8_records 28 = .ok (.sipush 130, 3) := by decide +kernel
theorem dX8_records_31 : decode cX8_records 31 = .ok (.iadd, 1) := by decide +kernel
theorem dX8_records_32 : decode cX8_records 32 = .ok (.iaload, 1) := by decide +kernel
theorem dX8_records_33 : decode cX8_records 33 = .ok (.iastore, 1) := by decide +kernel
theorem dX8_records_34 : decode cX8_records 34 = .ok (.iinc 1 1, 3) := by decide +kernel
theorem dX8_records_37 : decode cX8_records 37 = .ok (.goto (-26), 3) := by decide +kernel
theorem dX8_records_40 : decode cX8_records 40 = .ok (.aload_n 0, 1) := by decide +kernel
theorem dX8_records_41 : decode cX8_records 41 = .ok (.dup, 1) := by decide +kernel
theorem dX8_records_42 : decode cX8_records 42 = .ok (.getfield 61, 3) := by decide +kernel
theorem dX8_records_45 : decode cX8_records 45 = .ok (.iconst 1, 1) := by decide +kernel
theorem dX8_records_46 : decode cX8_records 46 = .ok (.isub, 1) := by decide +kernel
theorem dX8_records_47 : decode cX8_records 47 = .ok (.putfield 61, 3) := by decide +kernel
theorem dX8_records_50 : decode cX8_records 50 = .ok (.iconst 0, 1) := by decide +kernel
theorem dX8_records_51 : decode cX8_records 51 = .ok (.istore_n 1, 1) := by decide +kernel
theorem dX8_records_52 : decode cX8_records 52 = .ok (.iload_n 1, 1) := by decide +kernel
theorem dX8_records_53 : decode cX8_records 53 = .ok (.sipush 130, 3) := by decide +kernel
theorem dX8_records_56 : decode cX8_records 56 = .ok (.if_icmp .ge 30, 3) := by decide +kernel
theorem dX8_records_59 : decode cX8_records 59 = .ok (.aload_n 0, 1) := by decide +kernel
theorem dX8_records_60 : decode cX8_records 60 = .ok (.getfield 13, 3) := by decide +kernel
theorem dX8_records_63 : decode cX8_records 63 = .ok (.sipush 130, 3) := by decide +kernel
theorem dX8_records_66 : decode cX8_records 66 = .ok (.aload_n 0, 1) := by decide +kernel
theorem dX8_records_67 : decode cX8_records 67 = .ok (.getfield 61, 3) := by decide +kernel
theorem dX8_records_70 : decode cX8_records 70 = .ok (.imul, 1) := by decide +kernel
theorem dX8_records_71 : decode cX8_records 71 = .ok (.iload_n 1, 1) := by decide +kernel
theorem dX8_records_72 : decode cX8_records 72 = .ok (.iadd, 1) := by decide +kernel
theorem dX8_records_73 : decode cX8_records 73 = .ok (.aload_n 0, 1) := by decide +kernel
theorem dX8_records_74 : decode cX8_records 74 = .ok (.getfield 7, 3) := by decide +kernel
theorem dX8_records_77 : decode cX8_records 77 = .ok (.iload_n 1, 1) := by decide +kernel
theorem dX8_records_78 : decode cX8_records 78 = .ok (.iaload, 1) := by decide +kernel
theorem dX8_records_79 : decode cX8_records 79 = .ok (.iastore, 1) := by decide +kernel
theorem dX8_records_80 : decode cX8_records 80 = .ok (.iinc 1 1, 3) := by decide +kernel
theorem dX8_records_83 : decode cX8_records 83 = .ok (.goto (-31), 3) := by decide +kernel
theorem dX8_records_86 : decode cX8_records 86 = .ok (.aload_n 0, 1) := by decide +kernel
theorem dX8_records_87 : decode cX8_records 87 = .ok (.dup, 1) := by decide +kernel
theorem dX8_records_88 : decode cX8_records 88 = .ok (.getfield 61, 3) := by decide +kernel
theorem dX8_records_91 : decode cX8_records 91 = .ok (.iconst 1, 1) := by decide +kernel
theorem dX8_records_92 : decode cX8_records 92 = .ok (.iadd, 1) := by decide +kernel
theorem dX8_records_93 : decode cX8_records 93 = .ok (.putfield 61, 3) := by decide +kernel
theorem dX8_records_96 : decode cX8_records 96 = .ok (.return_, 1) := by decide +kernel
theorem dX8_isMark_0 : decode cX8_isMark 0 = .ok (.iload_n 1, 1) := by decide +kernel
theorem dX8_isMark_1 : decode cX8_isMark 1 = .ok (.iconst 0, 1) := by decide +kernel
theorem dX8_isMark_2 : decode cX8_isMark 2 = .ok (.aload_n 0, 1) := by decide +kernel
theorem dX8_isMark_3 : decode cX8_isMark 3 = .ok (.getfield 7, 3) := by decide +kernel
theorem dX8_isMark_6 : decode cX8_isMark 6 = .ok (.iconst 1, 1) := by decide +kernel
theorem dX8_isMark_7 : decode cX8_isMark 7 = .ok (.iaload, 1) := by decide +kernel
theorem dX8_isMark_8 : decode cX8_isMark 8 = .ok (.iconst 1, 1) := by decide +kernel
theorem dX8_isMark_9 : decode cX8_isMark 9 = .ok (.isub, 1) := by decide +kernel
theorem dX8_isMark_10 : decode cX8_isMark 10 = .ok (.invokestatic 64, 3) := by decide +kernel
theorem dX8_isMark_13 : decode cX8_isMark 13 = .ok (.ireturn, 1) := by decide +kernel
theorem dX8_isMarkOrTrick_0 : decode cX8_isMarkOrTrick 0 = .ok (.iload_n 1, 1) := by decide +kernel
theorem dX8_isMarkOrTrick_1 : decode cX8_isMarkOrTrick 1 = .ok (.bipush (-6), 2) := by decide +kernel
theorem dX8_isMarkOrTrick_3 : decode cX8_isMarkOrTrick 3 = .ok (.if_icmp .eq 11, 3) := by decide +kernel
theorem dX8_isMarkOrTrick_6 : decode cX8_isMarkOrTrick 6 = .ok (.aload_n 0, 1) := by decide +kernel
theorem dX8_isMarkOrTrick_7 : decode cX8_isMarkOrTrick 7 = .ok (.iload_n 1, 1) := by decide +kernel
theorem dX8_isMarkOrTrick_8 : decode cX8_isMarkOrTrick 8 = .ok (.invokevirtual 68, 3) := by decide +kernel
theorem dX8_isMarkOrTrick_11 : decode cX8_isMarkOrTrick 11 = .ok (.ifCond .eq 7, 3) := by decide +kernel
theorem dX8_isMarkOrTrick_14 : decode cX8_isMarkOrTrick 14 = .ok (.iconst 1, 1) := by decide +kernel
theorem dX8_isMarkOrTrick_15 : decode cX8_isMarkOrTrick 15 = .ok (.goto 4, 3) := by decide +kernel
theorem dX8_isMarkOrTrick_18 : decode cX8_isMarkOrTrick 18 = .ok (.iconst 0, 1) := by decide +kernel
theorem dX8_isMarkOrTrick_19 : decode cX8_isMarkOrTrick 19 = .ok (.ireturn, 1) := by decide +kernel
theorem dX8_isPlace_0 : decode cX8_isPlace 0 = .ok (.iload_n 1, 1) := by decide +kernel
theorem dX8_isPlace_1 : decode cX8_isPlace 1 = .ok (.iconst 0, 1) := by decide +kernel
theorem dX8_isPlace_2 : decode cX8_isPlace 2 = .ok (.aload_n 0, 1) := by decide +kernel
theorem dX8_isPlace_3 : decode cX8_isPlace 3 = .ok (.getfield 7, 3) := by decide +kernel
theorem dX8_isPlace_6 : decode cX8_isPlace 6 = .ok (.iconst 0, 1) := by decide +kernel
theorem dX8_isPlace_7 : decode cX8_isPlace 7 = .ok (.iaload, 1) := by decide +kernel
theorem dX8_isPlace_8 : decode cX8_isPlace 8 = .ok (.iconst 1, 1) := by decide +kernel
theorem dX8_isPlace_9 : decode cX8_isPlace 9 = .ok (.isub, 1) := by decide +kernel
theorem dX8_isPlace_10 : decode cX8_isPlace 10 = .ok (.invokestatic 64, 3) := by decide +kernel
theorem dX8_isPlace_13 : decode cX8_isPlace 13 = .ok (.ireturn, 1) := by decide +kernel
theorem dX8_goesTo_0 : decode cX8_goesTo 0 = .ok (.iload_n 1, 1) := by decide +kernel
theorem dX8_goesTo_1 : decode cX8_goesTo 1 = .ok (.bipush (-6), 2) := by decide +kernel
theorem dX8_goesTo_3 : decode cX8_goesTo 3 = .ok (.if_icmp .ne 15, 3) := by decide +kernel
theorem dX8_goesTo_6 : decode cX8_goesTo 6 = .ok (.aload_n 0, 1) := by decide +kernel
theorem dX8_goesTo_7 : decode cX8_goesTo 7 = .ok (.getfield 7, 3) := by decide +kernel
theorem dX8_goesTo_10 : decode cX8_goesTo 10 = .ok (.bipush 18, 2) := by decide +kernel
theorem dX8_goesTo_12 : decode cX8_goesTo 12 = .ok (.iload_n 2, 1) := by decide +kernel
theorem dX8_goesTo_13 : decode cX8_goesTo 13 = .ok (.iadd, 1) := by decide +kernel
theorem dX8_goesTo_14 : decode cX8_goesTo 14 = .ok (.iaload, 1) := by decide +kernel
theorem dX8_goesTo_15 : decode cX8_goesTo 15 = .ok (.goto 17, 3) := by decide +kernel
theorem dX8_goesTo_18 : decode cX8_goesTo 18 = .ok (.aload_n 0, 1) := by decide +kernel
theorem dX8_goesTo_19 : decode cX8_goesTo 19 = .ok (.getfield 7, 3) := by decide +kernel
theorem dX8_goesTo_22 : decode cX8_goesTo 22 = .ok (.bipush 34, 2) := by decide +kernel
theorem dX8_goesTo_24 : decode cX8_goesTo 24 = .ok (.bipush 16, 2) := by decide +kernel
theorem dX8_goesTo_26 : decode cX8_goesTo 26 = .ok (.iload_n 1, 1) := by decide +kernel
theorem dX8_goesTo_27 : decode cX8_goesTo 27 = .ok (.imul, 1) := by decide +kernel
theorem dX8_goesTo_28 : decode cX8_goesTo 28 = .ok (.iadd, 1) := by decide +kernel
theorem dX8_goesTo_29 : decode cX8_goesTo 29 = .ok (.iload_n 2, 1) := by decide +kernel
theorem dX8_goesTo_30 : decode cX8_goesTo 30 = .ok (.iadd, 1) := by decide +kernel
theorem dX8_goesTo_31 : decode cX8_goesTo 31 = .ok (.iaload, 1) := by decide +kernel
theorem dX8_goesTo_32 : decode cX8_goesTo 32 = .ok (.ireturn, 1) := by decide +kernel
theorem dX8_fetches_0 : decode cX8_fetches 0 = .ok (.iconst 0, 1) := by decide +kernel
theorem dX8_fetches_1 : decode cX8_fetches 1 = .ok (.istore_n 3, 1) := by decide +kernel
theorem dX8_fetches_2 : decode cX8_fetches 2 = .ok (.iload_n 3, 1) := by decide +kernel
theorem dX8_fetches_3 : decode cX8_fetches 3 = .ok (.aload_n 0, 1) := by decide +kernel
theorem dX8_fetches_4 : decode cX8_fetches 4 = .ok (.getfield 7, 3) := by decide +kernel
theorem dX8_fetches_7 : decode cX8_fetches 7 = .ok (.iconst 0, 1) := by decide +kernel
theorem dX8_fetches_8 : decode cX8_fetches 8 = .ok (.iaload, 1) := by decide +kernel
theorem dX8_fetches_9 : decode cX8_fetches 9 = .ok (.if_icmp .ge 18, 3) := by decide +kernel
theorem dX8_fetches_12 : decode cX8_fetches 12 = .ok (.aload_n 1, 1) := by decide +kernel
theorem dX8_fetches_13 : decode cX8_fetches 13 = .ok (.iload_n 3, 1) := by decide +kernel
theorem dX8_fetches_14 : decode cX8_fetches 14 = .ok (.aload_n 0, 1) := by decide +kernel
theorem dX8_fetches_15 : decode cX8_fetches 15 = .ok (.iload_n 2, 1) := by decide +kernel
theorem dX8_fetches_16 : decode cX8_fetches 16 = .ok (.iload_n 3, 1) := by decide +kernel
theorem dX8_fetches_17 : decode cX8_fetches 17 = .ok (.invokevirtual 72, 3) := by decide +kernel
theorem dX8_fetches_20 : decode cX8_fetches 20 = .ok (.iastore, 1) := by decide +kernel
theorem dX8_fetches_21 : decode cX8_fetches 21 = .ok (.iinc 3 1, 3) := by decide +kernel
theorem dX8_fetches_24 : decode cX8_fetches 24 = .ok (.goto (-22), 3) := by decide +kernel
theorem dX8_fetches_27 : decode cX8_fetches 27 = .ok (.return_, 1) := by decide +kernel
theorem dX8_laysCut_0 : decode cX8_laysCut 0 = .ok (.iconst 0, 1) := by decide +kernel
theorem dX8_laysCut_1 : decode cX8_laysCut 1 = .ok (.istore_n 3, 1) := by decide +kernel
theorem dX8_laysCut_2 : decode cX8_laysCut 2 = .ok (.iload_n 3, 1) := by decide +kernel
theorem dX8_laysCut_3 : decode cX8_laysCut 3 = .ok (.aload_n 0, 1) := by decide +kernel
theorem dX8_laysCut_4 : decode cX8_laysCut 4 = .ok (.getfield 7, 3) := by decide +kernel
theorem dX8_laysCut_7 : decode cX8_laysCut 7 = .ok (.iconst 0, 1) := by decide +kernel
theorem dX8_laysCut_8 : decode cX8_laysCut 8 = .ok (.iaload, 1) := by decide +kernel
theorem dX8_laysCut_9 : decode cX8_laysCut 9 = .ok (.if_icmp .ge 34, 3) := by decide +kernel
theorem dX8_laysCut_12 : decode cX8_laysCut 12 = .ok (.aload_n 1, 1) := by decide +kernel
theorem dX8_laysCut_13 : decode cX8_laysCut 13 = .ok (.iload_n 3, 1) := by decide +kernel
theorem dX8_laysCut_14 : decode cX8_laysCut 14 = .ok (.iload_n 3, 1) := by decide +kernel
theorem dX8_laysCut_15 : decode cX8_laysCut 15 = .ok (.iload_n 2, 1) := by decide +kernel
theorem dX8_laysCut_16 : decode cX8_laysCut 16 = .ok (.isub, 1) := by decide +kernel
theorem dX8_laysCut_17 : decode cX8_laysCut 17 = .ok (.ifCond .ge 16, 3) := by decide +kernel
theorem dX8_laysCut_20 : decode cX8_laysCut 20 = .ok (.iload_n 3, 1) := by decide +kernel
theorem dX8_laysCut_21 : decode cX8_laysCut 21 = .ok (.iload_n 2, 1) := by decide +kernel
theorem dX8_laysCut_22 : decode cX8_laysCut 22 = .ok (.isub, 1) := by decide +kernel
theorem dX8_laysCut_23 : decode cX8_laysCut 23 = .ok (.aload_n 0, 1) := by decide +kernel
theorem dX8_laysCut_24 : decode cX8_laysCut 24 = .ok (.getfield 7, 3) := by decide +kernel
theorem dX8_laysCut_27 : decode cX8_laysCut 27 = .ok (.iconst 0, 1) := by decide +kernel
theorem dX8_laysCut_28 : decode cX8_laysCut 28 = .ok (.iaload, 1) := by decide +kernel
theorem dX8_laysCut_29 : decode cX8_laysCut 29 = .ok (.iadd, 1) := by decide +kernel
theorem dX8_laysCut_30 : decode cX8_laysCut 30 = .ok (.goto 6, 3) := by decide +kernel
theorem dX8_laysCut_33 : decode cX8_laysCut 33 = .ok (.iload_n 3, 1) := by decide +kernel
theorem dX8_laysCut_34 : decode cX8_laysCut 34 = .ok (.iload_n 2, 1) := by decide +kernel
theorem dX8_laysCut_35 : decode cX8_laysCut 35 = .ok (.isub, 1) := by decide +kernel
theorem dX8_laysCut_36 : decode cX8_laysCut 36 = .ok (.iastore, 1) := by decide +kernel
theorem dX8_laysCut_37 : decode cX8_laysCut 37 = .ok (.iinc 3 1, 3) := by decide +kernel
theorem dX8_laysCut_40 : decode cX8_laysCut 40 = .ok (.goto (-38), 3) := by decide +kernel
theorem dX8_laysCut_43 : decode cX8_laysCut 43 = .ok (.return_, 1) := by decide +kernel
theorem dX8_laysRiffle_0 : decode cX8_laysRiffle 0 = .ok (.iload_n 2, 1) := by decide +kernel
theorem dX8_laysRiffle_1 : decode cX8_laysRiffle 1 = .ok (.ifCond .eq 14, 3) := by decide +kernel
theorem dX8_laysRiffle_4 : decode cX8_laysRiffle 4 = .ok (.aload_n 0, 1) := by decide +kernel
theorem dX8_laysRiffle_5 : decode cX8_laysRiffle 5 = .ok (.getfield 7, 3) := by decide +kernel
theorem dX8_laysRiffle_8 : decode cX8_laysRiffle 8 = .ok (.iconst 0, 1) := by decide +kernel
theorem dX8_laysRiffle_9 : decode cX8_laysRiffle 9 = .ok (.iaload, 1) := by decide +kernel
theorem dX8_laysRiffle_10 : decode cX8_laysRiffle 10 = .ok (.iconst 2, 1) := by decide +kernel
theorem dX8_laysRiffle_11 : decode cX8_laysRiffle 11 = .ok (.idiv, 1) := by decide +kernel
theorem dX8_laysRiffle_12 : decode cX8_laysRiffle 12 = .ok (.goto 13, 3) := by decide +kernel
theorem dX8_laysRiffle_15 : decode cX8_laysRiffle 15 = .ok (.aload_n 0, 1) := by decide +kernel
theorem dX8_laysRiffle_16 : decode cX8_laysRiffle 16 = .ok (.getfield 7, 3) := by decide +kernel
theorem dX8_laysRiffle_19 : decode cX8_laysRiffle 19 = .ok (.iconst 0, 1) := by decide +kernel
theorem dX8_laysRiffle_20 : decode cX8_laysRiffle 20 = .ok (.iaload, 1) := by decide +kernel
theorem dX8_laysRiffle_21 : decode cX8_laysRiffle 21 = .ok (.iconst 1, 1) := by decide +kernel
theorem dX8_laysRiffle_22 : decode cX8_laysRiffle 22 = .ok (.iadd, 1) := by decide +kernel
theorem dX8_laysRiffle_23 : decode cX8_laysRiffle 23 = .ok (.iconst 2, 1) := by decide +kernel
theorem dX8_laysRiffle_24 : decode cX8_laysRiffle 24 = .ok (.idiv, 1) := by decide +kernel
theorem dX8_laysRiffle_25 : decode cX8_laysRiffle 25 = .ok (.istore_n 3, 1) := by decide +kernel
theorem dX8_laysRiffle_26 : decode cX8_laysRiffle 26 = .ok (.iload_n 2, 1) := by decide +kernel
theorem dX8_laysRiffle_27 : decode cX8_laysRiffle 27 = .ok (.ifCond .eq 7, 3) := by decide +kernel
theorem dX8_laysRiffle_30 : decode cX8_laysRiffle 30 = .ok (.iconst 1, 1) := by decide +kernel
theorem dX8_laysRiffle_31 : decode cX8_laysRiffle 31 = .ok (.goto 4, 3) := by decide +kernel
theorem dX8_laysRiffle_34 : decode cX8_laysRiffle 34 = .ok (.iconst 0, 1) := by decide +kernel
theorem dX8_laysRiffle_35 : decode cX8_laysRiffle 35 = .ok (.istore 4, 2) := by decide +kernel
theorem dX8_laysRiffle_37 : decode cX8_laysRiffle 37 = .ok (.iconst 0, 1) := by decide +kernel
theorem dX8_laysRiffle_38 : decode cX8_laysRiffle 38 = .ok (.istore 5, 2) := by decide +kernel
theorem dX8_laysRiffle_40 : decode cX8_laysRiffle 40 = .ok (.iload 5, 2) := by decide +kernel
theorem dX8_laysRiffle_42 : decode cX8_laysRiffle 42 = .ok (.aload_n 0, 1) := by decide +kernel
theorem dX8_laysRiffle_43 : decode cX8_laysRiffle 43 = .ok (.getfield 7, 3) := by decide +kernel
theorem dX8_laysRiffle_46 : decode cX8_laysRiffle 46 = .ok (.iconst 0, 1) := by decide +kernel
theorem dX8_laysRiffle_47 : decode cX8_laysRiffle 47 = .ok (.iaload, 1) := by decide +kernel
theorem dX8_laysRiffle_48 : decode cX8_laysRiffle 48 = .ok (.if_icmp .ge 40, 3) := by decide +kernel
theorem dX8_laysRiffle_51 : decode cX8_laysRiffle 51 = .ok (.aload_n 1, 1) := by decide +kernel
theorem dX8_laysRiffle_52 : decode cX8_laysRiffle 52 = .ok (.iload 5, 2) := by decide +kernel
theorem dX8_laysRiffle_54 : decode cX8_laysRiffle 54 = .ok (.iload 5, 2) := by decide +kernel
theorem dX8_laysRiffle_56 : decode cX8_laysRiffle 56 = .ok (.iload_n 3, 1) := by decide +kernel
theorem dX8_laysRiffle_57 : decode cX8_laysRiffle 57 = .ok (.if_icmp .ge 13, 3) := by decide +kernel
theorem dX8_laysRiffle_60 : decode cX8_laysRiffle 60 = .ok (.iconst 2, 1) := by decide +kernel
theorem dX8_laysRiffle_61 : decode cX8_laysRiffle 61 = .ok (.iload 5, 2) := by decide +kernel
theorem dX8_laysRiffle_63 : decode cX8_laysRiffle 63 = .ok (.imul, 1) := by decide +kernel
theorem dX8_laysRiffle_64 : decode cX8_laysRiffle 64 = .ok (.iload 4, 2) := by decide +kernel
theorem dX8_laysRiffle_66 : decode cX8_laysRiffle 66 = .ok (.iadd, 1) := by decide +kernel
theorem dX8_laysRiffle_67 : decode cX8_laysRiffle 67 = .ok (.goto 14, 3) := by decide +kernel
theorem dX8_laysRiffle_70 : decode cX8_laysRiffle 70 = .ok (.iconst 2, 1) := by decide +kernel
theorem dX8_laysRiffle_71 : decode cX8_laysRiffle 71 = .ok (.iload 5, 2) := by decide +kernel
theorem dX8_laysRiffle_73 : decode cX8_laysRiffle 73 = .ok (.iload_n 3, 1) := by decide +kernel
theorem dX8_laysRiffle_74 : decode cX8_laysRiffle 74 = .ok (.isub, 1) := by decide +kernel
theorem dX8_laysRiffle_75 : decode cX8_laysRiffle 75 = .ok (.imul, 1) := by decide +kernel
theorem dX8_laysRiffle_76 : decode cX8_laysRiffle 76 = .ok (.iconst 1, 1) := by decide +kernel
theorem dX8_laysRiffle_77 : decode cX8_laysRiffle 77 = .ok (.iadd, 1) := by decide +kernel
theorem dX8_laysRiffle_78 : decode cX8_laysRiffle 78 = .ok (.iload 4, 2) := by decide +kernel
theorem dX8_laysRiffle_80 : decode cX8_laysRiffle 80 = .ok (.isub, 1) := by decide +kernel
theorem dX8_laysRiffle_81 : decode cX8_laysRiffle 81 = .ok (.iastore, 1) := by decide +kernel
theorem dX8_laysRiffle_82 : decode cX8_laysRiffle 82 = .ok (.iinc 5 1, 3) := by decide +kernel
theorem dX8_laysRiffle_85 : decode cX8_laysRiffle 85 = .ok (.goto (-45), 3) := by decide +kernel
theorem dX8_laysRiffle_88 : decode cX8_laysRiffle 88 = .ok (.return_, 1) := by decide +kernel
theorem dX8_laysTurn_0 : decode cX8_laysTurn 0 = .ok (.iconst 0, 1) := by decide +kernel
theorem dX8_laysTurn_1 : decode cX8_laysTurn 1 = .ok (.istore_n 2, 1) := by decide +kernel
theorem dX8_laysTurn_2 : decode cX8_laysTurn 2 = .ok (.iload_n 2, 1) := by decide +kernel
theorem dX8_laysTurn_3 : decode cX8_laysTurn 3 = .ok (.aload_n 0, 1) := by decide +kernel
theorem dX8_laysTurn_4 : decode cX8_laysTurn 4 = .ok (.getfield 7, 3) := by decide +kernel
theorem dX8_laysTurn_7 : decode cX8_laysTurn 7 = .ok (.iconst 0, 1) := by decide +kernel
theorem dX8_laysTurn_8 : decode cX8_laysTurn 8 = .ok (.iaload, 1) := by decide +kernel
theorem dX8_laysTurn_9 : decode cX8_laysTurn 9 = .ok (.if_icmp .ge 22, 3) := by decide +kernel
theorem dX8_laysTurn_12 : decode cX8_laysTurn 12 = .ok (.aload_n 1, 1) := by decide +kernel
theorem dX8_laysTurn_13 : decode cX8_laysTurn 13 = .ok (.iload_n 2, 1) := by decide +kernel
theorem dX8_laysTurn_14 : decode cX8_laysTurn 14 = .ok (.aload_n 0, 1) := by decide +kernel
theorem dX8_laysTurn_15 : decode cX8_laysTurn 15 = .ok (.getfield 7, 3) := by decide +kernel
theorem dX8_laysTurn_18 : decode cX8_laysTurn 18 = .ok (.iconst 0, 1) := by decide +kernel
theorem dX8_laysTurn_19 : decode cX8_laysTurn 19 = .ok (.iaload, 1) := by decide +kernel
theorem dX8_laysTurn_20 : decode cX8_laysTurn 20 = .ok (.iconst 1, 1) := by decide +kernel
theorem dX8_laysTurn_21 : decode cX8_laysTurn 21 = .ok (.isub, 1) := by decide +kernel
theorem dX8_laysTurn_22 : decode cX8_laysTurn 22 = .ok (.iload_n 2, 1) := by decide +kernel
theorem dX8_laysTurn_23 : decode cX8_laysTurn 23 = .ok (.isub, 1) := by decide +kernel
theorem dX8_laysTurn_24 : decode cX8_laysTurn 24 = .ok (.iastore, 1) := by decide +kernel
theorem dX8_laysTurn_25 : decode cX8_laysTurn 25 = .ok (.iinc 2 1, 3) := by decide +kernel
theorem dX8_laysTurn_28 : decode cX8_laysTurn 28 = .ok (.goto (-26), 3) := by decide +kernel
theorem dX8_laysTurn_31 : decode cX8_laysTurn 31 = .ok (.return_, 1) := by decide +kernel
theorem dX8_laysInverse_0 : decode cX8_laysInverse 0 = .ok (.iconst 0, 1) := by decide +kernel
theorem dX8_laysInverse_1 : decode cX8_laysInverse 1 = .ok (.istore_n 3, 1) := by decide +kernel
theorem dX8_laysInverse_2 : decode cX8_laysInverse 2 = .ok (.iload_n 3, 1) := by decide +kernel
theorem dX8_laysInverse_3 : decode cX8_laysInverse 3 = .ok (.aload_n 0, 1) := by decide +kernel
theorem dX8_laysInverse_4 : decode cX8_laysInverse 4 = .ok (.getfield 7, 3) := by decide +kernel
theorem dX8_laysInverse_7 : decode cX8_laysInverse 7 = .ok (.iconst 0, 1) := by decide +kernel
theorem dX8_laysInverse_8 : decode cX8_laysInverse 8 = .ok (.iaload, 1) := by decide +kernel
theorem dX8_laysInverse_9 : decode cX8_laysInverse 9 = .ok (.if_icmp .ge 15, 3) := by decide +kernel
theorem dX8_laysInverse_12 : decode cX8_laysInverse 12 = .ok (.aload_n 1, 1) := by decide +kernel
theorem dX8_laysInverse_13 : decode cX8_laysInverse 13 = .ok (.aload_n 2, 1) := by decide +kernel
theorem dX8_laysInverse_14 : decode cX8_laysInverse 14 = .ok (.iload_n 3, 1) := by decide +kernel
theorem dX8_laysInverse_15 : decode cX8_laysInverse 15 = .ok (.iaload, 1) := by decide +kernel
theorem dX8_laysInverse_16 : decode cX8_laysInverse 16 = .ok (.iload_n 3, 1) := by decide +kernel
theorem dX8_laysInverse_17 : decode cX8_laysInverse 17 = .ok (.iastore, 1) := by decide +kernel
theorem dX8_laysInverse_18 : decode cX8_laysInverse 18 = .ok (.iinc 3 1, 3) := by decide +kernel
theorem dX8_laysInverse_21 : decode cX8_laysInverse 21 = .ok (.goto (-19), 3) := by decide +kernel
theorem dX8_laysInverse_24 : decode cX8_laysInverse 24 = .ok (.return_, 1) := by decide +kernel
theorem dX8_laysProduct_0 : decode cX8_laysProduct 0 = .ok (.iconst 0, 1) := by decide +kernel
theorem dX8_laysProduct_1 : decode cX8_laysProduct 1 = .ok (.istore 4, 2) := by decide +kernel
theorem dX8_laysProduct_3 : decode cX8_laysProduct 3 = .ok (.iload 4, 2) := by decide +kernel
theorem dX8_laysProduct_5 : decode cX8_laysProduct 5 = .ok (.aload_n 0, 1) := by decide +kernel
theorem dX8_laysProduct_6 : decode cX8_laysProduct 6 = .ok (.getfield 7, 3) := by decide +kernel
theorem dX8_laysProduct_9 : decode cX8_laysProduct 9 = .ok (.iconst 0, 1) := by decide +kernel
theorem dX8_laysProduct_10 : decode cX8_laysProduct 10 = .ok (.iaload, 1) := by decide +kernel
theorem dX8_laysProduct_11 : decode cX8_laysProduct 11 = .ok (.if_icmp .ge 19, 3) := by decide +kernel
theorem dX8_laysProduct_14 : decode cX8_laysProduct 14 = .ok (.aload_n 1, 1) := by decide +kernel
theorem dX8_laysProduct_15 : decode cX8_laysProduct 15 = .ok (.iload 4, 2) := by decide +kernel
theorem dX8_laysProduct_17 : decode cX8_laysProduct 17 = .ok (.aload_n 3, 1) := by decide +kernel
theorem dX8_laysProduct_18 : decode cX8_laysProduct 18 = .ok (.aload_n 2, 1) := by decide +kernel
theorem dX8_laysProduct_19 : decode cX8_laysProduct 19 = .ok (.iload 4, 2) := by decide +kernel
theorem dX8_laysProduct_21 : decode cX8_laysProduct 21 = .ok (.iaload, 1) := by decide +kernel
theorem dX8_laysProduct_22 : decode cX8_laysProduct 22 = .ok (.iaload, 1) := by decide +kernel
theorem dX8_laysProduct_23 : decode cX8_laysProduct 23 = .ok (.iastore, 1) := by decide +kernel
theorem dX8_laysProduct_24 : decode cX8_laysProduct 24 = .ok (.iinc 4 1, 3) := by decide +kernel
theorem dX8_laysProduct_27 : decode cX8_laysProduct 27 = .ok (.goto (-24), 3) := by decide +kernel
theorem dX8_laysProduct_30 : decode cX8_laysProduct 30 = .ok (.return_, 1) := by decide +kernel
theorem dX8_areAlike_0 : decode cX8_areAlike 0 = .ok (.iconst 1, 1) := by decide +kernel
theorem dX8_areAlike_1 : decode cX8_areAlike 1 = .ok (.istore_n 3, 1) := by decide +kernel
theorem dX8_areAlike_2 : decode cX8_areAlike 2 = .ok (.iconst 0, 1) := by decide +kernel
theorem dX8_areAlike_3 : decode cX8_areAlike 3 = .ok (.istore 4, 2) := by decide +kernel
theorem dX8_areAlike_5 : decode cX8_areAlike 5 = .ok (.iload 4, 2) := by decide +kernel
theorem dX8_areAlike_7 : decode cX8_areAlike 7 = .ok (.aload_n 0, 1) := by decide +kernel
theorem dX8_areAlike_8 : decode cX8_areAlike 8 = .ok (.getfield 7, 3) := by decide +kernel
theorem dX8_areAlike_11 : decode cX8_areAlike 11 = .ok (.iconst 0, 1) := by decide +kernel
theorem dX8_areAlike_12 : decode cX8_areAlike 12 = .ok (.iaload, 1) := by decide +kernel
theorem dX8_areAlike_13 : decode cX8_areAlike 13 = .ok (.if_icmp .ge 30, 3) := by decide +kernel
theorem dX8_areAlike_16 : decode cX8_areAlike 16 = .ok (.iload_n 3, 1) := by decide +kernel
theorem dX8_areAlike_17 : decode cX8_areAlike 17 = .ok (.ifCond .eq 18, 3) := by decide +kernel
theorem dX8_areAlike_20 : decode cX8_areAlike 20 = .ok (.aload_n 1, 1) := by decide +kernel
theorem dX8_areAlike_21 : decode cX8_areAlike 21 = .ok (.iload 4, 2) := by decide +kernel
theorem dX8_areAlike_23 : decode cX8_areAlike 23 = .ok (.iaload, 1) := by decide +kernel
theorem dX8_areAlike_24 : decode cX8_areAlike 24 = .ok (.aload_n 2, 1) := by decide +kernel
theorem dX8_areAlike_25 : decode cX8_areAlike 25 = .ok (.iload 4, 2) := by decide +kernel
theorem dX8_areAlike_27 : decode cX8_areAlike 27 = .ok (.iaload, 1) := by decide +kernel
theorem dX8_areAlike_28 : decode cX8_areAlike 28 = .ok (.if_icmp .ne 7, 3) := by decide +kernel
theorem dX8_areAlike_31 : decode cX8_areAlike 31 = .ok (.iconst 1, 1) := by decide +kernel
theorem dX8_areAlike_32 : decode cX8_areAlike 32 = .ok (.goto 4, 3) := by decide +kernel
theorem dX8_areAlike_35 : decode cX8_areAlike 35 = .ok (.iconst 0, 1) := by decide +kernel
theorem dX8_areAlike_36 : decode cX8_areAlike 36 = .ok (.istore_n 3, 1) := by decide +kernel
theorem dX8_areAlike_37 : decode cX8_areAlike 37 = .ok (.iinc 4 1, 3) := by decide +kernel
theorem dX8_areAlike_40 : decode cX8_areAlike 40 = .ok (.goto (-35), 3) := by decide +kernel
theorem dX8_areAlike_43 : decode cX8_areAlike 43 = .ok (.iload_n 3, 1) := by decide +kernel
theorem dX8_areAlike_44 : decode cX8_areAlike 44 = .ok (.ireturn, 1) := by decide +kernel
theorem dX8_doCommute_0 : decode cX8_doCommute 0 = .ok (.iconst 1, 1) := by decide +kernel
theorem dX8_doCommute_1 : decode cX8_doCommute 1 = .ok (.istore_n 3, 1) := by decide +kernel
theorem dX8_doCommute_2 : decode cX8_doCommute 2 = .ok (.iconst 0, 1) := by decide +kernel
theorem dX8_doCommute_3 : decode cX8_doCommute 3 = .ok (.istore 4, 2) := by decide +kernel
theorem dX8_doCommute_5 : decode cX8_doCommute 5 = .ok (.iload 4, 2) := by decide +kernel
theorem dX8_doCommute_7 : decode cX8_doCommute 7 = .ok (.aload_n 0, 1) := by decide +kernel
theorem dX8_doCommute_8 : decode cX8_doCommute 8 = .ok (.getfield 7, 3) := by decide +kernel
theorem dX8_doCommute_11 : decode cX8_doCommute 11 = .ok (.iconst 0, 1) := by decide +kernel
theorem dX8_doCommute_12 : decode cX8_doCommute 12 = .ok (.iaload, 1) := by decide +kernel
theorem dX8_doCommute_13 : decode cX8_doCommute 13 = .ok (.if_icmp .ge 34, 3) := by decide +kernel
theorem dX8_doCommute_16 : decode cX8_doCommute 16 = .ok (.iload_n 3, 1) := by decide +kernel
theorem dX8_doCommute_17 : decode cX8_doCommute 17 = .ok (.ifCond .eq 22, 3) := by decide +kernel
theorem dX8_doCommute_20 : decode cX8_doCommute 20 = .ok (.aload_n 1, 1) := by decide +kernel
theorem dX8_doCommute_21 : decode cX8_doCommute 21 = .ok (.aload_n 2, 1) := by decide +kernel
theorem dX8_doCommute_22 : decode cX8_doCommute 22 = .ok (.iload 4, 2) := by decide +kernel
theorem dX8_doCommute_24 : decode cX8_doCommute 24 = .ok (.iaload, 1) := by decide +kernel
theorem dX8_doCommute_25 : decode cX8_doCommute 25 = .ok (.iaload, 1) := by decide +kernel
theorem dX8_doCommute_26 : decode cX8_doCommute 26 = .ok (.aload_n 2, 1) := by decide +kernel
theorem dX8_doCommute_27 : decode cX8_doCommute 27 = .ok (.aload_n 1, 1) := by decide +kernel
theorem dX8_doCommute_28 : decode cX8_doCommute 28 = .ok (.iload 4, 2) := by decide +kernel
theorem dX8_doCommute_30 : decode cX8_doCommute 30 = .ok (.iaload, 1) := by decide +kernel
theorem dX8_doCommute_31 : decode cX8_doCommute 31 = .ok (.iaload, 1) := by decide +kernel
theorem dX8_doCommute_32 : decode cX8_doCommute 32 = .ok (.if_icmp .ne 7, 3) := by decide +kernel
theorem dX8_doCommute_35 : decode cX8_doCommute 35 = .ok (.iconst 1, 1) := by decide +kernel
theorem dX8_doCommute_36 : decode cX8_doCommute 36 = .ok (.goto 4, 3) := by decide +kernel
theorem dX8_doCommute_39 : decode cX8_doCommute 39 = .ok (.iconst 0, 1) := by decide +kernel
theorem dX8_doCommute_40 : decode cX8_doCommute 40 = .ok (.istore_n 3, 1) := by decide +kernel
theorem dX8_doCommute_41 : decode cX8_doCommute 41 = .ok (.iinc 4 1, 3) := by decide +kernel
theorem dX8_doCommute_44 : decode cX8_doCommute 44 = .ok (.goto (-39), 3) := by decide +kernel
theorem dX8_doCommute_47 : decode cX8_doCommute 47 = .ok (.iload_n 3, 1) := by decide +kernel
theorem dX8_doCommute_48 : decode cX8_doCommute 48 = .ok (.ireturn, 1) := by decide +kernel
theorem dX8_powered_0 : decode cX8_powered 0 = .ok (.iload_n 3, 1) := by decide +kernel
theorem dX8_powered_1 : decode cX8_powered 1 = .ok (.istore 4, 2) := by decide +kernel
theorem dX8_powered_3 : decode cX8_powered 3 = .ok (.iconst 0, 1) := by decide +kernel
theorem dX8_powered_4 : decode cX8_powered 4 = .ok (.istore 5, 2) := by decide +kernel
theorem dX8_powered_6 : decode cX8_powered 6 = .ok (.iload 5, 2) := by decide +kernel
theorem dX8_powered_8 : decode cX8_powered 8 = .ok (.iload_n 2, 1) := by decide +kernel
theorem dX8_powered_9 : decode cX8_powered 9 = .ok (.if_icmp .ge 15, 3) := by decide +kernel
theorem dX8_powered_12 : decode cX8_powered 12 = .ok (.aload_n 1, 1) := by decide +kernel
theorem dX8_powered_13 : decode cX8_powered 13 = .ok (.iload 4, 2) := by decide +kernel
theorem dX8_powered_15 : decode cX8_powered 15 = .ok (.iaload, 1) := by decide +kernel
theorem dX8_powered_16 : decode cX8_powered 16 = .ok (.istore 4, 2) := by decide +kernel
theorem dX8_powered_18 : decode cX8_powered 18 = .ok (.iinc 5 1, 3) := by decide +kernel
theorem dX8_powered_21 : decode cX8_powered 21 = .ok (.goto (-15), 3) := by decide +kernel
theorem dX8_powered_24 : decode cX8_powered 24 = .ok (.iconst 0, 1) := by decide +kernel
theorem dX8_powered_25 : decode cX8_powered 25 = .ok (.istore 5, 2) := by decide +kernel
theorem dX8_powered_27 : decode cX8_powered 27 = .ok (.iload 5, 2) := by decide +kernel
theorem dX8_powered_29 : decode cX8_powered 29 = .ok (.iload_n 2, 1) := by decide +kernel
theorem dX8_powered_30 : decode cX8_powered 30 = .ok (.if_icmp .le 31, 3) := by decide +kernel
theorem dX8_powered_33 : decode cX8_powered 33 = .ok (.iconst 0, 1) := by decide +kernel
theorem dX8_powered_34 : decode cX8_powered 34 = .ok (.istore 6, 2) := by decide +kernel
theorem dX8_powered_36 : decode cX8_powered 36 = .ok (.aload_n 1, 1) := by decide +kernel
theorem dX8_powered_37 : decode cX8_powered 37 = .ok (.iload 6, 2) := by decide +kernel
theorem dX8_powered_39 : decode cX8_powered 39 = .ok (.iaload, 1) := by decide +kernel
theorem dX8_powered_40 : decode cX8_powered 40 = .ok (.iload 4, 2) := by decide +kernel
theorem dX8_powered_42 : decode cX8_powered 42 = .ok (.if_icmp .eq 9, 3) := by decide +kernel
theorem dX8_powered_45 : decode cX8_powered 45 = .ok (.iinc 6 1, 3) := by decide +kernel
theorem dX8_powered_48 : decode cX8_powered 48 = .ok (.goto (-12), 3) := by decide +kernel
theorem dX8_powered_51 : decode cX8_powered 51 = .ok (.iload 6, 2) := by decide +kernel
theorem dX8_powered_53 : decode cX8_powered 53 = .ok (.istore 4, 2) := by decide +kernel
theorem dX8_powered_55 : decode cX8_powered 55 = .ok (.iinc 5 (-1), 3) := by decide +kernel
theorem dX8_powered_58 : decode cX8_powered 58 = .ok (.goto (-31), 3) := by decide +kernel
theorem dX8_powered_61 : decode cX8_powered 61 = .ok (.iload 4, 2) := by decide +kernel
theorem dX8_powered_63 : decode cX8_powered 63 = .ok (.ireturn, 1) := by decide +kernel
theorem dX8_cycles_0 : decode cX8_cycles 0 = .ok (.iconst 0, 1) := by decide +kernel
theorem dX8_cycles_1 : decode cX8_cycles 1 = .ok (.istore_n 2, 1) := by decide +kernel
theorem dX8_cycles_2 : decode cX8_cycles 2 = .ok (.iconst 0, 1) := by decide +kernel
theorem dX8_cycles_3 : decode cX8_cycles 3 = .ok (.istore_n 3, 1) := by decide +kernel
theorem dX8_cycles_4 : decode cX8_cycles 4 = .ok (.iload_n 3, 1) := by decide +kernel
theorem dX8_cycles_5 : decode cX8_cycles 5 = .ok (.bipush 17, 2) := by decide +kernel
theorem dX8_cycles_7 : decode cX8_cycles 7 = .ok (.if_icmp .ge 16, 3) := by decide +kernel
theorem dX8_cycles_10 : decode cX8_cycles 10 = .ok (.aload_n 0, 1) := by decide +kernel
theorem dX8_cycles_11 : decode cX8_cycles 11 = .ok (.getfield 50, 3) := by decide +kernel
theorem dX8_cycles_14 : decode cX8_cycles 14 = .ok (.iload_n 3, 1) := by decide +kernel
theorem dX8_cycles_15 : decode cX8_cycles 15 = .ok (.iconst 0, 1) := by decide +kernel
theorem dX8_cycles_16 : decode cX8_cycles 16 = .ok (.iastore, 1) := by decide +kernel
theorem dX8_cycles_17 : decode cX8_cycles 17 = .ok (.iinc 3 1, 3) := by decide +kernel
theorem dX8_cycles_20 : decode cX8_cycles 20 = .ok (.goto (-16), 3) := by decide +kernel
theorem dX8_cycles_23 : decode cX8_cycles 23 = .ok (.iconst 0, 1) := by decide +kernel
theorem dX8_cycles_24 : decode cX8_cycles 24 = .ok (.istore_n 3, 1) := by decide +kernel
theorem dX8_cycles_25 : decode cX8_cycles 25 = .ok (.iload_n 3, 1) := by decide +kernel
theorem dX8_cycles_26 : decode cX8_cycles 26 = .ok (.bipush 16, 2) := by decide +kernel
theorem dX8_cycles_28 : decode cX8_cycles 28 = .ok (.if_icmp .ge 16, 3) := by decide +kernel
theorem dX8_cycles_31 : decode cX8_cycles 31 = .ok (.aload_n 0, 1) := by decide +kernel
theorem dX8_cycles_32 : decode cX8_cycles 32 = .ok (.getfield 47, 3) := by decide +kernel
theorem dX8_cycles_35 : decode cX8_cycles 35 = .ok (.iload_n 3, 1) := by decide +kernel
theorem dX8_cycles_36 : decode cX8_cycles 36 = .ok (.iconst 0, 1) := by decide +kernel
theorem dX8_cycles_37 : decode cX8_cycles 37 = .ok (.bastore, 1) := by decide +kernel
theorem dX8_cycles_38 : decode cX8_cycles 38 = .ok (.iinc 3 1, 3) := by decide +kernel
theorem dX8_cycles_41 : decode cX8_cycles 41 = .ok (.goto (-16), 3) := by decide +kernel
theorem dX8_cycles_44 : decode cX8_cycles 44 = .ok (.iconst 0, 1) := by decide +kernel
theorem dX8_cycles_45 : decode cX8_cycles 45 = .ok (.istore_n 3, 1) := by decide +kernel
theorem dX8_cycles_46 : decode cX8_cycles 46 = .ok (.iload_n 3, 1) := by decide +kernel
theorem dX8_cycles_47 : decode cX8_cycles 47 = .ok (.aload_n 0, 1) := by decide +kernel
theorem dX8_cycles_48 : decode cX8_cycles 48 = .ok (.getfield 7, 3) := by decide +kernel
theorem dX8_cycles_51 : decode cX8_cycles 51 = .ok (.iconst 0, 1) := by decide +kernel
theorem dX8_cycles_52 : decode cX8_cycles 52 = .ok (.iaload, 1) := by decide +kernel
theorem dX8_cycles_53 : decode cX8_cycles 53 = .ok (.if_icmp .ge 78, 3) := by decide +kernel
theorem dX8_cycles_56 : decode cX8_cycles 56 = .ok (.iconst 0, 1) := by decide +kernel
theorem dX8_cycles_57 : decode cX8_cycles 57 = .ok (.istore 4, 2) := by decide +kernel
theorem dX8_cycles_59 : decode cX8_cycles 59 = .ok (.iload_n 3, 1) := by decide +kernel
theorem dX8_cycles_60 : decode cX8_cycles 60 = .ok (.istore 5, 2) := by decide +kernel
theorem dX8_cycles_62 : decode cX8_cycles 62 = .ok (.aload_n 0, 1) := by decide +kernel
theorem dX8_cycles_63 : decode cX8_cycles 63 = .ok (.getfield 47, 3) := by decide +kernel
theorem dX8_cycles_66 : decode cX8_cycles 66 = .ok (.iload 5, 2) := by decide +kernel
theorem dX8_cycles_68 : decode cX8_cycles 68 = .ok (.baload, 1) := by decide +kernel
theorem dX8_cycles_69 : decode cX8_cycles 69 = .ok (.ifCond .ne 23, 3) := by decide +kernel
theorem dX8_cycles_72 : decode cX8_cycles 72 = .ok (.aload_n 0, 1) := by decide +kernel
theorem dX8_cycles_73 : decode cX8_cycles 73 = .ok (.getfield 47, 3) := by decide +kernel
theorem dX8_cycles_76 : decode cX8_cycles 76 = .ok (.iload 5, 2) := by decide +kernel
theorem dX8_cycles_78 : decode cX8_cycles 78 = .ok (.iconst 1, 1) := by decide +kernel
theorem dX8_cycles_79 : decode cX8_cycles 79 = .ok (.bastore, 1) := by decide +kernel
theorem dX8_cycles_80 : decode cX8_cycles 80 = .ok (.iinc 4 1, 3) := by decide +kernel
theorem dX8_cycles_83 : decode cX8_cycles 83 = .ok (.aload_n 1, 1) := by decide +kernel
theorem dX8_cycles_84 : decode cX8_cycles 84 = .ok (.iload 5, 2) := by decide +kernel
theorem dX8_cycles_86 : decode cX8_cycles 86 = .ok (.iaload, 1) := by decide +kernel
theorem dX8_cycles_87 : decode cX8_cycles 87 = .ok (.istore 5, 2) := by decide +kernel
theorem dX8_cycles_89 : decode cX8_cycles 89 = .ok (.goto (-27), 3) := by decide +kernel
theorem dX8_cycles_92 : decode cX8_cycles 92 = .ok (.aload_n 0, 1) := by decide +kernel
theorem dX8_cycles_93 : decode cX8_cycles 93 = .ok (.getfield 50, 3) := by decide +kernel
theorem dX8_cycles_96 : decode cX8_cycles 96 = .ok (.iload 4, 2) := by decide +kernel
theorem dX8_cycles_98 : decode cX8_cycles 98 = .ok (.dup2, 1) := by decide +kernel
theorem dX8_cycles_99 : decode cX8_cycles 99 = .ok (.iaload, 1) := by decide +kernel
theorem dX8_cycles_100 : decode cX8_cycles 100 = .ok (.iload 4, 2) := by decide +kernel
theorem dX8_cycles_102 : decode cX8_cycles 102 = .ok (.ifCond .le 7, 3) := by decide +kernel
theorem dX8_cycles_105 : decode cX8_cycles 105 = .ok (.iconst 1, 1) := by decide +kernel
theorem dX8_cycles_106 : decode cX8_cycles 106 = .ok (.goto 4, 3) := by decide +kernel
theorem dX8_cycles_109 : decode cX8_cycles 109 = .ok (.iconst 0, 1) := by decide +kernel
theorem dX8_cycles_110 : decode cX8_cycles 110 = .ok (.iadd, 1) := by decide +kernel
theorem dX8_cycles_111 : decode cX8_cycles 111 = .ok (.iastore, 1) := by decide +kernel
theorem dX8_cycles_112 : decode cX8_cycles 112 = .ok (.iload_n 2, 1) := by decide +kernel
theorem dX8_cycles_113 : decode cX8_cycles 113 = .ok (.iload 4, 2) := by decide +kernel
theorem dX8_cycles_115 : decode cX8_cycles 115 = .ok (.ifCond .le 7, 3) := by decide +kernel
theorem dX8_cycles_118 : decode cX8_cycles 118 = .ok (.iconst 1, 1) := by decide +kernel
theorem dX8_cycles_119 : decode cX8_cycles 119 = .ok (.goto 4, 3) := by decide +kernel
theorem dX8_cycles_122 : decode cX8_cycles 122 = .ok (.iconst 0, 1) := by decide +kernel
theorem dX8_cycles_123 : decode cX8_cycles 123 = .ok (.iadd, 1) := by decide +kernel
theorem dX8_cycles_124 : decode cX8_cycles 124 = .ok (.istore_n 2, 1) := by decide +kernel
theorem dX8_cycles_125 : decode cX8_cycles 125 = .ok (.iinc 3 1, 3) := by decide +kernel
theorem dX8_cycles_128 : decode cX8_cycles 128 = .ok (.goto (-82), 3) := by decide +kernel
theorem dX8_cycles_131 : decode cX8_cycles 131 = .ok (.iload_n 2, 1) := by decide +kernel
theorem dX8_cycles_132 : decode cX8_cycles 132 = .ok (.ireturn, 1) := by decide +kernel
theorem dX8_common_0 : decode cX8_common 0 = .ok (.iload_n 0, 1) := by decide +kernel
theorem dX8_common_1 : decode cX8_common 1 = .ok (.istore_n 2, 1) := by decide +kernel
theorem dX8_common_2 : decode cX8_common 2 = .ok (.iload_n 1, 1) := by decide +kernel
theorem dX8_common_3 : decode cX8_common 3 = .ok (.istore_n 3, 1) := by decide +kernel
theorem dX8_common_4 : decode cX8_common 4 = .ok (.iload_n 3, 1) := by decide +kernel
theorem dX8_common_5 : decode cX8_common 5 = .ok (.ifCond .le 16, 3) := by decide +kernel
theorem dX8_common_8 : decode cX8_common 8 = .ok (.iload_n 2, 1) := by decide +kernel
theorem dX8_common_9 : decode cX8_common 9 = .ok (.iload_n 3, 1) := by decide +kernel
theorem dX8_common_10 : decode cX8_common 10 = .ok (.irem, 1) := by decide +kernel
theorem dX8_common_11 : decode cX8_common 11 = .ok (.istore 4, 2) := by decide +kernel
theorem dX8_common_13 : decode cX8_common 13 = .ok (.iload_n 3, 1) := by decide +kernel
theorem dX8_common_14 : decode cX8_common 14 = .ok (.istore_n 2, 1) := by decide +kernel
theorem dX8_common_15 : decode cX8_common 15 = .ok (.iload 4, 2) := by decide +kernel
theorem dX8_common_17 : decode cX8_common 17 = .ok (.istore_n 3, 1) := by decide +kernel
theorem dX8_common_18 : decode cX8_common 18 = .ok (.goto (-14), 3) := by decide +kernel
theorem dX8_common_21 : decode cX8_common 21 = .ok (.iload_n 2, 1) := by decide +kernel
theorem dX8_common_22 : decode cX8_common 22 = .ok (.ireturn, 1) := by decide +kernel
theorem dX8_order_0 : decode cX8_order 0 = .ok (.aload_n 0, 1) := by decide +kernel
theorem dX8_order_1 : decode cX8_order 1 = .ok (.aload_n 1, 1) := by decide +kernel
theorem dX8_order_2 : decode cX8_order 2 = .ok (.invokevirtual 76, 3) := by decide +kernel
theorem dX8_order_5 : decode cX8_order 5 = .ok (.pop, 1) := by decide +kernel
theorem dX8_order_6 : decode cX8_order 6 = .ok (.iconst 1, 1) := by decide +kernel
theorem dX8_order_7 : decode cX8_order 7 = .ok (.istore_n 2, 1) := by decide +kernel
theorem dX8_order_8 : decode cX8_order 8 = .ok (.iconst 1, 1) := by decide +kernel
theorem dX8_order_9 : decode cX8_order 9 = .ok (.istore_n 3, 1) := by decide +kernel
theorem dX8_order_10 : decode cX8_order 10 = .ok (.iload_n 3, 1) := by decide +kernel
theorem dX8_order_11 : decode cX8_order 11 = .ok (.bipush 17, 2) := by decide +kernel
theorem dX8_order_13 : decode cX8_order 13 = .ok (.if_icmp .ge 32, 3) := by decide +kernel
theorem dX8_order_16 : decode cX8_order 16 = .ok (.aload_n 0, 1) := by decide +kernel
theorem dX8_order_17 : decode cX8_order 17 = .ok (.getfield 50, 3) := by decide +kernel
theorem dX8_order_20 : decode cX8_order 20 = .ok (.iload_n 3, 1) := by decide +kernel
theorem dX8_order_21 : decode cX8_order 21 = .ok (.iaload, 1) := by decide +kernel
theorem dX8_order_22 : decode cX8_order 22 = .ok (.ifCond .ne 7, 3) := by decide +kernel
theorem dX8_order_25 : decode cX8_order 25 = .ok (.iload_n 2, 1) := by decide +kernel
theorem dX8_order_26 : decode cX8_order 26 = .ok (.goto 12, 3) := by decide +kernel
theorem dX8_order_29 : decode cX8_order 29 = .ok (.iload_n 2, 1) := by decide +kernel
theorem dX8_order_30 : decode cX8_order 30 = .ok (.iload_n 2, 1) := by decide +kernel
theorem dX8_order_31 : decode cX8_order 31 = .ok (.iload_n 3, 1) := by decide +kernel
theorem dX8_order_32 : decode cX8_order 32 = .ok (.invokestatic 80, 3) := by decide +kernel
theorem dX8_order_35 : decode cX8_order 35 = .ok (.idiv, 1) := by decide +kernel
theorem dX8_order_36 : decode cX8_order 36 = .ok (.iload_n 3, 1) := by decide +kernel
theorem dX8_order_37 : decode cX8_order 37 = .ok (.imul, 1) := by decide +kernel
theorem dX8_order_38 : decode cX8_order 38 = .ok (.istore_n 2, 1) := by decide +kernel
theorem dX8_order_39 : decode cX8_order 39 = .ok (.iinc 3 1, 3) := by decide +kernel
theorem dX8_order_42 : decode cX8_order 42 = .ok (.goto (-32), 3) := by decide +kernel
theorem dX8_order_45 : decode cX8_order 45 = .ok (.iload_n 2, 1) := by decide +kernel
theorem dX8_order_46 : decode cX8_order 46 = .ok (.ireturn, 1) := by decide +kernel
theorem dX8_longest_0 : decode cX8_longest 0 = .ok (.aload_n 0, 1) := by decide +kernel
theorem dX8_longest_1 : decode cX8_longest 1 = .ok (.aload_n 1, 1) := by decide +kernel
theorem dX8_longest_2 : decode cX8_longest 2 = .ok (.invokevirtual 76, 3) := by decide +kernel
theorem dX8_longest_5 : decode cX8_longest 5 = .ok (.pop, 1) := by decide +kernel
theorem dX8_longest_6 : decode cX8_longest 6 = .ok (.iconst 0, 1) := by decide +kernel
theorem dX8_longest_7 : decode cX8_longest 7 = .ok (.istore_n 2, 1) := by decide +kernel
theorem dX8_longest_8 : decode cX8_longest 8 = .ok (.iconst 1, 1) := by decide +kernel
theorem dX8_longest_9 : decode cX8_longest 9 = .ok (.istore_n 3, 1) := by decide +kernel
theorem dX8_longest_10 : decode cX8_longest 10 = .ok (.iload_n 3, 1) := by decide +kernel
theorem dX8_longest_11 : decode cX8_longest 11 = .ok (.bipush 17, 2) := by decide +kernel
theorem dX8_longest_13 : decode cX8_longest 13 = .ok (.if_icmp .ge 24, 3) := by decide +kernel
theorem dX8_longest_16 : decode cX8_longest 16 = .ok (.aload_n 0, 1) := by decide +kernel
theorem dX8_longest_17 : decode cX8_longest 17 = .ok (.getfield 50, 3) := by decide +kernel
theorem dX8_longest_20 : decode cX8_longest 20 = .ok (.iload_n 3, 1) := by decide +kernel
theorem dX8_longest_21 : decode cX8_longest 21 = .ok (.iaload, 1) := by decide +kernel
theorem dX8_longest_22 : decode cX8_longest 22 = .ok (.ifCond .le 7, 3) := by decide +kernel
theorem dX8_longest_25 : decode cX8_longest 25 = .ok (.iload_n 3, 1) := by decide +kernel
theorem dX8_longest_26 : decode cX8_longest 26 = .ok (.goto 4, 3) := by decide +kernel
theorem dX8_longest_29 : decode cX8_longest 29 = .ok (.iload_n 2, 1) := by decide +kernel
theorem dX8_longest_30 : decode cX8_longest 30 = .ok (.istore_n 2, 1) := by decide +kernel
theorem dX8_longest_31 : decode cX8_longest 31 = .ok (.iinc 3 1, 3) := by decide +kernel
theorem dX8_longest_34 : decode cX8_longest 34 = .ok (.goto (-24), 3) := by decide +kernel
theorem dX8_longest_37 : decode cX8_longest 37 = .ok (.iload_n 2, 1) := by decide +kernel
theorem dX8_longest_38 : decode cX8_longest 38 = .ok (.ireturn, 1) := by decide +kernel
theorem dX8_adds_0 : decode cX8_adds 0 = .ok (.aload_n 0, 1) := by decide +kernel
theorem dX8_adds_1 : decode cX8_adds 1 = .ok (.getfield 7, 3) := by decide +kernel
theorem dX8_adds_4 : decode cX8_adds 4 = .ok (.iconst 1, 1) := by decide +kernel
theorem dX8_adds_5 : decode cX8_adds 5 = .ok (.iaload, 1) := by decide +kernel
theorem dX8_adds_6 : decode cX8_adds 6 = .ok (.istore_n 2, 1) := by decide +kernel
theorem dX8_adds_7 : decode cX8_adds 7 = .ok (.iconst 0, 1) := by decide +kernel
theorem dX8_adds_8 : decode cX8_adds 8 = .ok (.istore_n 3, 1) := by decide +kernel
theorem dX8_adds_9 : decode cX8_adds 9 = .ok (.iload_n 3, 1) := by decide +kernel
theorem dX8_adds_10 : decode cX8_adds 10 = .ok (.aload_n 0, 1) := by decide +kernel
theorem dX8_adds_11 : decode cX8_adds 11 = .ok (.getfield 7, 3) := by decide +kernel
theorem dX8_adds_14 : decode cX8_adds 14 = .ok (.iconst 0, 1) := by decide +kernel
theorem dX8_adds_15 : decode cX8_adds 15 = .ok (.iaload, 1) := by decide +kernel
theorem dX8_adds_16 : decode cX8_adds 16 = .ok (.if_icmp .ge 26, 3) := by decide +kernel
theorem dX8_adds_19 : decode cX8_adds 19 = .ok (.aload_n 0, 1) := by decide +kernel
theorem dX8_adds_20 : decode cX8_adds 20 = .ok (.getfield 7, 3) := by decide +kernel
theorem dX8_adds_23 : decode cX8_adds 23 = .ok (.bipush 34, 2) := by decide +kernel
theorem dX8_adds_25 : decode cX8_adds 25 = .ok (.bipush 16, 2) := by decide +kernel
theorem dX8_adds_27 : decode cX8_adds 27 = .ok (.iload_n 2, 1) := by decide +kernel
theorem dX8_adds_28 : decode cX8_adds 28 = .ok (.imul, 1) := by decide +kernel
theorem dX8_adds_29 : decode cX8_adds 29 = .ok (.iadd, 1) := by decide +kernel
theorem dX8_adds_30 : decode cX8_adds 30 = .ok (.iload_n 3, 1) := by decide +kernel
theorem dX8_adds_31 : decode cX8_adds 31 = .ok (.iadd, 1) := by decide +kernel
theorem dX8_adds_32 : decode cX8_adds 32 = .ok (.aload_n 1, 1) := by decide +kernel
theorem dX8_adds_33 : decode cX8_adds 33 = .ok (.iload_n 3, 1) := by decide +kernel
theorem dX8_adds_34 : decode cX8_adds 34 = .ok (.iaload, 1) := by decide +kernel
theorem dX8_adds_35 : decode cX8_adds 35 = .ok (.iastore, 1) := by decide +kernel
theorem dX8_adds_36 : decode cX8_adds 36 = .ok (.iinc 3 1, 3) := by decide +kernel
theorem dX8_adds_39 : decode cX8_adds 39 = .ok (.goto (-30), 3) := by decide +kernel
theorem dX8_adds_42 : decode cX8_adds 42 = .ok (.aload_n 0, 1) := by decide +kernel
theorem dX8_adds_43 : decode cX8_adds 43 = .ok (.getfield 7, 3) := by decide +kernel
theorem dX8_adds_46 : decode cX8_adds 46 = .ok (.iconst 1, 1) := by decide +kernel
theorem dX8_adds_47 : decode cX8_adds 47 = .ok (.dup2, 1) := by decide +kernel
theorem dX8_adds_48 : decode cX8_adds 48 = .ok (.iaload, 1) := by decide +kernel
theorem dX8_adds_49 : decode cX8_adds 49 = .ok (.iconst 1, 1) := by decide +kernel
theorem dX8_adds_50 : decode cX8_adds 50 = .ok (.iadd, 1) := by decide +kernel
theorem dX8_adds_51 : decode cX8_adds 51 = .ok (.iastore, 1) := by decide +kernel
theorem dX8_adds_52 : decode cX8_adds 52 = .ok (.iload_n 2, 1) := by decide +kernel
theorem dX8_adds_53 : decode cX8_adds 53 = .ok (.ireturn, 1) := by decide +kernel
theorem dX8_does_0 : decode cX8_does 0 = .ok (.iconst 0, 1) := by decide +kernel
theorem dX8_does_1 : decode cX8_does 1 = .ok (.istore_n 2, 1) := by decide +kernel
theorem dX8_does_2 : decode cX8_does 2 = .ok (.iload_n 2, 1) := by decide +kernel
theorem dX8_does_3 : decode cX8_does 3 = .ok (.aload_n 0, 1) := by decide +kernel
theorem dX8_does_4 : decode cX8_does 4 = .ok (.getfield 7, 3) := by decide +kernel
theorem dX8_does_7 : decode cX8_does 7 = .ok (.iconst 0, 1) := by decide +kernel
theorem dX8_does_8 : decode cX8_does 8 = .ok (.iaload, 1) := by decide +kernel
theorem dX8_does_9 : decode cX8_does 9 = .ok (.if_icmp .ge 25, 3) := by decide +kernel
theorem dX8_does_12 : decode cX8_does 12 = .ok (.aload_n 0, 1) := by decide +kernel
theorem dX8_does_13 : decode cX8_does 13 = .ok (.getfield 44, 3) := by decide +kernel
theorem dX8_does_16 : decode cX8_does 16 = .ok (.aload_n 1, 1) := by decide +kernel
theorem dX8_does_17 : decode cX8_does 17 = .ok (.iload_n 2, 1) := by decide +kernel
theorem dX8_does_18 : decode cX8_does 18 = .ok (.iaload, 1) := by decide +kernel
theorem dX8_does_19 : decode cX8_does 19 = .ok (.aload_n 0, 1) := by decide +kernel
theorem dX8_does_20 : decode cX8_does 20 = .ok (.getfield 7, 3) := by decide +kernel
theorem dX8_does_23 : decode cX8_does 23 = .ok (.iconst 2, 1) := by decide +kernel
theorem dX8_does_24 : decode cX8_does 24 = .ok (.iload_n 2, 1) := by decide +kernel
theorem dX8_does_25 : decode cX8_does 25 = .ok (.iadd, 1) := by decide +kernel
theorem dX8_does_26 : decode cX8_does 26 = .ok (.iaload, 1) := by decide +kernel
theorem dX8_does_27 : decode cX8_does 27 = .ok (.iastore, 1) := by decide +kernel
theorem dX8_does_28 : decode cX8_does 28 = .ok (.iinc 2 1, 3) := by decide +kernel
theorem dX8_does_31 : decode cX8_does 31 = .ok (.goto (-29), 3) := by decide +kernel
theorem dX8_does_34 : decode cX8_does 34 = .ok (.iconst 0, 1) := by decide +kernel
theorem dX8_does_35 : decode cX8_does 35 = .ok (.istore_n 2, 1) := by decide +kernel
theorem dX8_does_36 : decode cX8_does 36 = .ok (.iload_n 2, 1) := by decide +kernel
theorem dX8_does_37 : decode cX8_does 37 = .ok (.aload_n 0, 1) := by decide +kernel
theorem dX8_does_38 : decode cX8_does 38 = .ok (.getfield 7, 3) := by decide +kernel
theorem dX8_does_41 : decode cX8_does 41 = .ok (.iconst 0, 1) := by decide +kernel
theorem dX8_does_42 : decode cX8_does 42 = .ok (.iaload, 1) := by decide +kernel
theorem dX8_does_43 : decode cX8_does 43 = .ok (.if_icmp .ge 43, 3) := by decide +kernel
theorem dX8_does_46 : decode cX8_does 46 = .ok (.aload_n 0, 1) := by decide +kernel
theorem dX8_does_47 : decode cX8_does 47 = .ok (.getfield 7, 3) := by decide +kernel
theorem dX8_does_50 : decode cX8_does 50 = .ok (.iconst 2, 1) := by decide +kernel
theorem dX8_does_51 : decode cX8_does 51 = .ok (.iload_n 2, 1) := by decide +kernel
theorem dX8_does_52 : decode cX8_does 52 = .ok (.iadd, 1) := by decide +kernel
theorem dX8_does_53 : decode cX8_does 53 = .ok (.aload_n 0, 1) := by decide +kernel
theorem dX8_does_54 : decode cX8_does 54 = .ok (.getfield 44, 3) := by decide +kernel
theorem dX8_does_57 : decode cX8_does 57 = .ok (.iload_n 2, 1) := by decide +kernel
theorem dX8_does_58 : decode cX8_does 58 = .ok (.iaload, 1) := by decide +kernel
theorem dX8_does_59 : decode cX8_does 59 = .ok (.iastore, 1) := by decide +kernel
theorem dX8_does_60 : decode cX8_does 60 = .ok (.aload_n 0, 1) := by decide +kernel
theorem dX8_does_61 : decode cX8_does 61 = .ok (.getfield 7, 3) := by decide +kernel
theorem dX8_does_64 : decode cX8_does 64 = .ok (.bipush 18, 2) := by decide +kernel
theorem dX8_does_66 : decode cX8_does 66 = .ok (.iload_n 2, 1) := by decide +kernel
theorem dX8_does_67 : decode cX8_does 67 = .ok (.iadd, 1) := by decide +kernel
theorem dX8_does_68 : decode cX8_does 68 = .ok (.aload_n 1, 1) := by decide +kernel
theorem dX8_does_69 : decode cX8_does 69 = .ok (.aload_n 0, 1) := by decide +kernel
theorem dX8_does_70 : decode cX8_does 70 = .ok (.getfield 7, 3) := by decide +kernel
theorem dX8_does_73 : decode cX8_does 73 = .ok (.bipush 18, 2) := by decide +kernel
theorem dX8_does_75 : decode cX8_does 75 = .ok (.iload_n 2, 1) := by decide +kernel
theorem dX8_does_76 : decode cX8_does 76 = .ok (.iadd, 1) := by decide +kernel
theorem dX8_does_77 : decode cX8_does 77 = .ok (.iaload, 1) := by decide +kernel
theorem dX8_does_78 : decode cX8_does 78 = .ok (.iaload, 1) := by decide +kernel
theorem dX8_does_79 : decode cX8_does 79 = .ok (.iastore, 1) := by decide +kernel
theorem dX8_does_80 : decode cX8_does 80 = .ok (.iinc 2 1, 3) := by decide +kernel
theorem dX8_does_83 : decode cX8_does 83 = .ok (.goto (-47), 3) := by decide +kernel
theorem dX8_does_86 : decode cX8_does 86 = .ok (.aload_n 0, 1) := by decide +kernel
theorem dX8_does_87 : decode cX8_does 87 = .ok (.getfield 7, 3) := by decide +kernel
theorem dX8_does_90 : decode cX8_does 90 = .ok (.iconst 2, 1) := by decide +kernel
theorem dX8_does_91 : decode cX8_does 91 = .ok (.iaload, 1) := by decide +kernel
theorem dX8_does_92 : decode cX8_does 92 = .ok (.ireturn, 1) := by decide +kernel
theorem dX8_set_0 : decode cX8_set 0 = .ok (.aload_n 0, 1) := by decide +kernel
theorem dX8_set_1 : decode cX8_set 1 = .ok (.iconst 0, 1) := by decide +kernel
theorem dX8_set_2 : decode cX8_set 2 = .ok (.putfield 53, 3) := by decide +kernel
theorem dX8_set_5 : decode cX8_set 5 = .ok (.iload_n 1, 1) := by decide +kernel
theorem dX8_set_6 : decode cX8_set 6 = .ok (.iconst 2, 1) := by decide +kernel
theorem dX8_set_7 : decode cX8_set 7 = .ok (.bipush 16, 2) := by decide +kernel
theorem dX8_set_9 : decode cX8_set 9 = .ok (.invokestatic 64, 3) := by decide +kernel
theorem dX8_set_12 : decode cX8_set 12 = .ok (.ifCond .ne 6, 3) := by decide +kernel
theorem dX8_set_15 : decode cX8_set 15 = .ok (.bipush (-2), 2) := by decide +kernel
theorem dX8_set_17 : decode cX8_set 17 = .ok (.ireturn, 1) := by decide +kernel
theorem dX8_set_18 : decode cX8_set 18 = .ok (.aload_n 0, 1) := by decide +kernel
theorem dX8_set_19 : decode cX8_set 19 = .ok (.invokevirtual 83, 3) := by decide +kernel
theorem dX8_set_22 : decode cX8_set 22 = .ok (.aload_n 0, 1) := by decide +kernel
theorem dX8_set_23 : decode cX8_set 23 = .ok (.getfield 7, 3) := by decide +kernel
theorem dX8_set_26 : decode cX8_set 26 = .ok (.iconst 0, 1) := by decide +kernel
theorem dX8_set_27 : decode cX8_set 27 = .ok (.iaload, 1) := by decide +kernel
theorem dX8_set_28 : decode cX8_set 28 = .ok (.istore_n 2, 1) := by decide +kernel
theorem dX8_set_29 : decode cX8_set 29 = .ok (.aload_n 0, 1) := by decide +kernel
theorem dX8_set_30 : decode cX8_set 30 = .ok (.iload_n 1, 1) := by decide +kernel
theorem dX8_set_31 : decode cX8_set 31 = .ok (.invokevirtual 57, 3) := by decide +kernel
theorem dX8_set_34 : decode cX8_set 34 = .ok (.iload_n 2, 1) := by decide +kernel
theorem dX8_set_35 : decode cX8_set 35 = .ok (.ireturn, 1) := by decide +kernel
theorem dX8_mark_0 : decode cX8_mark 0 = .ok (.aload_n 0, 1) := by decide +kernel
theorem dX8_mark_1 : decode cX8_mark 1 = .ok (.iconst 0, 1) := by decide +kernel
theorem dX8_mark_2 : decode cX8_mark 2 = .ok (.putfield 53, 3) := by decide +kernel
theorem dX8_mark_5 : decode cX8_mark 5 = .ok (.aload_n 0, 1) := by decide +kernel
theorem dX8_mark_6 : decode cX8_mark 6 = .ok (.invokevirtual 86, 3) := by decide +kernel
theorem dX8_mark_9 : decode cX8_mark 9 = .ok (.bipush (-6), 2) := by decide +kernel
theorem dX8_mark_11 : decode cX8_mark 11 = .ok (.if_icmp .eq 6, 3) := by decide +kernel
theorem dX8_mark_14 : decode cX8_mark 14 = .ok (.bipush (-3), 2) := by decide +kernel
theorem dX8_mark_16 : decode cX8_mark 16 = .ok (.ireturn, 1) := by decide +kernel
theorem dX8_mark_17 : decode cX8_mark 17 = .ok (.aload_n 0, 1) := by decide +kernel
theorem dX8_mark_18 : decode cX8_mark 18 = .ok (.getfield 7, 3) := by decide +kernel
theorem dX8_mark_21 : decode cX8_mark 21 = .ok (.iconst 1, 1) := by decide +kernel
theorem dX8_mark_22 : decode cX8_mark 22 = .ok (.iaload, 1) := by decide +kernel
theorem dX8_mark_23 : decode cX8_mark 23 = .ok (.bipush 6, 2) := by decide +kernel
theorem dX8_mark_25 : decode cX8_mark 25 = .ok (.if_icmp .ne 6, 3) := by decide +kernel
theorem dX8_mark_28 : decode cX8_mark 28 = .ok (.bipush (-4), 2) := by decide +kernel
theorem dX8_mark_30 : decode cX8_mark 30 = .ok (.ireturn, 1) := by decide +kernel
theorem dX8_mark_31 : decode cX8_mark 31 = .ok (.aload_n 0, 1) := by decide +kernel
theorem dX8_mark_32 : decode cX8_mark 32 = .ok (.invokevirtual 83, 3) := by decide +kernel
theorem dX8_mark_35 : decode cX8_mark 35 = .ok (.aload_n 0, 1) := by decide +kernel
theorem dX8_mark_36 : decode cX8_mark 36 = .ok (.iconst 0, 1) := by decide +kernel
theorem dX8_mark_37 : decode cX8_mark 37 = .ok (.putfield 90, 3) := by decide +kernel
theorem dX8_mark_40 : decode cX8_mark 40 = .ok (.aload_n 0, 1) := by decide +kernel
theorem dX8_mark_41 : decode cX8_mark 41 = .ok (.aload_n 0, 1) := by decide +kernel
theorem dX8_mark_42 : decode cX8_mark 42 = .ok (.getfield 26, 3) := by decide +kernel
theorem dX8_mark_45 : decode cX8_mark 45 = .ok (.invokevirtual 93, 3) := by decide +kernel
theorem dX8_mark_48 : decode cX8_mark 48 = .ok (.ireturn, 1) := by decide +kernel
theorem dX8_product_0 : decode cX8_product 0 = .ok (.aload_n 0, 1) := by decide +kernel
theorem dX8_product_1 : decode cX8_product 1 = .ok (.iconst 0, 1) := by decide +kernel
theorem dX8_product_2 : decode cX8_product 2 = .ok (.putfield 53, 3) := by decide +kernel
theorem dX8_product_5 : decode cX8_product 5 = .ok (.aload_n 0, 1) := by decide +kernel
theorem dX8_product_6 : decode cX8_product 6 = .ok (.iload_n 1, 1) := by decide +kernel
theorem dX8_product_7 : decode cX8_product 7 = .ok (.invokevirtual 68, 3) := by decide +kernel
theorem dX8_product_10 : decode cX8_product 10 = .ok (.ifCond .eq 11, 3) := by decide +kernel
theorem dX8_product_13 : decode cX8_product 13 = .ok (.aload_n 0, 1) := by decide +kernel
theorem dX8_product_14 : decode cX8_product 14 = .ok (.iload_n 2, 1) := by decide +kernel
theorem dX8_product_15 : decode cX8_product 15 = .ok (.invokevirtual 68, 3) := by decide +kernel
theorem dX8_product_18 : decode cX8_product 18 = .ok (.ifCond .ne 5, 3) := by decide +kernel
theorem dX8_product_21 : decode cX8_product 21 = .ok (.iconst (-1), 1) := by decide +kernel
theorem dX8_product_22 : decode cX8_product 22 = .ok (.ireturn, 1) := by decide +kernel
theorem dX8_product_23 : decode cX8_product 23 = .ok (.aload_n 0, 1) := by decide +kernel
theorem dX8_product_24 : decode cX8_product 24 = .ok (.getfield 7, 3) := by decide +kernel
theorem dX8_product_27 : decode cX8_product 27 = .ok (.iconst 1, 1) := by decide +kernel
theorem dX8_product_28 : decode cX8_product 28 = .ok (.iaload, 1) := by decide +kernel
theorem dX8_product_29 : decode cX8_product 29 = .ok (.bipush 6, 2) := by decide +kernel
theorem dX8_product_31 : decode cX8_product 31 = .ok (.if_icmp .ne 6, 3) := by decide +kernel
theorem dX8_product_34 : decode cX8_product 34 = .ok (.bipush (-4), 2) := by decide +kernel
theorem dX8_product_36 : decode cX8_product 36 = .ok (.ireturn, 1) := by decide +kernel
theorem dX8_product_37 : decode cX8_product 37 = .ok (.aload_n 0, 1) := by decide +kernel
theorem dX8_product_38 : decode cX8_product 38 = .ok (.invokevirtual 83, 3) := by decide +kernel
theorem dX8_product_41 : decode cX8_product 41 = .ok (.aload_n 0, 1) := by decide +kernel
theorem dX8_product_42 : decode cX8_product 42 = .ok (.aload_n 0, 1) := by decide +kernel
theorem dX8_product_43 : decode cX8_product 43 = .ok (.getfield 32, 3) := by decide +kernel
theorem dX8_product_46 : decode cX8_product 46 = .ok (.iload_n 1, 1) := by decide +kernel
theorem dX8_product_47 : decode cX8_product 47 = .ok (.invokevirtual 96, 3) := by decide +kernel
theorem dX8_product_50 : decode cX8_product 50 = .ok (.aload_n 0, 1) := by decide +kernel
theorem dX8_product_51 : decode cX8_product 51 = .ok (.aload_n 0, 1) := by decide +kernel
theorem dX8_product_52 : decode cX8_product 52 = .ok (.getfield 35, 3) := by decide +kernel
theorem dX8_product_55 : decode cX8_product 55 = .ok (.iload_n 2, 1) := by decide +kernel
theorem dX8_product_56 : decode cX8_product 56 = .ok (.invokevirtual 96, 3) := by decide +kernel
theorem dX8_product_59 : decode cX8_product 59 = .ok (.aload_n 0, 1) := by decide +kernel
theorem dX8_product_60 : decode cX8_product 60 = .ok (.aload_n 0, 1) := by decide +kernel
theorem dX8_product_61 : decode cX8_product 61 = .ok (.getfield 38, 3) := by decide +kernel
theorem dX8_product_64 : decode cX8_product 64 = .ok (.aload_n 0, 1) := by decide +kernel
theorem dX8_product_65 : decode cX8_product 65 = .ok (.getfield 32, 3) := by decide +kernel
theorem dX8_product_68 : decode cX8_product 68 = .ok (.aload_n 0, 1) := by decide +kernel
theorem dX8_product_69 : decode cX8_product 69 = .ok (.getfield 35, 3) := by decide +kernel
theorem dX8_product_72 : decode cX8_product 72 = .ok (.invokevirtual 100, 3) := by decide +kernel
theorem dX8_product_75 : decode cX8_product 75 = .ok (.aload_n 0, 1) := by decide +kernel
theorem dX8_product_76 : decode cX8_product 76 = .ok (.aload_n 0, 1) := by decide +kernel
theorem dX8_product_77 : decode cX8_product 77 = .ok (.getfield 38, 3) := by decide +kernel
theorem dX8_product_80 : decode cX8_product 80 = .ok (.invokevirtual 93, 3) := by decide +kernel
theorem dX8_product_83 : decode cX8_product 83 = .ok (.ireturn, 1) := by decide +kernel
theorem dX8_power_0 : decode cX8_power 0 = .ok (.aload_n 0, 1) := by decide +kernel
theorem dX8_power_1 : decode cX8_power 1 = .ok (.iconst 0, 1) := by decide +kernel
theorem dX8_power_2 : decode cX8_power 2 = .ok (.putfield 53, 3) := by decide +kernel
theorem dX8_power_5 : decode cX8_power 5 = .ok (.aload_n 0, 1) := by decide +kernel
theorem dX8_power_6 : decode cX8_power 6 = .ok (.iload_n 1, 1) := by decide +kernel
theorem dX8_power_7 : decode cX8_power 7 = .ok (.invokevirtual 68, 3) := by decide +kernel
theorem dX8_power_10 : decode cX8_power 10 = .ok (.ifCond .ne 5, 3) := by decide +kernel
theorem dX8_power_13 : decode cX8_power 13 = .ok (.iconst (-1), 1) := by decide +kernel
theorem dX8_power_14 : decode cX8_power 14 = .ok (.ireturn, 1) := by decide +kernel
theorem dX8_power_15 : decode cX8_power 15 = .ok (.iload_n 2, 1) := by decide +kernel
theorem dX8_power_16 : decode cX8_power 16 = .ok (.sipush (-999), 3) := by decide +kernel
theorem dX8_power_19 : decode cX8_power 19 = .ok (.sipush 999, 3) := by decide +kernel
theorem dX8_power_22 : decode cX8_power 22 = .ok (.invokestatic 64, 3) := by decide +kernel
theorem dX8_power_25 : decode cX8_power 25 = .ok (.ifCond .ne 6, 3) := by decide +kernel
theorem dX8_power_28 : decode cX8_power 28 = .ok (.bipush (-2), 2) := by decide +kernel
theorem dX8_power_30 : decode cX8_power 30 = .ok (.ireturn, 1) := by decide +kernel
theorem dX8_power_31 : decode cX8_power 31 = .ok (.aload_n 0, 1) := by decide +kernel
theorem dX8_power_32 : decode cX8_power 32 = .ok (.getfield 7, 3) := by decide +kernel
theorem dX8_power_35 : decode cX8_power 35 = .ok (.iconst 1, 1) := by decide +kernel
theorem dX8_power_36 : decode cX8_power 36 = .ok (.iaload, 1) := by decide +kernel
theorem dX8_power_37 : decode cX8_power 37 = .ok (.bipush 6, 2) := by decide +kernel
theorem dX8_power_39 : decode cX8_power 39 = .ok (.if_icmp .ne 6, 3) := by decide +kernel
theorem dX8_power_42 : decode cX8_power 42 = .ok (.bipush (-4), 2) := by decide +kernel
theorem dX8_power_44 : decode cX8_power 44 = .ok (.ireturn, 1) := by decide +kernel
theorem dX8_power_45 : decode cX8_power 45 = .ok (.aload_n 0, 1) := by decide +kernel
theorem dX8_power_46 : decode cX8_power 46 = .ok (.invokevirtual 83, 3) := by decide +kernel
theorem dX8_power_49 : decode cX8_power 49 = .ok (.aload_n 0, 1) := by decide +kernel
theorem dX8_power_50 : decode cX8_power 50 = .ok (.aload_n 0, 1) := by decide +kernel
theorem dX8_power_51 : decode cX8_power 51 = .ok (.getfield 32, 3) := by decide +kernel
theorem dX8_power_54 : decode cX8_power 54 = .ok (.iload_n 1, 1) := by decide +kernel
theorem dX8_power_55 : decode cX8_power 55 = .ok (.invokevirtual 96, 3) := by decide +kernel
theorem dX8_power_58 : decode cX8_power 58 = .ok (.iconst 0, 1) := by decide +kernel
theorem dX8_power_59 : decode cX8_power 59 = .ok (.istore_n 3, 1) := by decide +kernel
theorem dX8_power_60 : decode cX8_power 60 = .ok (.iload_n 3, 1) := by decide +kernel
theorem dX8_power_61 : decode cX8_power 61 = .ok (.aload_n 0, 1) := by decide +kernel
theorem dX8_power_62 : decode cX8_power 62 = .ok (.getfield 7, 3) := by decide +kernel
theorem dX8_power_65 : decode cX8_power 65 = .ok (.iconst 0, 1) := by decide +kernel
theorem dX8_power_66 : decode cX8_power 66 = .ok (.iaload, 1) := by decide +kernel
theorem dX8_power_67 : decode cX8_power 67 = .ok (.if_icmp .ge 25, 3) := by decide +kernel
theorem dX8_power_70 : decode cX8_power 70 = .ok (.aload_n 0, 1) := by decide +kernel
theorem dX8_power_71 : decode cX8_power 71 = .ok (.getfield 35, 3) := by decide +kernel
theorem dX8_power_74 : decode cX8_power 74 = .ok (.iload_n 3, 1) := by decide +kernel
theorem dX8_power_75 : decode cX8_power 75 = .ok (.aload_n 0, 1) := by decide +kernel
theorem dX8_power_76 : decode cX8_power 76 = .ok (.aload_n 0, 1) := by decide +kernel
theorem dX8_power_77 : decode cX8_power 77 = .ok (.getfield 32, 3) := by decide +kernel
theorem dX8_power_80 : decode cX8_power 80 = .ok (.iload_n 2, 1) := by decide +kernel
theorem dX8_power_81 : decode cX8_power 81 = .ok (.iload_n 3, 1) := by decide +kernel
theorem dX8_power_82 : decode cX8_power 82 = .ok (.invokevirtual 104, 3) := by decide +kernel
theorem dX8_power_85 : decode cX8_power 85 = .ok (.iastore, 1) := by decide +kernel
theorem dX8_power_86 : decode cX8_power 86 = .ok (.iinc 3 1, 3) := by decide +kernel
theorem dX8_power_89 : decode cX8_power 89 = .ok (.goto (-29), 3) := by decide +kernel
theorem dX8_power_92 : decode cX8_power 92 = .ok (.aload_n 0, 1) := by decide +kernel
theorem dX8_power_93 : decode cX8_power 93 = .ok (.aload_n 0, 1) := by decide +kernel
theorem dX8_power_94 : decode cX8_power 94 = .ok (.getfield 35, 3) := by decide +kernel
theorem dX8_power_97 : decode cX8_power 97 = .ok (.invokevirtual 93, 3) := by decide +kernel
theorem dX8_power_100 : decode cX8_power 100 = .ok (.ireturn, 1) := by decide +kernel
theorem dX8_trick_0 : decode cX8_trick 0 = .ok (.aload_n 0, 1) := by decide +kernel
theorem dX8_trick_1 : decode cX8_trick 1 = .ok (.iconst 0, 1) := by decide +kernel
theorem dX8_trick_2 : decode cX8_trick 2 = .ok (.putfield 53, 3) := by decide +kernel
theorem dX8_trick_5 : decode cX8_trick 5 = .ok (.aload_n 0, 1) := by decide +kernel
theorem dX8_trick_6 : decode cX8_trick 6 = .ok (.getfield 7, 3) := by decide +kernel
theorem dX8_trick_9 : decode cX8_trick 9 = .ok (.iconst 1, 1) := by decide +kernel
theorem dX8_trick_10 : decode cX8_trick 10 = .ok (.iaload, 1) := by decide +kernel
theorem dX8_trick_11 : decode cX8_trick 11 = .ok (.bipush 6, 2) := by decide +kernel
theorem dX8_trick_13 : decode cX8_trick 13 = .ok (.if_icmp .ne 6, 3) := by decide +kernel
theorem dX8_trick_16 : decode cX8_trick 16 = .ok (.bipush (-4), 2) := by decide +kernel
theorem dX8_trick_18 : decode cX8_trick 18 = .ok (.ireturn, 1) := by decide +kernel
theorem dX8_trick_19 : decode cX8_trick 19 = .ok (.aload_n 0, 1) := by decide +kernel
theorem dX8_trick_20 : decode cX8_trick 20 = .ok (.invokevirtual 83, 3) := by decide +kernel
theorem dX8_trick_23 : decode cX8_trick 23 = .ok (.aload_n 0, 1) := by decide +kernel
theorem dX8_trick_24 : decode cX8_trick 24 = .ok (.aload_n 0, 1) := by decide +kernel
theorem dX8_trick_25 : decode cX8_trick 25 = .ok (.getfield 32, 3) := by decide +kernel
theorem dX8_trick_28 : decode cX8_trick 28 = .ok (.bipush (-6), 2) := by decide +kernel
theorem dX8_trick_30 : decode cX8_trick 30 = .ok (.invokevirtual 96, 3) := by decide +kernel
theorem dX8_trick_33 : decode cX8_trick 33 = .ok (.aload_n 0, 1) := by decide +kernel
theorem dX8_trick_34 : decode cX8_trick 34 = .ok (.aload_n 0, 1) := by decide +kernel
theorem dX8_trick_35 : decode cX8_trick 35 = .ok (.getfield 32, 3) := by decide +kernel
theorem dX8_trick_38 : decode cX8_trick 38 = .ok (.invokevirtual 93, 3) := by decide +kernel
theorem dX8_trick_41 : decode cX8_trick 41 = .ok (.ireturn, 1) := by decide +kernel
theorem dX8_drop_0 : decode cX8_drop 0 = .ok (.aload_n 0, 1) := by decide +kernel
theorem dX8_drop_1 : decode cX8_drop 1 = .ok (.iconst 0, 1) := by decide +kernel
theorem dX8_drop_2 : decode cX8_drop 2 = .ok (.putfield 53, 3) := by decide +kernel
theorem dX8_drop_5 : decode cX8_drop 5 = .ok (.aload_n 0, 1) := by decide +kernel
theorem dX8_drop_6 : decode cX8_drop 6 = .ok (.iload_n 1, 1) := by decide +kernel
theorem dX8_drop_7 : decode cX8_drop 7 = .ok (.invokevirtual 68, 3) := by decide +kernel
theorem dX8_drop_10 : decode cX8_drop 10 = .ok (.ifCond .ne 5, 3) := by decide +kernel
theorem dX8_drop_13 : decode cX8_drop 13 = .ok (.iconst (-1), 1) := by decide +kernel
theorem dX8_drop_14 : decode cX8_drop 14 = .ok (.ireturn, 1) := by decide +kernel
theorem dX8_drop_15 : decode cX8_drop 15 = .ok (.aload_n 0, 1) := by decide +kernel
theorem dX8_drop_16 : decode cX8_drop 16 = .ok (.invokevirtual 83, 3) := by decide +kernel
theorem dX8_drop_19 : decode cX8_drop 19 = .ok (.aload_n 0, 1) := by decide +kernel
theorem dX8_drop_20 : decode cX8_drop 20 = .ok (.getfield 7, 3) := by decide +kernel
theorem dX8_drop_23 : decode cX8_drop 23 = .ok (.iconst 1, 1) := by decide +kernel
theorem dX8_drop_24 : decode cX8_drop 24 = .ok (.dup2, 1) := by decide +kernel
theorem dX8_drop_25 : decode cX8_drop 25 = .ok (.iaload, 1) := by decide +kernel
theorem dX8_drop_26 : decode cX8_drop 26 = .ok (.iconst 1, 1) := by decide +kernel
theorem dX8_drop_27 : decode cX8_drop 27 = .ok (.isub, 1) := by decide +kernel
theorem dX8_drop_28 : decode cX8_drop 28 = .ok (.iastore, 1) := by decide +kernel
theorem dX8_drop_29 : decode cX8_drop 29 = .ok (.bipush 16, 2) := by decide +kernel
theorem dX8_drop_31 : decode cX8_drop 31 = .ok (.iload_n 1, 1) := by decide +kernel
theorem dX8_drop_32 : decode cX8_drop 32 = .ok (.imul, 1) := by decide +kernel
theorem dX8_drop_33 : decode cX8_drop 33 = .ok (.istore_n 2, 1) := by decide +kernel
theorem dX8_drop_34 : decode cX8_drop 34 = .ok (.iload_n 2, 1) := by decide +kernel
theorem dX8_drop_35 : decode cX8_drop 35 = .ok (.bipush 16, 2) := by decide +kernel
theorem dX8_drop_37 : decode cX8_drop 37 = .ok (.aload_n 0, 1) := by decide +kernel
theorem dX8_drop_38 : decode cX8_drop 38 = .ok (.getfield 7, 3) := by decide +kernel
theorem dX8_drop_41 : decode cX8_drop 41 = .ok (.iconst 1, 1) := by decide +kernel
theorem dX8_drop_42 : decode cX8_drop 42 = .ok (.iaload, 1) := by decide +kernel
theorem dX8_drop_43 : decode cX8_drop 43 = .ok (.imul, 1) := by decide +kernel
theorem dX8_drop_44 : decode cX8_drop 44 = .ok (.if_icmp .ge 30, 3) := by decide +kernel
theorem dX8_drop_47 : decode cX8_drop 47 = .ok (.aload_n 0, 1) := by decide +kernel
theorem dX8_drop_48 : decode cX8_drop 48 = .ok (.getfield 7, 3) := by decide +kernel
theorem dX8_drop_51 : decode cX8_drop 51 = .ok (.bipush 34, 2) := by decide +kernel
theorem dX8_drop_53 : decode cX8_drop 53 = .ok (.iload_n 2, 1) := by decide +kernel
theorem dX8_drop_54 : decode cX8_drop 54 = .ok (.iadd, 1) := by decide +kernel
theorem dX8_drop_55 : decode cX8_drop 55 = .ok (.aload_n 0, 1) := by decide +kernel
theorem dX8_drop_56 : decode cX8_drop 56 = .ok (.getfield 7, 3) := by decide +kernel
theorem dX8_drop_59 : decode cX8_drop 59 = .ok (.bipush 34, 2) := by decide +kernel
theorem dX8_drop_61 : decode cX8_drop 61 = .ok (.iload_n 2, 1) := by decide +kernel
theorem dX8_drop_62 : decode cX8_drop 62 = .ok (.iadd, 1) := by decide +kernel
theorem dX8_drop_63 : decode cX8_drop 63 = .ok (.bipush 16, 2) := by decide +kernel
theorem dX8_drop_65 : decode cX8_drop 65 = .ok (.iadd, 1) := by decide +kernel
theorem dX8_drop_66 : decode cX8_drop 66 = .ok (.iaload, 1) := by decide +kernel
theorem dX8_drop_67 : decode cX8_drop 67 = .ok (.iastore, 1) := by decide +kernel
theorem dX8_drop_68 : decode cX8_drop 68 = .ok (.iinc 2 1, 3) := by decide +kernel
theorem dX8_drop_71 : decode cX8_drop 71 = .ok (.goto (-37), 3) := by decide +kernel
theorem dX8_drop_74 : decode cX8_drop 74 = .ok (.iconst 0, 1) := by decide +kernel
theorem dX8_drop_75 : decode cX8_drop 75 = .ok (.istore_n 2, 1) := by decide +kernel
theorem dX8_drop_76 : decode cX8_drop 76 = .ok (.iload_n 2, 1) := by decide +kernel
theorem dX8_drop_77 : decode cX8_drop 77 = .ok (.bipush 16, 2) := by decide +kernel
theorem dX8_drop_79 : decode cX8_drop 79 = .ok (.if_icmp .ge 29, 3) := by decide +kernel
theorem dX8_drop_82 : decode cX8_drop 82 = .ok (.aload_n 0, 1) := by decide +kernel
theorem dX8_drop_83 : decode cX8_drop 83 = .ok (.getfield 7, 3) := by decide +kernel
theorem dX8_drop_86 : decode cX8_drop 86 = .ok (.bipush 34, 2) := by decide +kernel
theorem dX8_drop_88 : decode cX8_drop 88 = .ok (.bipush 16, 2) := by decide +kernel
theorem dX8_drop_90 : decode cX8_drop 90 = .ok (.aload_n 0, 1) := by decide +kernel
theorem dX8_drop_91 : decode cX8_drop 91 = .ok (.getfield 7, 3) := by decide +kernel
theorem dX8_drop_94 : decode cX8_drop 94 = .ok (.iconst 1, 1) := by decide +kernel
theorem dX8_drop_95 : decode cX8_drop 95 = .ok (.iaload, 1) := by decide +kernel
theorem dX8_drop_96 : decode cX8_drop 96 = .ok (.imul, 1) := by decide +kernel
theorem dX8_drop_97 : decode cX8_drop 97 = .ok (.iadd, 1) := by decide +kernel
theorem dX8_drop_98 : decode cX8_drop 98 = .ok (.iload_n 2, 1) := by decide +kernel
theorem dX8_drop_99 : decode cX8_drop 99 = .ok (.iadd, 1) := by decide +kernel
theorem dX8_drop_100 : decode cX8_drop 100 = .ok (.iconst 0, 1) := by decide +kernel
theorem dX8_drop_101 : decode cX8_drop 101 = .ok (.iastore, 1) := by decide +kernel
theorem dX8_drop_102 : decode cX8_drop 102 = .ok (.iinc 2 1, 3) := by decide +kernel
theorem dX8_drop_105 : decode cX8_drop 105 = .ok (.goto (-29), 3) := by decide +kernel
theorem dX8_drop_108 : decode cX8_drop 108 = .ok (.aload_n 0, 1) := by decide +kernel
theorem dX8_drop_109 : decode cX8_drop 109 = .ok (.getfield 7, 3) := by decide +kernel
theorem dX8_drop_112 : decode cX8_drop 112 = .ok (.iconst 1, 1) := by decide +kernel
theorem dX8_drop_113 : decode cX8_drop 113 = .ok (.iaload, 1) := by decide +kernel
theorem dX8_drop_114 : decode cX8_drop 114 = .ok (.ireturn, 1) := by decide +kernel
theorem dX8_play_0 : decode cX8_play 0 = .ok (.aload_n 0, 1) := by decide +kernel
theorem dX8_play_1 : decode cX8_play 1 = .ok (.iconst 0, 1) := by decide +kernel
theorem dX8_play_2 : decode cX8_play 2 = .ok (.putfield 53, 3) := by decide +kernel
theorem dX8_play_5 : decode cX8_play 5 = .ok (.aload_n 0, 1) := by decide +kernel
theorem dX8_play_6 : decode cX8_play 6 = .ok (.iload_n 1, 1) := by decide +kernel
theorem dX8_play_7 : decode cX8_play 7 = .ok (.invokevirtual 68, 3) := by decide +kernel
theorem dX8_play_10 : decode cX8_play 10 = .ok (.ifCond .ne 5, 3) := by decide +kernel
theorem dX8_play_13 : decode cX8_play 13 = .ok (.iconst (-1), 1) := by decide +kernel
theorem dX8_play_14 : decode cX8_play 14 = .ok (.ireturn, 1) := by decide +kernel
theorem dX8_play_15 : decode cX8_play 15 = .ok (.aload_n 0, 1) := by decide +kernel
theorem dX8_play_16 : decode cX8_play 16 = .ok (.invokevirtual 83, 3) := by decide +kernel
theorem dX8_play_19 : decode cX8_play 19 = .ok (.aload_n 0, 1) := by decide +kernel
theorem dX8_play_20 : decode cX8_play 20 = .ok (.aload_n 0, 1) := by decide +kernel
theorem dX8_play_21 : decode cX8_play 21 = .ok (.getfield 32, 3) := by decide +kernel
theorem dX8_play_24 : decode cX8_play 24 = .ok (.iload_n 1, 1) := by decide +kernel
theorem dX8_play_25 : decode cX8_play 25 = .ok (.invokevirtual 96, 3) := by decide +kernel
theorem dX8_play_28 : decode cX8_play 28 = .ok (.aload_n 0, 1) := by decide +kernel
theorem dX8_play_29 : decode cX8_play 29 = .ok (.aload_n 0, 1) := by decide +kernel
theorem dX8_play_30 : decode cX8_play 30 = .ok (.getfield 32, 3) := by decide +kernel
theorem dX8_play_33 : decode cX8_play 33 = .ok (.invokevirtual 108, 3) := by decide +kernel
theorem dX8_play_36 : decode cX8_play 36 = .ok (.ireturn, 1) := by decide +kernel
theorem dX8_cut_0 : decode cX8_cut 0 = .ok (.aload_n 0, 1) := by decide +kernel
theorem dX8_cut_1 : decode cX8_cut 1 = .ok (.iconst 0, 1) := by decide +kernel
theorem dX8_cut_2 : decode cX8_cut 2 = .ok (.putfield 53, 3) := by decide +kernel
theorem dX8_cut_5 : decode cX8_cut 5 = .ok (.aload_n 0, 1) := by decide +kernel
theorem dX8_cut_6 : decode cX8_cut 6 = .ok (.iload_n 1, 1) := by decide +kernel
theorem dX8_cut_7 : decode cX8_cut 7 = .ok (.invokevirtual 111, 3) := by decide +kernel
theorem dX8_cut_10 : decode cX8_cut 10 = .ok (.ifCond .ne 6, 3) := by decide +kernel
theorem dX8_cut_13 : decode cX8_cut 13 = .ok (.bipush (-2), 2) := by decide +kernel
theorem dX8_cut_15 : decode cX8_cut 15 = .ok (.ireturn, 1) := by decide +kernel
theorem dX8_cut_16 : decode cX8_cut 16 = .ok (.aload_n 0, 1) := by decide +kernel
theorem dX8_cut_17 : decode cX8_cut 17 = .ok (.invokevirtual 83, 3) := by decide +kernel
theorem dX8_cut_20 : decode cX8_cut 20 = .ok (.aload_n 0, 1) := by decide +kernel
theorem dX8_cut_21 : decode cX8_cut 21 = .ok (.aload_n 0, 1) := by decide +kernel
theorem dX8_cut_22 : decode cX8_cut 22 = .ok (.getfield 32, 3) := by decide +kernel
theorem dX8_cut_25 : decode cX8_cut 25 = .ok (.iload_n 1, 1) := by decide +kernel
theorem dX8_cut_26 : decode cX8_cut 26 = .ok (.invokevirtual 114, 3) := by decide +kernel
theorem dX8_cut_29 : decode cX8_cut 29 = .ok (.aload_n 0, 1) := by decide +kernel
theorem dX8_cut_30 : decode cX8_cut 30 = .ok (.aload_n 0, 1) := by decide +kernel
theorem dX8_cut_31 : decode cX8_cut 31 = .ok (.getfield 32, 3) := by decide +kernel
theorem dX8_cut_34 : decode cX8_cut 34 = .ok (.invokevirtual 108, 3) := by decide +kernel
theorem dX8_cut_37 : decode cX8_cut 37 = .ok (.ireturn, 1) := by decide +kernel
theorem dX8_riffle_0 : decode cX8_riffle 0 = .ok (.aload_n 0, 1) := by decide +kernel
theorem dX8_riffle_1 : decode cX8_riffle 1 = .ok (.iconst 0, 1) := by decide +kernel
theorem dX8_riffle_2 : decode cX8_riffle 2 = .ok (.putfield 53, 3) := by decide +kernel
theorem dX8_riffle_5 : decode cX8_riffle 5 = .ok (.iload_n 1, 1) := by decide +kernel
theorem dX8_riffle_6 : decode cX8_riffle 6 = .ok (.iconst 0, 1) := by decide +kernel
theorem dX8_riffle_7 : decode cX8_riffle 7 = .ok (.iconst 1, 1) := by decide +kernel
theorem dX8_riffle_8 : decode cX8_riffle 8 = .ok (.invokestatic 64, 3) := by decide +kernel
theorem dX8_riffle_11 : decode cX8_riffle 11 = .ok (.ifCond .ne 6, 3) := by decide +kernel
theorem dX8_riffle_14 : decode cX8_riffle 14 = .ok (.bipush (-2), 2) := by decide +kernel
theorem dX8_riffle_16 : decode cX8_riffle 16 = .ok (.ireturn, 1) := by decide +kernel
theorem dX8_riffle_17 : decode cX8_riffle 17 = .ok (.aload_n 0, 1) := by decide +kernel
theorem dX8_riffle_18 : decode cX8_riffle 18 = .ok (.invokevirtual 83, 3) := by decide +kernel
theorem dX8_riffle_21 : decode cX8_riffle 21 = .ok (.aload_n 0, 1) := by decide +kernel
theorem dX8_riffle_22 : decode cX8_riffle 22 = .ok (.aload_n 0, 1) := by decide +kernel
theorem dX8_riffle_23 : decode cX8_riffle 23 = .ok (.getfield 32, 3) := by decide +kernel
theorem dX8_riffle_26 : decode cX8_riffle 26 = .ok (.iload_n 1, 1) := by decide +kernel
theorem dX8_riffle_27 : decode cX8_riffle 27 = .ok (.iconst 1, 1) := by decide +kernel
theorem dX8_riffle_28 : decode cX8_riffle 28 = .ok (.if_icmp .ne 7, 3) := by decide +kernel
theorem dX8_riffle_31 : decode cX8_riffle 31 = .ok (.iconst 1, 1) := by decide +kernel
theorem dX8_riffle_32 : decode cX8_riffle 32 = .ok (.goto 4, 3) := by decide +kernel
theorem dX8_riffle_35 : decode cX8_riffle 35 = .ok (.iconst 0, 1) := by decide +kernel
theorem dX8_riffle_36 : decode cX8_riffle 36 = .ok (.invokevirtual 117, 3) := by decide +kernel
theorem dX8_riffle_39 : decode cX8_riffle 39 = .ok (.aload_n 0, 1) := by decide +kernel
theorem dX8_riffle_40 : decode cX8_riffle 40 = .ok (.aload_n 0, 1) := by decide +kernel
theorem dX8_riffle_41 : decode cX8_riffle 41 = .ok (.getfield 32, 3) := by decide +kernel
theorem dX8_riffle_44 : decode cX8_riffle 44 = .ok (.invokevirtual 108, 3) := by decide +kernel
theorem dX8_riffle_47 : decode cX8_riffle 47 = .ok (.ireturn, 1) := by decide +kernel
theorem dX8_turn_0 : decode cX8_turn 0 = .ok (.aload_n 0, 1) := by decide +kernel
theorem dX8_turn_1 : decode cX8_turn 1 = .ok (.iconst 0, 1) := by decide +kernel
theorem dX8_turn_2 : decode cX8_turn 2 = .ok (.putfield 53, 3) := by decide +kernel
theorem dX8_turn_5 : decode cX8_turn 5 = .ok (.aload_n 0, 1) := by decide +kernel
theorem dX8_turn_6 : decode cX8_turn 6 = .ok (.invokevirtual 83, 3) := by decide +kernel
theorem dX8_turn_9 : decode cX8_turn 9 = .ok (.aload_n 0, 1) := by decide +kernel
theorem dX8_turn_10 : decode cX8_turn 10 = .ok (.aload_n 0, 1) := by decide +kernel
theorem dX8_turn_11 : decode cX8_turn 11 = .ok (.getfield 32, 3) := by decide +kernel
theorem dX8_turn_14 : decode cX8_turn 14 = .ok (.invokevirtual 121, 3) := by decide +kernel
theorem dX8_turn_17 : decode cX8_turn 17 = .ok (.aload_n 0, 1) := by decide +kernel
theorem dX8_turn_18 : decode cX8_turn 18 = .ok (.aload_n 0, 1) := by decide +kernel
theorem dX8_turn_19 : decode cX8_turn 19 = .ok (.getfield 32, 3) := by decide +kernel
theorem dX8_turn_22 : decode cX8_turn 22 = .ok (.invokevirtual 108, 3) := by decide +kernel
theorem dX8_turn_25 : decode cX8_turn 25 = .ok (.ireturn, 1) := by decide +kernel
theorem dX8_moved_0 : decode cX8_moved 0 = .ok (.iconst 0, 1) := by decide +kernel
theorem dX8_moved_1 : decode cX8_moved 1 = .ok (.istore_n 1, 1) := by decide +kernel
theorem dX8_moved_2 : decode cX8_moved 2 = .ok (.iconst 0, 1) := by decide +kernel
theorem dX8_moved_3 : decode cX8_moved 3 = .ok (.istore_n 2, 1) := by decide +kernel
theorem dX8_moved_4 : decode cX8_moved 4 = .ok (.iload_n 2, 1) := by decide +kernel
theorem dX8_moved_5 : decode cX8_moved 5 = .ok (.aload_n 0, 1) := by decide +kernel
theorem dX8_moved_6 : decode cX8_moved 6 = .ok (.getfield 7, 3) := by decide +kernel
theorem dX8_moved_9 : decode cX8_moved 9 = .ok (.iconst 0, 1) := by decide +kernel
theorem dX8_moved_10 : decode cX8_moved 10 = .ok (.iaload, 1) := by decide +kernel
theorem dX8_moved_11 : decode cX8_moved 11 = .ok (.if_icmp .ge 30, 3) := by decide +kernel
theorem dX8_moved_14 : decode cX8_moved 14 = .ok (.iload_n 1, 1) := by decide +kernel
theorem dX8_moved_15 : decode cX8_moved 15 = .ok (.aload_n 0, 1) := by decide +kernel
theorem dX8_moved_16 : decode cX8_moved 16 = .ok (.getfield 7, 3) := by decide +kernel
theorem dX8_moved_19 : decode cX8_moved 19 = .ok (.bipush 18, 2) := by decide +kernel
theorem dX8_moved_21 : decode cX8_moved 21 = .ok (.iload_n 2, 1) := by decide +kernel
theorem dX8_moved_22 : decode cX8_moved 22 = .ok (.iadd, 1) := by decide +kernel
theorem dX8_moved_23 : decode cX8_moved 23 = .ok (.iaload, 1) := by decide +kernel
theorem dX8_moved_24 : decode cX8_moved 24 = .ok (.iload_n 2, 1) := by decide +kernel
theorem dX8_moved_25 : decode cX8_moved 25 = .ok (.if_icmp .eq 7, 3) := by decide +kernel
theorem dX8_moved_28 : decode cX8_moved 28 = .ok (.iconst 1, 1) := by decide +kernel
theorem dX8_moved_29 : decode cX8_moved 29 = .ok (.goto 4, 3) := by decide +kernel
theorem dX8_moved_32 : decode cX8_moved 32 = .ok (.iconst 0, 1) := by decide +kernel
theorem dX8_moved_33 : decode cX8_moved 33 = .ok (.iadd, 1) := by decide +kernel
theorem dX8_moved_34 : decode cX8_moved 34 = .ok (.istore_n 1, 1) := by decide +kernel
theorem dX8_moved_35 : decode cX8_moved 35 = .ok (.iinc 2 1, 3) := by decide +kernel
theorem dX8_moved_38 : decode cX8_moved 38 = .ok (.goto (-34), 3) := by decide +kernel
theorem dX8_moved_41 : decode cX8_moved 41 = .ok (.iload_n 1, 1) := by decide +kernel
theorem dX8_moved_42 : decode cX8_moved 42 = .ok (.ireturn, 1) := by decide +kernel
theorem dX8_restart_0 : decode cX8_restart 0 = .ok (.aload_n 0, 1) := by decide +kernel
theorem dX8_restart_1 : decode cX8_restart 1 = .ok (.iconst 0, 1) := by decide +kernel
theorem dX8_restart_2 : decode cX8_restart 2 = .ok (.putfield 53, 3) := by decide +kernel
theorem dX8_restart_5 : decode cX8_restart 5 = .ok (.aload_n 0, 1) := by decide +kernel
theorem dX8_restart_6 : decode cX8_restart 6 = .ok (.invokevirtual 83, 3) := by decide +kernel
theorem dX8_restart_9 : decode cX8_restart 9 = .ok (.aload_n 0, 1) := by decide +kernel
theorem dX8_restart_10 : decode cX8_restart 10 = .ok (.invokevirtual 125, 3) := by decide +kernel
theorem dX8_restart_13 : decode cX8_restart 13 = .ok (.istore_n 1, 1) := by decide +kernel
theorem dX8_restart_14 : decode cX8_restart 14 = .ok (.iconst 0, 1) := by decide +kernel
theorem dX8_restart_15 : decode cX8_restart 15 = .ok (.istore_n 2, 1) := by decide +kernel
theorem dX8_restart_16 : decode cX8_restart 16 = .ok (.iload_n 2, 1) := by decide +kernel
theorem dX8_restart_17 : decode cX8_restart 17 = .ok (.aload_n 0, 1) := by decide +kernel
theorem dX8_restart_18 : decode cX8_restart 18 = .ok (.getfield 7, 3) := by decide +kernel
theorem dX8_restart_21 : decode cX8_restart 21 = .ok (.iconst 0, 1) := by decide +kernel
theorem dX8_restart_22 : decode cX8_restart 22 = .ok (.iaload, 1) := by decide +kernel
theorem dX8_restart_23 : decode cX8_restart 23 = .ok (.if_icmp .ge 19, 3) := by decide +kernel
theorem dX8_restart_26 : decode cX8_restart 26 = .ok (.aload_n 0, 1) := by decide +kernel
theorem dX8_restart_27 : decode cX8_restart 27 = .ok (.getfield 7, 3) := by decide +kernel
theorem dX8_restart_30 : decode cX8_restart 30 = .ok (.bipush 18, 2) := by decide +kernel
theorem dX8_restart_32 : decode cX8_restart 32 = .ok (.iload_n 2, 1) := by decide +kernel
theorem dX8_restart_33 : decode cX8_restart 33 = .ok (.iadd, 1) := by decide +kernel
theorem dX8_restart_34 : decode cX8_restart 34 = .ok (.iload_n 2, 1) := by decide +kernel
theorem dX8_restart_35 : decode cX8_restart 35 = .ok (.iastore, 1) := by decide +kernel
theorem dX8_restart_36 : decode cX8_restart 36 = .ok (.iinc 2 1, 3) := by decide +kernel
theorem dX8_restart_39 : decode cX8_restart 39 = .ok (.goto (-23), 3) := by decide +kernel
theorem dX8_restart_42 : decode cX8_restart 42 = .ok (.iload_n 1, 1) := by decide +kernel
theorem dX8_restart_43 : decode cX8_restart 43 = .ok (.ireturn, 1) := by decide +kernel
theorem dX8_at_0 : decode cX8_at 0 = .ok (.aload_n 0, 1) := by decide +kernel
theorem dX8_at_1 : decode cX8_at 1 = .ok (.iconst 0, 1) := by decide +kernel
theorem dX8_at_2 : decode cX8_at 2 = .ok (.putfield 53, 3) := by decide +kernel
theorem dX8_at_5 : decode cX8_at 5 = .ok (.aload_n 0, 1) := by decide +kernel
theorem dX8_at_6 : decode cX8_at 6 = .ok (.iload_n 1, 1) := by decide +kernel
theorem dX8_at_7 : decode cX8_at 7 = .ok (.invokevirtual 111, 3) := by decide +kernel
theorem dX8_at_10 : decode cX8_at 10 = .ok (.ifCond .eq 14, 3) := by decide +kernel
theorem dX8_at_13 : decode cX8_at 13 = .ok (.aload_n 0, 1) := by decide +kernel
theorem dX8_at_14 : decode cX8_at 14 = .ok (.getfield 7, 3) := by decide +kernel
theorem dX8_at_17 : decode cX8_at 17 = .ok (.iconst 2, 1) := by decide +kernel
theorem dX8_at_18 : decode cX8_at 18 = .ok (.iload_n 1, 1) := by decide +kernel
theorem dX8_at_19 : decode cX8_at 19 = .ok (.iadd, 1) := by decide +kernel
theorem dX8_at_20 : decode cX8_at 20 = .ok (.iaload, 1) := by decide +kernel
theorem dX8_at_21 : decode cX8_at 21 = .ok (.goto 4, 3) := by decide +kernel
theorem dX8_at_24 : decode cX8_at 24 = .ok (.iconst (-1), 1) := by decide +kernel
theorem dX8_at_25 : decode cX8_at 25 = .ok (.ireturn, 1) := by decide +kernel
theorem dX8_where_0 : decode cX8_where 0 = .ok (.aload_n 0, 1) := by decide +kernel
theorem dX8_where_1 : decode cX8_where 1 = .ok (.iconst 0, 1) := by decide +kernel
theorem dX8_where_2 : decode cX8_where 2 = .ok (.putfield 53, 3) := by decide +kernel
theorem dX8_where_5 : decode cX8_where 5 = .ok (.iconst (-1), 1) := by decide +kernel
theorem dX8_where_6 : decode cX8_where 6 = .ok (.istore_n 2, 1) := by decide +kernel
theorem dX8_where_7 : decode cX8_where 7 = .ok (.iconst 0, 1) := by decide +kernel
theorem dX8_where_8 : decode cX8_where 8 = .ok (.istore_n 3, 1) := by decide +kernel
theorem dX8_where_9 : decode cX8_where 9 = .ok (.iload_n 3, 1) := by decide +kernel
theorem dX8_where_10 : decode cX8_where 10 = .ok (.aload_n 0, 1) := by decide +kernel
theorem dX8_where_11 : decode cX8_where 11 = .ok (.getfield 7, 3) := by decide +kernel
theorem dX8_where_14 : decode cX8_where 14 = .ok (.iconst 0, 1) := by decide +kernel
theorem dX8_where_15 : decode cX8_where 15 = .ok (.iaload, 1) := by decide +kernel
theorem dX8_where_16 : decode cX8_where 16 = .ok (.if_icmp .ge 27, 3) := by decide +kernel
theorem dX8_where_19 : decode cX8_where 19 = .ok (.aload_n 0, 1) := by decide +kernel
theorem dX8_where_20 : decode cX8_where 20 = .ok (.getfield 7, 3) := by decide +kernel
theorem dX8_where_23 : decode cX8_where 23 = .ok (.iconst 2, 1) := by decide +kernel
theorem dX8_where_24 : decode cX8_where 24 = .ok (.iload_n 3, 1) := by decide +kernel
theorem dX8_where_25 : decode cX8_where 25 = .ok (.iadd, 1) := by decide +kernel
theorem dX8_where_26 : decode cX8_where 26 = .ok (.iaload, 1) := by decide +kernel
theorem dX8_where_27 : decode cX8_where 27 = .ok (.iload_n 1, 1) := by decide +kernel
theorem dX8_where_28 : decode cX8_where 28 = .ok (.if_icmp .ne 7, 3) := by decide +kernel
theorem dX8_where_31 : decode cX8_where 31 = .ok (.iload_n 3, 1) := by decide +kernel
theorem dX8_where_32 : decode cX8_where 32 = .ok (.goto 4, 3) := by decide +kernel
theorem dX8_where_35 : decode cX8_where 35 = .ok (.iload_n 2, 1) := by decide +kernel
theorem dX8_where_36 : decode cX8_where 36 = .ok (.istore_n 2, 1) := by decide +kernel
theorem dX8_where_37 : decode cX8_where 37 = .ok (.iinc 3 1, 3) := by decide +kernel
theorem dX8_where_40 : decode cX8_where 40 = .ok (.goto (-31), 3) := by decide +kernel
theorem dX8_where_43 : decode cX8_where 43 = .ok (.iload_n 2, 1) := by decide +kernel
theorem dX8_where_44 : decode cX8_where 44 = .ok (.ireturn, 1) := by decide +kernel
theorem dX8_fixed_0 : decode cX8_fixed 0 = .ok (.iconst 0, 1) := by decide +kernel
theorem dX8_fixed_1 : decode cX8_fixed 1 = .ok (.istore_n 2, 1) := by decide +kernel
theorem dX8_fixed_2 : decode cX8_fixed 2 = .ok (.iconst 0, 1) := by decide +kernel
theorem dX8_fixed_3 : decode cX8_fixed 3 = .ok (.istore_n 3, 1) := by decide +kernel
theorem dX8_fixed_4 : decode cX8_fixed 4 = .ok (.iload_n 3, 1) := by decide +kernel
theorem dX8_fixed_5 : decode cX8_fixed 5 = .ok (.aload_n 0, 1) := by decide +kernel
theorem dX8_fixed_6 : decode cX8_fixed 6 = .ok (.getfield 7, 3) := by decide +kernel
theorem dX8_fixed_9 : decode cX8_fixed 9 = .ok (.iconst 0, 1) := by decide +kernel
theorem dX8_fixed_10 : decode cX8_fixed 10 = .ok (.iaload, 1) := by decide +kernel
theorem dX8_fixed_11 : decode cX8_fixed 11 = .ok (.if_icmp .ge 26, 3) := by decide +kernel
theorem dX8_fixed_14 : decode cX8_fixed 14 = .ok (.iload_n 2, 1) := by decide +kernel
theorem dX8_fixed_15 : decode cX8_fixed 15 = .ok (.aload_n 1, 1) := by decide +kernel
theorem dX8_fixed_16 : decode cX8_fixed 16 = .ok (.iload_n 3, 1) := by decide +kernel
theorem dX8_fixed_17 : decode cX8_fixed 17 = .ok (.iaload, 1) := by decide +kernel
theorem dX8_fixed_18 : decode cX8_fixed 18 = .ok (.iload_n 3, 1) := by decide +kernel
theorem dX8_fixed_19 : decode cX8_fixed 19 = .ok (.if_icmp .ne 9, 3) := by decide +kernel
theorem dX8_fixed_22 : decode cX8_fixed 22 = .ok (.iconst 1, 1) := by decide +kernel
theorem dX8_fixed_23 : decode cX8_fixed 23 = .ok (.iload_n 3, 1) := by decide +kernel
theorem dX8_fixed_24 : decode cX8_fixed 24 = .ok (.ishl, 1) := by decide +kernel
theorem dX8_fixed_25 : decode cX8_fixed 25 = .ok (.goto 4, 3) := by decide +kernel
theorem dX8_fixed_28 : decode cX8_fixed 28 = .ok (.iconst 0, 1) := by decide +kernel
theorem dX8_fixed_29 : decode cX8_fixed 29 = .ok (.ior, 1) := by decide +kernel
theorem dX8_fixed_30 : decode cX8_fixed 30 = .ok (.istore_n 2, 1) := by decide +kernel
theorem dX8_fixed_31 : decode cX8_fixed 31 = .ok (.iinc 3 1, 3) := by decide +kernel
theorem dX8_fixed_34 : decode cX8_fixed 34 = .ok (.goto (-30), 3) := by decide +kernel
theorem dX8_fixed_37 : decode cX8_fixed 37 = .ok (.iload_n 2, 1) := by decide +kernel
theorem dX8_fixed_38 : decode cX8_fixed 38 = .ok (.ireturn, 1) := by decide +kernel
theorem dX8_cutsWith_0 : decode cX8_cutsWith 0 = .ok (.iconst 0, 1) := by decide +kernel
theorem dX8_cutsWith_1 : decode cX8_cutsWith 1 = .ok (.istore_n 2, 1) := by decide +kernel
theorem dX8_cutsWith_2 : decode cX8_cutsWith 2 = .ok (.iconst 0, 1) := by decide +kernel
theorem dX8_cutsWith_3 : decode cX8_cutsWith 3 = .ok (.istore_n 3, 1) := by decide +kernel
theorem dX8_cutsWith_4 : decode cX8_cutsWith 4 = .ok (.iload_n 3, 1) := by decide +kernel
theorem dX8_cutsWith_5 : decode cX8_cutsWith 5 = .ok (.aload_n 0, 1) := by decide +kernel
theorem dX8_cutsWith_6 : decode cX8_cutsWith 6 = .ok (.getfield 7, 3) := by decide +kernel
theorem dX8_cutsWith_9 : decode cX8_cutsWith 9 = .ok (.iconst 0, 1) := by decide +kernel
theorem dX8_cutsWith_10 : decode cX8_cutsWith 10 = .ok (.iaload, 1) := by decide +kernel
theorem dX8_cutsWith_11 : decode cX8_cutsWith 11 = .ok (.if_icmp .ge 40, 3) := by decide +kernel
theorem dX8_cutsWith_14 : decode cX8_cutsWith 14 = .ok (.aload_n 0, 1) := by decide +kernel
theorem dX8_cutsWith_15 : decode cX8_cutsWith 15 = .ok (.aload_n 0, 1) := by decide +kernel
theorem dX8_cutsWith_16 : decode cX8_cutsWith 16 = .ok (.getfield 35, 3) := by decide +kernel
theorem dX8_cutsWith_19 : decode cX8_cutsWith 19 = .ok (.iload_n 3, 1) := by decide +kernel
theorem dX8_cutsWith_20 : decode cX8_cutsWith 20 = .ok (.invokevirtual 114, 3) := by decide +kernel
theorem dX8_cutsWith_23 : decode cX8_cutsWith 23 = .ok (.iload_n 2, 1) := by decide +kernel
theorem dX8_cutsWith_24 : decode cX8_cutsWith 24 = .ok (.aload_n 0, 1) := by decide +kernel
theorem dX8_cutsWith_25 : decode cX8_cutsWith 25 = .ok (.aload_n 1, 1) := by decide +kernel
theorem dX8_cutsWith_26 : decode cX8_cutsWith 26 = .ok (.aload_n 0, 1) := by decide +kernel
theorem dX8_cutsWith_27 : decode cX8_cutsWith 27 = .ok (.getfield 35, 3) := by decide +kernel
theorem dX8_cutsWith_30 : decode cX8_cutsWith 30 = .ok (.invokevirtual 128, 3) := by decide +kernel
theorem dX8_cutsWith_33 : decode cX8_cutsWith 33 = .ok (.ifCond .eq 9, 3) := by decide +kernel
theorem dX8_cutsWith_36 : decode cX8_cutsWith 36 = .ok (.iconst 1, 1) := by decide +kernel
theorem dX8_cutsWith_37 : decode cX8_cutsWith 37 = .ok (.iload_n 3, 1) := by decide +kernel
theorem dX8_cutsWith_38 : decode cX8_cutsWith 38 = .ok (.ishl, 1) := by decide +kernel
theorem dX8_cutsWith_39 : decode cX8_cutsWith 39 = .ok (.goto 4, 3) := by decide +kernel
theorem dX8_cutsWith_42 : decode cX8_cutsWith 42 = .ok (.iconst 0, 1) := by decide +kernel
theorem dX8_cutsWith_43 : decode cX8_cutsWith 43 = .ok (.ior, 1) := by decide +kernel
theorem dX8_cutsWith_44 : decode cX8_cutsWith 44 = .ok (.istore_n 2, 1) := by decide +kernel
theorem dX8_cutsWith_45 : decode cX8_cutsWith 45 = .ok (.iinc 3 1, 3) := by decide +kernel
theorem dX8_cutsWith_48 : decode cX8_cutsWith 48 = .ok (.goto (-44), 3) := by decide +kernel
theorem dX8_cutsWith_51 : decode cX8_cutsWith 51 = .ok (.iload_n 2, 1) := by decide +kernel
theorem dX8_cutsWith_52 : decode cX8_cutsWith 52 = .ok (.ireturn, 1) := by decide +kernel
theorem dX8_markAs_0 : decode cX8_markAs 0 = .ok (.iconst 0, 1) := by decide +kernel
theorem dX8_markAs_1 : decode cX8_markAs 1 = .ok (.istore_n 2, 1) := by decide +kernel
theorem dX8_markAs_2 : decode cX8_markAs 2 = .ok (.iload_n 2, 1) := by decide +kernel
theorem dX8_markAs_3 : decode cX8_markAs 3 = .ok (.aload_n 0, 1) := by decide +kernel
theorem dX8_markAs_4 : decode cX8_markAs 4 = .ok (.getfield 7, 3) := by decide +kernel
theorem dX8_markAs_7 : decode cX8_markAs 7 = .ok (.iconst 1, 1) := by decide +kernel
theorem dX8_markAs_8 : decode cX8_markAs 8 = .ok (.iaload, 1) := by decide +kernel
theorem dX8_markAs_9 : decode cX8_markAs 9 = .ok (.if_icmp .ge 32, 3) := by decide +kernel
theorem dX8_markAs_12 : decode cX8_markAs 12 = .ok (.aload_n 0, 1) := by decide +kernel
theorem dX8_markAs_13 : decode cX8_markAs 13 = .ok (.aload_n 0, 1) := by decide +kernel
theorem dX8_markAs_14 : decode cX8_markAs 14 = .ok (.getfield 38, 3) := by decide +kernel
theorem dX8_markAs_17 : decode cX8_markAs 17 = .ok (.iload_n 2, 1) := by decide +kernel
theorem dX8_markAs_18 : decode cX8_markAs 18 = .ok (.invokevirtual 96, 3) := by decide +kernel
theorem dX8_markAs_21 : decode cX8_markAs 21 = .ok (.aload_n 0, 1) := by decide +kernel
theorem dX8_markAs_22 : decode cX8_markAs 22 = .ok (.aload_n 1, 1) := by decide +kernel
theorem dX8_markAs_23 : decode cX8_markAs 23 = .ok (.aload_n 0, 1) := by decide +kernel
theorem dX8_markAs_24 : decode cX8_markAs 24 = .ok (.getfield 38, 3) := by decide +kernel
theorem dX8_markAs_27 : decode cX8_markAs 27 = .ok (.invokevirtual 132, 3) := by decide +kernel
theorem dX8_markAs_30 : decode cX8_markAs 30 = .ok (.ifCond .eq 5, 3) := by decide +kernel
theorem dX8_markAs_33 : decode cX8_markAs 33 = .ok (.iload_n 2, 1) := by decide +kernel
theorem dX8_markAs_34 : decode cX8_markAs 34 = .ok (.ireturn, 1) := by decide +kernel
theorem dX8_markAs_35 : decode cX8_markAs 35 = .ok (.iinc 2 1, 3) := by decide +kernel
theorem dX8_markAs_38 : decode cX8_markAs 38 = .ok (.goto (-36), 3) := by decide +kernel
theorem dX8_markAs_41 : decode cX8_markAs 41 = .ok (.bipush (-6), 2) := by decide +kernel
theorem dX8_markAs_43 : decode cX8_markAs 43 = .ok (.ireturn, 1) := by decide +kernel
theorem dX8_of_0 : decode cX8_of 0 = .ok (.aload_n 0, 1) := by decide +kernel
theorem dX8_of_1 : decode cX8_of 1 = .ok (.iconst 0, 1) := by decide +kernel
theorem dX8_of_2 : decode cX8_of 2 = .ok (.putfield 53, 3) := by decide +kernel
theorem dX8_of_5 : decode cX8_of 5 = .ok (.aload_n 0, 1) := by decide +kernel
theorem dX8_of_6 : decode cX8_of 6 = .ok (.iload_n 1, 1) := by decide +kernel
theorem dX8_of_7 : decode cX8_of 7 = .ok (.invokevirtual 135, 3) := by decide +kernel
theorem dX8_of_10 : decode cX8_of 10 = .ok (.ifCond .ne 5, 3) := by decide +kernel
theorem dX8_of_13 : decode cX8_of 13 = .ok (.iconst (-1), 1) := by decide +kernel
theorem dX8_of_14 : decode cX8_of 14 = .ok (.ireturn, 1) := by decide +kernel
theorem dX8_of_15 : decode cX8_of 15 = .ok (.aload_n 0, 1) := by decide +kernel
theorem dX8_of_16 : decode cX8_of 16 = .ok (.aload_n 0, 1) := by decide +kernel
theorem dX8_of_17 : decode cX8_of 17 = .ok (.getfield 32, 3) := by decide +kernel
theorem dX8_of_20 : decode cX8_of 20 = .ok (.iload_n 1, 1) := by decide +kernel
theorem dX8_of_21 : decode cX8_of 21 = .ok (.invokevirtual 96, 3) := by decide +kernel
theorem dX8_of_24 : decode cX8_of 24 = .ok (.iload_n 2, 1) := by decide +kernel
theorem dX8_of_25 : decode cX8_of 25 = .ok (.tableswitch 135 0 6 #[43, 52, 61, 70, 79, 105, 114], 43) := by decide +kernel
theorem dX8_of_68 : decode cX8_of 68 = .ok (.aload_n 0, 1) := by decide +kernel
theorem dX8_of_69 : decode cX8_of 69 = .ok (.aload_n 0, 1) := by decide +kernel
theorem dX8_of_70 : decode cX8_of 70 = .ok (.getfield 32, 3) := by decide +kernel
theorem dX8_of_73 : decode cX8_of 73 = .ok (.invokevirtual 138, 3) := by decide +kernel
theorem dX8_of_76 : decode cX8_of 76 = .ok (.ireturn, 1) := by decide +kernel
theorem dX8_of_77 : decode cX8_of 77 = .ok (.aload_n 0, 1) := by decide +kernel
theorem dX8_of_78 : decode cX8_of 78 = .ok (.aload_n 0, 1) := by decide +kernel
theorem dX8_of_79 : decode cX8_of 79 = .ok (.getfield 32, 3) := by decide +kernel
theorem dX8_of_82 : decode cX8_of 82 = .ok (.invokevirtual 76, 3) := by decide +kernel
theorem dX8_of_85 : decode cX8_of 85 = .ok (.ireturn, 1) := by decide +kernel
theorem dX8_of_86 : decode cX8_of 86 = .ok (.aload_n 0, 1) := by decide +kernel
theorem dX8_of_87 : decode cX8_of 87 = .ok (.aload_n 0, 1) := by decide +kernel
theorem dX8_of_88 : decode cX8_of 88 = .ok (.getfield 32, 3) := by decide +kernel
theorem dX8_of_91 : decode cX8_of 91 = .ok (.invokevirtual 141, 3) := by decide +kernel
theorem dX8_of_94 : decode cX8_of 94 = .ok (.ireturn, 1) := by decide +kernel
theorem dX8_of_95 : decode cX8_of 95 = .ok (.aload_n 0, 1) := by decide +kernel
theorem dX8_of_96 : decode cX8_of 96 = .ok (.aload_n 0, 1) := by decide +kernel
theorem dX8_of_97 : decode cX8_of 97 = .ok (.getfield 32, 3) := by decide +kernel
theorem dX8_of_100 : decode cX8_of 100 = .ok (.invokevirtual 144, 3) := by decide +kernel
theorem dX8_of_103 : decode cX8_of 103 = .ok (.ireturn, 1) := by decide +kernel
theorem dX8_of_104 : decode cX8_of 104 = .ok (.aload_n 0, 1) := by decide +kernel
theorem dX8_of_105 : decode cX8_of 105 = .ok (.getfield 7, 3) := by decide +kernel
theorem dX8_of_108 : decode cX8_of 108 = .ok (.iconst 0, 1) := by decide +kernel
theorem dX8_of_109 : decode cX8_of 109 = .ok (.iaload, 1) := by decide +kernel
theorem dX8_of_110 : decode cX8_of 110 = .ok (.aload_n 0, 1) := by decide +kernel
theorem dX8_of_111 : decode cX8_of 111 = .ok (.aload_n 0, 1) := by decide +kernel
theorem dX8_of_112 : decode cX8_of 112 = .ok (.getfield 32, 3) := by decide +kernel
theorem dX8_of_115 : decode cX8_of 115 = .ok (.invokevirtual 76, 3) := by decide +kernel
theorem dX8_of_118 : decode cX8_of 118 = .ok (.isub, 1) := by decide +kernel
theorem dX8_of_119 : decode cX8_of 119 = .ok (.iconst 2, 1) := by decide +kernel
theorem dX8_of_120 : decode cX8_of 120 = .ok (.irem, 1) := by decide +kernel
theorem dX8_of_121 : decode cX8_of 121 = .ok (.ifCond .ne 7, 3) := by decide +kernel
theorem dX8_of_124 : decode cX8_of 124 = .ok (.iconst 2, 1) := by decide +kernel
theorem dX8_of_125 : decode cX8_of 125 = .ok (.goto 4, 3) := by decide +kernel
theorem dX8_of_128 : decode cX8_of 128 = .ok (.iconst 0, 1) := by decide +kernel
theorem dX8_of_129 : decode cX8_of 129 = .ok (.ireturn, 1) := by decide +kernel
theorem dX8_of_130 : decode cX8_of 130 = .ok (.aload_n 0, 1) := by decide +kernel
theorem dX8_of_131 : decode cX8_of 131 = .ok (.aload_n 0, 1) := by decide +kernel
theorem dX8_of_132 : decode cX8_of 132 = .ok (.getfield 32, 3) := by decide +kernel
theorem dX8_of_135 : decode cX8_of 135 = .ok (.invokevirtual 147, 3) := by decide +kernel
theorem dX8_of_138 : decode cX8_of 138 = .ok (.ireturn, 1) := by decide +kernel
theorem dX8_of_139 : decode cX8_of 139 = .ok (.aload_n 0, 1) := by decide +kernel
theorem dX8_of_140 : decode cX8_of 140 = .ok (.aload_n 0, 1) := by decide +kernel
theorem dX8_of_141 : decode cX8_of 141 = .ok (.getfield 35, 3) := by decide +kernel
theorem dX8_of_144 : decode cX8_of 144 = .ok (.aload_n 0, 1) := by decide +kernel
theorem dX8_of_145 : decode cX8_of 145 = .ok (.getfield 32, 3) := by decide +kernel
theorem dX8_of_148 : decode cX8_of 148 = .ok (.invokevirtual 150, 3) := by decide +kernel
theorem dX8_of_151 : decode cX8_of 151 = .ok (.aload_n 0, 1) := by decide +kernel
theorem dX8_of_152 : decode cX8_of 152 = .ok (.aload_n 0, 1) := by decide +kernel
theorem dX8_of_153 : decode cX8_of 153 = .ok (.getfield 35, 3) := by decide +kernel
theorem dX8_of_156 : decode cX8_of 156 = .ok (.invokevirtual 154, 3) := by decide +kernel
theorem dX8_of_159 : decode cX8_of 159 = .ok (.ireturn, 1) := by decide +kernel
theorem dX8_of_160 : decode cX8_of 160 = .ok (.bipush (-2), 2) := by decide +kernel
theorem dX8_of_162 : decode cX8_of 162 = .ok (.ireturn, 1) := by decide +kernel
theorem dX8_image_0 : decode cX8_image 0 = .ok (.aload_n 0, 1) := by decide +kernel
theorem dX8_image_1 : decode cX8_image 1 = .ok (.iconst 0, 1) := by decide +kernel
theorem dX8_image_2 : decode cX8_image 2 = .ok (.putfield 53, 3) := by decide +kernel
theorem dX8_image_5 : decode cX8_image 5 = .ok (.aload_n 0, 1) := by decide +kernel
theorem dX8_image_6 : decode cX8_image 6 = .ok (.iload_n 1, 1) := by decide +kernel
theorem dX8_image_7 : decode cX8_image 7 = .ok (.invokevirtual 135, 3) := by decide +kernel
theorem dX8_image_10 : decode cX8_image 10 = .ok (.ifCond .eq 11, 3) := by decide +kernel
theorem dX8_image_13 : decode cX8_image 13 = .ok (.aload_n 0, 1) := by decide +kernel
theorem dX8_image_14 : decode cX8_image 14 = .ok (.iload_n 3, 1) := by decide +kernel
theorem dX8_image_15 : decode cX8_image 15 = .ok (.invokevirtual 111, 3) := by decide +kernel
theorem dX8_image_18 : decode cX8_image 18 = .ok (.ifCond .ne 5, 3) := by decide +kernel
theorem dX8_image_21 : decode cX8_image 21 = .ok (.iconst (-1), 1) := by decide +kernel
theorem dX8_image_22 : decode cX8_image 22 = .ok (.ireturn, 1) := by decide +kernel
theorem dX8_image_23 : decode cX8_image 23 = .ok (.iload_n 2, 1) := by decide +kernel
theorem dX8_image_24 : decode cX8_image 24 = .ok (.sipush (-999), 3) := by decide +kernel
theorem dX8_image_27 : decode cX8_image 27 = .ok (.sipush 999, 3) := by decide +kernel
theorem dX8_image_30 : decode cX8_image 30 = .ok (.invokestatic 64, 3) := by decide +kernel
theorem dX8_image_33 : decode cX8_image 33 = .ok (.ifCond .ne 6, 3) := by decide +kernel
theorem dX8_image_36 : decode cX8_image 36 = .ok (.bipush (-2), 2) := by decide +kernel
theorem dX8_image_38 : decode cX8_image 38 = .ok (.ireturn, 1) := by decide +kernel
theorem dX8_image_39 : decode cX8_image 39 = .ok (.aload_n 0, 1) := by decide +kernel
theorem dX8_image_40 : decode cX8_image 40 = .ok (.aload_n 0, 1) := by decide +kernel
theorem dX8_image_41 : decode cX8_image 41 = .ok (.getfield 32, 3) := by decide +kernel
theorem dX8_image_44 : decode cX8_image 44 = .ok (.iload_n 1, 1) := by decide +kernel
theorem dX8_image_45 : decode cX8_image 45 = .ok (.invokevirtual 96, 3) := by decide +kernel
theorem dX8_image_48 : decode cX8_image 48 = .ok (.aload_n 0, 1) := by decide +kernel
theorem dX8_image_49 : decode cX8_image 49 = .ok (.aload_n 0, 1) := by decide +kernel
theorem dX8_image_50 : decode cX8_image 50 = .ok (.getfield 32, 3) := by decide +kernel
theorem dX8_image_53 : decode cX8_image 53 = .ok (.iload_n 2, 1) := by decide +kernel
theorem dX8_image_54 : decode cX8_image 54 = .ok (.iload_n 3, 1) := by decide +kernel
theorem dX8_image_55 : decode cX8_image 55 = .ok (.invokevirtual 104, 3) := by decide +kernel
theorem dX8_image_58 : decode cX8_image 58 = .ok (.ireturn, 1) := by decide +kernel
theorem dX8_commuting_0 : decode cX8_commuting 0 = .ok (.aload_n 0, 1) := by decide +kernel
theorem dX8_commuting_1 : decode cX8_commuting 1 = .ok (.iconst 0, 1) := by decide +kernel
theorem dX8_commuting_2 : decode cX8_commuting 2 = .ok (.putfield 53, 3) := by decide +kernel
theorem dX8_commuting_5 : decode cX8_commuting 5 = .ok (.aload_n 0, 1) := by decide +kernel
theorem dX8_commuting_6 : decode cX8_commuting 6 = .ok (.iload_n 1, 1) := by decide +kernel
theorem dX8_commuting_7 : decode cX8_commuting 7 = .ok (.invokevirtual 135, 3) := by decide +kernel
theorem dX8_commuting_10 : decode cX8_commuting 10 = .ok (.ifCond .ne 7, 3) := by decide +kernel
theorem dX8_commuting_13 : decode cX8_commuting 13 = .ok (.ldc2_w 157, 3) := by decide +kernel
theorem dX8_commuting_16 : decode cX8_commuting 16 = .ok (.lreturn, 1) := by decide +kernel
theorem dX8_commuting_17 : decode cX8_commuting 17 = .ok (.aload_n 0, 1) := by decide +kernel
theorem dX8_commuting_18 : decode cX8_commuting 18 = .ok (.aload_n 0, 1) := by decide +kernel
theorem dX8_commuting_19 : decode cX8_commuting 19 = .ok (.getfield 32, 3) := by decide +kernel
theorem dX8_commuting_22 : decode cX8_commuting 22 = .ok (.iload_n 1, 1) := by decide +kernel
theorem dX8_commuting_23 : decode cX8_commuting 23 = .ok (.invokevirtual 96, 3) := by decide +kernel
theorem dX8_commuting_26 : decode cX8_commuting 26 = .ok (.aload_n 0, 1) := by decide +kernel
theorem dX8_commuting_27 : decode cX8_commuting 27 = .ok (.aload_n 0, 1) := by decide +kernel
theorem dX8_commuting_28 : decode cX8_commuting 28 = .ok (.getfield 32, 3) := by decide +kernel
theorem dX8_commuting_31 : decode cX8_commuting 31 = .ok (.invokevirtual 76, 3) := by decide +kernel
theorem dX8_commuting_34 : decode cX8_commuting 34 = .ok (.pop, 1) := by decide +kernel
theorem dX8_commuting_35 : decode cX8_commuting 35 = .ok (.lconst 1, 1) := by decide +kernel
theorem dX8_commuting_36 : decode cX8_commuting 36 = .ok (.lstore_n 2, 1) := by decide +kernel
theorem dX8_commuting_37 : decode cX8_commuting 37 = .ok (.iconst 1, 1) := by decide +kernel
theorem dX8_commuting_38 : decode cX8_commuting 38 = .ok (.istore 4, 2) := by decide +kernel
theorem dX8_commuting_40 : decode cX8_commuting 40 = .ok (.iload 4, 2) := by decide +kernel
theorem dX8_commuting_42 : decode cX8_commuting 42 = .ok (.bipush 17, 2) := by decide +kernel
theorem dX8_commuting_44 : decode cX8_commuting 44 = .ok (.if_icmp .ge 40, 3) := by decide +kernel
theorem dX8_commuting_47 : decode cX8_commuting 47 = .ok (.iconst 1, 1) := by decide +kernel
theorem dX8_commuting_48 : decode cX8_commuting 48 = .ok (.istore 5, 2) := by decide +kernel
theorem dX8_commuting_50 : decode cX8_commuting 50 = .ok (.iload 5, 2) := by decide +kernel
theorem dX8_commuting_52 : decode cX8_commuting 52 = .ok (.aload_n 0, 1) := by decide +kernel
theorem dX8_commuting_53 : decode cX8_commuting 53 = .ok (.getfield 50, 3) := by decide +kernel
theorem dX8_commuting_56 : decode cX8_commuting 56 = .ok (.iload 4, 2) := by decide +kernel
theorem dX8_commuting_58 : decode cX8_commuting 58 = .ok (.iaload, 1) := by decide +kernel
theorem dX8_commuting_59 : decode cX8_commuting 59 = .ok (.if_icmp .gt 19, 3) := by decide +kernel
theorem dX8_commuting_62 : decode cX8_commuting 62 = .ok (.lload_n 2, 1) := by decide +kernel
theorem dX8_commuting_63 : decode cX8_commuting 63 = .ok (.iload 4, 2) := by decide +kernel
theorem dX8_commuting_65 : decode cX8_commuting 65 = .ok (.i2l, 1) := by decide +kernel
theorem dX8_commuting_66 : decode cX8_commuting 66 = .ok (.lmul, 1) := by decide +kernel
theorem dX8_commuting_67 : decode cX8_commuting 67 = .ok (.iload 5, 2) := by decide +kernel
theorem dX8_commuting_69 : decode cX8_commuting 69 = .ok (.i2l, 1) := by decide +kernel
theorem dX8_commuting_70 : decode cX8_commuting 70 = .ok (.lmul, 1) := by decide +kernel
theorem dX8_commuting_71 : decode cX8_commuting 71 = .ok (.lstore_n 2, 1) := by decide +kernel
theorem dX8_commuting_72 : decode cX8_commuting 72 = .ok (.iinc 5 1, 3) := by decide +kernel
theorem dX8_commuting_75 : decode cX8_commuting 75 = .ok (.goto (-25), 3) := by decide +kernel
theorem dX8_commuting_78 : decode cX8_commuting 78 = .ok (.iinc 4 1, 3) := by decide +kernel
theorem dX8_commuting_81 : decode cX8_commuting 81 = .ok (.goto (-41), 3) := by decide +kernel
theorem dX8_commuting_84 : decode cX8_commuting 84 = .ok (.lload_n 2, 1) := by decide +kernel
theorem dX8_commuting_85 : decode cX8_commuting 85 = .ok (.lreturn, 1) := by decide +kernel
theorem dX8_commute_0 : decode cX8_commute 0 = .ok (.aload_n 0, 1) := by decide +kernel
theorem dX8_commute_1 : decode cX8_commute 1 = .ok (.iconst 0, 1) := by decide +kernel
theorem dX8_commute_2 : decode cX8_commute 2 = .ok (.putfield 53, 3) := by decide +kernel
theorem dX8_commute_5 : decode cX8_commute 5 = .ok (.aload_n 0, 1) := by decide +kernel
theorem dX8_commute_6 : decode cX8_commute 6 = .ok (.iload_n 1, 1) := by decide +kernel
theorem dX8_commute_7 : decode cX8_commute 7 = .ok (.invokevirtual 135, 3) := by decide +kernel
theorem dX8_commute_10 : decode cX8_commute 10 = .ok (.ifCond .eq 11, 3) := by decide +kernel
theorem dX8_commute_13 : decode cX8_commute 13 = .ok (.aload_n 0, 1) := by decide +kernel
theorem dX8_commute_14 : decode cX8_commute 14 = .ok (.iload_n 2, 1) := by decide +kernel
theorem dX8_commute_15 : decode cX8_commute 15 = .ok (.invokevirtual 135, 3) := by decide +kernel
theorem dX8_commute_18 : decode cX8_commute 18 = .ok (.ifCond .ne 5, 3) := by decide +kernel
theorem dX8_commute_21 : decode cX8_commute 21 = .ok (.iconst (-1), 1) := by decide +kernel
theorem dX8_commute_22 : decode cX8_commute 22 = .ok (.ireturn, 1) := by decide +kernel
theorem dX8_commute_23 : decode cX8_commute 23 = .ok (.aload_n 0, 1) := by decide +kernel
theorem dX8_commute_24 : decode cX8_commute 24 = .ok (.aload_n 0, 1) := by decide +kernel
theorem dX8_commute_25 : decode cX8_commute 25 = .ok (.getfield 32, 3) := by decide +kernel
theorem dX8_commute_28 : decode cX8_commute 28 = .ok (.iload_n 1, 1) := by decide +kernel
theorem dX8_commute_29 : decode cX8_commute 29 = .ok (.invokevirtual 96, 3) := by decide +kernel
theorem dX8_commute_32 : decode cX8_commute 32 = .ok (.aload_n 0, 1) := by decide +kernel
theorem dX8_commute_33 : decode cX8_commute 33 = .ok (.aload_n 0, 1) := by decide +kernel
theorem dX8_commute_34 : decode cX8_commute 34 = .ok (.getfield 35, 3) := by decide +kernel
theorem dX8_commute_37 : decode cX8_commute 37 = .ok (.iload_n 2, 1) := by decide +kernel
theorem dX8_commute_38 : decode cX8_commute 38 = .ok (.invokevirtual 96, 3) := by decide +kernel
theorem dX8_commute_41 : decode cX8_commute 41 = .ok (.aload_n 0, 1) := by decide +kernel
theorem dX8_commute_42 : decode cX8_commute 42 = .ok (.aload_n 0, 1) := by decide +kernel
theorem dX8_commute_43 : decode cX8_commute 43 = .ok (.getfield 32, 3) := by decide +kernel
theorem dX8_commute_46 : decode cX8_commute 46 = .ok (.aload_n 0, 1) := by decide +kernel
theorem dX8_commute_47 : decode cX8_commute 47 = .ok (.getfield 35, 3) := by decide +kernel
theorem dX8_commute_50 : decode cX8_commute 50 = .ok (.invokevirtual 128, 3) := by decide +kernel
theorem dX8_commute_53 : decode cX8_commute 53 = .ok (.ifCond .eq 7, 3) := by decide +kernel
theorem dX8_commute_56 : decode cX8_commute 56 = .ok (.iconst 1, 1) := by decide +kernel
theorem dX8_commute_57 : decode cX8_commute 57 = .ok (.goto 4, 3) := by decide +kernel
theorem dX8_commute_60 : decode cX8_commute 60 = .ok (.iconst 0, 1) := by decide +kernel
theorem dX8_commute_61 : decode cX8_commute 61 = .ok (.ireturn, 1) := by decide +kernel
theorem dX8_inPlace_0 : decode cX8_inPlace 0 = .ok (.iconst 0, 1) := by decide +kernel
theorem dX8_inPlace_1 : decode cX8_inPlace 1 = .ok (.istore_n 1, 1) := by decide +kernel
theorem dX8_inPlace_2 : decode cX8_inPlace 2 = .ok (.iconst 0, 1) := by decide +kernel
theorem dX8_inPlace_3 : decode cX8_inPlace 3 = .ok (.istore_n 2, 1) := by decide +kernel
theorem dX8_inPlace_4 : decode cX8_inPlace 4 = .ok (.iload_n 2, 1) := by decide +kernel
theorem dX8_inPlace_5 : decode cX8_inPlace 5 = .ok (.aload_n 0, 1) := by decide +kernel
theorem dX8_inPlace_6 : decode cX8_inPlace 6 = .ok (.getfield 7, 3) := by decide +kernel
theorem dX8_inPlace_9 : decode cX8_inPlace 9 = .ok (.iconst 0, 1) := by decide +kernel
theorem dX8_inPlace_10 : decode cX8_inPlace 10 = .ok (.iaload, 1) := by decide +kernel
theorem dX8_inPlace_11 : decode cX8_inPlace 11 = .ok (.if_icmp .ge 31, 3) := by decide +kernel
theorem dX8_inPlace_14 : decode cX8_inPlace 14 = .ok (.iload_n 1, 1) := by decide +kernel
theorem dX8_inPlace_15 : decode cX8_inPlace 15 = .ok (.aload_n 0, 1) := by decide +kernel
theorem dX8_inPlace_16 : decode cX8_inPlace 16 = .ok (.getfield 7, 3) := by decide +kernel
theorem dX8_inPlace_19 : decode cX8_inPlace 19 = .ok (.iconst 2, 1) := by decide +kernel
theorem dX8_inPlace_20 : decode cX8_inPlace 20 = .ok (.iload_n 2, 1) := by decide +kernel
theorem dX8_inPlace_21 : decode cX8_inPlace 21 = .ok (.iadd, 1) := by decide +kernel
theorem dX8_inPlace_22 : decode cX8_inPlace 22 = .ok (.iaload, 1) := by decide +kernel
theorem dX8_inPlace_23 : decode cX8_inPlace 23 = .ok (.iload_n 2, 1) := by decide +kernel
theorem dX8_inPlace_24 : decode cX8_inPlace 24 = .ok (.if_icmp .ne 9, 3) := by decide +kernel
theorem dX8_inPlace_27 : decode cX8_inPlace 27 = .ok (.iconst 1, 1) := by decide +kernel
theorem dX8_inPlace_28 : decode cX8_inPlace 28 = .ok (.iload_n 2, 1) := by decide +kernel
theorem dX8_inPlace_29 : decode cX8_inPlace 29 = .ok (.ishl, 1) := by decide +kernel
theorem dX8_inPlace_30 : decode cX8_inPlace 30 = .ok (.goto 4, 3) := by decide +kernel
theorem dX8_inPlace_33 : decode cX8_inPlace 33 = .ok (.iconst 0, 1) := by decide +kernel
theorem dX8_inPlace_34 : decode cX8_inPlace 34 = .ok (.ior, 1) := by decide +kernel
theorem dX8_inPlace_35 : decode cX8_inPlace 35 = .ok (.istore_n 1, 1) := by decide +kernel
theorem dX8_inPlace_36 : decode cX8_inPlace 36 = .ok (.iinc 2 1, 3) := by decide +kernel
theorem dX8_inPlace_39 : decode cX8_inPlace 39 = .ok (.goto (-35), 3) := by decide +kernel
theorem dX8_inPlace_42 : decode cX8_inPlace 42 = .ok (.iload_n 1, 1) := by decide +kernel
theorem dX8_inPlace_43 : decode cX8_inPlace 43 = .ok (.ireturn, 1) := by decide +kernel
theorem dX8_isInOrder_0 : decode cX8_isInOrder 0 = .ok (.aload_n 0, 1) := by decide +kernel
theorem dX8_isInOrder_1 : decode cX8_isInOrder 1 = .ok (.invokevirtual 159, 3) := by decide +kernel
theorem dX8_isInOrder_4 : decode cX8_isInOrder 4 = .ok (.iconst 1, 1) := by decide +kernel
theorem dX8_isInOrder_5 : decode cX8_isInOrder 5 = .ok (.aload_n 0, 1) := by decide +kernel
theorem dX8_isInOrder_6 : decode cX8_isInOrder 6 = .ok (.getfield 7, 3) := by decide +kernel
theorem dX8_isInOrder_9 : decode cX8_isInOrder 9 = .ok (.iconst 0, 1) := by decide +kernel
theorem dX8_isInOrder_10 : decode cX8_isInOrder 10 = .ok (.iaload, 1) := by decide +kernel
theorem dX8_isInOrder_11 : decode cX8_isInOrder 11 = .ok (.ishl, 1) := by decide +kernel
theorem dX8_isInOrder_12 : decode cX8_isInOrder 12 = .ok (.iconst 1, 1) := by decide +kernel
theorem dX8_isInOrder_13 : decode cX8_isInOrder 13 = .ok (.isub, 1) := by decide +kernel
theorem dX8_isInOrder_14 : decode cX8_isInOrder 14 = .ok (.if_icmp .ne 7, 3) := by decide +kernel
theorem dX8_isInOrder_17 : decode cX8_isInOrder 17 = .ok (.iconst 1, 1) := by decide +kernel
theorem dX8_isInOrder_18 : decode cX8_isInOrder 18 = .ok (.goto 4, 3) := by decide +kernel
theorem dX8_isInOrder_21 : decode cX8_isInOrder 21 = .ok (.iconst 0, 1) := by decide +kernel
theorem dX8_isInOrder_22 : decode cX8_isInOrder 22 = .ok (.ireturn, 1) := by decide +kernel
theorem dX8_count_0 : decode cX8_count 0 = .ok (.aload_n 0, 1) := by decide +kernel
theorem dX8_count_1 : decode cX8_count 1 = .ok (.iconst 0, 1) := by decide +kernel
theorem dX8_count_2 : decode cX8_count 2 = .ok (.putfield 53, 3) := by decide +kernel
theorem dX8_count_5 : decode cX8_count 5 = .ok (.iload_n 1, 1) := by decide +kernel
theorem dX8_count_6 : decode cX8_count 6 = .ok (.tableswitch 89 0 6 #[42, 49, 56, 61, 74, 79, 84], 42) := by decide +kernel
theorem dX8_count_48 : decode cX8_count 48 = .ok (.aload_n 0, 1) := by decide +kernel
theorem dX8_count_49 : decode cX8_count 49 = .ok (.getfield 7, 3) := by decide +kernel
theorem dX8_count_52 : decode cX8_count 52 = .ok (.iconst 0, 1) := by decide +kernel
theorem dX8_count_53 : decode cX8_count 53 = .ok (.iaload, 1) := by decide +kernel
theorem dX8_count_54 : decode cX8_count 54 = .ok (.ireturn, 1) := by decide +kernel
theorem dX8_count_55 : decode cX8_count 55 = .ok (.aload_n 0, 1) := by decide +kernel
theorem dX8_count_56 : decode cX8_count 56 = .ok (.getfield 7, 3) := by decide +kernel
theorem dX8_count_59 : decode cX8_count 59 = .ok (.iconst 1, 1) := by decide +kernel
theorem dX8_count_60 : decode cX8_count 60 = .ok (.iaload, 1) := by decide +kernel
theorem dX8_count_61 : decode cX8_count 61 = .ok (.ireturn, 1) := by decide +kernel
theorem dX8_count_62 : decode cX8_count 62 = .ok (.aload_n 0, 1) := by decide +kernel
theorem dX8_count_63 : decode cX8_count 63 = .ok (.invokevirtual 159, 3) := by decide +kernel
theorem dX8_count_66 : decode cX8_count 66 = .ok (.ireturn, 1) := by decide +kernel
theorem dX8_count_67 : decode cX8_count 67 = .ok (.aload_n 0, 1) := by decide +kernel
theorem dX8_count_68 : decode cX8_count 68 = .ok (.invokevirtual 162, 3) := by decide +kernel
theorem dX8_count_71 : decode cX8_count 71 = .ok (.ifCond .eq 7, 3) := by decide +kernel
theorem dX8_count_74 : decode cX8_count 74 = .ok (.iconst 1, 1) := by decide +kernel
theorem dX8_count_75 : decode cX8_count 75 = .ok (.goto 4, 3) := by decide +kernel
theorem dX8_count_78 : decode cX8_count 78 = .ok (.iconst 0, 1) := by decide +kernel
theorem dX8_count_79 : decode cX8_count 79 = .ok (.ireturn, 1) := by decide +kernel
theorem dX8_count_80 : decode cX8_count 80 = .ok (.aload_n 0, 1) := by decide +kernel
theorem dX8_count_81 : decode cX8_count 81 = .ok (.invokevirtual 125, 3) := by decide +kernel
theorem dX8_count_84 : decode cX8_count 84 = .ok (.ireturn, 1) := by decide +kernel
theorem dX8_count_85 : decode cX8_count 85 = .ok (.aload_n 0, 1) := by decide +kernel
theorem dX8_count_86 : decode cX8_count 86 = .ok (.getfield 90, 3) := by decide +kernel
theorem dX8_count_89 : decode cX8_count 89 = .ok (.ireturn, 1) := by decide +kernel
theorem dX8_count_90 : decode cX8_count 90 = .ok (.aload_n 0, 1) := by decide +kernel
theorem dX8_count_91 : decode cX8_count 91 = .ok (.getfield 61, 3) := by decide +kernel
theorem dX8_count_94 : decode cX8_count 94 = .ok (.ireturn, 1) := by decide +kernel
theorem dX8_count_95 : decode cX8_count 95 = .ok (.bipush (-2), 2) := by decide +kernel
theorem dX8_count_97 : decode cX8_count 97 = .ok (.ireturn, 1) := by decide +kernel
theorem dX8_spread_0 : decode cX8_spread 0 = .ok (.aload_n 0, 1) := by decide +kernel
theorem dX8_spread_1 : decode cX8_spread 1 = .ok (.iconst 0, 1) := by decide +kernel
theorem dX8_spread_2 : decode cX8_spread 2 = .ok (.putfield 53, 3) := by decide +kernel
theorem dX8_spread_5 : decode cX8_spread 5 = .ok (.dconst 0, 1) := by decide +kernel
theorem dX8_spread_6 : decode cX8_spread 6 = .ok (.dstore_n 1, 1) := by decide +kernel
theorem dX8_spread_7 : decode cX8_spread 7 = .ok (.iconst 0, 1) := by decide +kernel
theorem dX8_spread_8 : decode cX8_spread 8 = .ok (.istore_n 3, 1) := by decide +kernel
theorem dX8_spread_9 : decode cX8_spread 9 = .ok (.iload_n 3, 1) := by decide +kernel
theorem dX8_spread_10 : decode cX8_spread 10 = .ok (.aload_n 0, 1) := by decide +kernel
theorem dX8_spread_11 : decode cX8_spread 11 = .ok (.getfield 7, 3) := by decide +kernel
theorem dX8_spread_14 : decode cX8_spread 14 = .ok (.iconst 0, 1) := by decide +kernel
theorem dX8_spread_15 : decode cX8_spread 15 = .ok (.iaload, 1) := by decide +kernel
theorem dX8_spread_16 : decode cX8_spread 16 = .ok (.if_icmp .ge 38, 3) := by decide +kernel
theorem dX8_spread_19 : decode cX8_spread 19 = .ok (.aload_n 0, 1) := by decide +kernel
theorem dX8_spread_20 : decode cX8_spread 20 = .ok (.getfield 7, 3) := by decide +kernel
theorem dX8_spread_23 : decode cX8_spread 23 = .ok (.iconst 2, 1) := by decide +kernel
theorem dX8_spread_24 : decode cX8_spread 24 = .ok (.iload_n 3, 1) := by decide +kernel
theorem dX8_spread_25 : decode cX8_spread 25 = .ok (.iadd, 1) := by decide +kernel
theorem dX8_spread_26 : decode cX8_spread 26 = .ok (.iaload, 1) := by decide +kernel
theorem dX8_spread_27 : decode cX8_spread 27 = .ok (.iload_n 3, 1) := by decide +kernel
theorem dX8_spread_28 : decode cX8_spread 28 = .ok (.isub, 1) := by decide +kernel
theorem dX8_spread_29 : decode cX8_spread 29 = .ok (.istore 4, 2) := by decide +kernel
theorem dX8_spread_31 : decode cX8_spread 31 = .ok (.dload_n 1, 1) := by decide +kernel
theorem dX8_spread_32 : decode cX8_spread 32 = .ok (.iload 4, 2) := by decide +kernel
theorem dX8_spread_34 : decode cX8_spread 34 = .ok (.ifCond .ge 9, 3) := by decide +kernel
theorem dX8_spread_37 : decode cX8_spread 37 = .ok (.iload 4, 2) := by decide +kernel
theorem dX8_spread_39 : decode cX8_spread 39 = .ok (.ineg, 1) := by decide +kernel
theorem dX8_spread_40 : decode cX8_spread 40 = .ok (.goto 5, 3) := by decide +kernel
theorem dX8_spread_43 : decode cX8_spread 43 = .ok (.iload 4, 2) := by decide +kernel
theorem dX8_spread_45 : decode cX8_spread 45 = .ok (.i2d, 1) := by decide +kernel
theorem dX8_spread_46 : decode cX8_spread 46 = .ok (.dadd, 1) := by decide +kernel
theorem dX8_spread_47 : decode cX8_spread 47 = .ok (.dstore_n 1, 1) := by decide +kernel
theorem dX8_spread_48 : decode cX8_spread 48 = .ok (.iinc 3 1, 3) := by decide +kernel
theorem dX8_spread_51 : decode cX8_spread 51 = .ok (.goto (-42), 3) := by decide +kernel
theorem dX8_spread_54 : decode cX8_spread 54 = .ok (.dload_n 1, 1) := by decide +kernel
theorem dX8_spread_55 : decode cX8_spread 55 = .ok (.aload_n 0, 1) := by decide +kernel
theorem dX8_spread_56 : decode cX8_spread 56 = .ok (.getfield 7, 3) := by decide +kernel
theorem dX8_spread_59 : decode cX8_spread 59 = .ok (.iconst 0, 1) := by decide +kernel
theorem dX8_spread_60 : decode cX8_spread 60 = .ok (.iaload, 1) := by decide +kernel
theorem dX8_spread_61 : decode cX8_spread 61 = .ok (.i2d, 1) := by decide +kernel
theorem dX8_spread_62 : decode cX8_spread 62 = .ok (.ddiv, 1) := by decide +kernel
theorem dX8_spread_63 : decode cX8_spread 63 = .ok (.invokestatic 166, 3) := by decide +kernel
theorem dX8_spread_66 : decode cX8_spread 66 = .ok (.lreturn, 1) := by decide +kernel
theorem dX8_share_0 : decode cX8_share 0 = .ok (.aload_n 0, 1) := by decide +kernel
theorem dX8_share_1 : decode cX8_share 1 = .ok (.iconst 0, 1) := by decide +kernel
theorem dX8_share_2 : decode cX8_share 2 = .ok (.putfield 53, 3) := by decide +kernel
theorem dX8_share_5 : decode cX8_share 5 = .ok (.iconst 0, 1) := by decide +kernel
theorem dX8_share_6 : decode cX8_share 6 = .ok (.istore_n 1, 1) := by decide +kernel
theorem dX8_share_7 : decode cX8_share 7 = .ok (.iconst 0, 1) := by decide +kernel
theorem dX8_share_8 : decode cX8_share 8 = .ok (.istore_n 2, 1) := by decide +kernel
theorem dX8_share_9 : decode cX8_share 9 = .ok (.iload_n 2, 1) := by decide +kernel
theorem dX8_share_10 : decode cX8_share 10 = .ok (.aload_n 0, 1) := by decide +kernel
theorem dX8_share_11 : decode cX8_share 11 = .ok (.getfield 7, 3) := by decide +kernel
theorem dX8_share_14 : decode cX8_share 14 = .ok (.iconst 0, 1) := by decide +kernel
theorem dX8_share_15 : decode cX8_share 15 = .ok (.iaload, 1) := by decide +kernel
theorem dX8_share_16 : decode cX8_share 16 = .ok (.if_icmp .ge 29, 3) := by decide +kernel
theorem dX8_share_19 : decode cX8_share 19 = .ok (.iload_n 1, 1) := by decide +kernel
theorem dX8_share_20 : decode cX8_share 20 = .ok (.aload_n 0, 1) := by decide +kernel
theorem dX8_share_21 : decode cX8_share 21 = .ok (.getfield 7, 3) := by decide +kernel
theorem dX8_share_24 : decode cX8_share 24 = .ok (.iconst 2, 1) := by decide +kernel
theorem dX8_share_25 : decode cX8_share 25 = .ok (.iload_n 2, 1) := by decide +kernel
theorem dX8_share_26 : decode cX8_share 26 = .ok (.iadd, 1) := by decide +kernel
theorem dX8_share_27 : decode cX8_share 27 = .ok (.iaload, 1) := by decide +kernel
theorem dX8_share_28 : decode cX8_share 28 = .ok (.iload_n 2, 1) := by decide +kernel
theorem dX8_share_29 : decode cX8_share 29 = .ok (.if_icmp .ne 7, 3) := by decide +kernel
theorem dX8_share_32 : decode cX8_share 32 = .ok (.iconst 1, 1) := by decide +kernel
theorem dX8_share_33 : decode cX8_share 33 = .ok (.goto 4, 3) := by decide +kernel
theorem dX8_share_36 : decode cX8_share 36 = .ok (.iconst 0, 1) := by decide +kernel
theorem dX8_share_37 : decode cX8_share 37 = .ok (.iadd, 1) := by decide +kernel
theorem dX8_share_38 : decode cX8_share 38 = .ok (.istore_n 1, 1) := by decide +kernel
theorem dX8_share_39 : decode cX8_share 39 = .ok (.iinc 2 1, 3) := by decide +kernel
theorem dX8_share_42 : decode cX8_share 42 = .ok (.goto (-33), 3) := by decide +kernel
theorem dX8_share_45 : decode cX8_share 45 = .ok (.iload_n 1, 1) := by decide +kernel
theorem dX8_share_46 : decode cX8_share 46 = .ok (.i2f, 1) := by decide +kernel
theorem dX8_share_47 : decode cX8_share 47 = .ok (.aload_n 0, 1) := by decide +kernel
theorem dX8_share_48 : decode cX8_share 48 = .ok (.getfield 7, 3) := by decide +kernel
theorem dX8_share_51 : decode cX8_share 51 = .ok (.iconst 0, 1) := by decide +kernel
theorem dX8_share_52 : decode cX8_share 52 = .ok (.iaload, 1) := by decide +kernel
theorem dX8_share_53 : decode cX8_share 53 = .ok (.i2f, 1) := by decide +kernel
theorem dX8_share_54 : decode cX8_share 54 = .ok (.fdiv, 1) := by decide +kernel
theorem dX8_share_55 : decode cX8_share 55 = .ok (.invokestatic 172, 3) := by decide +kernel
theorem dX8_share_58 : decode cX8_share 58 = .ok (.ireturn, 1) := by decide +kernel
theorem dX8_laysByCut_0 : decode cX8_laysByCut 0 = .ok (.aload_n 0, 1) := by decide +kernel
theorem dX8_laysByCut_1 : decode cX8_laysByCut 1 = .ok (.aload_n 0, 1) := by decide +kernel
theorem dX8_laysByCut_2 : decode cX8_laysByCut 2 = .ok (.getfield 32, 3) := by decide +kernel
theorem dX8_laysByCut_5 : decode cX8_laysByCut 5 = .ok (.iload_n 2, 1) := by decide +kernel
theorem dX8_laysByCut_6 : decode cX8_laysByCut 6 = .ok (.invokevirtual 114, 3) := by decide +kernel
theorem dX8_laysByCut_9 : decode cX8_laysByCut 9 = .ok (.aload_n 0, 1) := by decide +kernel
theorem dX8_laysByCut_10 : decode cX8_laysByCut 10 = .ok (.aload_n 0, 1) := by decide +kernel
theorem dX8_laysByCut_11 : decode cX8_laysByCut 11 = .ok (.getfield 35, 3) := by decide +kernel
theorem dX8_laysByCut_14 : decode cX8_laysByCut 14 = .ok (.aload_n 0, 1) := by decide +kernel
theorem dX8_laysByCut_15 : decode cX8_laysByCut 15 = .ok (.getfield 32, 3) := by decide +kernel
theorem dX8_laysByCut_18 : decode cX8_laysByCut 18 = .ok (.invokevirtual 150, 3) := by decide +kernel
theorem dX8_laysByCut_21 : decode cX8_laysByCut 21 = .ok (.aload_n 0, 1) := by decide +kernel
theorem dX8_laysByCut_22 : decode cX8_laysByCut 22 = .ok (.aload_n 0, 1) := by decide +kernel
theorem dX8_laysByCut_23 : decode cX8_laysByCut 23 = .ok (.getfield 38, 3) := by decide +kernel
theorem dX8_laysByCut_26 : decode cX8_laysByCut 26 = .ok (.iload_n 1, 1) := by decide +kernel
theorem dX8_laysByCut_27 : decode cX8_laysByCut 27 = .ok (.invokevirtual 96, 3) := by decide +kernel
theorem dX8_laysByCut_30 : decode cX8_laysByCut 30 = .ok (.iconst 0, 1) := by decide +kernel
theorem dX8_laysByCut_31 : decode cX8_laysByCut 31 = .ok (.istore_n 3, 1) := by decide +kernel
theorem dX8_laysByCut_32 : decode cX8_laysByCut 32 = .ok (.iload_n 3, 1) := by decide +kernel
theorem dX8_laysByCut_33 : decode cX8_laysByCut 33 = .ok (.aload_n 0, 1) := by decide +kernel
theorem dX8_laysByCut_34 : decode cX8_laysByCut 34 = .ok (.getfield 7, 3) := by decide +kernel
theorem dX8_laysByCut_37 : decode cX8_laysByCut 37 = .ok (.iconst 0, 1) := by decide +kernel
theorem dX8_laysByCut_38 : decode cX8_laysByCut 38 = .ok (.iaload, 1) := by decide +kernel
theorem dX8_laysByCut_39 : decode cX8_laysByCut 39 = .ok (.if_icmp .ge 31, 3) := by decide +kernel
theorem dX8_laysByCut_42 : decode cX8_laysByCut 42 = .ok (.aload_n 0, 1) := by decide +kernel
theorem dX8_laysByCut_43 : decode cX8_laysByCut 43 = .ok (.getfield 44, 3) := by decide +kernel
theorem dX8_laysByCut_46 : decode cX8_laysByCut 46 = .ok (.iload_n 3, 1) := by decide +kernel
theorem dX8_laysByCut_47 : decode cX8_laysByCut 47 = .ok (.aload_n 0, 1) := by decide +kernel
theorem dX8_laysByCut_48 : decode cX8_laysByCut 48 = .ok (.getfield 32, 3) := by decide +kernel
theorem dX8_laysByCut_51 : decode cX8_laysByCut 51 = .ok (.aload_n 0, 1) := by decide +kernel
theorem dX8_laysByCut_52 : decode cX8_laysByCut 52 = .ok (.getfield 38, 3) := by decide +kernel
theorem dX8_laysByCut_55 : decode cX8_laysByCut 55 = .ok (.aload_n 0, 1) := by decide +kernel
theorem dX8_laysByCut_56 : decode cX8_laysByCut 56 = .ok (.getfield 35, 3) := by decide +kernel
theorem dX8_laysByCut_59 : decode cX8_laysByCut 59 = .ok (.iload_n 3, 1) := by decide +kernel
theorem dX8_laysByCut_60 : decode cX8_laysByCut 60 = .ok (.iaload, 1) := by decide +kernel
theorem dX8_laysByCut_61 : decode cX8_laysByCut 61 = .ok (.iaload, 1) := by decide +kernel
theorem dX8_laysByCut_62 : decode cX8_laysByCut 62 = .ok (.iaload, 1) := by decide +kernel
theorem dX8_laysByCut_63 : decode cX8_laysByCut 63 = .ok (.iastore, 1) := by decide +kernel
theorem dX8_laysByCut_64 : decode cX8_laysByCut 64 = .ok (.iinc 3 1, 3) := by decide +kernel
theorem dX8_laysByCut_67 : decode cX8_laysByCut 67 = .ok (.goto (-35), 3) := by decide +kernel
theorem dX8_laysByCut_70 : decode cX8_laysByCut 70 = .ok (.return_, 1) := by decide +kernel
theorem dX8_byCut_0 : decode cX8_byCut 0 = .ok (.aload_n 0, 1) := by decide +kernel
theorem dX8_byCut_1 : decode cX8_byCut 1 = .ok (.iconst 0, 1) := by decide +kernel
theorem dX8_byCut_2 : decode cX8_byCut 2 = .ok (.putfield 53, 3) := by decide +kernel
theorem dX8_byCut_5 : decode cX8_byCut 5 = .ok (.aload_n 0, 1) := by decide +kernel
theorem dX8_byCut_6 : decode cX8_byCut 6 = .ok (.iload_n 1, 1) := by decide +kernel
theorem dX8_byCut_7 : decode cX8_byCut 7 = .ok (.invokevirtual 68, 3) := by decide +kernel
theorem dX8_byCut_10 : decode cX8_byCut 10 = .ok (.ifCond .eq 11, 3) := by decide +kernel
theorem dX8_byCut_13 : decode cX8_byCut 13 = .ok (.aload_n 0, 1) := by decide +kernel
theorem dX8_byCut_14 : decode cX8_byCut 14 = .ok (.iload_n 3, 1) := by decide +kernel
theorem dX8_byCut_15 : decode cX8_byCut 15 = .ok (.invokevirtual 111, 3) := by decide +kernel
theorem dX8_byCut_18 : decode cX8_byCut 18 = .ok (.ifCond .ne 5, 3) := by decide +kernel
theorem dX8_byCut_21 : decode cX8_byCut 21 = .ok (.iconst (-1), 1) := by decide +kernel
theorem dX8_byCut_22 : decode cX8_byCut 22 = .ok (.ireturn, 1) := by decide +kernel
theorem dX8_byCut_23 : decode cX8_byCut 23 = .ok (.aload_n 0, 1) := by decide +kernel
theorem dX8_byCut_24 : decode cX8_byCut 24 = .ok (.iload_n 2, 1) := by decide +kernel
theorem dX8_byCut_25 : decode cX8_byCut 25 = .ok (.invokevirtual 111, 3) := by decide +kernel
theorem dX8_byCut_28 : decode cX8_byCut 28 = .ok (.ifCond .ne 6, 3) := by decide +kernel
theorem dX8_byCut_31 : decode cX8_byCut 31 = .ok (.bipush (-2), 2) := by decide +kernel
theorem dX8_byCut_33 : decode cX8_byCut 33 = .ok (.ireturn, 1) := by decide +kernel
theorem dX8_byCut_34 : decode cX8_byCut 34 = .ok (.aload_n 0, 1) := by decide +kernel
theorem dX8_byCut_35 : decode cX8_byCut 35 = .ok (.iload_n 1, 1) := by decide +kernel
theorem dX8_byCut_36 : decode cX8_byCut 36 = .ok (.iload_n 2, 1) := by decide +kernel
theorem dX8_byCut_37 : decode cX8_byCut 37 = .ok (.invokevirtual 178, 3) := by decide +kernel
theorem dX8_byCut_40 : decode cX8_byCut 40 = .ok (.aload_n 0, 1) := by decide +kernel
theorem dX8_byCut_41 : decode cX8_byCut 41 = .ok (.getfield 44, 3) := by decide +kernel
theorem dX8_byCut_44 : decode cX8_byCut 44 = .ok (.iload_n 3, 1) := by decide +kernel
theorem dX8_byCut_45 : decode cX8_byCut 45 = .ok (.iaload, 1) := by decide +kernel
theorem dX8_byCut_46 : decode cX8_byCut 46 = .ok (.ireturn, 1) := by decide +kernel
theorem dX8_becomes_0 : decode cX8_becomes 0 = .ok (.aload_n 0, 1) := by decide +kernel
theorem dX8_becomes_1 : decode cX8_becomes 1 = .ok (.iconst 0, 1) := by decide +kernel
theorem dX8_becomes_2 : decode cX8_becomes 2 = .ok (.putfield 53, 3) := by decide +kernel
theorem dX8_becomes_5 : decode cX8_becomes 5 = .ok (.aload_n 0, 1) := by decide +kernel
theorem dX8_becomes_6 : decode cX8_becomes 6 = .ok (.iload_n 1, 1) := by decide +kernel
theorem dX8_becomes_7 : decode cX8_becomes 7 = .ok (.invokevirtual 68, 3) := by decide +kernel
theorem dX8_becomes_10 : decode cX8_becomes 10 = .ok (.ifCond .ne 5, 3) := by decide +kernel
theorem dX8_becomes_13 : decode cX8_becomes 13 = .ok (.iconst (-1), 1) := by decide +kernel
theorem dX8_becomes_14 : decode cX8_becomes 14 = .ok (.ireturn, 1) := by decide +kernel
theorem dX8_becomes_15 : decode cX8_becomes 15 = .ok (.aload_n 0, 1) := by decide +kernel
theorem dX8_becomes_16 : decode cX8_becomes 16 = .ok (.iload_n 2, 1) := by decide +kernel
theorem dX8_becomes_17 : decode cX8_becomes 17 = .ok (.invokevirtual 111, 3) := by decide +kernel
theorem dX8_becomes_20 : decode cX8_becomes 20 = .ok (.ifCond .ne 6, 3) := by decide +kernel
theorem dX8_becomes_23 : decode cX8_becomes 23 = .ok (.bipush (-2), 2) := by decide +kernel
theorem dX8_becomes_25 : decode cX8_becomes 25 = .ok (.ireturn, 1) := by decide +kernel
theorem dX8_becomes_26 : decode cX8_becomes 26 = .ok (.aload_n 0, 1) := by decide +kernel
theorem dX8_becomes_27 : decode cX8_becomes 27 = .ok (.iload_n 1, 1) := by decide +kernel
theorem dX8_becomes_28 : decode cX8_becomes 28 = .ok (.iload_n 2, 1) := by decide +kernel
theorem dX8_becomes_29 : decode cX8_becomes 29 = .ok (.invokevirtual 178, 3) := by decide +kernel
theorem dX8_becomes_32 : decode cX8_becomes 32 = .ok (.aload_n 0, 1) := by decide +kernel
theorem dX8_becomes_33 : decode cX8_becomes 33 = .ok (.aload_n 0, 1) := by decide +kernel
theorem dX8_becomes_34 : decode cX8_becomes 34 = .ok (.getfield 44, 3) := by decide +kernel
theorem dX8_becomes_37 : decode cX8_becomes 37 = .ok (.invokevirtual 154, 3) := by decide +kernel
theorem dX8_becomes_40 : decode cX8_becomes 40 = .ok (.ireturn, 1) := by decide +kernel
theorem dX8_ordersIn_0 : decode cX8_ordersIn 0 = .ok (.aload_n 0, 1) := by decide +kernel
theorem dX8_ordersIn_1 : decode cX8_ordersIn 1 = .ok (.iconst 0, 1) := by decide +kernel
theorem dX8_ordersIn_2 : decode cX8_ordersIn 2 = .ok (.putfield 53, 3) := by decide +kernel
theorem dX8_ordersIn_5 : decode cX8_ordersIn 5 = .ok (.aload_n 0, 1) := by decide +kernel
theorem dX8_ordersIn_6 : decode cX8_ordersIn 6 = .ok (.iload_n 1, 1) := by decide +kernel
theorem dX8_ordersIn_7 : decode cX8_ordersIn 7 = .ok (.invokevirtual 68, 3) := by decide +kernel
theorem dX8_ordersIn_10 : decode cX8_ordersIn 10 = .ok (.ifCond .ne 5, 3) := by decide +kernel
theorem dX8_ordersIn_13 : decode cX8_ordersIn 13 = .ok (.iconst (-1), 1) := by decide +kernel
theorem dX8_ordersIn_14 : decode cX8_ordersIn 14 = .ok (.ireturn, 1) := by decide +kernel
theorem dX8_ordersIn_15 : decode cX8_ordersIn 15 = .ok (.aload_n 0, 1) := by decide +kernel
theorem dX8_ordersIn_16 : decode cX8_ordersIn 16 = .ok (.aload_n 0, 1) := by decide +kernel
theorem dX8_ordersIn_17 : decode cX8_ordersIn 17 = .ok (.getfield 32, 3) := by decide +kernel
theorem dX8_ordersIn_20 : decode cX8_ordersIn 20 = .ok (.iload_n 1, 1) := by decide +kernel
theorem dX8_ordersIn_21 : decode cX8_ordersIn 21 = .ok (.invokevirtual 96, 3) := by decide +kernel
theorem dX8_ordersIn_24 : decode cX8_ordersIn 24 = .ok (.iconst 0, 1) := by decide +kernel
theorem dX8_ordersIn_25 : decode cX8_ordersIn 25 = .ok (.istore_n 2, 1) := by decide +kernel
theorem dX8_ordersIn_26 : decode cX8_ordersIn 26 = .ok (.iload_n 2, 1) := by decide +kernel
theorem dX8_ordersIn_27 : decode cX8_ordersIn 27 = .ok (.sipush 200, 3) := by decide +kernel
theorem dX8_ordersIn_30 : decode cX8_ordersIn 30 = .ok (.if_icmp .ge 70, 3) := by decide +kernel
theorem dX8_ordersIn_33 : decode cX8_ordersIn 33 = .ok (.iconst 1, 1) := by decide +kernel
theorem dX8_ordersIn_34 : decode cX8_ordersIn 34 = .ok (.istore_n 3, 1) := by decide +kernel
theorem dX8_ordersIn_35 : decode cX8_ordersIn 35 = .ok (.iconst 0, 1) := by decide +kernel
theorem dX8_ordersIn_36 : decode cX8_ordersIn 36 = .ok (.istore 4, 2) := by decide +kernel
theorem dX8_ordersIn_38 : decode cX8_ordersIn 38 = .ok (.iload 4, 2) := by decide +kernel
theorem dX8_ordersIn_40 : decode cX8_ordersIn 40 = .ok (.aload_n 0, 1) := by decide +kernel
theorem dX8_ordersIn_41 : decode cX8_ordersIn 41 = .ok (.getfield 7, 3) := by decide +kernel
theorem dX8_ordersIn_44 : decode cX8_ordersIn 44 = .ok (.iconst 0, 1) := by decide +kernel
theorem dX8_ordersIn_45 : decode cX8_ordersIn 45 = .ok (.iaload, 1) := by decide +kernel
theorem dX8_ordersIn_46 : decode cX8_ordersIn 46 = .ok (.if_icmp .ge 42, 3) := by decide +kernel
theorem dX8_ordersIn_49 : decode cX8_ordersIn 49 = .ok (.iload_n 3, 1) := by decide +kernel
theorem dX8_ordersIn_50 : decode cX8_ordersIn 50 = .ok (.ifCond .eq 30, 3) := by decide +kernel
theorem dX8_ordersIn_53 : decode cX8_ordersIn 53 = .ok (.aload_n 0, 1) := by decide +kernel
theorem dX8_ordersIn_54 : decode cX8_ordersIn 54 = .ok (.aload_n 0, 1) := by decide +kernel
theorem dX8_ordersIn_55 : decode cX8_ordersIn 55 = .ok (.getfield 32, 3) := by decide +kernel
theorem dX8_ordersIn_58 : decode cX8_ordersIn 58 = .ok (.iload_n 2, 1) := by decide +kernel
theorem dX8_ordersIn_59 : decode cX8_ordersIn 59 = .ok (.iload 4, 2) := by decide +kernel
theorem dX8_ordersIn_61 : decode cX8_ordersIn 61 = .ok (.invokevirtual 104, 3) := by decide +kernel
theorem dX8_ordersIn_64 : decode cX8_ordersIn 64 = .ok (.aload_n 0, 1) := by decide +kernel
theorem dX8_ordersIn_65 : decode cX8_ordersIn 65 = .ok (.getfield 7, 3) := by decide +kernel
theorem dX8_ordersIn_68 : decode cX8_ordersIn 68 = .ok (.iconst 2, 1) := by decide +kernel
theorem dX8_ordersIn_69 : decode cX8_ordersIn 69 = .ok (.iload 4, 2) := by decide +kernel
theorem dX8_ordersIn_71 : decode cX8_ordersIn 71 = .ok (.iadd, 1) := by decide +kernel
theorem dX8_ordersIn_72 : decode cX8_ordersIn 72 = .ok (.iaload, 1) := by decide +kernel
theorem dX8_ordersIn_73 : decode cX8_ordersIn 73 = .ok (.if_icmp .ne 7, 3) := by decide +kernel
theorem dX8_ordersIn_76 : decode cX8_ordersIn 76 = .ok (.iconst 1, 1) := by decide +kernel
theorem dX8_ordersIn_77 : decode cX8_ordersIn 77 = .ok (.goto 4, 3) := by decide +kernel
theorem dX8_ordersIn_80 : decode cX8_ordersIn 80 = .ok (.iconst 0, 1) := by decide +kernel
theorem dX8_ordersIn_81 : decode cX8_ordersIn 81 = .ok (.istore_n 3, 1) := by decide +kernel
theorem dX8_ordersIn_82 : decode cX8_ordersIn 82 = .ok (.iinc 4 1, 3) := by decide +kernel
theorem dX8_ordersIn_85 : decode cX8_ordersIn 85 = .ok (.goto (-47), 3) := by decide +kernel
theorem dX8_ordersIn_88 : decode cX8_ordersIn 88 = .ok (.iload_n 3, 1) := by decide +kernel
theorem dX8_ordersIn_89 : decode cX8_ordersIn 89 = .ok (.ifCond .eq 5, 3) := by decide +kernel
theorem dX8_ordersIn_92 : decode cX8_ordersIn 92 = .ok (.iload_n 2, 1) := by decide +kernel
theorem dX8_ordersIn_93 : decode cX8_ordersIn 93 = .ok (.ireturn, 1) := by decide +kernel
theorem dX8_ordersIn_94 : decode cX8_ordersIn 94 = .ok (.iinc 2 1, 3) := by decide +kernel
theorem dX8_ordersIn_97 : decode cX8_ordersIn 97 = .ok (.goto (-71), 3) := by decide +kernel
theorem dX8_ordersIn_100 : decode cX8_ordersIn 100 = .ok (.bipush (-6), 2) := by decide +kernel
theorem dX8_ordersIn_102 : decode cX8_ordersIn 102 = .ok (.ireturn, 1) := by decide +kernel
theorem dX8_laysStep_0 : decode cX8_laysStep 0 = .ok (.iload_n 1, 1) := by decide +kernel
theorem dX8_laysStep_1 : decode cX8_laysStep 1 = .ok (.tableswitch 63 0 2 #[27, 39, 51], 27) := by decide +kernel
theorem dX8_laysStep_28 : decode cX8_laysStep 28 = .ok (.aload_n 0, 1) := by decide +kernel
theorem dX8_laysStep_29 : decode cX8_laysStep 29 = .ok (.aload_n 0, 1) := by decide +kernel
theorem dX8_laysStep_30 : decode cX8_laysStep 30 = .ok (.getfield 32, 3) := by decide +kernel
theorem dX8_laysStep_33 : decode cX8_laysStep 33 = .ok (.iconst 1, 1) := by decide +kernel
theorem dX8_laysStep_34 : decode cX8_laysStep 34 = .ok (.invokevirtual 114, 3) := by decide +kernel
theorem dX8_laysStep_37 : decode cX8_laysStep 37 = .ok (.goto 35, 3) := by decide +kernel
theorem dX8_laysStep_40 : decode cX8_laysStep 40 = .ok (.aload_n 0, 1) := by decide +kernel
theorem dX8_laysStep_41 : decode cX8_laysStep 41 = .ok (.aload_n 0, 1) := by decide +kernel
theorem dX8_laysStep_42 : decode cX8_laysStep 42 = .ok (.getfield 32, 3) := by decide +kernel
theorem dX8_laysStep_45 : decode cX8_laysStep 45 = .ok (.iconst 0, 1) := by decide +kernel
theorem dX8_laysStep_46 : decode cX8_laysStep 46 = .ok (.invokevirtual 117, 3) := by decide +kernel
theorem dX8_laysStep_49 : decode cX8_laysStep 49 = .ok (.goto 23, 3) := by decide +kernel
theorem dX8_laysStep_52 : decode cX8_laysStep 52 = .ok (.aload_n 0, 1) := by decide +kernel
theorem dX8_laysStep_53 : decode cX8_laysStep 53 = .ok (.aload_n 0, 1) := by decide +kernel
theorem dX8_laysStep_54 : decode cX8_laysStep 54 = .ok (.getfield 32, 3) := by decide +kernel
theorem dX8_laysStep_57 : decode cX8_laysStep 57 = .ok (.iconst 1, 1) := by decide +kernel
theorem dX8_laysStep_58 : decode cX8_laysStep 58 = .ok (.invokevirtual 117, 3) := by decide +kernel
theorem dX8_laysStep_61 : decode cX8_laysStep 61 = .ok (.goto 11, 3) := by decide +kernel
theorem dX8_laysStep_64 : decode cX8_laysStep 64 = .ok (.aload_n 0, 1) := by decide +kernel
theorem dX8_laysStep_65 : decode cX8_laysStep 65 = .ok (.aload_n 0, 1) := by decide +kernel
theorem dX8_laysStep_66 : decode cX8_laysStep 66 = .ok (.getfield 32, 3) := by decide +kernel
theorem dX8_laysStep_69 : decode cX8_laysStep 69 = .ok (.invokevirtual 121, 3) := by decide +kernel
theorem dX8_laysStep_72 : decode cX8_laysStep 72 = .ok (.return_, 1) := by decide +kernel
theorem dX8_areOrdering_0 : decode cX8_areOrdering 0 = .ok (.iconst 0, 1) := by decide +kernel
theorem dX8_areOrdering_1 : decode cX8_areOrdering 1 = .ok (.istore_n 3, 1) := by decide +kernel
theorem dX8_areOrdering_2 : decode cX8_areOrdering 2 = .ok (.iload_n 3, 1) := by decide +kernel
theorem dX8_areOrdering_3 : decode cX8_areOrdering 3 = .ok (.aload_n 0, 1) := by decide +kernel
theorem dX8_areOrdering_4 : decode cX8_areOrdering 4 = .ok (.getfield 7, 3) := by decide +kernel
theorem dX8_areOrdering_7 : decode cX8_areOrdering 7 = .ok (.iconst 0, 1) := by decide +kernel
theorem dX8_areOrdering_8 : decode cX8_areOrdering 8 = .ok (.iaload, 1) := by decide +kernel
theorem dX8_areOrdering_9 : decode cX8_areOrdering 9 = .ok (.if_icmp .ge 23, 3) := by decide +kernel
theorem dX8_areOrdering_12 : decode cX8_areOrdering 12 = .ok (.aload_n 0, 1) := by decide +kernel
theorem dX8_areOrdering_13 : decode cX8_areOrdering 13 = .ok (.getfield 41, 3) := by decide +kernel
theorem dX8_areOrdering_16 : decode cX8_areOrdering 16 = .ok (.iload_n 3, 1) := by decide +kernel
theorem dX8_areOrdering_17 : decode cX8_areOrdering 17 = .ok (.aload_n 0, 1) := by decide +kernel
theorem dX8_areOrdering_18 : decode cX8_areOrdering 18 = .ok (.getfield 7, 3) := by decide +kernel
theorem dX8_areOrdering_21 : decode cX8_areOrdering 21 = .ok (.iconst 2, 1) := by decide +kernel
theorem dX8_areOrdering_22 : decode cX8_areOrdering 22 = .ok (.iload_n 3, 1) := by decide +kernel
theorem dX8_areOrdering_23 : decode cX8_areOrdering 23 = .ok (.iadd, 1) := by decide +kernel
theorem dX8_areOrdering_24 : decode cX8_areOrdering 24 = .ok (.iaload, 1) := by decide +kernel
theorem dX8_areOrdering_25 : decode cX8_areOrdering 25 = .ok (.iastore, 1) := by decide +kernel
theorem dX8_areOrdering_26 : decode cX8_areOrdering 26 = .ok (.iinc 3 1, 3) := by decide +kernel
theorem dX8_areOrdering_29 : decode cX8_areOrdering 29 = .ok (.goto (-27), 3) := by decide +kernel
theorem dX8_areOrdering_32 : decode cX8_areOrdering 32 = .ok (.iload_n 1, 1) := by decide +kernel
theorem dX8_areOrdering_33 : decode cX8_areOrdering 33 = .ok (.iconst 1, 1) := by decide +kernel
theorem dX8_areOrdering_34 : decode cX8_areOrdering 34 = .ok (.isub, 1) := by decide +kernel
theorem dX8_areOrdering_35 : decode cX8_areOrdering 35 = .ok (.istore_n 3, 1) := by decide +kernel
theorem dX8_areOrdering_36 : decode cX8_areOrdering 36 = .ok (.iload_n 3, 1) := by decide +kernel
theorem dX8_areOrdering_37 : decode cX8_areOrdering 37 = .ok (.ifCond .lt 93, 3) := by decide +kernel
theorem dX8_areOrdering_40 : decode cX8_areOrdering 40 = .ok (.aload_n 0, 1) := by decide +kernel
theorem dX8_areOrdering_41 : decode cX8_areOrdering 41 = .ok (.iload_n 2, 1) := by decide +kernel
theorem dX8_areOrdering_42 : decode cX8_areOrdering 42 = .ok (.iconst 2, 1) := by decide +kernel
theorem dX8_areOrdering_43 : decode cX8_areOrdering 43 = .ok (.iload_n 3, 1) := by decide +kernel
theorem dX8_areOrdering_44 : decode cX8_areOrdering 44 = .ok (.imul, 1) := by decide +kernel
theorem dX8_areOrdering_45 : decode cX8_areOrdering 45 = .ok (.ishr, 1) := by decide +kernel
theorem dX8_areOrdering_46 : decode cX8_areOrdering 46 = .ok (.iconst 3, 1) := by decide +kernel
theorem dX8_areOrdering_47 : decode cX8_areOrdering 47 = .ok (.iand, 1) := by decide +kernel
theorem dX8_areOrdering_48 : decode cX8_areOrdering 48 = .ok (.invokevirtual 182, 3) := by decide +kernel
theorem dX8_areOrdering_51 : decode cX8_areOrdering 51 = .ok (.iconst 0, 1) := by decide +kernel
theorem dX8_areOrdering_52 : decode cX8_areOrdering 52 = .ok (.istore 4, 2) := by decide +kernel
theorem dX8_areOrdering_54 : decode cX8_areOrdering 54 = .ok (.iload 4, 2) := by decide +kernel
theorem dX8_areOrdering_56 : decode cX8_areOrdering 56 = .ok (.aload_n 0, 1) := by decide +kernel
theorem dX8_areOrdering_57 : decode cX8_areOrdering 57 = .ok (.getfield 7, 3) := by decide +kernel
theorem dX8_areOrdering_60 : decode cX8_areOrdering 60 = .ok (.iconst 0, 1) := by decide +kernel
theorem dX8_areOrdering_61 : decode cX8_areOrdering 61 = .ok (.iaload, 1) := by decide +kernel
theorem dX8_areOrdering_62 : decode cX8_areOrdering 62 = .ok (.if_icmp .ge 28, 3) := by decide +kernel
theorem dX8_areOrdering_65 : decode cX8_areOrdering 65 = .ok (.aload_n 0, 1) := by decide +kernel
theorem dX8_areOrdering_66 : decode cX8_areOrdering 66 = .ok (.getfield 44, 3) := by decide +kernel
theorem dX8_areOrdering_69 : decode cX8_areOrdering 69 = .ok (.aload_n 0, 1) := by decide +kernel
theorem dX8_areOrdering_70 : decode cX8_areOrdering 70 = .ok (.getfield 32, 3) := by decide +kernel
theorem dX8_areOrdering_73 : decode cX8_areOrdering 73 = .ok (.iload 4, 2) := by decide +kernel
theorem dX8_areOrdering_75 : decode cX8_areOrdering 75 = .ok (.iaload, 1) := by decide +kernel
theorem dX8_areOrdering_76 : decode cX8_areOrdering 76 = .ok (.aload_n 0, 1) := by decide +kernel
theorem dX8_areOrdering_77 : decode cX8_areOrdering 77 = .ok (.getfield 41, 3) := by decide +kernel
theorem dX8_areOrdering_80 : decode cX8_areOrdering 80 = .ok (.iload 4, 2) := by decide +kernel
theorem dX8_areOrdering_82 : decode cX8_areOrdering 82 = .ok (.iaload, 1) := by decide +kernel
theorem dX8_areOrdering_83 : decode cX8_areOrdering 83 = .ok (.iastore, 1) := by decide +kernel
theorem dX8_areOrdering_84 : decode cX8_areOrdering 84 = .ok (.iinc 4 1, 3) := by decide +kernel
theorem dX8_areOrdering_87 : decode cX8_areOrdering 87 = .ok (.goto (-33), 3) := by decide +kernel
theorem dX8_areOrdering_90 : decode cX8_areOrdering 90 = .ok (.iconst 0, 1) := by decide +kernel
theorem dX8_areOrdering_91 : decode cX8_areOrdering 91 = .ok (.istore 4, 2) := by decide +kernel
theorem dX8_areOrdering_93 : decode cX8_areOrdering 93 = .ok (.iload 4, 2) := by decide +kernel
theorem dX8_areOrdering_95 : decode cX8_areOrdering 95 = .ok (.aload_n 0, 1) := by decide +kernel
theorem dX8_areOrdering_96 : decode cX8_areOrdering 96 = .ok (.getfield 7, 3) := by decide +kernel
theorem dX8_areOrdering_99 : decode cX8_areOrdering 99 = .ok (.iconst 0, 1) := by decide +kernel
theorem dX8_areOrdering_100 : decode cX8_areOrdering 100 = .ok (.iaload, 1) := by decide +kernel
theorem dX8_areOrdering_101 : decode cX8_areOrdering 101 = .ok (.if_icmp .ge 23, 3) := by decide +kernel
theorem dX8_areOrdering_104 : decode cX8_areOrdering 104 = .ok (.aload_n 0, 1) := by decide +kernel
theorem dX8_areOrdering_105 : decode cX8_areOrdering 105 = .ok (.getfield 41, 3) := by decide +kernel
theorem dX8_areOrdering_108 : decode cX8_areOrdering 108 = .ok (.iload 4, 2) := by decide +kernel
theorem dX8_areOrdering_110 : decode cX8_areOrdering 110 = .ok (.aload_n 0, 1) := by decide +kernel
theorem dX8_areOrdering_111 : decode cX8_areOrdering 111 = .ok (.getfield 44, 3) := by decide +kernel
theorem dX8_areOrdering_114 : decode cX8_areOrdering 114 = .ok (.iload 4, 2) := by decide +kernel
theorem dX8_areOrdering_116 : decode cX8_areOrdering 116 = .ok (.iaload, 1) := by decide +kernel
theorem dX8_areOrdering_117 : decode cX8_areOrdering 117 = .ok (.iastore, 1) := by decide +kernel
theorem dX8_areOrdering_118 : decode cX8_areOrdering 118 = .ok (.iinc 4 1, 3) := by decide +kernel
theorem dX8_areOrdering_121 : decode cX8_areOrdering 121 = .ok (.goto (-28), 3) := by decide +kernel
theorem dX8_areOrdering_124 : decode cX8_areOrdering 124 = .ok (.iinc 3 (-1), 3) := by decide +kernel
theorem dX8_areOrdering_127 : decode cX8_areOrdering 127 = .ok (.goto (-91), 3) := by decide +kernel
theorem dX8_areOrdering_130 : decode cX8_areOrdering 130 = .ok (.iconst 1, 1) := by decide +kernel
theorem dX8_areOrdering_131 : decode cX8_areOrdering 131 = .ok (.istore_n 3, 1) := by decide +kernel
theorem dX8_areOrdering_132 : decode cX8_areOrdering 132 = .ok (.iconst 0, 1) := by decide +kernel
theorem dX8_areOrdering_133 : decode cX8_areOrdering 133 = .ok (.istore 4, 2) := by decide +kernel
theorem dX8_areOrdering_135 : decode cX8_areOrdering 135 = .ok (.iload 4, 2) := by decide +kernel
theorem dX8_areOrdering_137 : decode cX8_areOrdering 137 = .ok (.aload_n 0, 1) := by decide +kernel
theorem dX8_areOrdering_138 : decode cX8_areOrdering 138 = .ok (.getfield 7, 3) := by decide +kernel
theorem dX8_areOrdering_141 : decode cX8_areOrdering 141 = .ok (.iconst 0, 1) := by decide +kernel
theorem dX8_areOrdering_142 : decode cX8_areOrdering 142 = .ok (.iaload, 1) := by decide +kernel
theorem dX8_areOrdering_143 : decode cX8_areOrdering 143 = .ok (.if_icmp .ge 31, 3) := by decide +kernel
theorem dX8_areOrdering_146 : decode cX8_areOrdering 146 = .ok (.iload_n 3, 1) := by decide +kernel
theorem dX8_areOrdering_147 : decode cX8_areOrdering 147 = .ok (.ifCond .eq 19, 3) := by decide +kernel
theorem dX8_areOrdering_150 : decode cX8_areOrdering 150 = .ok (.aload_n 0, 1) := by decide +kernel
theorem dX8_areOrdering_151 : decode cX8_areOrdering 151 = .ok (.getfield 41, 3) := by decide +kernel
theorem dX8_areOrdering_154 : decode cX8_areOrdering 154 = .ok (.iload 4, 2) := by decide +kernel
theorem dX8_areOrdering_156 : decode cX8_areOrdering 156 = .ok (.iaload, 1) := by decide +kernel
theorem dX8_areOrdering_157 : decode cX8_areOrdering 157 = .ok (.iload 4, 2) := by decide +kernel
theorem dX8_areOrdering_159 : decode cX8_areOrdering 159 = .ok (.if_icmp .ne 7, 3) := by decide +kernel
theorem dX8_areOrdering_162 : decode cX8_areOrdering 162 = .ok (.iconst 1, 1) := by decide +kernel
theorem dX8_areOrdering_163 : decode cX8_areOrdering 163 = .ok (.goto 4, 3) := by decide +kernel
theorem dX8_areOrdering_166 : decode cX8_areOrdering 166 = .ok (.iconst 0, 1) := by decide +kernel
theorem dX8_areOrdering_167 : decode cX8_areOrdering 167 = .ok (.istore_n 3, 1) := by decide +kernel
theorem dX8_areOrdering_168 : decode cX8_areOrdering 168 = .ok (.iinc 4 1, 3) := by decide +kernel
theorem dX8_areOrdering_171 : decode cX8_areOrdering 171 = .ok (.goto (-36), 3) := by decide +kernel
theorem dX8_areOrdering_174 : decode cX8_areOrdering 174 = .ok (.iload_n 3, 1) := by decide +kernel
theorem dX8_areOrdering_175 : decode cX8_areOrdering 175 = .ok (.ireturn, 1) := by decide +kernel
theorem dX8_leastSteps_0 : decode cX8_leastSteps 0 = .ok (.iconst 0, 1) := by decide +kernel
theorem dX8_leastSteps_1 : decode cX8_leastSteps 1 = .ok (.istore_n 1, 1) := by decide +kernel
theorem dX8_leastSteps_2 : decode cX8_leastSteps 2 = .ok (.iload_n 1, 1) := by decide +kernel
theorem dX8_leastSteps_3 : decode cX8_leastSteps 3 = .ok (.iconst 5, 1) := by decide +kernel
theorem dX8_leastSteps_4 : decode cX8_leastSteps 4 = .ok (.if_icmp .gt 43, 3) := by decide +kernel
theorem dX8_leastSteps_7 : decode cX8_leastSteps 7 = .ok (.iconst 0, 1) := by decide +kernel
theorem dX8_leastSteps_8 : decode cX8_leastSteps 8 = .ok (.istore_n 2, 1) := by decide +kernel
theorem dX8_leastSteps_9 : decode cX8_leastSteps 9 = .ok (.iload_n 2, 1) := by decide +kernel
theorem dX8_leastSteps_10 : decode cX8_leastSteps 10 = .ok (.iconst 1, 1) := by decide +kernel
theorem dX8_leastSteps_11 : decode cX8_leastSteps 11 = .ok (.iconst 2, 1) := by decide +kernel
theorem dX8_leastSteps_12 : decode cX8_leastSteps 12 = .ok (.iload_n 1, 1) := by decide +kernel
theorem dX8_leastSteps_13 : decode cX8_leastSteps 13 = .ok (.imul, 1) := by decide +kernel
theorem dX8_leastSteps_14 : decode cX8_leastSteps 14 = .ok (.ishl, 1) := by decide +kernel
theorem dX8_leastSteps_15 : decode cX8_leastSteps 15 = .ok (.if_icmp .ge 26, 3) := by decide +kernel
theorem dX8_leastSteps_18 : decode cX8_leastSteps 18 = .ok (.aload_n 0, 1) := by decide +kernel
theorem dX8_leastSteps_19 : decode cX8_leastSteps 19 = .ok (.iload_n 1, 1) := by decide +kernel
theorem dX8_leastSteps_20 : decode cX8_leastSteps 20 = .ok (.iload_n 2, 1) := by decide +kernel
theorem dX8_leastSteps_21 : decode cX8_leastSteps 21 = .ok (.invokevirtual 185, 3) := by decide +kernel
theorem dX8_leastSteps_24 : decode cX8_leastSteps 24 = .ok (.ifCond .eq 11, 3) := by decide +kernel
theorem dX8_leastSteps_27 : decode cX8_leastSteps 27 = .ok (.sipush 2000, 3) := by decide +kernel
theorem dX8_leastSteps_30 : decode cX8_leastSteps 30 = .ok (.iload_n 1, 1) := by decide +kernel
theorem dX8_leastSteps_31 : decode cX8_leastSteps 31 = .ok (.imul, 1) := by decide +kernel
theorem dX8_leastSteps_32 : decode cX8_leastSteps 32 = .ok (.iload_n 2, 1) := by decide +kernel
theorem dX8_leastSteps_33 : decode cX8_leastSteps 33 = .ok (.iadd, 1) := by decide +kernel
theorem dX8_leastSteps_34 : decode cX8_leastSteps 34 = .ok (.ireturn, 1) := by decide +kernel
theorem dX8_leastSteps_35 : decode cX8_leastSteps 35 = .ok (.iinc 2 1, 3) := by decide +kernel
theorem dX8_leastSteps_38 : decode cX8_leastSteps 38 = .ok (.goto (-29), 3) := by decide +kernel
theorem dX8_leastSteps_41 : decode cX8_leastSteps 41 = .ok (.iinc 1 1, 3) := by decide +kernel
theorem dX8_leastSteps_44 : decode cX8_leastSteps 44 = .ok (.goto (-42), 3) := by decide +kernel
theorem dX8_leastSteps_47 : decode cX8_leastSteps 47 = .ok (.bipush (-6), 2) := by decide +kernel
theorem dX8_leastSteps_49 : decode cX8_leastSteps 49 = .ok (.ireturn, 1) := by decide +kernel
theorem dX8_fewestSteps_0 : decode cX8_fewestSteps 0 = .ok (.aload_n 0, 1) := by decide +kernel
theorem dX8_fewestSteps_1 : decode cX8_fewestSteps 1 = .ok (.iconst 0, 1) := by decide +kernel
theorem dX8_fewestSteps_2 : decode cX8_fewestSteps 2 = .ok (.putfield 53, 3) := by decide +kernel
theorem dX8_fewestSteps_5 : decode cX8_fewestSteps 5 = .ok (.aload_n 0, 1) := by decide +kernel
theorem dX8_fewestSteps_6 : decode cX8_fewestSteps 6 = .ok (.invokevirtual 189, 3) := by decide +kernel
theorem dX8_fewestSteps_9 : decode cX8_fewestSteps 9 = .ok (.istore_n 1, 1) := by decide +kernel
theorem dX8_fewestSteps_10 : decode cX8_fewestSteps 10 = .ok (.iload_n 1, 1) := by decide +kernel
theorem dX8_fewestSteps_11 : decode cX8_fewestSteps 11 = .ok (.bipush (-6), 2) := by decide +kernel
theorem dX8_fewestSteps_13 : decode cX8_fewestSteps 13 = .ok (.if_icmp .ne 8, 3) := by decide +kernel
theorem dX8_fewestSteps_16 : decode cX8_fewestSteps 16 = .ok (.bipush (-6), 2) := by decide +kernel
theorem dX8_fewestSteps_18 : decode cX8_fewestSteps 18 = .ok (.goto 8, 3) := by decide +kernel
theorem dX8_fewestSteps_21 : decode cX8_fewestSteps 21 = .ok (.iload_n 1, 1) := by decide +kernel
theorem dX8_fewestSteps_22 : decode cX8_fewestSteps 22 = .ok (.sipush 2000, 3) := by decide +kernel
theorem dX8_fewestSteps_25 : decode cX8_fewestSteps 25 = .ok (.idiv, 1) := by decide +kernel
theorem dX8_fewestSteps_26 : decode cX8_fewestSteps 26 = .ok (.ireturn, 1) := by decide +kernel
theorem dX8_firstStep_0 : decode cX8_firstStep 0 = .ok (.aload_n 0, 1) := by decide +kernel
theorem dX8_firstStep_1 : decode cX8_firstStep 1 = .ok (.iconst 0, 1) := by decide +kernel
theorem dX8_firstStep_2 : decode cX8_firstStep 2 = .ok (.putfield 53, 3) := by decide +kernel
theorem dX8_firstStep_5 : decode cX8_firstStep 5 = .ok (.aload_n 0, 1) := by decide +kernel
theorem dX8_firstStep_6 : decode cX8_firstStep 6 = .ok (.invokevirtual 189, 3) := by decide +kernel
theorem dX8_firstStep_9 : decode cX8_firstStep 9 = .ok (.istore_n 1, 1) := by decide +kernel
theorem dX8_firstStep_10 : decode cX8_firstStep 10 = .ok (.iload_n 1, 1) := by decide +kernel
theorem dX8_firstStep_11 : decode cX8_firstStep 11 = .ok (.sipush 2000, 3) := by decide +kernel
theorem dX8_firstStep_14 : decode cX8_firstStep 14 = .ok (.idiv, 1) := by decide +kernel
theorem dX8_firstStep_15 : decode cX8_firstStep 15 = .ok (.istore_n 2, 1) := by decide +kernel
theorem dX8_firstStep_16 : decode cX8_firstStep 16 = .ok (.iload_n 1, 1) := by decide +kernel
theorem dX8_firstStep_17 : decode cX8_firstStep 17 = .ok (.bipush (-6), 2) := by decide +kernel
theorem dX8_firstStep_19 : decode cX8_firstStep 19 = .ok (.if_icmp .eq 7, 3) := by decide +kernel
theorem dX8_firstStep_22 : decode cX8_firstStep 22 = .ok (.iload_n 2, 1) := by decide +kernel
theorem dX8_firstStep_23 : decode cX8_firstStep 23 = .ok (.ifCond .ne 8, 3) := by decide +kernel
theorem dX8_firstStep_26 : decode cX8_firstStep 26 = .ok (.bipush (-6), 2) := by decide +kernel
theorem dX8_firstStep_28 : decode cX8_firstStep 28 = .ok (.goto 14, 3) := by decide +kernel
theorem dX8_firstStep_31 : decode cX8_firstStep 31 = .ok (.iload_n 1, 1) := by decide +kernel
theorem dX8_firstStep_32 : decode cX8_firstStep 32 = .ok (.sipush 2000, 3) := by decide +kernel
theorem dX8_firstStep_35 : decode cX8_firstStep 35 = .ok (.irem, 1) := by decide +kernel
theorem dX8_firstStep_36 : decode cX8_firstStep 36 = .ok (.iconst 2, 1) := by decide +kernel
theorem dX8_firstStep_37 : decode cX8_firstStep 37 = .ok (.iload_n 2, 1) := by decide +kernel
theorem dX8_firstStep_38 : decode cX8_firstStep 38 = .ok (.iconst 1, 1) := by decide +kernel
theorem dX8_firstStep_39 : decode cX8_firstStep 39 = .ok (.isub, 1) := by decide +kernel
theorem dX8_firstStep_40 : decode cX8_firstStep 40 = .ok (.imul, 1) := by decide +kernel
theorem dX8_firstStep_41 : decode cX8_firstStep 41 = .ok (.ishr, 1) := by decide +kernel
theorem dX8_firstStep_42 : decode cX8_firstStep 42 = .ok (.ireturn, 1) := by decide +kernel
theorem dX8_put_0 : decode cX8_put 0 = .ok (.aload_n 0, 1) := by decide +kernel
theorem dX8_put_1 : decode cX8_put 1 = .ok (.iconst 0, 1) := by decide +kernel
theorem dX8_put_2 : decode cX8_put 2 = .ok (.putfield 53, 3) := by decide +kernel
theorem dX8_put_5 : decode cX8_put 5 = .ok (.iconst 0, 1) := by decide +kernel
theorem dX8_put_6 : decode cX8_put 6 = .ok (.istore_n 3, 1) := by decide +kernel
theorem dX8_put_7 : decode cX8_put 7 = .ok (.lload_n 1, 1) := by decide +kernel
theorem dX8_put_8 : decode cX8_put 8 = .ok (.lstore 4, 2) := by decide +kernel
theorem dX8_put_10 : decode cX8_put 10 = .ok (.iconst 1, 1) := by decide +kernel
theorem dX8_put_11 : decode cX8_put 11 = .ok (.istore 6, 2) := by decide +kernel
theorem dX8_put_13 : decode cX8_put 13 = .ok (.iload_n 3, 1) := by decide +kernel
theorem dX8_put_14 : decode cX8_put 14 = .ok (.bipush 8, 2) := by decide +kernel
theorem dX8_put_16 : decode cX8_put 16 = .ok (.if_icmp .ge 56, 3) := by decide +kernel
theorem dX8_put_19 : decode cX8_put 19 = .ok (.lload 4, 2) := by decide +kernel
theorem dX8_put_21 : decode cX8_put 21 = .ok (.ldc2_w 192, 3) := by decide +kernel
theorem dX8_put_24 : decode cX8_put 24 = .ok (.land, 1) := by decide +kernel
theorem dX8_put_25 : decode cX8_put 25 = .ok (.lconst 0, 1) := by decide +kernel
theorem dX8_put_26 : decode cX8_put 26 = .ok (.lcmp, 1) := by decide +kernel
theorem dX8_put_27 : decode cX8_put 27 = .ok (.ifCond .eq 45, 3) := by decide +kernel
theorem dX8_put_30 : decode cX8_put 30 = .ok (.iload 6, 2) := by decide +kernel
theorem dX8_put_32 : decode cX8_put 32 = .ok (.ifCond .eq 24, 3) := by decide +kernel
theorem dX8_put_35 : decode cX8_put 35 = .ok (.lload 4, 2) := by decide +kernel
theorem dX8_put_37 : decode cX8_put 37 = .ok (.ldc2_w 192, 3) := by decide +kernel
theorem dX8_put_40 : decode cX8_put 40 = .ok (.land, 1) := by decide +kernel
theorem dX8_put_41 : decode cX8_put 41 = .ok (.l2i, 1) := by decide +kernel
theorem dX8_put_42 : decode cX8_put 42 = .ok (.bipush 33, 2) := by decide +kernel
theorem dX8_put_44 : decode cX8_put 44 = .ok (.bipush 126, 2) := by decide +kernel
theorem dX8_put_46 : decode cX8_put 46 = .ok (.invokestatic 64, 3) := by decide +kernel
theorem dX8_put_49 : decode cX8_put 49 = .ok (.ifCond .eq 7, 3) := by decide +kernel
theorem dX8_put_52 : decode cX8_put 52 = .ok (.iconst 1, 1) := by decide +kernel
theorem dX8_put_53 : decode cX8_put 53 = .ok (.goto 4, 3) := by decide +kernel
theorem dX8_put_56 : decode cX8_put 56 = .ok (.iconst 0, 1) := by decide +kernel
theorem dX8_put_57 : decode cX8_put 57 = .ok (.istore 6, 2) := by decide +kernel
theorem dX8_put_59 : decode cX8_put 59 = .ok (.lload 4, 2) := by decide +kernel
theorem dX8_put_61 : decode cX8_put 61 = .ok (.bipush 8, 2) := by decide +kernel
theorem dX8_put_63 : decode cX8_put 63 = .ok (.lushr, 1) := by decide +kernel
theorem dX8_put_64 : decode cX8_put 64 = .ok (.lstore 4, 2) := by decide +kernel
theorem dX8_put_66 : decode cX8_put 66 = .ok (.iinc 3 1, 3) := by decide +kernel
theorem dX8_put_69 : decode cX8_put 69 = .ok (.goto (-56), 3) := by decide +kernel
theorem dX8_put_72 : decode cX8_put 72 = .ok (.iload_n 3, 1) := by decide +kernel
theorem dX8_put_73 : decode cX8_put 73 = .ok (.ifCond .eq 15, 3) := by decide +kernel
theorem dX8_put_76 : decode cX8_put 76 = .ok (.iload 6, 2) := by decide +kernel
theorem dX8_put_78 : decode cX8_put 78 = .ok (.ifCond .eq 10, 3) := by decide +kernel
theorem dX8_put_81 : decode cX8_put 81 = .ok (.lload 4, 2) := by decide +kernel
theorem dX8_put_83 : decode cX8_put 83 = .ok (.lconst 0, 1) := by decide +kernel
theorem dX8_put_84 : decode cX8_put 84 = .ok (.lcmp, 1) := by decide +kernel
theorem dX8_put_85 : decode cX8_put 85 = .ok (.ifCond .eq 6, 3) := by decide +kernel
theorem dX8_put_88 : decode cX8_put 88 = .ok (.bipush (-2), 2) := by decide +kernel
theorem dX8_put_90 : decode cX8_put 90 = .ok (.ireturn, 1) := by decide +kernel
theorem dX8_put_91 : decode cX8_put 91 = .ok (.aload_n 0, 1) := by decide +kernel
theorem dX8_put_92 : decode cX8_put 92 = .ok (.getfield 90, 3) := by decide +kernel
theorem dX8_put_95 : decode cX8_put 95 = .ok (.iload_n 3, 1) := by decide +kernel
theorem dX8_put_96 : decode cX8_put 96 = .ok (.iadd, 1) := by decide +kernel
theorem dX8_put_97 : decode cX8_put 97 = .ok (.bipush 80, 2) := by decide +kernel
theorem dX8_put_99 : decode cX8_put 99 = .ok (.if_icmp .le 6, 3) := by decide +kernel
theorem dX8_put_102 : decode cX8_put 102 = .ok (.bipush (-4), 2) := by decide +kernel
theorem dX8_put_104 : decode cX8_put 104 = .ok (.ireturn, 1) := by decide +kernel
theorem dX8_put_105 : decode cX8_put 105 = .ok (.iconst 0, 1) := by decide +kernel
theorem dX8_put_106 : decode cX8_put 106 = .ok (.istore 7, 2) := by decide +kernel
theorem dX8_put_108 : decode cX8_put 108 = .ok (.iload 7, 2) := by decide +kernel
theorem dX8_put_110 : decode cX8_put 110 = .ok (.iload_n 3, 1) := by decide +kernel
theorem dX8_put_111 : decode cX8_put 111 = .ok (.if_icmp .ge 37, 3) := by decide +kernel
theorem dX8_put_114 : decode cX8_put 114 = .ok (.aload_n 0, 1) := by decide +kernel
theorem dX8_put_115 : decode cX8_put 115 = .ok (.getfield 23, 3) := by decide +kernel
theorem dX8_put_118 : decode cX8_put 118 = .ok (.aload_n 0, 1) := by decide +kernel
theorem dX8_put_119 : decode cX8_put 119 = .ok (.getfield 90, 3) := by decide +kernel
theorem dX8_put_122 : decode cX8_put 122 = .ok (.iload 7, 2) := by decide +kernel
theorem dX8_put_124 : decode cX8_put 124 = .ok (.iadd, 1) := by decide +kernel
theorem dX8_put_125 : decode cX8_put 125 = .ok (.lload_n 1, 1) := by decide +kernel
theorem dX8_put_126 : decode cX8_put 126 = .ok (.bipush 8, 2) := by decide +kernel
theorem dX8_put_128 : decode cX8_put 128 = .ok (.iload_n 3, 1) := by decide +kernel
theorem dX8_put_129 : decode cX8_put 129 = .ok (.iconst 1, 1) := by decide +kernel
theorem dX8_put_130 : decode cX8_put 130 = .ok (.isub, 1) := by decide +kernel
theorem dX8_put_131 : decode cX8_put 131 = .ok (.iload 7, 2) := by decide +kernel
theorem dX8_put_133 : decode cX8_put 133 = .ok (.isub, 1) := by decide +kernel
theorem dX8_put_134 : decode cX8_put 134 = .ok (.imul, 1) := by decide +kernel
theorem dX8_put_135 : decode cX8_put 135 = .ok (.lushr, 1) := by decide +kernel
theorem dX8_put_136 : decode cX8_put 136 = .ok (.ldc2_w 192, 3) := by decide +kernel
theorem dX8_put_139 : decode cX8_put 139 = .ok (.land, 1) := by decide +kernel
theorem dX8_put_140 : decode cX8_put 140 = .ok (.l2i, 1) := by decide +kernel
theorem dX8_put_141 : decode cX8_put 141 = .ok (.iastore, 1) := by decide +kernel
theorem dX8_put_142 : decode cX8_put 142 = .ok (.iinc 7 1, 3) := by decide +kernel
theorem dX8_put_145 : decode cX8_put 145 = .ok (.goto (-37), 3) := by decide +kernel
theorem dX8_put_148 : decode cX8_put 148 = .ok (.aload_n 0, 1) := by decide +kernel
theorem dX8_put_149 : decode cX8_put 149 = .ok (.dup, 1) := by decide +kernel
theorem dX8_put_150 : decode cX8_put 150 = .ok (.getfield 90, 3) := by decide +kernel
theorem dX8_put_153 : decode cX8_put 153 = .ok (.iload_n 3, 1) := by decide +kernel
theorem dX8_put_154 : decode cX8_put 154 = .ok (.iadd, 1) := by decide +kernel
theorem dX8_put_155 : decode cX8_put 155 = .ok (.putfield 90, 3) := by decide +kernel
theorem dX8_put_158 : decode cX8_put 158 = .ok (.aload_n 0, 1) := by decide +kernel
theorem dX8_put_159 : decode cX8_put 159 = .ok (.getfield 90, 3) := by decide +kernel
theorem dX8_put_162 : decode cX8_put 162 = .ok (.ireturn, 1) := by decide +kernel
theorem dX8_wipe_0 : decode cX8_wipe 0 = .ok (.aload_n 0, 1) := by decide +kernel
theorem dX8_wipe_1 : decode cX8_wipe 1 = .ok (.iconst 0, 1) := by decide +kernel
theorem dX8_wipe_2 : decode cX8_wipe 2 = .ok (.putfield 53, 3) := by decide +kernel
theorem dX8_wipe_5 : decode cX8_wipe 5 = .ok (.aload_n 0, 1) := by decide +kernel
theorem dX8_wipe_6 : decode cX8_wipe 6 = .ok (.getfield 90, 3) := by decide +kernel
theorem dX8_wipe_9 : decode cX8_wipe 9 = .ok (.istore_n 1, 1) := by decide +kernel
theorem dX8_wipe_10 : decode cX8_wipe 10 = .ok (.aload_n 0, 1) := by decide +kernel
theorem dX8_wipe_11 : decode cX8_wipe 11 = .ok (.iconst 0, 1) := by decide +kernel
theorem dX8_wipe_12 : decode cX8_wipe 12 = .ok (.putfield 90, 3) := by decide +kernel
theorem dX8_wipe_15 : decode cX8_wipe 15 = .ok (.iload_n 1, 1) := by decide +kernel
theorem dX8_wipe_16 : decode cX8_wipe 16 = .ok (.ireturn, 1) := by decide +kernel
theorem dX8_letter_0 : decode cX8_letter 0 = .ok (.aload_n 0, 1) := by decide +kernel
theorem dX8_letter_1 : decode cX8_letter 1 = .ok (.getfield 194, 3) := by decide +kernel
theorem dX8_letter_4 : decode cX8_letter 4 = .ok (.aload_n 0, 1) := by decide +kernel
theorem dX8_letter_5 : decode cX8_letter 5 = .ok (.getfield 90, 3) := by decide +kernel
theorem dX8_letter_8 : decode cX8_letter 8 = .ok (.if_icmp .ge 15, 3) := by decide +kernel
theorem dX8_letter_11 : decode cX8_letter 11 = .ok (.aload_n 0, 1) := by decide +kernel
theorem dX8_letter_12 : decode cX8_letter 12 = .ok (.getfield 23, 3) := by decide +kernel
theorem dX8_letter_15 : decode cX8_letter 15 = .ok (.aload_n 0, 1) := by decide +kernel
theorem dX8_letter_16 : decode cX8_letter 16 = .ok (.getfield 194, 3) := by decide +kernel
theorem dX8_letter_19 : decode cX8_letter 19 = .ok (.iaload, 1) := by decide +kernel
theorem dX8_letter_20 : decode cX8_letter 20 = .ok (.goto 4, 3) := by decide +kernel
theorem dX8_letter_23 : decode cX8_letter 23 = .ok (.iconst 0, 1) := by decide +kernel
theorem dX8_letter_24 : decode cX8_letter 24 = .ok (.ireturn, 1) := by decide +kernel
theorem dX8_isLeft_0 : decode cX8_isLeft 0 = .ok (.aload_n 0, 1) := by decide +kernel
theorem dX8_isLeft_1 : decode cX8_isLeft 1 = .ok (.iload_n 1, 1) := by decide +kernel
theorem dX8_isLeft_2 : decode cX8_isLeft 2 = .ok (.invokevirtual 111, 3) := by decide +kernel
theorem dX8_isLeft_5 : decode cX8_isLeft 5 = .ok (.ifCond .eq 16, 3) := by decide +kernel
theorem dX8_isLeft_8 : decode cX8_isLeft 8 = .ok (.aload_n 0, 1) := by decide +kernel
theorem dX8_isLeft_9 : decode cX8_isLeft 9 = .ok (.getfield 29, 3) := by decide +kernel
theorem dX8_isLeft_12 : decode cX8_isLeft 12 = .ok (.iload_n 1, 1) := by decide +kernel
theorem dX8_isLeft_13 : decode cX8_isLeft 13 = .ok (.baload, 1) := by decide +kernel
theorem dX8_isLeft_14 : decode cX8_isLeft 14 = .ok (.ifCond .ne 7, 3) := by decide +kernel
theorem dX8_isLeft_17 : decode cX8_isLeft 17 = .ok (.iconst 1, 1) := by decide +kernel
theorem dX8_isLeft_18 : decode cX8_isLeft 18 = .ok (.goto 4, 3) := by decide +kernel
theorem dX8_isLeft_21 : decode cX8_isLeft 21 = .ok (.iconst 0, 1) := by decide +kernel
theorem dX8_isLeft_22 : decode cX8_isLeft 22 = .ok (.ireturn, 1) := by decide +kernel
theorem dX8_canBegin_0 : decode cX8_canBegin 0 = .ok (.aload_n 0, 1) := by decide +kernel
theorem dX8_canBegin_1 : decode cX8_canBegin 1 = .ok (.iload_n 1, 1) := by decide +kernel
theorem dX8_canBegin_2 : decode cX8_canBegin 2 = .ok (.invokevirtual 197, 3) := by decide +kernel
theorem dX8_canBegin_5 : decode cX8_canBegin 5 = .ok (.istore_n 2, 1) := by decide +kernel
theorem dX8_canBegin_6 : decode cX8_canBegin 6 = .ok (.bipush 10, 2) := by decide +kernel
theorem dX8_canBegin_8 : decode cX8_canBegin 8 = .ok (.istore_n 3, 1) := by decide +kernel
theorem dX8_canBegin_9 : decode cX8_canBegin 9 = .ok (.iload_n 3, 1) := by decide +kernel
theorem dX8_canBegin_10 : decode cX8_canBegin 10 = .ok (.aload_n 0, 1) := by decide +kernel
theorem dX8_canBegin_11 : decode cX8_canBegin 11 = .ok (.getfield 7, 3) := by decide +kernel
theorem dX8_canBegin_14 : decode cX8_canBegin 14 = .ok (.iconst 0, 1) := by decide +kernel
theorem dX8_canBegin_15 : decode cX8_canBegin 15 = .ok (.iaload, 1) := by decide +kernel
theorem dX8_canBegin_16 : decode cX8_canBegin 16 = .ok (.if_icmp .ge 33, 3) := by decide +kernel
theorem dX8_canBegin_19 : decode cX8_canBegin 19 = .ok (.iload_n 2, 1) := by decide +kernel
theorem dX8_canBegin_20 : decode cX8_canBegin 20 = .ok (.ifCond .ne 17, 3) := by decide +kernel
theorem dX8_canBegin_23 : decode cX8_canBegin 23 = .ok (.iload_n 1, 1) := by decide +kernel
theorem dX8_canBegin_24 : decode cX8_canBegin 24 = .ok (.iconst 1, 1) := by decide +kernel
theorem dX8_canBegin_25 : decode cX8_canBegin 25 = .ok (.if_icmp .ne 16, 3) := by decide +kernel
theorem dX8_canBegin_28 : decode cX8_canBegin 28 = .ok (.aload_n 0, 1) := by decide +kernel
theorem dX8_canBegin_29 : decode cX8_canBegin 29 = .ok (.getfield 29, 3) := by decide +kernel
theorem dX8_canBegin_32 : decode cX8_canBegin 32 = .ok (.iload_n 3, 1) := by decide +kernel
theorem dX8_canBegin_33 : decode cX8_canBegin 33 = .ok (.baload, 1) := by decide +kernel
theorem dX8_canBegin_34 : decode cX8_canBegin 34 = .ok (.ifCond .ne 7, 3) := by decide +kernel
theorem dX8_canBegin_37 : decode cX8_canBegin 37 = .ok (.iconst 1, 1) := by decide +kernel
theorem dX8_canBegin_38 : decode cX8_canBegin 38 = .ok (.goto 4, 3) := by decide +kernel
theorem dX8_canBegin_41 : decode cX8_canBegin 41 = .ok (.iconst 0, 1) := by decide +kernel
theorem dX8_canBegin_42 : decode cX8_canBegin 42 = .ok (.istore_n 2, 1) := by decide +kernel
theorem dX8_canBegin_43 : decode cX8_canBegin 43 = .ok (.iinc 3 1, 3) := by decide +kernel
theorem dX8_canBegin_46 : decode cX8_canBegin 46 = .ok (.goto (-37), 3) := by decide +kernel
theorem dX8_canBegin_49 : decode cX8_canBegin 49 = .ok (.iload_n 2, 1) := by decide +kernel
theorem dX8_canBegin_50 : decode cX8_canBegin 50 = .ok (.ireturn, 1) := by decide +kernel
theorem dX8_place_0 : decode cX8_place 0 = .ok (.aload_n 0, 1) := by decide +kernel
theorem dX8_place_1 : decode cX8_place 1 = .ok (.invokevirtual 200, 3) := by decide +kernel
theorem dX8_place_4 : decode cX8_place 4 = .ok (.bipush 48, 2) := by decide +kernel
theorem dX8_place_6 : decode cX8_place 6 = .ok (.isub, 1) := by decide +kernel
theorem dX8_place_7 : decode cX8_place 7 = .ok (.istore_n 1, 1) := by decide +kernel
theorem dX8_place_8 : decode cX8_place 8 = .ok (.aload_n 0, 1) := by decide +kernel
theorem dX8_place_9 : decode cX8_place 9 = .ok (.iload_n 1, 1) := by decide +kernel
theorem dX8_place_10 : decode cX8_place 10 = .ok (.iconst 0, 1) := by decide +kernel
theorem dX8_place_11 : decode cX8_place 11 = .ok (.bipush 9, 2) := by decide +kernel
theorem dX8_place_13 : decode cX8_place 13 = .ok (.invokestatic 64, 3) := by decide +kernel
theorem dX8_place_16 : decode cX8_place 16 = .ok (.ifCond .eq 15, 3) := by decide +kernel
theorem dX8_place_19 : decode cX8_place 19 = .ok (.aload_n 0, 1) := by decide +kernel
theorem dX8_place_20 : decode cX8_place 20 = .ok (.iload_n 1, 1) := by decide +kernel
theorem dX8_place_21 : decode cX8_place 21 = .ok (.invokevirtual 203, 3) := by decide +kernel
theorem dX8_place_24 : decode cX8_place 24 = .ok (.ifCond .eq 7, 3) := by decide +kernel
theorem dX8_place_27 : decode cX8_place 27 = .ok (.iconst 1, 1) := by decide +kernel
theorem dX8_place_28 : decode cX8_place 28 = .ok (.goto 4, 3) := by decide +kernel
theorem dX8_place_31 : decode cX8_place 31 = .ok (.iconst 0, 1) := by decide +kernel
theorem dX8_place_32 : decode cX8_place 32 = .ok (.putfield 206, 3) := by decide +kernel
theorem dX8_place_35 : decode cX8_place 35 = .ok (.aload_n 0, 1) := by decide +kernel
theorem dX8_place_36 : decode cX8_place 36 = .ok (.dup, 1) := by decide +kernel
theorem dX8_place_37 : decode cX8_place 37 = .ok (.getfield 194, 3) := by decide +kernel
theorem dX8_place_40 : decode cX8_place 40 = .ok (.aload_n 0, 1) := by decide +kernel
theorem dX8_place_41 : decode cX8_place 41 = .ok (.getfield 206, 3) := by decide +kernel
theorem dX8_place_44 : decode cX8_place 44 = .ok (.ifCond .eq 7, 3) := by decide +kernel
theorem dX8_place_47 : decode cX8_place 47 = .ok (.iconst 1, 1) := by decide +kernel
theorem dX8_place_48 : decode cX8_place 48 = .ok (.goto 4, 3) := by decide +kernel
theorem dX8_place_51 : decode cX8_place 51 = .ok (.iconst 0, 1) := by decide +kernel
theorem dX8_place_52 : decode cX8_place 52 = .ok (.iadd, 1) := by decide +kernel
theorem dX8_place_53 : decode cX8_place 53 = .ok (.putfield 194, 3) := by decide +kernel
theorem dX8_place_56 : decode cX8_place 56 = .ok (.aload_n 0, 1) := by decide +kernel
theorem dX8_place_57 : decode cX8_place 57 = .ok (.invokevirtual 200, 3) := by decide +kernel
theorem dX8_place_60 : decode cX8_place 60 = .ok (.bipush 48, 2) := by decide +kernel
theorem dX8_place_62 : decode cX8_place 62 = .ok (.isub, 1) := by decide +kernel
theorem dX8_place_63 : decode cX8_place 63 = .ok (.istore_n 2, 1) := by decide +kernel
theorem dX8_place_64 : decode cX8_place 64 = .ok (.aload_n 0, 1) := by decide +kernel
theorem dX8_place_65 : decode cX8_place 65 = .ok (.getfield 206, 3) := by decide +kernel
theorem dX8_place_68 : decode cX8_place 68 = .ok (.ifCond .eq 44, 3) := by decide +kernel
theorem dX8_place_71 : decode cX8_place 71 = .ok (.iload_n 2, 1) := by decide +kernel
theorem dX8_place_72 : decode cX8_place 72 = .ok (.iconst 0, 1) := by decide +kernel
theorem dX8_place_73 : decode cX8_place 73 = .ok (.bipush 9, 2) := by decide +kernel
theorem dX8_place_75 : decode cX8_place 75 = .ok (.invokestatic 64, 3) := by decide +kernel
theorem dX8_place_78 : decode cX8_place 78 = .ok (.ifCond .eq 34, 3) := by decide +kernel
theorem dX8_place_81 : decode cX8_place 81 = .ok (.iload_n 1, 1) := by decide +kernel
theorem dX8_place_82 : decode cX8_place 82 = .ok (.iconst 1, 1) := by decide +kernel
theorem dX8_place_83 : decode cX8_place 83 = .ok (.if_icmp .ne 29, 3) := by decide +kernel
theorem dX8_place_86 : decode cX8_place 86 = .ok (.aload_n 0, 1) := by decide +kernel
theorem dX8_place_87 : decode cX8_place 87 = .ok (.bipush 10, 2) := by decide +kernel
theorem dX8_place_89 : decode cX8_place 89 = .ok (.iload_n 2, 1) := by decide +kernel
theorem dX8_place_90 : decode cX8_place 90 = .ok (.iadd, 1) := by decide +kernel
theorem dX8_place_91 : decode cX8_place 91 = .ok (.invokevirtual 197, 3) := by decide +kernel
theorem dX8_place_94 : decode cX8_place 94 = .ok (.ifCond .eq 18, 3) := by decide +kernel
theorem dX8_place_97 : decode cX8_place 97 = .ok (.bipush 10, 2) := by decide +kernel
theorem dX8_place_99 : decode cX8_place 99 = .ok (.iload_n 2, 1) := by decide +kernel
theorem dX8_place_100 : decode cX8_place 100 = .ok (.iadd, 1) := by decide +kernel
theorem dX8_place_101 : decode cX8_place 101 = .ok (.istore_n 1, 1) := by decide +kernel
theorem dX8_place_102 : decode cX8_place 102 = .ok (.aload_n 0, 1) := by decide +kernel
theorem dX8_place_103 : decode cX8_place 103 = .ok (.dup, 1) := by decide +kernel
theorem dX8_place_104 : decode cX8_place 104 = .ok (.getfield 194, 3) := by decide +kernel
theorem dX8_place_107 : decode cX8_place 107 = .ok (.iconst 1, 1) := by decide +kernel
theorem dX8_place_108 : decode cX8_place 108 = .ok (.iadd, 1) := by decide +kernel
theorem dX8_place_109 : decode cX8_place 109 = .ok (.putfield 194, 3) := by decide +kernel
theorem dX8_place_112 : decode cX8_place 112 = .ok (.aload_n 0, 1) := by decide +kernel
theorem dX8_place_113 : decode cX8_place 113 = .ok (.aload_n 0, 1) := by decide +kernel
theorem dX8_place_114 : decode cX8_place 114 = .ok (.getfield 206, 3) := by decide +kernel
theorem dX8_place_117 : decode cX8_place 117 = .ok (.ifCond .eq 33, 3) := by decide +kernel
theorem dX8_place_120 : decode cX8_place 120 = .ok (.aload_n 0, 1) := by decide +kernel
theorem dX8_place_121 : decode cX8_place 121 = .ok (.iload_n 1, 1) := by decide +kernel
theorem dX8_place_122 : decode cX8_place 122 = .ok (.invokevirtual 197, 3) := by decide +kernel
theorem dX8_place_125 : decode cX8_place 125 = .ok (.ifCond .eq 25, 3) := by decide +kernel
theorem dX8_place_128 : decode cX8_place 128 = .ok (.aload_n 0, 1) := by decide +kernel
theorem dX8_place_129 : decode cX8_place 129 = .ok (.invokevirtual 200, 3) := by decide +kernel
theorem dX8_place_132 : decode cX8_place 132 = .ok (.bipush 44, 2) := by decide +kernel
theorem dX8_place_134 : decode cX8_place 134 = .ok (.if_icmp .eq 12, 3) := by decide +kernel
theorem dX8_place_137 : decode cX8_place 137 = .ok (.aload_n 0, 1) := by decide +kernel
theorem dX8_place_138 : decode cX8_place 138 = .ok (.invokevirtual 200, 3) := by decide +kernel
theorem dX8_place_141 : decode cX8_place 141 = .ok (.bipush 41, 2) := by decide +kernel
theorem dX8_place_143 : decode cX8_place 143 = .ok (.if_icmp .ne 7, 3) := by decide +kernel
theorem dX8_place_146 : decode cX8_place 146 = .ok (.iconst 1, 1) := by decide +kernel
theorem dX8_place_147 : decode cX8_place 147 = .ok (.goto 4, 3) := by decide +kernel
theorem dX8_place_150 : decode cX8_place 150 = .ok (.iconst 0, 1) := by decide +kernel
theorem dX8_place_151 : decode cX8_place 151 = .ok (.putfield 206, 3) := by decide +kernel
theorem dX8_place_154 : decode cX8_place 154 = .ok (.aload_n 0, 1) := by decide +kernel
theorem dX8_place_155 : decode cX8_place 155 = .ok (.getfield 206, 3) := by decide +kernel
theorem dX8_place_158 : decode cX8_place 158 = .ok (.ifCond .eq 10, 3) := by decide +kernel
theorem dX8_place_161 : decode cX8_place 161 = .ok (.aload_n 0, 1) := by decide +kernel
theorem dX8_place_162 : decode cX8_place 162 = .ok (.getfield 29, 3) := by decide +kernel
theorem dX8_place_165 : decode cX8_place 165 = .ok (.iload_n 1, 1) := by decide +kernel
theorem dX8_place_166 : decode cX8_place 166 = .ok (.iconst 1, 1) := by decide +kernel
theorem dX8_place_167 : decode cX8_place 167 = .ok (.bastore, 1) := by decide +kernel
theorem dX8_place_168 : decode cX8_place 168 = .ok (.iload_n 1, 1) := by decide +kernel
theorem dX8_place_169 : decode cX8_place 169 = .ok (.ireturn, 1) := by decide +kernel
theorem dX8_readsCycle_0 : decode cX8_readsCycle 0 = .ok (.aload_n 0, 1) := by decide +kernel
theorem dX8_readsCycle_1 : decode cX8_readsCycle 1 = .ok (.aload_n 0, 1) := by decide +kernel
theorem dX8_readsCycle_2 : decode cX8_readsCycle 2 = .ok (.invokevirtual 200, 3) := by decide +kernel
theorem dX8_readsCycle_5 : decode cX8_readsCycle 5 = .ok (.bipush 40, 2) := by decide +kernel
theorem dX8_readsCycle_7 : decode cX8_readsCycle 7 = .ok (.if_icmp .ne 7, 3) := by decide +kernel
theorem dX8_readsCycle_10 : decode cX8_readsCycle 10 = .ok (.iconst 1, 1) := by decide +kernel
theorem dX8_readsCycle_11 : decode cX8_readsCycle 11 = .ok (.goto 4, 3) := by decide +kernel
theorem dX8_readsCycle_14 : decode cX8_readsCycle 14 = .ok (.iconst 0, 1) := by decide +kernel
theorem dX8_readsCycle_15 : decode cX8_readsCycle 15 = .ok (.putfield 206, 3) := by decide +kernel
theorem dX8_readsCycle_18 : decode cX8_readsCycle 18 = .ok (.aload_n 0, 1) := by decide +kernel
theorem dX8_readsCycle_19 : decode cX8_readsCycle 19 = .ok (.dup, 1) := by decide +kernel
theorem dX8_readsCycle_20 : decode cX8_readsCycle 20 = .ok (.getfield 194, 3) := by decide +kernel
theorem dX8_readsCycle_23 : decode cX8_readsCycle 23 = .ok (.aload_n 0, 1) := by decide +kernel
theorem dX8_readsCycle_24 : decode cX8_readsCycle 24 = .ok (.getfield 206, 3) := by decide +kernel
theorem dX8_readsCycle_27 : decode cX8_readsCycle 27 = .ok (.ifCond .eq 7, 3) := by decide +kernel
theorem dX8_readsCycle_30 : decode cX8_readsCycle 30 = .ok (.iconst 1, 1) := by decide +kernel
theorem dX8_readsCycle_31 : decode cX8_readsCycle 31 = .ok (.goto 4, 3) := by decide +kernel
theorem dX8_readsCycle_34 : decode cX8_readsCycle 34 = .ok (.iconst 0, 1) := by decide +kernel
theorem dX8_readsCycle_35 : decode cX8_readsCycle 35 = .ok (.iadd, 1) := by decide +kernel
theorem dX8_readsCycle_36 : decode cX8_readsCycle 36 = .ok (.putfield 194, 3) := by decide +kernel
theorem dX8_readsCycle_39 : decode cX8_readsCycle 39 = .ok (.aload_n 0, 1) := by decide +kernel
theorem dX8_readsCycle_40 : decode cX8_readsCycle 40 = .ok (.getfield 206, 3) := by decide +kernel
theorem dX8_readsCycle_43 : decode cX8_readsCycle 43 = .ok (.ifCond .eq 10, 3) := by decide +kernel
theorem dX8_readsCycle_46 : decode cX8_readsCycle 46 = .ok (.aload_n 0, 1) := by decide +kernel
theorem dX8_readsCycle_47 : decode cX8_readsCycle 47 = .ok (.invokevirtual 210, 3) := by decide +kernel
theorem dX8_readsCycle_50 : decode cX8_readsCycle 50 = .ok (.goto 4, 3) := by decide +kernel
theorem dX8_readsCycle_53 : decode cX8_readsCycle 53 = .ok (.iconst 0, 1) := by decide +kernel
theorem dX8_readsCycle_54 : decode cX8_readsCycle 54 = .ok (.istore_n 1, 1) := by decide +kernel
theorem dX8_readsCycle_55 : decode cX8_readsCycle 55 = .ok (.aload_n 0, 1) := by decide +kernel
theorem dX8_readsCycle_56 : decode cX8_readsCycle 56 = .ok (.aload_n 0, 1) := by decide +kernel
theorem dX8_readsCycle_57 : decode cX8_readsCycle 57 = .ok (.getfield 206, 3) := by decide +kernel
theorem dX8_readsCycle_60 : decode cX8_readsCycle 60 = .ok (.ifCond .eq 16, 3) := by decide +kernel
theorem dX8_readsCycle_63 : decode cX8_readsCycle 63 = .ok (.aload_n 0, 1) := by decide +kernel
theorem dX8_readsCycle_64 : decode cX8_readsCycle 64 = .ok (.invokevirtual 200, 3) := by decide +kernel
theorem dX8_readsCycle_67 : decode cX8_readsCycle 67 = .ok (.bipush 44, 2) := by decide +kernel
theorem dX8_readsCycle_69 : decode cX8_readsCycle 69 = .ok (.if_icmp .ne 7, 3) := by decide +kernel
theorem dX8_readsCycle_72 : decode cX8_readsCycle 72 = .ok (.iconst 1, 1) := by decide +kernel
theorem dX8_readsCycle_73 : decode cX8_readsCycle 73 = .ok (.goto 4, 3) := by decide +kernel
theorem dX8_readsCycle_76 : decode cX8_readsCycle 76 = .ok (.iconst 0, 1) := by decide +kernel
theorem dX8_readsCycle_77 : decode cX8_readsCycle 77 = .ok (.putfield 206, 3) := by decide +kernel
theorem dX8_readsCycle_80 : decode cX8_readsCycle 80 = .ok (.aload_n 0, 1) := by decide +kernel
theorem dX8_readsCycle_81 : decode cX8_readsCycle 81 = .ok (.getfield 206, 3) := by decide +kernel
theorem dX8_readsCycle_84 : decode cX8_readsCycle 84 = .ok (.ifCond .ne 4, 3) := by decide +kernel
theorem dX8_readsCycle_87 : decode cX8_readsCycle 87 = .ok (.return_, 1) := by decide +kernel
theorem dX8_readsCycle_88 : decode cX8_readsCycle 88 = .ok (.iload_n 1, 1) := by decide +kernel
theorem dX8_readsCycle_89 : decode cX8_readsCycle 89 = .ok (.istore_n 2, 1) := by decide +kernel
theorem dX8_readsCycle_90 : decode cX8_readsCycle 90 = .ok (.aload_n 0, 1) := by decide +kernel
theorem dX8_readsCycle_91 : decode cX8_readsCycle 91 = .ok (.getfield 206, 3) := by decide +kernel
theorem dX8_readsCycle_94 : decode cX8_readsCycle 94 = .ok (.ifCond .eq 66, 3) := by decide +kernel
theorem dX8_readsCycle_97 : decode cX8_readsCycle 97 = .ok (.aload_n 0, 1) := by decide +kernel
theorem dX8_readsCycle_98 : decode cX8_readsCycle 98 = .ok (.invokevirtual 200, 3) := by decide +kernel
theorem dX8_readsCycle_101 : decode cX8_readsCycle 101 = .ok (.bipush 44, 2) := by decide +kernel
theorem dX8_readsCycle_103 : decode cX8_readsCycle 103 = .ok (.if_icmp .ne 57, 3) := by decide +kernel
theorem dX8_readsCycle_106 : decode cX8_readsCycle 106 = .ok (.aload_n 0, 1) := by decide +kernel
theorem dX8_readsCycle_107 : decode cX8_readsCycle 107 = .ok (.dup, 1) := by decide +kernel
theorem dX8_readsCycle_108 : decode cX8_readsCycle 108 = .ok (.getfield 194, 3) := by decide +kernel
theorem dX8_readsCycle_111 : decode cX8_readsCycle 111 = .ok (.iconst 1, 1) := by decide +kernel
theorem dX8_readsCycle_112 : decode cX8_readsCycle 112 = .ok (.iadd, 1) := by decide +kernel
theorem dX8_readsCycle_113 : decode cX8_readsCycle 113 = .ok (.putfield 194, 3) := by decide +kernel
theorem dX8_readsCycle_116 : decode cX8_readsCycle 116 = .ok (.aload_n 0, 1) := by decide +kernel
theorem dX8_readsCycle_117 : decode cX8_readsCycle 117 = .ok (.invokevirtual 210, 3) := by decide +kernel
theorem dX8_readsCycle_120 : decode cX8_readsCycle 120 = .ok (.istore_n 3, 1) := by decide +kernel
theorem dX8_readsCycle_121 : decode cX8_readsCycle 121 = .ok (.aload_n 0, 1) := by decide +kernel
theorem dX8_readsCycle_122 : decode cX8_readsCycle 122 = .ok (.getfield 26, 3) := by decide +kernel
theorem dX8_readsCycle_125 : decode cX8_readsCycle 125 = .ok (.iload_n 2, 1) := by decide +kernel
theorem dX8_readsCycle_126 : decode cX8_readsCycle 126 = .ok (.aload_n 0, 1) := by decide +kernel
theorem dX8_readsCycle_127 : decode cX8_readsCycle 127 = .ok (.getfield 206, 3) := by decide +kernel
theorem dX8_readsCycle_130 : decode cX8_readsCycle 130 = .ok (.ifCond .eq 7, 3) := by decide +kernel
theorem dX8_readsCycle_133 : decode cX8_readsCycle 133 = .ok (.iload_n 3, 1) := by decide +kernel
theorem dX8_readsCycle_134 : decode cX8_readsCycle 134 = .ok (.goto 9, 3) := by decide +kernel
theorem dX8_readsCycle_137 : decode cX8_readsCycle 137 = .ok (.aload_n 0, 1) := by decide +kernel
theorem dX8_readsCycle_138 : decode cX8_readsCycle 138 = .ok (.getfield 26, 3) := by decide +kernel
theorem dX8_readsCycle_141 : decode cX8_readsCycle 141 = .ok (.iload_n 2, 1) := by decide +kernel
theorem dX8_readsCycle_142 : decode cX8_readsCycle 142 = .ok (.iaload, 1) := by decide +kernel
theorem dX8_readsCycle_143 : decode cX8_readsCycle 143 = .ok (.iastore, 1) := by decide +kernel
theorem dX8_readsCycle_144 : decode cX8_readsCycle 144 = .ok (.aload_n 0, 1) := by decide +kernel
theorem dX8_readsCycle_145 : decode cX8_readsCycle 145 = .ok (.getfield 206, 3) := by decide +kernel
theorem dX8_readsCycle_148 : decode cX8_readsCycle 148 = .ok (.ifCond .eq 7, 3) := by decide +kernel
theorem dX8_readsCycle_151 : decode cX8_readsCycle 151 = .ok (.iload_n 3, 1) := by decide +kernel
theorem dX8_readsCycle_152 : decode cX8_readsCycle 152 = .ok (.goto 4, 3) := by decide +kernel
theorem dX8_readsCycle_155 : decode cX8_readsCycle 155 = .ok (.iload_n 2, 1) := by decide +kernel
theorem dX8_readsCycle_156 : decode cX8_readsCycle 156 = .ok (.istore_n 2, 1) := by decide +kernel
theorem dX8_readsCycle_157 : decode cX8_readsCycle 157 = .ok (.goto (-67), 3) := by decide +kernel
theorem dX8_readsCycle_160 : decode cX8_readsCycle 160 = .ok (.aload_n 0, 1) := by decide +kernel
theorem dX8_readsCycle_161 : decode cX8_readsCycle 161 = .ok (.aload_n 0, 1) := by decide +kernel
theorem dX8_readsCycle_162 : decode cX8_readsCycle 162 = .ok (.getfield 206, 3) := by decide +kernel
theorem dX8_readsCycle_165 : decode cX8_readsCycle 165 = .ok (.ifCond .eq 16, 3) := by decide +kernel
theorem dX8_readsCycle_168 : decode cX8_readsCycle 168 = .ok (.aload_n 0, 1) := by decide +kernel
theorem dX8_readsCycle_169 : decode cX8_readsCycle 169 = .ok (.invokevirtual 200, 3) := by decide +kernel
theorem dX8_readsCycle_172 : decode cX8_readsCycle 172 = .ok (.bipush 41, 2) := by decide +kernel
theorem dX8_readsCycle_174 : decode cX8_readsCycle 174 = .ok (.if_icmp .ne 7, 3) := by decide +kernel
theorem dX8_readsCycle_177 : decode cX8_readsCycle 177 = .ok (.iconst 1, 1) := by decide +kernel
theorem dX8_readsCycle_178 : decode cX8_readsCycle 178 = .ok (.goto 4, 3) := by decide +kernel
theorem dX8_readsCycle_181 : decode cX8_readsCycle 181 = .ok (.iconst 0, 1) := by decide +kernel
theorem dX8_readsCycle_182 : decode cX8_readsCycle 182 = .ok (.putfield 206, 3) := by decide +kernel
theorem dX8_readsCycle_185 : decode cX8_readsCycle 185 = .ok (.aload_n 0, 1) := by decide +kernel
theorem dX8_readsCycle_186 : decode cX8_readsCycle 186 = .ok (.dup, 1) := by decide +kernel
theorem dX8_readsCycle_187 : decode cX8_readsCycle 187 = .ok (.getfield 194, 3) := by decide +kernel
theorem dX8_readsCycle_190 : decode cX8_readsCycle 190 = .ok (.aload_n 0, 1) := by decide +kernel
theorem dX8_readsCycle_191 : decode cX8_readsCycle 191 = .ok (.getfield 206, 3) := by decide +kernel
theorem dX8_readsCycle_194 : decode cX8_readsCycle 194 = .ok (.ifCond .eq 7, 3) := by decide +kernel
theorem dX8_readsCycle_197 : decode cX8_readsCycle 197 = .ok (.iconst 1, 1) := by decide +kernel
theorem dX8_readsCycle_198 : decode cX8_readsCycle 198 = .ok (.goto 4, 3) := by decide +kernel
theorem dX8_readsCycle_201 : decode cX8_readsCycle 201 = .ok (.iconst 0, 1) := by decide +kernel
theorem dX8_readsCycle_202 : decode cX8_readsCycle 202 = .ok (.iadd, 1) := by decide +kernel
theorem dX8_readsCycle_203 : decode cX8_readsCycle 203 = .ok (.putfield 194, 3) := by decide +kernel
theorem dX8_readsCycle_206 : decode cX8_readsCycle 206 = .ok (.aload_n 0, 1) := by decide +kernel
theorem dX8_readsCycle_207 : decode cX8_readsCycle 207 = .ok (.getfield 26, 3) := by decide +kernel
theorem dX8_readsCycle_210 : decode cX8_readsCycle 210 = .ok (.iload_n 2, 1) := by decide +kernel
theorem dX8_readsCycle_211 : decode cX8_readsCycle 211 = .ok (.aload_n 0, 1) := by decide +kernel
theorem dX8_readsCycle_212 : decode cX8_readsCycle 212 = .ok (.getfield 206, 3) := by decide +kernel
theorem dX8_readsCycle_215 : decode cX8_readsCycle 215 = .ok (.ifCond .eq 7, 3) := by decide +kernel
theorem dX8_readsCycle_218 : decode cX8_readsCycle 218 = .ok (.iload_n 1, 1) := by decide +kernel
theorem dX8_readsCycle_219 : decode cX8_readsCycle 219 = .ok (.goto 9, 3) := by decide +kernel
theorem dX8_readsCycle_222 : decode cX8_readsCycle 222 = .ok (.aload_n 0, 1) := by decide +kernel
theorem dX8_readsCycle_223 : decode cX8_readsCycle 223 = .ok (.getfield 26, 3) := by decide +kernel
theorem dX8_readsCycle_226 : decode cX8_readsCycle 226 = .ok (.iload_n 2, 1) := by decide +kernel
theorem dX8_readsCycle_227 : decode cX8_readsCycle 227 = .ok (.iaload, 1) := by decide +kernel
theorem dX8_readsCycle_228 : decode cX8_readsCycle 228 = .ok (.iastore, 1) := by decide +kernel
theorem dX8_readsCycle_229 : decode cX8_readsCycle 229 = .ok (.return_, 1) := by decide +kernel
theorem dX8_faultAt_0 : decode cX8_faultAt 0 = .ok (.aload_n 0, 1) := by decide +kernel
theorem dX8_faultAt_1 : decode cX8_faultAt 1 = .ok (.iconst 0, 1) := by decide +kernel
theorem dX8_faultAt_2 : decode cX8_faultAt 2 = .ok (.putfield 194, 3) := by decide +kernel
theorem dX8_faultAt_5 : decode cX8_faultAt 5 = .ok (.iconst 0, 1) := by decide +kernel
theorem dX8_faultAt_6 : decode cX8_faultAt 6 = .ok (.istore_n 1, 1) := by decide +kernel
theorem dX8_faultAt_7 : decode cX8_faultAt 7 = .ok (.iload_n 1, 1) := by decide +kernel
theorem dX8_faultAt_8 : decode cX8_faultAt 8 = .ok (.bipush 16, 2) := by decide +kernel
theorem dX8_faultAt_10 : decode cX8_faultAt 10 = .ok (.if_icmp .ge 23, 3) := by decide +kernel
theorem dX8_faultAt_13 : decode cX8_faultAt 13 = .ok (.aload_n 0, 1) := by decide +kernel
theorem dX8_faultAt_14 : decode cX8_faultAt 14 = .ok (.getfield 26, 3) := by decide +kernel
theorem dX8_faultAt_17 : decode cX8_faultAt 17 = .ok (.iload_n 1, 1) := by decide +kernel
theorem dX8_faultAt_18 : decode cX8_faultAt 18 = .ok (.iload_n 1, 1) := by decide +kernel
theorem dX8_faultAt_19 : decode cX8_faultAt 19 = .ok (.iastore, 1) := by decide +kernel
theorem dX8_faultAt_20 : decode cX8_faultAt 20 = .ok (.aload_n 0, 1) := by decide +kernel
theorem dX8_faultAt_21 : decode cX8_faultAt 21 = .ok (.getfield 29, 3) := by decide +kernel
theorem dX8_faultAt_24 : decode cX8_faultAt 24 = .ok (.iload_n 1, 1) := by decide +kernel
theorem dX8_faultAt_25 : decode cX8_faultAt 25 = .ok (.iconst 0, 1) := by decide +kernel
theorem dX8_faultAt_26 : decode cX8_faultAt 26 = .ok (.bastore, 1) := by decide +kernel
theorem dX8_faultAt_27 : decode cX8_faultAt 27 = .ok (.iinc 1 1, 3) := by decide +kernel
theorem dX8_faultAt_30 : decode cX8_faultAt 30 = .ok (.goto (-23), 3) := by decide +kernel
theorem dX8_faultAt_33 : decode cX8_faultAt 33 = .ok (.aload_n 0, 1) := by decide +kernel
theorem dX8_faultAt_34 : decode cX8_faultAt 34 = .ok (.invokevirtual 200, 3) := by decide +kernel
theorem dX8_faultAt_37 : decode cX8_faultAt 37 = .ok (.bipush 101, 2) := by decide +kernel
theorem dX8_faultAt_39 : decode cX8_faultAt 39 = .ok (.if_icmp .ne 18, 3) := by decide +kernel
theorem dX8_faultAt_42 : decode cX8_faultAt 42 = .ok (.aload_n 0, 1) := by decide +kernel
theorem dX8_faultAt_43 : decode cX8_faultAt 43 = .ok (.getfield 90, 3) := by decide +kernel
theorem dX8_faultAt_46 : decode cX8_faultAt 46 = .ok (.iconst 1, 1) := by decide +kernel
theorem dX8_faultAt_47 : decode cX8_faultAt 47 = .ok (.if_icmp .ne 8, 3) := by decide +kernel
theorem dX8_faultAt_50 : decode cX8_faultAt 50 = .ok (.bipush (-6), 2) := by decide +kernel
theorem dX8_faultAt_52 : decode cX8_faultAt 52 = .ok (.goto 4, 3) := by decide +kernel
theorem dX8_faultAt_55 : decode cX8_faultAt 55 = .ok (.iconst 1, 1) := by decide +kernel
theorem dX8_faultAt_56 : decode cX8_faultAt 56 = .ok (.ireturn, 1) := by decide +kernel
theorem dX8_faultAt_57 : decode cX8_faultAt 57 = .ok (.aload_n 0, 1) := by decide +kernel
theorem dX8_faultAt_58 : decode cX8_faultAt 58 = .ok (.invokevirtual 213, 3) := by decide +kernel
theorem dX8_faultAt_61 : decode cX8_faultAt 61 = .ok (.aload_n 0, 1) := by decide +kernel
theorem dX8_faultAt_62 : decode cX8_faultAt 62 = .ok (.getfield 206, 3) := by decide +kernel
theorem dX8_faultAt_65 : decode cX8_faultAt 65 = .ok (.ifCond .eq 21, 3) := by decide +kernel
theorem dX8_faultAt_68 : decode cX8_faultAt 68 = .ok (.aload_n 0, 1) := by decide +kernel
theorem dX8_faultAt_69 : decode cX8_faultAt 69 = .ok (.getfield 194, 3) := by decide +kernel
theorem dX8_faultAt_72 : decode cX8_faultAt 72 = .ok (.aload_n 0, 1) := by decide +kernel
theorem dX8_faultAt_73 : decode cX8_faultAt 73 = .ok (.getfield 90, 3) := by decide +kernel
theorem dX8_faultAt_76 : decode cX8_faultAt 76 = .ok (.if_icmp .ge 10, 3) := by decide +kernel
theorem dX8_faultAt_79 : decode cX8_faultAt 79 = .ok (.aload_n 0, 1) := by decide +kernel
theorem dX8_faultAt_80 : decode cX8_faultAt 80 = .ok (.invokevirtual 213, 3) := by decide +kernel
theorem dX8_faultAt_83 : decode cX8_faultAt 83 = .ok (.goto (-22), 3) := by decide +kernel
theorem dX8_faultAt_86 : decode cX8_faultAt 86 = .ok (.aload_n 0, 1) := by decide +kernel
theorem dX8_faultAt_87 : decode cX8_faultAt 87 = .ok (.getfield 206, 3) := by decide +kernel
theorem dX8_faultAt_90 : decode cX8_faultAt 90 = .ok (.ifCond .eq 8, 3) := by decide +kernel
theorem dX8_faultAt_93 : decode cX8_faultAt 93 = .ok (.bipush (-6), 2) := by decide +kernel
theorem dX8_faultAt_95 : decode cX8_faultAt 95 = .ok (.goto 7, 3) := by decide +kernel
theorem dX8_faultAt_98 : decode cX8_faultAt 98 = .ok (.aload_n 0, 1) := by decide +kernel
theorem dX8_faultAt_99 : decode cX8_faultAt 99 = .ok (.getfield 194, 3) := by decide +kernel
theorem dX8_faultAt_102 : decode cX8_faultAt 102 = .ok (.ireturn, 1) := by decide +kernel
theorem dX8_fault_0 : decode cX8_fault 0 = .ok (.aload_n 0, 1) := by decide +kernel
theorem dX8_fault_1 : decode cX8_fault 1 = .ok (.iconst 0, 1) := by decide +kernel
theorem dX8_fault_2 : decode cX8_fault 2 = .ok (.putfield 53, 3) := by decide +kernel
theorem dX8_fault_5 : decode cX8_fault 5 = .ok (.aload_n 0, 1) := by decide +kernel
theorem dX8_fault_6 : decode cX8_fault 6 = .ok (.invokevirtual 86, 3) := by decide +kernel
theorem dX8_fault_9 : decode cX8_fault 9 = .ok (.ireturn, 1) := by decide +kernel
theorem dX8_undo_0 : decode cX8_undo 0 = .ok (.aload_n 0, 1) := by decide +kernel
theorem dX8_undo_1 : decode cX8_undo 1 = .ok (.iconst 0, 1) := by decide +kernel
theorem dX8_undo_2 : decode cX8_undo 2 = .ok (.putfield 53, 3) := by decide +kernel
theorem dX8_undo_5 : decode cX8_undo 5 = .ok (.aload_n 0, 1) := by decide +kernel
theorem dX8_undo_6 : decode cX8_undo 6 = .ok (.getfield 61, 3) := by decide +kernel
theorem dX8_undo_9 : decode cX8_undo 9 = .ok (.ifCond .ne 6, 3) := by decide +kernel
theorem dX8_undo_12 : decode cX8_undo 12 = .ok (.bipush (-5), 2) := by decide +kernel
theorem dX8_undo_14 : decode cX8_undo 14 = .ok (.ireturn, 1) := by decide +kernel
theorem dX8_undo_15 : decode cX8_undo 15 = .ok (.aload_n 0, 1) := by decide +kernel
theorem dX8_undo_16 : decode cX8_undo 16 = .ok (.dup, 1) := by decide +kernel
theorem dX8_undo_17 : decode cX8_undo 17 = .ok (.getfield 61, 3) := by decide +kernel
theorem dX8_undo_20 : decode cX8_undo 20 = .ok (.iconst 1, 1) := by decide +kernel
theorem dX8_undo_21 : decode cX8_undo 21 = .ok (.isub, 1) := by decide +kernel
theorem dX8_undo_22 : decode cX8_undo 22 = .ok (.putfield 61, 3) := by decide +kernel
theorem dX8_undo_25 : decode cX8_undo 25 = .ok (.iconst 0, 1) := by decide +kernel
theorem dX8_undo_26 : decode cX8_undo 26 = .ok (.istore_n 1, 1) := by decide +kernel
theorem dX8_undo_27 : decode cX8_undo 27 = .ok (.iload_n 1, 1) := by decide +kernel
theorem dX8_undo_28 : decode cX8_undo 28 = .ok (.sipush 130, 3) := by decide +kernel
theorem dX8_undo_31 : decode cX8_undo 31 = .ok (.if_icmp .ge 30, 3) := by decide +kernel
theorem dX8_undo_34 : decode cX8_undo 34 = .ok (.aload_n 0, 1) := by decide +kernel
theorem dX8_undo_35 : decode cX8_undo 35 = .ok (.getfield 7, 3) := by decide +kernel
theorem dX8_undo_38 : decode cX8_undo 38 = .ok (.iload_n 1, 1) := by decide +kernel
theorem dX8_undo_39 : decode cX8_undo 39 = .ok (.aload_n 0, 1) := by decide +kernel
theorem dX8_undo_40 : decode cX8_undo 40 = .ok (.getfield 13, 3) := by decide +kernel
theorem dX8_undo_43 : decode cX8_undo 43 = .ok (.sipush 130, 3) := by decide +kernel
theorem dX8_undo_46 : decode cX8_undo 46 = .ok (.aload_n 0, 1) := by decide +kernel
theorem dX8_undo_47 : decode cX8_undo 47 = .ok (.getfield 61, 3) := by decide +kernel
theorem dX8_undo_50 : decode cX8_undo 50 = .ok (.imul, 1) := by decide +kernel
theorem dX8_undo_51 : decode cX8_undo 51 = .ok (.iload_n 1, 1) := by decide +kernel
theorem dX8_undo_52 : decode cX8_undo 52 = .ok (.iadd, 1) := by decide +kernel
theorem dX8_undo_53 : decode cX8_undo 53 = .ok (.iaload, 1) := by decide +kernel
theorem dX8_undo_54 : decode cX8_undo 54 = .ok (.iastore, 1) := by decide +kernel
theorem dX8_undo_55 : decode cX8_undo 55 = .ok (.iinc 1 1, 3) := by decide +kernel
theorem dX8_undo_58 : decode cX8_undo 58 = .ok (.goto (-31), 3) := by decide +kernel
theorem dX8_undo_61 : decode cX8_undo 61 = .ok (.aload_n 0, 1) := by decide +kernel
theorem dX8_undo_62 : decode cX8_undo 62 = .ok (.getfield 61, 3) := by decide +kernel
theorem dX8_undo_65 : decode cX8_undo 65 = .ok (.ireturn, 1) := by decide +kernel
theorem dX8_save_0 : decode cX8_save 0 = .ok (.aload_n 0, 1) := by decide +kernel
theorem dX8_save_1 : decode cX8_save 1 = .ok (.iconst 0, 1) := by decide +kernel
theorem dX8_save_2 : decode cX8_save 2 = .ok (.putfield 53, 3) := by decide +kernel
theorem dX8_save_5 : decode cX8_save 5 = .ok (.iload_n 1, 1) := by decide +kernel
theorem dX8_save_6 : decode cX8_save 6 = .ok (.iconst 0, 1) := by decide +kernel
theorem dX8_save_7 : decode cX8_save 7 = .ok (.iconst 1, 1) := by decide +kernel
theorem dX8_save_8 : decode cX8_save 8 = .ok (.invokestatic 64, 3) := by decide +kernel
theorem dX8_save_11 : decode cX8_save 11 = .ok (.ifCond .ne 6, 3) := by decide +kernel
theorem dX8_save_14 : decode cX8_save 14 = .ok (.bipush (-2), 2) := by decide +kernel
theorem dX8_save_16 : decode cX8_save 16 = .ok (.ireturn, 1) := by decide +kernel
theorem dX8_save_17 : decode cX8_save 17 = .ok (.iconst 0, 1) := by decide +kernel
theorem dX8_save_18 : decode cX8_save 18 = .ok (.istore_n 2, 1) := by decide +kernel
theorem dX8_save_19 : decode cX8_save 19 = .ok (.iload_n 2, 1) := by decide +kernel
theorem dX8_save_20 : decode cX8_save 20 = .ok (.sipush 130, 3) := by decide +kernel
theorem dX8_save_23 : decode cX8_save 23 = .ok (.if_icmp .ge 27, 3) := by decide +kernel
theorem dX8_save_26 : decode cX8_save 26 = .ok (.aload_n 0, 1) := by decide +kernel
theorem dX8_save_27 : decode cX8_save 27 = .ok (.getfield 16, 3) := by decide +kernel
theorem dX8_save_30 : decode cX8_save 30 = .ok (.sipush 130, 3) := by decide +kernel
theorem dX8_save_33 : decode cX8_save 33 = .ok (.iload_n 1, 1) := by decide +kernel
theorem dX8_save_34 : decode cX8_save 34 = .ok (.imul, 1) := by decide +kernel
theorem dX8_save_35 : decode cX8_save 35 = .ok (.iload_n 2, 1) := by decide +kernel
theorem dX8_save_36 : decode cX8_save 36 = .ok (.iadd, 1) := by decide +kernel
theorem dX8_save_37 : decode cX8_save 37 = .ok (.aload_n 0, 1) := by decide +kernel
theorem dX8_save_38 : decode cX8_save 38 = .ok (.getfield 7, 3) := by decide +kernel
theorem dX8_save_41 : decode cX8_save 41 = .ok (.iload_n 2, 1) := by decide +kernel
theorem dX8_save_42 : decode cX8_save 42 = .ok (.iaload, 1) := by decide +kernel
theorem dX8_save_43 : decode cX8_save 43 = .ok (.iastore, 1) := by decide +kernel
theorem dX8_save_44 : decode cX8_save 44 = .ok (.iinc 2 1, 3) := by decide +kernel
theorem dX8_save_47 : decode cX8_save 47 = .ok (.goto (-28), 3) := by decide +kernel
theorem dX8_save_50 : decode cX8_save 50 = .ok (.aload_n 0, 1) := by decide +kernel
theorem dX8_save_51 : decode cX8_save 51 = .ok (.getfield 19, 3) := by decide +kernel
theorem dX8_save_54 : decode cX8_save 54 = .ok (.iload_n 1, 1) := by decide +kernel
theorem dX8_save_55 : decode cX8_save 55 = .ok (.iconst 1, 1) := by decide +kernel
theorem dX8_save_56 : decode cX8_save 56 = .ok (.bastore, 1) := by decide +kernel
theorem dX8_save_57 : decode cX8_save 57 = .ok (.aload_n 0, 1) := by decide +kernel
theorem dX8_save_58 : decode cX8_save 58 = .ok (.getfield 7, 3) := by decide +kernel
theorem dX8_save_61 : decode cX8_save 61 = .ok (.iconst 1, 1) := by decide +kernel
theorem dX8_save_62 : decode cX8_save 62 = .ok (.iaload, 1) := by decide +kernel
theorem dX8_save_63 : decode cX8_save 63 = .ok (.ireturn, 1) := by decide +kernel
theorem dX8_restore_0 : decode cX8_restore 0 = .ok (.aload_n 0, 1) := by decide +kernel
theorem dX8_restore_1 : decode cX8_restore 1 = .ok (.iconst 0, 1) := by decide +kernel
theorem dX8_restore_2 : decode cX8_restore 2 = .ok (.putfield 53, 3) := by decide +kernel
theorem dX8_restore_5 : decode cX8_restore 5 = .ok (.iload_n 1, 1) := by decide +kernel
theorem dX8_restore_6 : decode cX8_restore 6 = .ok (.iconst 0, 1) := by decide +kernel
theorem dX8_restore_7 : decode cX8_restore 7 = .ok (.iconst 1, 1) := by decide +kernel
theorem dX8_restore_8 : decode cX8_restore 8 = .ok (.invokestatic 64, 3) := by decide +kernel
theorem dX8_restore_11 : decode cX8_restore 11 = .ok (.ifCond .ne 6, 3) := by decide +kernel
theorem dX8_restore_14 : decode cX8_restore 14 = .ok (.bipush (-2), 2) := by decide +kernel
theorem dX8_restore_16 : decode cX8_restore 16 = .ok (.ireturn, 1) := by decide +kernel
theorem dX8_restore_17 : decode cX8_restore 17 = .ok (.aload_n 0, 1) := by decide +kernel
theorem dX8_restore_18 : decode cX8_restore 18 = .ok (.getfield 19, 3) := by decide +kernel
theorem dX8_restore_21 : decode cX8_restore 21 = .ok (.iload_n 1, 1) := by decide +kernel
theorem dX8_restore_22 : decode cX8_restore 22 = .ok (.baload, 1) := by decide +kernel
theorem dX8_restore_23 : decode cX8_restore 23 = .ok (.ifCond .ne 6, 3) := by decide +kernel
theorem dX8_restore_26 : decode cX8_restore 26 = .ok (.bipush (-5), 2) := by decide +kernel
theorem dX8_restore_28 : decode cX8_restore 28 = .ok (.ireturn, 1) := by decide +kernel
theorem dX8_restore_29 : decode cX8_restore 29 = .ok (.aload_n 0, 1) := by decide +kernel
theorem dX8_restore_30 : decode cX8_restore 30 = .ok (.invokevirtual 83, 3) := by decide +kernel
theorem dX8_restore_33 : decode cX8_restore 33 = .ok (.iconst 0, 1) := by decide +kernel
theorem dX8_restore_34 : decode cX8_restore 34 = .ok (.istore_n 2, 1) := by decide +kernel
theorem dX8_restore_35 : decode cX8_restore 35 = .ok (.iload_n 2, 1) := by decide +kernel
theorem dX8_restore_36 : decode cX8_restore 36 = .ok (.sipush 130, 3) := by decide +kernel
theorem dX8_restore_39 : decode cX8_restore 39 = .ok (.if_icmp .ge 27, 3) := by decide +kernel
theorem dX8_restore_42 : decode cX8_restore 42 = .ok (.aload_n 0, 1) := by decide +kernel
theorem dX8_restore_43 : decode cX8_restore 43 = .ok (.getfield 7, 3) := by decide +kernel
theorem dX8_restore_46 : decode cX8_restore 46 = .ok (.iload_n 2, 1) := by decide +kernel
theorem dX8_restore_47 : decode cX8_restore 47 = .ok (.aload_n 0, 1) := by decide +kernel
theorem dX8_restore_48 : decode cX8_restore 48 = .ok (.getfield 16, 3) := by decide +kernel
theorem dX8_restore_51 : decode cX8_restore 51 = .ok (.sipush 130, 3) := by decide +kernel
theorem dX8_restore_54 : decode cX8_restore 54 = .ok (.iload_n 1, 1) := by decide +kernel
theorem dX8_restore_55 : decode cX8_restore 55 = .ok (.imul, 1) := by decide +kernel
theorem dX8_restore_56 : decode cX8_restore 56 = .ok (.iload_n 2, 1) := by decide +kernel
theorem dX8_restore_57 : decode cX8_restore 57 = .ok (.iadd, 1) := by decide +kernel
theorem dX8_restore_58 : decode cX8_restore 58 = .ok (.iaload, 1) := by decide +kernel
theorem dX8_restore_59 : decode cX8_restore 59 = .ok (.iastore, 1) := by decide +kernel
theorem dX8_restore_60 : decode cX8_restore 60 = .ok (.iinc 2 1, 3) := by decide +kernel
theorem dX8_restore_63 : decode cX8_restore 63 = .ok (.goto (-28), 3) := by decide +kernel
theorem dX8_restore_66 : decode cX8_restore 66 = .ok (.aload_n 0, 1) := by decide +kernel
theorem dX8_restore_67 : decode cX8_restore 67 = .ok (.getfield 7, 3) := by decide +kernel
theorem dX8_restore_70 : decode cX8_restore 70 = .ok (.iconst 1, 1) := by decide +kernel
theorem dX8_restore_71 : decode cX8_restore 71 = .ok (.iaload, 1) := by decide +kernel
theorem dX8_restore_72 : decode cX8_restore 72 = .ok (.ireturn, 1) := by decide +kernel
end
section
theorem dJxe99ae_isNaN_b9ae7_0 : decode cJxe99ae_isNaN_b9ae7 0 = .ok (.dload_n 0, 1) := by decide +kernel
theorem dJxe99ae_isNaN_b9ae7_1 : decode cJxe99ae_isNaN_b9ae7 1 = .ok (.dload_n 0, 1) := by decide +kernel
theorem dJxe99ae_isNaN_b9ae7_2 : decode cJxe99ae_isNaN_b9ae7 2 = .ok (.dcmp .l, 1) := by decide +kernel
theorem dJxe99ae_isNaN_b9ae7_3 : decode cJxe99ae_isNaN_b9ae7 3 = .ok (.ifCond .eq 7, 3) := by decide +kernel
theorem dJxe99ae_isNaN_b9ae7_6 : decode cJxe99ae_isNaN_b9ae7 6 = .ok (.iconst 1, 1) := by decide +kernel
theorem dJxe99ae_isNaN_b9ae7_7 : decode cJxe99ae_isNaN_b9ae7 7 = .ok (.goto 4, 3) := by decide +kernel
theorem dJxe99ae_isNaN_b9ae7_10 : decode cJxe99ae_isNaN_b9ae7 10 = .ok (.iconst 0, 1) := by decide +kernel
theorem dJxe99ae_isNaN_b9ae7_11 : decode cJxe99ae_isNaN_b9ae7 11 = .ok (.ireturn, 1) := by decide +kernel
theorem dJxe99ae_doubleToLongBits_ccdee_0 : decode cJxe99ae_doubleToLongBits_ccdee 0 = .ok (.dload_n 0, 1) := by decide +kernel
theorem dJxe99ae_doubleToLongBits_ccdee_1 : decode cJxe99ae_doubleToLongBits_ccdee 1 = .ok (.invokestatic 122, 3) := by decide +kernel
theorem dJxe99ae_doubleToLongBits_ccdee_4 : decode cJxe99ae_doubleToLongBits_ccdee 4 = .ok (.ifCond .ne 8, 3) := by decide +kernel
theorem dJxe99ae_doubleToLongBits_ccdee_7 : decode cJxe99ae_doubleToLongBits_ccdee 7 = .ok (.dload_n 0, 1) := by decide +kernel
theorem dJxe99ae_doubleToLongBits_ccdee_8 : decode cJxe99ae_doubleToLongBits_ccdee 8 = .ok (.invokestatic 134, 3) := by decide +kernel
theorem dJxe99ae_doubleToLongBits_ccdee_11 : decode cJxe99ae_doubleToLongBits_ccdee 11 = .ok (.lreturn, 1) := by decide +kernel
theorem dJxe99ae_doubleToLongBits_ccdee_12 : decode cJxe99ae_doubleToLongBits_ccdee 12 = .ok (.ldc2_w 137, 3) := by decide +kernel
theorem dJxe99ae_doubleToLongBits_ccdee_15 : decode cJxe99ae_doubleToLongBits_ccdee 15 = .ok (.lreturn, 1) := by decide +kernel
theorem dJxf58ca_isNaN_12338_0 : decode cJxf58ca_isNaN_12338 0 = .ok (.fload_n 0, 1) := by decide +kernel
theorem dJxf58ca_isNaN_12338_1 : decode cJxf58ca_isNaN_12338 1 = .ok (.fload_n 0, 1) := by decide +kernel
theorem dJxf58ca_isNaN_12338_2 : decode cJxf58ca_isNaN_12338 2 = .ok (.fcmp .l, 1) := by decide +kernel
theorem dJxf58ca_isNaN_12338_3 : decode cJxf58ca_isNaN_12338 3 = .ok (.ifCond .eq 7, 3) := by decide +kernel
theorem dJxf58ca_isNaN_12338_6 : decode cJxf58ca_isNaN_12338 6 = .ok (.iconst 1, 1) := by decide +kernel
theorem dJxf58ca_isNaN_12338_7 : decode cJxf58ca_isNaN_12338 7 = .ok (.goto 4, 3) := by decide +kernel
theorem dJxf58ca_isNaN_12338_10 : decode cJxf58ca_isNaN_12338 10 = .ok (.iconst 0, 1) := by decide +kernel
theorem dJxf58ca_isNaN_12338_11 : decode cJxf58ca_isNaN_12338 11 = .ok (.ireturn, 1) := by decide +kernel
theorem dJxf58ca_floatToIntBits_5c35a_0 : decode cJxf58ca_floatToIntBits_5c35a 0 = .ok (.fload_n 0, 1) := by decide +kernel
theorem dJxf58ca_floatToIntBits_5c35a_1 : decode cJxf58ca_floatToIntBits_5c35a 1 = .ok (.invokestatic 59, 3) := by decide +kernel
theorem dJxf58ca_floatToIntBits_5c35a_4 : decode cJxf58ca_floatToIntBits_5c35a 4 = .ok (.ifCond .ne 8, 3) := by decide +kernel
theorem dJxf58ca_floatToIntBits_5c35a_7 : decode cJxf58ca_floatToIntBits_5c35a 7 = .ok (.fload_n 0, 1) := by decide +kernel
theorem dJxf58ca_floatToIntBits_5c35a_8 : decode cJxf58ca_floatToIntBits_5c35a 8 = .ok (.invokestatic 74, 3) := by decide +kernel
theorem dJxf58ca_floatToIntBits_5c35a_11 : decode cJxf58ca_floatToIntBits_5c35a 11 = .ok (.ireturn, 1) := by decide +kernel
theorem dJxf58ca_floatToIntBits_5c35a_12 : decode cJxf58ca_floatToIntBits_5c35a 12 = .ok (.ldc 77, 2) := by decide +kernel
theorem dJxf58ca_floatToIntBits_5c35a_14 : decode cJxf58ca_floatToIntBits_5c35a 14 = .ok (.ireturn, 1) := by decide +kernel
theorem dJ6_bitCount_0f7a4_0 : decode cJ6_bitCount_0f7a4 0 = .ok (.iload_n 0, 1) := by decide +kernel
theorem dJ6_bitCount_0f7a4_1 : decode cJ6_bitCount_0f7a4 1 = .ok (.iload_n 0, 1) := by decide +kernel
theorem dJ6_bitCount_0f7a4_2 : decode cJ6_bitCount_0f7a4 2 = .ok (.iconst 1, 1) := by decide +kernel
theorem dJ6_bitCount_0f7a4_3 : decode cJ6_bitCount_0f7a4 3 = .ok (.iushr, 1) := by decide +kernel
theorem dJ6_bitCount_0f7a4_4 : decode cJ6_bitCount_0f7a4 4 = .ok (.ldc_w 265, 3) := by decide +kernel
theorem dJ6_bitCount_0f7a4_7 : decode cJ6_bitCount_0f7a4 7 = .ok (.iand, 1) := by decide +kernel
theorem dJ6_bitCount_0f7a4_8 : decode cJ6_bitCount_0f7a4 8 = .ok (.isub, 1) := by decide +kernel
theorem dJ6_bitCount_0f7a4_9 : decode cJ6_bitCount_0f7a4 9 = .ok (.istore_n 0, 1) := by decide +kernel
theorem dJ6_bitCount_0f7a4_10 : decode cJ6_bitCount_0f7a4 10 = .ok (.iload_n 0, 1) := by decide +kernel
theorem dJ6_bitCount_0f7a4_11 : decode cJ6_bitCount_0f7a4 11 = .ok (.ldc_w 266, 3) := by decide +kernel
theorem dJ6_bitCount_0f7a4_14 : decode cJ6_bitCount_0f7a4 14 = .ok (.iand, 1) := by decide +kernel
theorem dJ6_bitCount_0f7a4_15 : decode cJ6_bitCount_0f7a4 15 = .ok (.iload_n 0, 1) := by decide +kernel
theorem dJ6_bitCount_0f7a4_16 : decode cJ6_bitCount_0f7a4 16 = .ok (.iconst 2, 1) := by decide +kernel
theorem dJ6_bitCount_0f7a4_17 : decode cJ6_bitCount_0f7a4 17 = .ok (.iushr, 1) := by decide +kernel
theorem dJ6_bitCount_0f7a4_18 : decode cJ6_bitCount_0f7a4 18 = .ok (.ldc_w 266, 3) := by decide +kernel
theorem dJ6_bitCount_0f7a4_21 : decode cJ6_bitCount_0f7a4 21 = .ok (.iand, 1) := by decide +kernel
theorem dJ6_bitCount_0f7a4_22 : decode cJ6_bitCount_0f7a4 22 = .ok (.iadd, 1) := by decide +kernel
theorem dJ6_bitCount_0f7a4_23 : decode cJ6_bitCount_0f7a4 23 = .ok (.istore_n 0, 1) := by decide +kernel
theorem dJ6_bitCount_0f7a4_24 : decode cJ6_bitCount_0f7a4 24 = .ok (.iload_n 0, 1) := by decide +kernel
theorem dJ6_bitCount_0f7a4_25 : decode cJ6_bitCount_0f7a4 25 = .ok (.iload_n 0, 1) := by decide +kernel
theorem dJ6_bitCount_0f7a4_26 : decode cJ6_bitCount_0f7a4 26 = .ok (.iconst 4, 1) := by decide +kernel
theorem dJ6_bitCount_0f7a4_27 : decode cJ6_bitCount_0f7a4 27 = .ok (.iushr, 1) := by decide +kernel
theorem dJ6_bitCount_0f7a4_28 : decode cJ6_bitCount_0f7a4 28 = .ok (.iadd, 1) := by decide +kernel
theorem dJ6_bitCount_0f7a4_29 : decode cJ6_bitCount_0f7a4 29 = .ok (.ldc_w 267, 3) := by decide +kernel
theorem dJ6_bitCount_0f7a4_32 : decode cJ6_bitCount_0f7a4 32 = .ok (.iand, 1) := by decide +kernel
theorem dJ6_bitCount_0f7a4_33 : decode cJ6_bitCount_0f7a4 33 = .ok (.istore_n 0, 1) := by decide +kernel
theorem dJ6_bitCount_0f7a4_34 : decode cJ6_bitCount_0f7a4 34 = .ok (.iload_n 0, 1) := by decide +kernel
theorem dJ6_bitCount_0f7a4_35 : decode cJ6_bitCount_0f7a4 35 = .ok (.iload_n 0, 1) := by decide +kernel
theorem dJ6_bitCount_0f7a4_36 : decode cJ6_bitCount_0f7a4 36 = .ok (.bipush 8, 2) := by decide +kernel
theorem dJ6_bitCount_0f7a4_38 : decode cJ6_bitCount_0f7a4 38 = .ok (.iushr, 1) := by decide +kernel
theorem dJ6_bitCount_0f7a4_39 : decode cJ6_bitCount_0f7a4 39 = .ok (.iadd, 1) := by decide +kernel
theorem dJ6_bitCount_0f7a4_40 : decode cJ6_bitCount_0f7a4 40 = .ok (.istore_n 0, 1) := by decide +kernel
theorem dJ6_bitCount_0f7a4_41 : decode cJ6_bitCount_0f7a4 41 = .ok (.iload_n 0, 1) := by decide +kernel
theorem dJ6_bitCount_0f7a4_42 : decode cJ6_bitCount_0f7a4 42 = .ok (.iload_n 0, 1) := by decide +kernel
theorem dJ6_bitCount_0f7a4_43 : decode cJ6_bitCount_0f7a4 43 = .ok (.bipush 16, 2) := by decide +kernel
theorem dJ6_bitCount_0f7a4_45 : decode cJ6_bitCount_0f7a4 45 = .ok (.iushr, 1) := by decide +kernel
theorem dJ6_bitCount_0f7a4_46 : decode cJ6_bitCount_0f7a4 46 = .ok (.iadd, 1) := by decide +kernel
theorem dJ6_bitCount_0f7a4_47 : decode cJ6_bitCount_0f7a4 47 = .ok (.istore_n 0, 1) := by decide +kernel
theorem dJ6_bitCount_0f7a4_48 : decode cJ6_bitCount_0f7a4 48 = .ok (.iload_n 0, 1) := by decide +kernel
theorem dJ6_bitCount_0f7a4_49 : decode cJ6_bitCount_0f7a4 49 = .ok (.bipush 63, 2) := by decide +kernel
theorem dJ6_bitCount_0f7a4_51 : decode cJ6_bitCount_0f7a4 51 = .ok (.iand, 1) := by decide +kernel
theorem dJ6_bitCount_0f7a4_52 : decode cJ6_bitCount_0f7a4 52 = .ok (.ireturn, 1) := by decide +kernel
theorem dJ9_floorMod_7cf53_0 : decode cJ9_floorMod_7cf53 0 = .ok (.iload_n 0, 1) := by decide +kernel
theorem dJ9_floorMod_7cf53_1 : decode cJ9_floorMod_7cf53 1 = .ok (.iload_n 1, 1) := by decide +kernel
theorem dJ9_floorMod_7cf53_2 : decode cJ9_floorMod_7cf53 2 = .ok (.irem, 1) := by decide +kernel
theorem dJ9_floorMod_7cf53_3 : decode cJ9_floorMod_7cf53 3 = .ok (.istore_n 2, 1) := by decide +kernel
theorem dJ9_floorMod_7cf53_4 : decode cJ9_floorMod_7cf53 4 = .ok (.iload_n 0, 1) := by decide +kernel
theorem dJ9_floorMod_7cf53_5 : decode cJ9_floorMod_7cf53 5 = .ok (.iload_n 1, 1) := by decide +kernel
theorem dJ9_floorMod_7cf53_6 : decode cJ9_floorMod_7cf53 6 = .ok (.ixor, 1) := by decide +kernel
theorem dJ9_floorMod_7cf53_7 : decode cJ9_floorMod_7cf53 7 = .ok (.ifCond .ge 11, 3) := by decide +kernel
theorem dJ9_floorMod_7cf53_10 : decode cJ9_floorMod_7cf53 10 = .ok (.iload_n 2, 1) := by decide +kernel
theorem dJ9_floorMod_7cf53_11 : decode cJ9_floorMod_7cf53 11 = .ok (.ifCond .eq 7, 3) := by decide +kernel
theorem dJ9_floorMod_7cf53_14 : decode cJ9_floorMod_7cf53 14 = .ok (.iload_n 2, 1) := by decide +kernel
theorem dJ9_floorMod_7cf53_15 : decode cJ9_floorMod_7cf53 15 = .ok (.iload_n 1, 1) := by decide +kernel
theorem dJ9_floorMod_7cf53_16 : decode cJ9_floorMod_7cf53 16 = .ok (.iadd, 1) := by decide +kernel
theorem dJ9_floorMod_7cf53_17 : decode cJ9_floorMod_7cf53 17 = .ok (.ireturn, 1) := by decide +kernel
theorem dJ9_floorMod_7cf53_18 : decode cJ9_floorMod_7cf53 18 = .ok (.iload_n 2, 1) := by decide +kernel
theorem dJ9_floorMod_7cf53_19 : decode cJ9_floorMod_7cf53 19 = .ok (.ireturn, 1) := by decide +kernel
theorem dL_law_0 : decode cL_law 0 = .ok (.new 7, 3) := by decide +kernel
theorem dL_law_3 : decode cL_law 3 = .ok (.dup, 1) := by decide +kernel
theorem dL_law_4 : decode cL_law 4 = .ok (.invokespecial 9, 3) := by decide +kernel
theorem dL_law_7 : decode cL_law 7 = .ok (.astore_n 1, 1) := by decide +kernel
theorem dL_law_8 : decode cL_law 8 = .ok (.new 10, 3) := by decide +kernel
theorem dL_law_11 : decode cL_law 11 = .ok (.dup, 1) := by decide +kernel
theorem dL_law_12 : decode cL_law 12 = .ok (.invokespecial 12, 3) := by decide +kernel
theorem dL_law_15 : decode cL_law 15 = .ok (.astore_n 2, 1) := by decide +kernel
theorem dL_law_16 : decode cL_law 16 = .ok (.iconst 0, 1) := by decide +kernel
theorem dL_law_17 : decode cL_law 17 = .ok (.istore_n 3, 1) := by decide +kernel
theorem dL_law_18 : decode cL_law 18 = .ok (.iload_n 3, 1) := by decide +kernel
theorem dL_law_19 : decode cL_law 19 = .ok (.aload_n 0, 1) := by decide +kernel
theorem dL_law_20 : decode cL_law 20 = .ok (.arraylength, 1) := by decide +kernel
theorem dL_law_21 : decode cL_law 21 = .ok (.iconst 4, 1) := by decide +kernel
theorem dL_law_22 : decode cL_law 22 = .ok (.isub, 1) := by decide +kernel
theorem dL_law_23 : decode cL_law 23 = .ok (.if_icmp .gt 880, 3) := by decide +kernel
theorem dL_law_26 : decode cL_law 26 = .ok (.aload_n 0, 1) := by decide +kernel
theorem dL_law_27 : decode cL_law 27 = .ok (.iload_n 3, 1) := by decide +kernel
theorem dL_law_28 : decode cL_law 28 = .ok (.iaload, 1) := by decide +kernel
theorem dL_law_29 : decode cL_law 29 = .ok (.bipush 31, 2) := by decide +kernel
theorem dL_law_31 : decode cL_law 31 = .ok (.iand, 1) := by decide +kernel
theorem dL_law_32 : decode cL_law 32 = .ok (.tableswitch 865 0 30 #[140, 163, 176, 209, 242, 255, 278, 301, 324, 347, 360, 373, 396, 419, 452, 495, 519, 552, 575, 589, 602, 645, 678, 701, 714, 727, 780, 793, 806, 819, 842], 140) := by decide +kernel
theorem dL_law_172 : decode cL_law 172 = .ok (.aload_n 1, 1) := by decide +kernel
theorem dL_law_173 : decode cL_law 173 = .ok (.aload_n 0, 1) := by decide +kernel
theorem dL_law_174 : decode cL_law 174 = .ok (.iload_n 3, 1) := by decide +kernel
theorem dL_law_175 : decode cL_law 175 = .ok (.iconst 1, 1) := by decide +kernel
theorem dL_law_176 : decode cL_law 176 = .ok (.iadd, 1) := by decide +kernel
theorem dL_law_177 : decode cL_law 177 = .ok (.iaload, 1) := by decide +kernel
theorem dL_law_178 : decode cL_law 178 = .ok (.invokevirtual 13, 3) := by decide +kernel
theorem dL_law_181 : decode cL_law 181 = .ok (.aload_n 2, 1) := by decide +kernel
theorem dL_law_182 : decode cL_law 182 = .ok (.aload_n 0, 1) := by decide +kernel
theorem dL_law_183 : decode cL_law 183 = .ok (.iload_n 3, 1) := by decide +kernel
theorem dL_law_184 : decode cL_law 184 = .ok (.iconst 1, 1) := by decide +kernel
theorem dL_law_185 : decode cL_law 185 = .ok (.iadd, 1) := by decide +kernel
theorem dL_law_186 : decode cL_law 186 = .ok (.iaload, 1) := by decide +kernel
theorem dL_law_187 : decode cL_law 187 = .ok (.invokevirtual 17, 3) := by decide +kernel
theorem dL_law_190 : decode cL_law 190 = .ok (.if_icmp .eq 707, 3) := by decide +kernel
theorem dL_law_193 : decode cL_law 193 = .ok (.iconst 0, 1) := by decide +kernel
theorem dL_law_194 : decode cL_law 194 = .ok (.ireturn, 1) := by decide +kernel
theorem dL_law_195 : decode cL_law 195 = .ok (.aload_n 1, 1) := by decide +kernel
theorem dL_law_196 : decode cL_law 196 = .ok (.invokevirtual 18, 3) := by decide +kernel
theorem dL_law_199 : decode cL_law 199 = .ok (.aload_n 2, 1) := by decide +kernel
theorem dL_law_200 : decode cL_law 200 = .ok (.invokevirtual 22, 3) := by decide +kernel
theorem dL_law_203 : decode cL_law 203 = .ok (.if_icmp .eq 694, 3) := by decide +kernel
theorem dL_law_206 : decode cL_law 206 = .ok (.iconst 0, 1) := by decide +kernel
theorem dL_law_207 : decode cL_law 207 = .ok (.ireturn, 1) := by decide +kernel
theorem dL_law_208 : decode cL_law 208 = .ok (.aload_n 1, 1) := by decide +kernel
theorem dL_law_209 : decode cL_law 209 = .ok (.aload_n 0, 1) := by decide +kernel
theorem dL_law_210 : decode cL_law 210 = .ok (.iload_n 3, 1) := by decide +kernel
theorem dL_law_211 : decode cL_law 211 = .ok (.iconst 1, 1) := by decide +kernel
theorem dL_law_212 : decode cL_law 212 = .ok (.iadd, 1) := by decide +kernel
theorem dL_law_213 : decode cL_law 213 = .ok (.iaload, 1) := by decide +kernel
theorem dL_law_214 : decode cL_law 214 = .ok (.aload_n 0, 1) := by decide +kernel
theorem dL_law_215 : decode cL_law 215 = .ok (.iload_n 3, 1) := by decide +kernel
theorem dL_law_216 : decode cL_law 216 = .ok (.iconst 2, 1) := by decide +kernel
theorem dL_law_217 : decode cL_law 217 = .ok (.iadd, 1) := by decide +kernel
theorem dL_law_218 : decode cL_law 218 = .ok (.iaload, 1) := by decide +kernel
theorem dL_law_219 : decode cL_law 219 = .ok (.invokevirtual 23, 3) := by decide +kernel
theorem dL_law_222 : decode cL_law 222 = .ok (.aload_n 2, 1) := by decide +kernel
theorem dL_law_223 : decode cL_law 223 = .ok (.aload_n 0, 1) := by decide +kernel
theorem dL_law_224 : decode cL_law 224 = .ok (.iload_n 3, 1) := by decide +kernel
theorem dL_law_225 : decode cL_law 225 = .ok (.iconst 1, 1) := by decide +kernel
theorem dL_law_226 : decode cL_law 226 = .ok (.iadd, 1) := by decide +kernel
theorem dL_law_227 : decode cL_law 227 = .ok (.iaload, 1) := by decide +kernel
theorem dL_law_228 : decode cL_law 228 = .ok (.aload_n 0, 1) := by decide +kernel
theorem dL_law_229 : decode cL_law 229 = .ok (.iload_n 3, 1) := by decide +kernel
theorem dL_law_230 : decode cL_law 230 = .ok (.iconst 2, 1) := by decide +kernel
theorem dL_law_231 : decode cL_law 231 = .ok (.iadd, 1) := by decide +kernel
theorem dL_law_232 : decode cL_law 232 = .ok (.iaload, 1) := by decide +kernel
theorem dL_law_233 : decode cL_law 233 = .ok (.invokevirtual 27, 3) := by decide +kernel
theorem dL_law_236 : decode cL_law 236 = .ok (.if_icmp .eq 661, 3) := by decide +kernel
theorem dL_law_239 : decode cL_law 239 = .ok (.iconst 0, 1) := by decide +kernel
theorem dL_law_240 : decode cL_law 240 = .ok (.ireturn, 1) := by decide +kernel
theorem dL_law_241 : decode cL_law 241 = .ok (.aload_n 1, 1) := by decide +kernel
theorem dL_law_242 : decode cL_law 242 = .ok (.aload_n 0, 1) := by decide +kernel
theorem dL_law_243 : decode cL_law 243 = .ok (.iload_n 3, 1) := by decide +kernel
theorem dL_law_244 : decode cL_law 244 = .ok (.iconst 1, 1) := by decide +kernel
theorem dL_law_245 : decode cL_law 245 = .ok (.iadd, 1) := by decide +kernel
theorem dL_law_246 : decode cL_law 246 = .ok (.iaload, 1) := by decide +kernel
theorem dL_law_247 : decode cL_law 247 = .ok (.aload_n 0, 1) := by decide +kernel
theorem dL_law_248 : decode cL_law 248 = .ok (.iload_n 3, 1) := by decide +kernel
theorem dL_law_249 : decode cL_law 249 = .ok (.iconst 2, 1) := by decide +kernel
theorem dL_law_250 : decode cL_law 250 = .ok (.iadd, 1) := by decide +kernel
theorem dL_law_251 : decode cL_law 251 = .ok (.iaload, 1) := by decide +kernel
theorem dL_law_252 : decode cL_law 252 = .ok (.invokevirtual 28, 3) := by decide +kernel
theorem dL_law_255 : decode cL_law 255 = .ok (.aload_n 2, 1) := by decide +kernel
theorem dL_law_256 : decode cL_law 256 = .ok (.aload_n 0, 1) := by decide +kernel
theorem dL_law_257 : decode cL_law 257 = .ok (.iload_n 3, 1) := by decide +kernel
theorem dL_law_258 : decode cL_law 258 = .ok (.iconst 1, 1) := by decide +kernel
theorem dL_law_259 : decode cL_law 259 = .ok (.iadd, 1) := by decide +kernel
theorem dL_law_260 : decode cL_law 260 = .ok (.iaload, 1) := by decide +kernel
theorem dL_law_261 : decode cL_law 261 = .ok (.aload_n 0, 1) := by decide +kernel
theorem dL_law_262 : decode cL_law 262 = .ok (.iload_n 3, 1) := by decide +kernel
theorem dL_law_263 : decode cL_law 263 = .ok (.iconst 2, 1) := by decide +kernel
theorem dL_law_264 : decode cL_law 264 = .ok (.iadd, 1) := by decide +kernel
theorem dL_law_265 : decode cL_law 265 = .ok (.iaload, 1) := by decide +kernel
theorem dL_law_266 : decode cL_law 266 = .ok (.invokevirtual 31, 3) := by decide +kernel
theorem dL_law_269 : decode cL_law 269 = .ok (.if_icmp .eq 628, 3) := by decide +kernel
theorem dL_law_272 : decode cL_law 272 = .ok (.iconst 0, 1) := by decide +kernel
theorem dL_law_273 : decode cL_law 273 = .ok (.ireturn, 1) := by decide +kernel
theorem dL_law_274 : decode cL_law 274 = .ok (.aload_n 1, 1) := by decide +kernel
theorem dL_law_275 : decode cL_law 275 = .ok (.invokevirtual 32, 3) := by decide +kernel
theorem dL_law_278 : decode cL_law 278 = .ok (.aload_n 2, 1) := by decide +kernel
theorem dL_law_279 : decode cL_law 279 = .ok (.invokevirtual 35, 3) := by decide +kernel
theorem dL_law_282 : decode cL_law 282 = .ok (.if_icmp .eq 615, 3) := by decide +kernel
theorem dL_law_285 : decode cL_law 285 = .ok (.iconst 0, 1) := by decide +kernel
theorem dL_law_286 : decode cL_law 286 = .ok (.ireturn, 1) := by decide +kernel
theorem dL_law_287 : decode cL_law 287 = .ok (.aload_n 1, 1) := by decide +kernel
theorem dL_law_288 : decode cL_law 288 = .ok (.aload_n 0, 1) := by decide +kernel
theorem dL_law_289 : decode cL_law 289 = .ok (.iload_n 3, 1) := by decide +kernel
theorem dL_law_290 : decode cL_law 290 = .ok (.iconst 1, 1) := by decide +kernel
theorem dL_law_291 : decode cL_law 291 = .ok (.iadd, 1) := by decide +kernel
theorem dL_law_292 : decode cL_law 292 = .ok (.iaload, 1) := by decide +kernel
theorem dL_law_293 : decode cL_law 293 = .ok (.invokevirtual 36, 3) := by decide +kernel
theorem dL_law_296 : decode cL_law 296 = .ok (.aload_n 2, 1) := by decide +kernel
theorem dL_law_297 : decode cL_law 297 = .ok (.aload_n 0, 1) := by decide +kernel
theorem dL_law_298 : decode cL_law 298 = .ok (.iload_n 3, 1) := by decide +kernel
theorem dL_law_299 : decode cL_law 299 = .ok (.iconst 1, 1) := by decide +kernel
theorem dL_law_300 : decode cL_law 300 = .ok (.iadd, 1) := by decide +kernel
theorem dL_law_301 : decode cL_law 301 = .ok (.iaload, 1) := by decide +kernel
theorem dL_law_302 : decode cL_law 302 = .ok (.invokevirtual 39, 3) := by decide +kernel
theorem dL_law_305 : decode cL_law 305 = .ok (.if_icmp .eq 592, 3) := by decide +kernel
theorem dL_law_308 : decode cL_law 308 = .ok (.iconst 0, 1) := by decide +kernel
theorem dL_law_309 : decode cL_law 309 = .ok (.ireturn, 1) := by decide +kernel
theorem dL_law_310 : decode cL_law 310 = .ok (.aload_n 1, 1) := by decide +kernel
theorem dL_law_311 : decode cL_law 311 = .ok (.aload_n 0, 1) := by decide +kernel
theorem dL_law_312 : decode cL_law 312 = .ok (.iload_n 3, 1) := by decide +kernel
theorem dL_law_313 : decode cL_law 313 = .ok (.iconst 1, 1) := by decide +kernel
theorem dL_law_314 : decode cL_law 314 = .ok (.iadd, 1) := by decide +kernel
theorem dL_law_315 : decode cL_law 315 = .ok (.iaload, 1) := by decide +kernel
theorem dL_law_316 : decode cL_law 316 = .ok (.invokevirtual 40, 3) := by decide +kernel
theorem dL_law_319 : decode cL_law 319 = .ok (.aload_n 2, 1) := by decide +kernel
theorem dL_law_320 : decode cL_law 320 = .ok (.aload_n 0, 1) := by decide +kernel
theorem dL_law_321 : decode cL_law 321 = .ok (.iload_n 3, 1) := by decide +kernel
theorem dL_law_322 : decode cL_law 322 = .ok (.iconst 1, 1) := by decide +kernel
theorem dL_law_323 : decode cL_law 323 = .ok (.iadd, 1) := by decide +kernel
theorem dL_law_324 : decode cL_law 324 = .ok (.iaload, 1) := by decide +kernel
theorem dL_law_325 : decode cL_law 325 = .ok (.invokevirtual 43, 3) := by decide +kernel
theorem dL_law_328 : decode cL_law 328 = .ok (.if_icmp .eq 569, 3) := by decide +kernel
theorem dL_law_331 : decode cL_law 331 = .ok (.iconst 0, 1) := by decide +kernel
theorem dL_law_332 : decode cL_law 332 = .ok (.ireturn, 1) := by decide +kernel
theorem dL_law_333 : decode cL_law 333 = .ok (.aload_n 1, 1) := by decide +kernel
theorem dL_law_334 : decode cL_law 334 = .ok (.aload_n 0, 1) := by decide +kernel
theorem dL_law_335 : decode cL_law 335 = .ok (.iload_n 3, 1) := by decide +kernel
theorem dL_law_336 : decode cL_law 336 = .ok (.iconst 1, 1) := by decide +kernel
theorem dL_law_337 : decode cL_law 337 = .ok (.iadd, 1) := by decide +kernel
theorem dL_law_338 : decode cL_law 338 = .ok (.iaload, 1) := by decide +kernel
theorem dL_law_339 : decode cL_law 339 = .ok (.invokevirtual 44, 3) := by decide +kernel
theorem dL_law_342 : decode cL_law 342 = .ok (.aload_n 2, 1) := by decide +kernel
theorem dL_law_343 : decode cL_law 343 = .ok (.aload_n 0, 1) := by decide +kernel
theorem dL_law_344 : decode cL_law 344 = .ok (.iload_n 3, 1) := by decide +kernel
theorem dL_law_345 : decode cL_law 345 = .ok (.iconst 1, 1) := by decide +kernel
theorem dL_law_346 : decode cL_law 346 = .ok (.iadd, 1) := by decide +kernel
theorem dL_law_347 : decode cL_law 347 = .ok (.iaload, 1) := by decide +kernel
theorem dL_law_348 : decode cL_law 348 = .ok (.invokevirtual 47, 3) := by decide +kernel
theorem dL_law_351 : decode cL_law 351 = .ok (.if_icmp .eq 546, 3) := by decide +kernel
theorem dL_law_354 : decode cL_law 354 = .ok (.iconst 0, 1) := by decide +kernel
theorem dL_law_355 : decode cL_law 355 = .ok (.ireturn, 1) := by decide +kernel
theorem dL_law_356 : decode cL_law 356 = .ok (.aload_n 1, 1) := by decide +kernel
theorem dL_law_357 : decode cL_law 357 = .ok (.aload_n 0, 1) := by decide +kernel
theorem dL_law_358 : decode cL_law 358 = .ok (.iload_n 3, 1) := by decide +kernel
theorem dL_law_359 : decode cL_law 359 = .ok (.iconst 1, 1) := by decide +kernel
theorem dL_law_360 : decode cL_law 360 = .ok (.iadd, 1) := by decide +kernel
theorem dL_law_361 : decode cL_law 361 = .ok (.iaload, 1) := by decide +kernel
theorem dL_law_362 : decode cL_law 362 = .ok (.invokevirtual 48, 3) := by decide +kernel
theorem dL_law_365 : decode cL_law 365 = .ok (.aload_n 2, 1) := by decide +kernel
theorem dL_law_366 : decode cL_law 366 = .ok (.aload_n 0, 1) := by decide +kernel
theorem dL_law_367 : decode cL_law 367 = .ok (.iload_n 3, 1) := by decide +kernel
theorem dL_law_368 : decode cL_law 368 = .ok (.iconst 1, 1) := by decide +kernel
theorem dL_law_369 : decode cL_law 369 = .ok (.iadd, 1) := by decide +kernel
theorem dL_law_370 : decode cL_law 370 = .ok (.iaload, 1) := by decide +kernel
theorem dL_law_371 : decode cL_law 371 = .ok (.invokevirtual 51, 3) := by decide +kernel
theorem dL_law_374 : decode cL_law 374 = .ok (.if_icmp .eq 523, 3) := by decide +kernel
theorem dL_law_377 : decode cL_law 377 = .ok (.iconst 0, 1) := by decide +kernel
theorem dL_law_378 : decode cL_law 378 = .ok (.ireturn, 1) := by decide +kernel
theorem dL_law_379 : decode cL_law 379 = .ok (.aload_n 1, 1) := by decide +kernel
theorem dL_law_380 : decode cL_law 380 = .ok (.invokevirtual 52, 3) := by decide +kernel
theorem dL_law_383 : decode cL_law 383 = .ok (.aload_n 2, 1) := by decide +kernel
theorem dL_law_384 : decode cL_law 384 = .ok (.invokevirtual 55, 3) := by decide +kernel
theorem dL_law_387 : decode cL_law 387 = .ok (.if_icmp .eq 510, 3) := by decide +kernel
theorem dL_law_390 : decode cL_law 390 = .ok (.iconst 0, 1) := by decide +kernel
theorem dL_law_391 : decode cL_law 391 = .ok (.ireturn, 1) := by decide +kernel
theorem dL_law_392 : decode cL_law 392 = .ok (.aload_n 1, 1) := by decide +kernel
theorem dL_law_393 : decode cL_law 393 = .ok (.invokevirtual 56, 3) := by decide +kernel
theorem dL_law_396 : decode cL_law 396 = .ok (.aload_n 2, 1) := by decide +kernel
theorem dL_law_397 : decode cL_law 397 = .ok (.invokevirtual 59, 3) := by decide +kernel
theorem dL_law_400 : decode cL_law 400 = .ok (.if_icmp .eq 497, 3) := by decide +kernel
theorem dL_law_403 : decode cL_law 403 = .ok (.iconst 0, 1) := by decide +kernel
theorem dL_law_404 : decode cL_law 404 = .ok (.ireturn, 1) := by decide +kernel
theorem dL_law_405 : decode cL_law 405 = .ok (.aload_n 1, 1) := by decide +kernel
theorem dL_law_406 : decode cL_law 406 = .ok (.aload_n 0, 1) := by decide +kernel
theorem dL_law_407 : decode cL_law 407 = .ok (.iload_n 3, 1) := by decide +kernel
theorem dL_law_408 : decode cL_law 408 = .ok (.iconst 1, 1) := by decide +kernel
theorem dL_law_409 : decode cL_law 409 = .ok (.iadd, 1) := by decide +kernel
theorem dL_law_410 : decode cL_law 410 = .ok (.iaload, 1) := by decide +kernel
theorem dL_law_411 : decode cL_law 411 = .ok (.invokevirtual 60, 3) := by decide +kernel
theorem dL_law_414 : decode cL_law 414 = .ok (.aload_n 2, 1) := by decide +kernel
theorem dL_law_415 : decode cL_law 415 = .ok (.aload_n 0, 1) := by decide +kernel
theorem dL_law_416 : decode cL_law 416 = .ok (.iload_n 3, 1) := by decide +kernel
theorem dL_law_417 : decode cL_law 417 = .ok (.iconst 1, 1) := by decide +kernel
theorem dL_law_418 : decode cL_law 418 = .ok (.iadd, 1) := by decide +kernel
theorem dL_law_419 : decode cL_law 419 = .ok (.iaload, 1) := by decide +kernel
theorem dL_law_420 : decode cL_law 420 = .ok (.invokevirtual 63, 3) := by decide +kernel
theorem dL_law_423 : decode cL_law 423 = .ok (.if_icmp .eq 474, 3) := by decide +kernel
theorem dL_law_426 : decode cL_law 426 = .ok (.iconst 0, 1) := by decide +kernel
theorem dL_law_427 : decode cL_law 427 = .ok (.ireturn, 1) := by decide +kernel
theorem dL_law_428 : decode cL_law 428 = .ok (.aload_n 1, 1) := by decide +kernel
theorem dL_law_429 : decode cL_law 429 = .ok (.aload_n 0, 1) := by decide +kernel
theorem dL_law_430 : decode cL_law 430 = .ok (.iload_n 3, 1) := by decide +kernel
theorem dL_law_431 : decode cL_law 431 = .ok (.iconst 1, 1) := by decide +kernel
theorem dL_law_432 : decode cL_law 432 = .ok (.iadd, 1) := by decide +kernel
theorem dL_law_433 : decode cL_law 433 = .ok (.iaload, 1) := by decide +kernel
theorem dL_law_434 : decode cL_law 434 = .ok (.invokevirtual 64, 3) := by decide +kernel
theorem dL_law_437 : decode cL_law 437 = .ok (.aload_n 2, 1) := by decide +kernel
theorem dL_law_438 : decode cL_law 438 = .ok (.aload_n 0, 1) := by decide +kernel
theorem dL_law_439 : decode cL_law 439 = .ok (.iload_n 3, 1) := by decide +kernel
theorem dL_law_440 : decode cL_law 440 = .ok (.iconst 1, 1) := by decide +kernel
theorem dL_law_441 : decode cL_law 441 = .ok (.iadd, 1) := by decide +kernel
theorem dL_law_442 : decode cL_law 442 = .ok (.iaload, 1) := by decide +kernel
theorem dL_law_443 : decode cL_law 443 = .ok (.invokevirtual 67, 3) := by decide +kernel
theorem dL_law_446 : decode cL_law 446 = .ok (.if_icmp .eq 451, 3) := by decide +kernel
theorem dL_law_449 : decode cL_law 449 = .ok (.iconst 0, 1) := by decide +kernel
theorem dL_law_450 : decode cL_law 450 = .ok (.ireturn, 1) := by decide +kernel
theorem dL_law_451 : decode cL_law 451 = .ok (.aload_n 1, 1) := by decide +kernel
theorem dL_law_452 : decode cL_law 452 = .ok (.aload_n 0, 1) := by decide +kernel
theorem dL_law_453 : decode cL_law 453 = .ok (.iload_n 3, 1) := by decide +kernel
theorem dL_law_454 : decode cL_law 454 = .ok (.iconst 1, 1) := by decide +kernel
theorem dL_law_455 : decode cL_law 455 = .ok (.iadd, 1) := by decide +kernel
theorem dL_law_456 : decode cL_law 456 = .ok (.iaload, 1) := by decide +kernel
theorem dL_law_457 : decode cL_law 457 = .ok (.aload_n 0, 1) := by decide +kernel
theorem dL_law_458 : decode cL_law 458 = .ok (.iload_n 3, 1) := by decide +kernel
theorem dL_law_459 : decode cL_law 459 = .ok (.iconst 2, 1) := by decide +kernel
theorem dL_law_460 : decode cL_law 460 = .ok (.iadd, 1) := by decide +kernel
theorem dL_law_461 : decode cL_law 461 = .ok (.iaload, 1) := by decide +kernel
theorem dL_law_462 : decode cL_law 462 = .ok (.invokevirtual 68, 3) := by decide +kernel
theorem dL_law_465 : decode cL_law 465 = .ok (.aload_n 2, 1) := by decide +kernel
theorem dL_law_466 : decode cL_law 466 = .ok (.aload_n 0, 1) := by decide +kernel
theorem dL_law_467 : decode cL_law 467 = .ok (.iload_n 3, 1) := by decide +kernel
theorem dL_law_468 : decode cL_law 468 = .ok (.iconst 1, 1) := by decide +kernel
theorem dL_law_469 : decode cL_law 469 = .ok (.iadd, 1) := by decide +kernel
theorem dL_law_470 : decode cL_law 470 = .ok (.iaload, 1) := by decide +kernel
theorem dL_law_471 : decode cL_law 471 = .ok (.aload_n 0, 1) := by decide +kernel
theorem dL_law_472 : decode cL_law 472 = .ok (.iload_n 3, 1) := by decide +kernel
theorem dL_law_473 : decode cL_law 473 = .ok (.iconst 2, 1) := by decide +kernel
theorem dL_law_474 : decode cL_law 474 = .ok (.iadd, 1) := by decide +kernel
theorem dL_law_475 : decode cL_law 475 = .ok (.iaload, 1) := by decide +kernel
theorem dL_law_476 : decode cL_law 476 = .ok (.invokevirtual 71, 3) := by decide +kernel
theorem dL_law_479 : decode cL_law 479 = .ok (.if_icmp .eq 418, 3) := by decide +kernel
theorem dL_law_482 : decode cL_law 482 = .ok (.iconst 0, 1) := by decide +kernel
theorem dL_law_483 : decode cL_law 483 = .ok (.ireturn, 1) := by decide +kernel
theorem dL_law_484 : decode cL_law 484 = .ok (.aload_n 1, 1) := by decide +kernel
theorem dL_law_485 : decode cL_law 485 = .ok (.aload_n 0, 1) := by decide +kernel
theorem dL_law_486 : decode cL_law 486 = .ok (.iload_n 3, 1) := by decide +kernel
theorem dL_law_487 : decode cL_law 487 = .ok (.iconst 1, 1) := by decide +kernel
theorem dL_law_488 : decode cL_law 488 = .ok (.iadd, 1) := by decide +kernel
theorem dL_law_489 : decode cL_law 489 = .ok (.iaload, 1) := by decide +kernel
theorem dL_law_490 : decode cL_law 490 = .ok (.aload_n 0, 1) := by decide +kernel
theorem dL_law_491 : decode cL_law 491 = .ok (.iload_n 3, 1) := by decide +kernel
theorem dL_law_492 : decode cL_law 492 = .ok (.iconst 2, 1) := by decide +kernel
theorem dL_law_493 : decode cL_law 493 = .ok (.iadd, 1) := by decide +kernel
theorem dL_law_494 : decode cL_law 494 = .ok (.iaload, 1) := by decide +kernel
theorem dL_law_495 : decode cL_law 495 = .ok (.aload_n 0, 1) := by decide +kernel
theorem dL_law_496 : decode cL_law 496 = .ok (.iload_n 3, 1) := by decide +kernel
theorem dL_law_497 : decode cL_law 497 = .ok (.iconst 3, 1) := by decide +kernel
theorem dL_law_498 : decode cL_law 498 = .ok (.iadd, 1) := by decide +kernel
theorem dL_law_499 : decode cL_law 499 = .ok (.iaload, 1) := by decide +kernel
theorem dL_law_500 : decode cL_law 500 = .ok (.invokevirtual 72, 3) := by decide +kernel
theorem dL_law_503 : decode cL_law 503 = .ok (.aload_n 2, 1) := by decide +kernel
theorem dL_law_504 : decode cL_law 504 = .ok (.aload_n 0, 1) := by decide +kernel
theorem dL_law_505 : decode cL_law 505 = .ok (.iload_n 3, 1) := by decide +kernel
theorem dL_law_506 : decode cL_law 506 = .ok (.iconst 1, 1) := by decide +kernel
theorem dL_law_507 : decode cL_law 507 = .ok (.iadd, 1) := by decide +kernel
theorem dL_law_508 : decode cL_law 508 = .ok (.iaload, 1) := by decide +kernel
theorem dL_law_509 : decode cL_law 509 = .ok (.aload_n 0, 1) := by decide +kernel
theorem dL_law_510 : decode cL_law 510 = .ok (.iload_n 3, 1) := by decide +kernel
theorem dL_law_511 : decode cL_law 511 = .ok (.iconst 2, 1) := by decide +kernel
theorem dL_law_512 : decode cL_law 512 = .ok (.iadd, 1) := by decide +kernel
theorem dL_law_513 : decode cL_law 513 = .ok (.iaload, 1) := by decide +kernel
theorem dL_law_514 : decode cL_law 514 = .ok (.aload_n 0, 1) := by decide +kernel
theorem dL_law_515 : decode cL_law 515 = .ok (.iload_n 3, 1) := by decide +kernel
theorem dL_law_516 : decode cL_law 516 = .ok (.iconst 3, 1) := by decide +kernel
theorem dL_law_517 : decode cL_law 517 = .ok (.iadd, 1) := by decide +kernel
theorem dL_law_518 : decode cL_law 518 = .ok (.iaload, 1) := by decide +kernel
theorem dL_law_519 : decode cL_law 519 = .ok (.invokevirtual 76, 3) := by decide +kernel
theorem dL_law_522 : decode cL_law 522 = .ok (.if_icmp .eq 375, 3) := by decide +kernel
theorem dL_law_525 : decode cL_law 525 = .ok (.iconst 0, 1) := by decide +kernel
theorem dL_law_526 : decode cL_law 526 = .ok (.ireturn, 1) := by decide +kernel
theorem dL_law_527 : decode cL_law 527 = .ok (.aload_n 1, 1) := by decide +kernel
theorem dL_law_528 : decode cL_law 528 = .ok (.aload_n 0, 1) := by decide +kernel
theorem dL_law_529 : decode cL_law 529 = .ok (.iload_n 3, 1) := by decide +kernel
theorem dL_law_530 : decode cL_law 530 = .ok (.iconst 1, 1) := by decide +kernel
theorem dL_law_531 : decode cL_law 531 = .ok (.iadd, 1) := by decide +kernel
theorem dL_law_532 : decode cL_law 532 = .ok (.iaload, 1) := by decide +kernel
theorem dL_law_533 : decode cL_law 533 = .ok (.invokevirtual 77, 3) := by decide +kernel
theorem dL_law_536 : decode cL_law 536 = .ok (.aload_n 2, 1) := by decide +kernel
theorem dL_law_537 : decode cL_law 537 = .ok (.aload_n 0, 1) := by decide +kernel
theorem dL_law_538 : decode cL_law 538 = .ok (.iload_n 3, 1) := by decide +kernel
theorem dL_law_539 : decode cL_law 539 = .ok (.iconst 1, 1) := by decide +kernel
theorem dL_law_540 : decode cL_law 540 = .ok (.iadd, 1) := by decide +kernel
theorem dL_law_541 : decode cL_law 541 = .ok (.iaload, 1) := by decide +kernel
theorem dL_law_542 : decode cL_law 542 = .ok (.invokevirtual 81, 3) := by decide +kernel
theorem dL_law_545 : decode cL_law 545 = .ok (.lcmp, 1) := by decide +kernel
theorem dL_law_546 : decode cL_law 546 = .ok (.ifCond .eq 351, 3) := by decide +kernel
theorem dL_law_549 : decode cL_law 549 = .ok (.iconst 0, 1) := by decide +kernel
theorem dL_law_550 : decode cL_law 550 = .ok (.ireturn, 1) := by decide +kernel
theorem dL_law_551 : decode cL_law 551 = .ok (.aload_n 1, 1) := by decide +kernel
theorem dL_law_552 : decode cL_law 552 = .ok (.aload_n 0, 1) := by decide +kernel
theorem dL_law_553 : decode cL_law 553 = .ok (.iload_n 3, 1) := by decide +kernel
theorem dL_law_554 : decode cL_law 554 = .ok (.iconst 1, 1) := by decide +kernel
theorem dL_law_555 : decode cL_law 555 = .ok (.iadd, 1) := by decide +kernel
theorem dL_law_556 : decode cL_law 556 = .ok (.iaload, 1) := by decide +kernel
theorem dL_law_557 : decode cL_law 557 = .ok (.aload_n 0, 1) := by decide +kernel
theorem dL_law_558 : decode cL_law 558 = .ok (.iload_n 3, 1) := by decide +kernel
theorem dL_law_559 : decode cL_law 559 = .ok (.iconst 2, 1) := by decide +kernel
theorem dL_law_560 : decode cL_law 560 = .ok (.iadd, 1) := by decide +kernel
theorem dL_law_561 : decode cL_law 561 = .ok (.iaload, 1) := by decide +kernel
theorem dL_law_562 : decode cL_law 562 = .ok (.invokevirtual 82, 3) := by decide +kernel
theorem dL_law_565 : decode cL_law 565 = .ok (.aload_n 2, 1) := by decide +kernel
theorem dL_law_566 : decode cL_law 566 = .ok (.aload_n 0, 1) := by decide +kernel
theorem dL_law_567 : decode cL_law 567 = .ok (.iload_n 3, 1) := by decide +kernel
theorem dL_law_568 : decode cL_law 568 = .ok (.iconst 1, 1) := by decide +kernel
theorem dL_law_569 : decode cL_law 569 = .ok (.iadd, 1) := by decide +kernel
theorem dL_law_570 : decode cL_law 570 = .ok (.iaload, 1) := by decide +kernel
theorem dL_law_571 : decode cL_law 571 = .ok (.aload_n 0, 1) := by decide +kernel
theorem dL_law_572 : decode cL_law 572 = .ok (.iload_n 3, 1) := by decide +kernel
theorem dL_law_573 : decode cL_law 573 = .ok (.iconst 2, 1) := by decide +kernel
theorem dL_law_574 : decode cL_law 574 = .ok (.iadd, 1) := by decide +kernel
theorem dL_law_575 : decode cL_law 575 = .ok (.iaload, 1) := by decide +kernel
theorem dL_law_576 : decode cL_law 576 = .ok (.invokevirtual 85, 3) := by decide +kernel
theorem dL_law_579 : decode cL_law 579 = .ok (.if_icmp .eq 318, 3) := by decide +kernel
theorem dL_law_582 : decode cL_law 582 = .ok (.iconst 0, 1) := by decide +kernel
theorem dL_law_583 : decode cL_law 583 = .ok (.ireturn, 1) := by decide +kernel
theorem dL_law_584 : decode cL_law 584 = .ok (.aload_n 1, 1) := by decide +kernel
theorem dL_law_585 : decode cL_law 585 = .ok (.aload_n 0, 1) := by decide +kernel
theorem dL_law_586 : decode cL_law 586 = .ok (.iload_n 3, 1) := by decide +kernel
theorem dL_law_587 : decode cL_law 587 = .ok (.iconst 1, 1) := by decide +kernel
theorem dL_law_588 : decode cL_law 588 = .ok (.iadd, 1) := by decide +kernel
theorem dL_law_589 : decode cL_law 589 = .ok (.iaload, 1) := by decide +kernel
theorem dL_law_590 : decode cL_law 590 = .ok (.invokevirtual 86, 3) := by decide +kernel
theorem dL_law_593 : decode cL_law 593 = .ok (.aload_n 2, 1) := by decide +kernel
theorem dL_law_594 : decode cL_law 594 = .ok (.aload_n 0, 1) := by decide +kernel
theorem dL_law_595 : decode cL_law 595 = .ok (.iload_n 3, 1) := by decide +kernel
theorem dL_law_596 : decode cL_law 596 = .ok (.iconst 1, 1) := by decide +kernel
theorem dL_law_597 : decode cL_law 597 = .ok (.iadd, 1) := by decide +kernel
theorem dL_law_598 : decode cL_law 598 = .ok (.iaload, 1) := by decide +kernel
theorem dL_law_599 : decode cL_law 599 = .ok (.invokevirtual 89, 3) := by decide +kernel
theorem dL_law_602 : decode cL_law 602 = .ok (.if_icmp .eq 295, 3) := by decide +kernel
theorem dL_law_605 : decode cL_law 605 = .ok (.iconst 0, 1) := by decide +kernel
theorem dL_law_606 : decode cL_law 606 = .ok (.ireturn, 1) := by decide +kernel
theorem dL_law_607 : decode cL_law 607 = .ok (.aload_n 1, 1) := by decide +kernel
theorem dL_law_608 : decode cL_law 608 = .ok (.invokevirtual 90, 3) := by decide +kernel
theorem dL_law_611 : decode cL_law 611 = .ok (.aload_n 2, 1) := by decide +kernel
theorem dL_law_612 : decode cL_law 612 = .ok (.invokevirtual 94, 3) := by decide +kernel
theorem dL_law_615 : decode cL_law 615 = .ok (.lcmp, 1) := by decide +kernel
theorem dL_law_616 : decode cL_law 616 = .ok (.ifCond .eq 281, 3) := by decide +kernel
theorem dL_law_619 : decode cL_law 619 = .ok (.iconst 0, 1) := by decide +kernel
theorem dL_law_620 : decode cL_law 620 = .ok (.ireturn, 1) := by decide +kernel
theorem dL_law_621 : decode cL_law 621 = .ok (.aload_n 1, 1) := by decide +kernel
theorem dL_law_622 : decode cL_law 622 = .ok (.invokevirtual 95, 3) := by decide +kernel
theorem dL_law_625 : decode cL_law 625 = .ok (.aload_n 2, 1) := by decide +kernel
theorem dL_law_626 : decode cL_law 626 = .ok (.invokevirtual 98, 3) := by decide +kernel
theorem dL_law_629 : decode cL_law 629 = .ok (.if_icmp .eq 268, 3) := by decide +kernel
theorem dL_law_632 : decode cL_law 632 = .ok (.iconst 0, 1) := by decide +kernel
theorem dL_law_633 : decode cL_law 633 = .ok (.ireturn, 1) := by decide +kernel
theorem dL_law_634 : decode cL_law 634 = .ok (.aload_n 1, 1) := by decide +kernel
theorem dL_law_635 : decode cL_law 635 = .ok (.aload_n 0, 1) := by decide +kernel
theorem dL_law_636 : decode cL_law 636 = .ok (.iload_n 3, 1) := by decide +kernel
theorem dL_law_637 : decode cL_law 637 = .ok (.iconst 1, 1) := by decide +kernel
theorem dL_law_638 : decode cL_law 638 = .ok (.iadd, 1) := by decide +kernel
theorem dL_law_639 : decode cL_law 639 = .ok (.iaload, 1) := by decide +kernel
theorem dL_law_640 : decode cL_law 640 = .ok (.aload_n 0, 1) := by decide +kernel
theorem dL_law_641 : decode cL_law 641 = .ok (.iload_n 3, 1) := by decide +kernel
theorem dL_law_642 : decode cL_law 642 = .ok (.iconst 2, 1) := by decide +kernel
theorem dL_law_643 : decode cL_law 643 = .ok (.iadd, 1) := by decide +kernel
theorem dL_law_644 : decode cL_law 644 = .ok (.iaload, 1) := by decide +kernel
theorem dL_law_645 : decode cL_law 645 = .ok (.aload_n 0, 1) := by decide +kernel
theorem dL_law_646 : decode cL_law 646 = .ok (.iload_n 3, 1) := by decide +kernel
theorem dL_law_647 : decode cL_law 647 = .ok (.iconst 3, 1) := by decide +kernel
theorem dL_law_648 : decode cL_law 648 = .ok (.iadd, 1) := by decide +kernel
theorem dL_law_649 : decode cL_law 649 = .ok (.iaload, 1) := by decide +kernel
theorem dL_law_650 : decode cL_law 650 = .ok (.invokevirtual 99, 3) := by decide +kernel
theorem dL_law_653 : decode cL_law 653 = .ok (.aload_n 2, 1) := by decide +kernel
theorem dL_law_654 : decode cL_law 654 = .ok (.aload_n 0, 1) := by decide +kernel
theorem dL_law_655 : decode cL_law 655 = .ok (.iload_n 3, 1) := by decide +kernel
theorem dL_law_656 : decode cL_law 656 = .ok (.iconst 1, 1) := by decide +kernel
theorem dL_law_657 : decode cL_law 657 = .ok (.iadd, 1) := by decide +kernel
theorem dL_law_658 : decode cL_law 658 = .ok (.iaload, 1) := by decide +kernel
theorem dL_law_659 : decode cL_law 659 = .ok (.aload_n 0, 1) := by decide +kernel
theorem dL_law_660 : decode cL_law 660 = .ok (.iload_n 3, 1) := by decide +kernel
theorem dL_law_661 : decode cL_law 661 = .ok (.iconst 2, 1) := by decide +kernel
theorem dL_law_662 : decode cL_law 662 = .ok (.iadd, 1) := by decide +kernel
theorem dL_law_663 : decode cL_law 663 = .ok (.iaload, 1) := by decide +kernel
theorem dL_law_664 : decode cL_law 664 = .ok (.aload_n 0, 1) := by decide +kernel
theorem dL_law_665 : decode cL_law 665 = .ok (.iload_n 3, 1) := by decide +kernel
theorem dL_law_666 : decode cL_law 666 = .ok (.iconst 3, 1) := by decide +kernel
theorem dL_law_667 : decode cL_law 667 = .ok (.iadd, 1) := by decide +kernel
theorem dL_law_668 : decode cL_law 668 = .ok (.iaload, 1) := by decide +kernel
theorem dL_law_669 : decode cL_law 669 = .ok (.invokevirtual 102, 3) := by decide +kernel
theorem dL_law_672 : decode cL_law 672 = .ok (.if_icmp .eq 225, 3) := by decide +kernel
theorem dL_law_675 : decode cL_law 675 = .ok (.iconst 0, 1) := by decide +kernel
theorem dL_law_676 : decode cL_law 676 = .ok (.ireturn, 1) := by decide +kernel
theorem dL_law_677 : decode cL_law 677 = .ok (.aload_n 1, 1) := by decide +kernel
theorem dL_law_678 : decode cL_law 678 = .ok (.aload_n 0, 1) := by decide +kernel
theorem dL_law_679 : decode cL_law 679 = .ok (.iload_n 3, 1) := by decide +kernel
theorem dL_law_680 : decode cL_law 680 = .ok (.iconst 1, 1) := by decide +kernel
theorem dL_law_681 : decode cL_law 681 = .ok (.iadd, 1) := by decide +kernel
theorem dL_law_682 : decode cL_law 682 = .ok (.iaload, 1) := by decide +kernel
theorem dL_law_683 : decode cL_law 683 = .ok (.aload_n 0, 1) := by decide +kernel
theorem dL_law_684 : decode cL_law 684 = .ok (.iload_n 3, 1) := by decide +kernel
theorem dL_law_685 : decode cL_law 685 = .ok (.iconst 2, 1) := by decide +kernel
theorem dL_law_686 : decode cL_law 686 = .ok (.iadd, 1) := by decide +kernel
theorem dL_law_687 : decode cL_law 687 = .ok (.iaload, 1) := by decide +kernel
theorem dL_law_688 : decode cL_law 688 = .ok (.invokevirtual 103, 3) := by decide +kernel
theorem dL_law_691 : decode cL_law 691 = .ok (.aload_n 2, 1) := by decide +kernel
theorem dL_law_692 : decode cL_law 692 = .ok (.aload_n 0, 1) := by decide +kernel
theorem dL_law_693 : decode cL_law 693 = .ok (.iload_n 3, 1) := by decide +kernel
theorem dL_law_694 : decode cL_law 694 = .ok (.iconst 1, 1) := by decide +kernel
theorem dL_law_695 : decode cL_law 695 = .ok (.iadd, 1) := by decide +kernel
theorem dL_law_696 : decode cL_law 696 = .ok (.iaload, 1) := by decide +kernel
theorem dL_law_697 : decode cL_law 697 = .ok (.aload_n 0, 1) := by decide +kernel
theorem dL_law_698 : decode cL_law 698 = .ok (.iload_n 3, 1) := by decide +kernel
theorem dL_law_699 : decode cL_law 699 = .ok (.iconst 2, 1) := by decide +kernel
theorem dL_law_700 : decode cL_law 700 = .ok (.iadd, 1) := by decide +kernel
theorem dL_law_701 : decode cL_law 701 = .ok (.iaload, 1) := by decide +kernel
theorem dL_law_702 : decode cL_law 702 = .ok (.invokevirtual 106, 3) := by decide +kernel
theorem dL_law_705 : decode cL_law 705 = .ok (.if_icmp .eq 192, 3) := by decide +kernel
theorem dL_law_708 : decode cL_law 708 = .ok (.iconst 0, 1) := by decide +kernel
theorem dL_law_709 : decode cL_law 709 = .ok (.ireturn, 1) := by decide +kernel
theorem dL_law_710 : decode cL_law 710 = .ok (.aload_n 1, 1) := by decide +kernel
theorem dL_law_711 : decode cL_law 711 = .ok (.aload_n 0, 1) := by decide +kernel
theorem dL_law_712 : decode cL_law 712 = .ok (.iload_n 3, 1) := by decide +kernel
theorem dL_law_713 : decode cL_law 713 = .ok (.iconst 1, 1) := by decide +kernel
theorem dL_law_714 : decode cL_law 714 = .ok (.iadd, 1) := by decide +kernel
theorem dL_law_715 : decode cL_law 715 = .ok (.iaload, 1) := by decide +kernel
theorem dL_law_716 : decode cL_law 716 = .ok (.invokevirtual 107, 3) := by decide +kernel
theorem dL_law_719 : decode cL_law 719 = .ok (.aload_n 2, 1) := by decide +kernel
theorem dL_law_720 : decode cL_law 720 = .ok (.aload_n 0, 1) := by decide +kernel
theorem dL_law_721 : decode cL_law 721 = .ok (.iload_n 3, 1) := by decide +kernel
theorem dL_law_722 : decode cL_law 722 = .ok (.iconst 1, 1) := by decide +kernel
theorem dL_law_723 : decode cL_law 723 = .ok (.iadd, 1) := by decide +kernel
theorem dL_law_724 : decode cL_law 724 = .ok (.iaload, 1) := by decide +kernel
theorem dL_law_725 : decode cL_law 725 = .ok (.invokevirtual 110, 3) := by decide +kernel
theorem dL_law_728 : decode cL_law 728 = .ok (.if_icmp .eq 169, 3) := by decide +kernel
theorem dL_law_731 : decode cL_law 731 = .ok (.iconst 0, 1) := by decide +kernel
theorem dL_law_732 : decode cL_law 732 = .ok (.ireturn, 1) := by decide +kernel
theorem dL_law_733 : decode cL_law 733 = .ok (.aload_n 1, 1) := by decide +kernel
theorem dL_law_734 : decode cL_law 734 = .ok (.invokevirtual 111, 3) := by decide +kernel
theorem dL_law_737 : decode cL_law 737 = .ok (.aload_n 2, 1) := by decide +kernel
theorem dL_law_738 : decode cL_law 738 = .ok (.invokevirtual 114, 3) := by decide +kernel
theorem dL_law_741 : decode cL_law 741 = .ok (.if_icmp .eq 156, 3) := by decide +kernel
theorem dL_law_744 : decode cL_law 744 = .ok (.iconst 0, 1) := by decide +kernel
theorem dL_law_745 : decode cL_law 745 = .ok (.ireturn, 1) := by decide +kernel
theorem dL_law_746 : decode cL_law 746 = .ok (.aload_n 1, 1) := by decide +kernel
theorem dL_law_747 : decode cL_law 747 = .ok (.invokevirtual 115, 3) := by decide +kernel
theorem dL_law_750 : decode cL_law 750 = .ok (.aload_n 2, 1) := by decide +kernel
theorem dL_law_751 : decode cL_law 751 = .ok (.invokevirtual 118, 3) := by decide +kernel
theorem dL_law_754 : decode cL_law 754 = .ok (.if_icmp .eq 143, 3) := by decide +kernel
theorem dL_law_757 : decode cL_law 757 = .ok (.iconst 0, 1) := by decide +kernel
theorem dL_law_758 : decode cL_law 758 = .ok (.ireturn, 1) := by decide +kernel
theorem dL_law_759 : decode cL_law 759 = .ok (.aload_n 1, 1) := by decide +kernel
theorem dL_law_760 : decode cL_law 760 = .ok (.aload_n 0, 1) := by decide +kernel
theorem dL_law_761 : decode cL_law 761 = .ok (.iload_n 3, 1) := by decide +kernel
theorem dL_law_762 : decode cL_law 762 = .ok (.iconst 1, 1) := by decide +kernel
theorem dL_law_763 : decode cL_law 763 = .ok (.iadd, 1) := by decide +kernel
theorem dL_law_764 : decode cL_law 764 = .ok (.iaload, 1) := by decide +kernel
theorem dL_law_765 : decode cL_law 765 = .ok (.i2l, 1) := by decide +kernel
theorem dL_law_766 : decode cL_law 766 = .ok (.bipush 32, 2) := by decide +kernel
theorem dL_law_768 : decode cL_law 768 = .ok (.lshl, 1) := by decide +kernel
theorem dL_law_769 : decode cL_law 769 = .ok (.aload_n 0, 1) := by decide +kernel
theorem dL_law_770 : decode cL_law 770 = .ok (.iload_n 3, 1) := by decide +kernel
theorem dL_law_771 : decode cL_law 771 = .ok (.iconst 2, 1) := by decide +kernel
theorem dL_law_772 : decode cL_law 772 = .ok (.iadd, 1) := by decide +kernel
theorem dL_law_773 : decode cL_law 773 = .ok (.iaload, 1) := by decide +kernel
theorem dL_law_774 : decode cL_law 774 = .ok (.i2l, 1) := by decide +kernel
theorem dL_law_775 : decode cL_law 775 = .ok (.ldc2_w 119, 3) := by decide +kernel
theorem dL_law_778 : decode cL_law 778 = .ok (.land, 1) := by decide +kernel
theorem dL_law_779 : decode cL_law 779 = .ok (.lor, 1) := by decide +kernel
theorem dL_law_780 : decode cL_law 780 = .ok (.invokevirtual 121, 3) := by decide +kernel
theorem dL_law_783 : decode cL_law 783 = .ok (.aload_n 2, 1) := by decide +kernel
theorem dL_law_784 : decode cL_law 784 = .ok (.aload_n 0, 1) := by decide +kernel
theorem dL_law_785 : decode cL_law 785 = .ok (.iload_n 3, 1) := by decide +kernel
theorem dL_law_786 : decode cL_law 786 = .ok (.iconst 1, 1) := by decide +kernel
theorem dL_law_787 : decode cL_law 787 = .ok (.iadd, 1) := by decide +kernel
theorem dL_law_788 : decode cL_law 788 = .ok (.iaload, 1) := by decide +kernel
theorem dL_law_789 : decode cL_law 789 = .ok (.i2l, 1) := by decide +kernel
theorem dL_law_790 : decode cL_law 790 = .ok (.bipush 32, 2) := by decide +kernel
theorem dL_law_792 : decode cL_law 792 = .ok (.lshl, 1) := by decide +kernel
theorem dL_law_793 : decode cL_law 793 = .ok (.aload_n 0, 1) := by decide +kernel
theorem dL_law_794 : decode cL_law 794 = .ok (.iload_n 3, 1) := by decide +kernel
theorem dL_law_795 : decode cL_law 795 = .ok (.iconst 2, 1) := by decide +kernel
theorem dL_law_796 : decode cL_law 796 = .ok (.iadd, 1) := by decide +kernel
theorem dL_law_797 : decode cL_law 797 = .ok (.iaload, 1) := by decide +kernel
theorem dL_law_798 : decode cL_law 798 = .ok (.i2l, 1) := by decide +kernel
theorem dL_law_799 : decode cL_law 799 = .ok (.ldc2_w 119, 3) := by decide +kernel
theorem dL_law_802 : decode cL_law 802 = .ok (.land, 1) := by decide +kernel
theorem dL_law_803 : decode cL_law 803 = .ok (.lor, 1) := by decide +kernel
theorem dL_law_804 : decode cL_law 804 = .ok (.invokevirtual 125, 3) := by decide +kernel
theorem dL_law_807 : decode cL_law 807 = .ok (.if_icmp .eq 90, 3) := by decide +kernel
theorem dL_law_810 : decode cL_law 810 = .ok (.iconst 0, 1) := by decide +kernel
theorem dL_law_811 : decode cL_law 811 = .ok (.ireturn, 1) := by decide +kernel
theorem dL_law_812 : decode cL_law 812 = .ok (.aload_n 1, 1) := by decide +kernel
theorem dL_law_813 : decode cL_law 813 = .ok (.invokevirtual 126, 3) := by decide +kernel
theorem dL_law_816 : decode cL_law 816 = .ok (.aload_n 2, 1) := by decide +kernel
theorem dL_law_817 : decode cL_law 817 = .ok (.invokevirtual 129, 3) := by decide +kernel
theorem dL_law_820 : decode cL_law 820 = .ok (.if_icmp .eq 77, 3) := by decide +kernel
theorem dL_law_823 : decode cL_law 823 = .ok (.iconst 0, 1) := by decide +kernel
theorem dL_law_824 : decode cL_law 824 = .ok (.ireturn, 1) := by decide +kernel
theorem dL_law_825 : decode cL_law 825 = .ok (.aload_n 1, 1) := by decide +kernel
theorem dL_law_826 : decode cL_law 826 = .ok (.invokevirtual 130, 3) := by decide +kernel
theorem dL_law_829 : decode cL_law 829 = .ok (.aload_n 2, 1) := by decide +kernel
theorem dL_law_830 : decode cL_law 830 = .ok (.invokevirtual 133, 3) := by decide +kernel
theorem dL_law_833 : decode cL_law 833 = .ok (.if_icmp .eq 64, 3) := by decide +kernel
theorem dL_law_836 : decode cL_law 836 = .ok (.iconst 0, 1) := by decide +kernel
theorem dL_law_837 : decode cL_law 837 = .ok (.ireturn, 1) := by decide +kernel
theorem dL_law_838 : decode cL_law 838 = .ok (.aload_n 1, 1) := by decide +kernel
theorem dL_law_839 : decode cL_law 839 = .ok (.invokevirtual 134, 3) := by decide +kernel
theorem dL_law_842 : decode cL_law 842 = .ok (.aload_n 2, 1) := by decide +kernel
theorem dL_law_843 : decode cL_law 843 = .ok (.invokevirtual 137, 3) := by decide +kernel
theorem dL_law_846 : decode cL_law 846 = .ok (.if_icmp .eq 51, 3) := by decide +kernel
theorem dL_law_849 : decode cL_law 849 = .ok (.iconst 0, 1) := by decide +kernel
theorem dL_law_850 : decode cL_law 850 = .ok (.ireturn, 1) := by decide +kernel
theorem dL_law_851 : decode cL_law 851 = .ok (.aload_n 1, 1) := by decide +kernel
theorem dL_law_852 : decode cL_law 852 = .ok (.aload_n 0, 1) := by decide +kernel
theorem dL_law_853 : decode cL_law 853 = .ok (.iload_n 3, 1) := by decide +kernel
theorem dL_law_854 : decode cL_law 854 = .ok (.iconst 1, 1) := by decide +kernel
theorem dL_law_855 : decode cL_law 855 = .ok (.iadd, 1) := by decide +kernel
theorem dL_law_856 : decode cL_law 856 = .ok (.iaload, 1) := by decide +kernel
theorem dL_law_857 : decode cL_law 857 = .ok (.invokevirtual 138, 3) := by decide +kernel
theorem dL_law_860 : decode cL_law 860 = .ok (.aload_n 2, 1) := by decide +kernel
theorem dL_law_861 : decode cL_law 861 = .ok (.aload_n 0, 1) := by decide +kernel
theorem dL_law_862 : decode cL_law 862 = .ok (.iload_n 3, 1) := by decide +kernel
theorem dL_law_863 : decode cL_law 863 = .ok (.iconst 1, 1) := by decide +kernel
theorem dL_law_864 : decode cL_law 864 = .ok (.iadd, 1) := by decide +kernel
theorem dL_law_865 : decode cL_law 865 = .ok (.iaload, 1) := by decide +kernel
theorem dL_law_866 : decode cL_law 866 = .ok (.invokevirtual 141, 3) := by decide +kernel
theorem dL_law_869 : decode cL_law 869 = .ok (.if_icmp .eq 28, 3) := by decide +kernel
theorem dL_law_872 : decode cL_law 872 = .ok (.iconst 0, 1) := by decide +kernel
theorem dL_law_873 : decode cL_law 873 = .ok (.ireturn, 1) := by decide +kernel
theorem dL_law_874 : decode cL_law 874 = .ok (.aload_n 1, 1) := by decide +kernel
theorem dL_law_875 : decode cL_law 875 = .ok (.aload_n 0, 1) := by decide +kernel
theorem dL_law_876 : decode cL_law 876 = .ok (.iload_n 3, 1) := by decide +kernel
theorem dL_law_877 : decode cL_law 877 = .ok (.iconst 1, 1) := by decide +kernel
theorem dL_law_878 : decode cL_law 878 = .ok (.iadd, 1) := by decide +kernel
theorem dL_law_879 : decode cL_law 879 = .ok (.iaload, 1) := by decide +kernel
theorem dL_law_880 : decode cL_law 880 = .ok (.invokevirtual 142, 3) := by decide +kernel
theorem dL_law_883 : decode cL_law 883 = .ok (.aload_n 2, 1) := by decide +kernel
theorem dL_law_884 : decode cL_law 884 = .ok (.aload_n 0, 1) := by decide +kernel
theorem dL_law_885 : decode cL_law 885 = .ok (.iload_n 3, 1) := by decide +kernel
theorem dL_law_886 : decode cL_law 886 = .ok (.iconst 1, 1) := by decide +kernel
theorem dL_law_887 : decode cL_law 887 = .ok (.iadd, 1) := by decide +kernel
theorem dL_law_888 : decode cL_law 888 = .ok (.iaload, 1) := by decide +kernel
theorem dL_law_889 : decode cL_law 889 = .ok (.invokevirtual 145, 3) := by decide +kernel
theorem dL_law_892 : decode cL_law 892 = .ok (.if_icmp .eq 5, 3) := by decide +kernel
theorem dL_law_895 : decode cL_law 895 = .ok (.iconst 0, 1) := by decide +kernel
theorem dL_law_896 : decode cL_law 896 = .ok (.ireturn, 1) := by decide +kernel
theorem dL_law_897 : decode cL_law 897 = .ok (.iinc 3 4, 3) := by decide +kernel
theorem dL_law_900 : decode cL_law 900 = .ok (.goto (-882), 3) := by decide +kernel
theorem dL_law_903 : decode cL_law 903 = .ok (.iconst 1, 1) := by decide +kernel
theorem dL_law_904 : decode cL_law 904 = .ok (.ireturn, 1) := by decide +kernel
end
section
/-! the claim's own forms of the kit's rows: contracts over one world, calls that put the world back in its order, branches told in numbers -/
theorem zz_eq {x y : Int32} : x = y ↔ x.toInt = y.toInt := Int32.toInt_inj.symm
theorem zz_z : (0 : Int32).toInt = 0 := rfl
abbrev zT (cy : Nat → ClassId) : List (ClassId × FieldType) := [(cy 0, .int), (cy 1, .long), (cy 2, .boolean), (cy 3, .char), (cy 4, .object RX6)]
def zN : List Cond := [.fieldLinkNest RX7 56 RX6 "size" "I" RX7, .fieldLinkNest RX7 127 RX6 "places" "J" RX7, .fieldLinkNest RX7 98 RX6 "trick" "J" RX7, .fieldLinkNest RX7 104 RX6 "markCount" "I" RX7, .fieldLinkNest RX7 69 RX2 "moves" "J" RX7, .methodLinkNest RX7 9 yX6_init RX7, .methodLinkNest RX4 19 yX6_init RX7, .methodLinkNest RX7 30 yX1_init RX7, .methodLinkNest RX7 37 yX2_init RX7]
def zK (D : va_G) (cy : Nat → ClassId) (U : State) : Prop := va_K D vwCl (zT cy) U ∧ ∀ w ∈ zN, va_Nw w U
theorem zN_tab : ∀ w ∈ zN, w.onTables = true := by decide +kernel
theorem zK_warm {D : va_G} {cy : Nat → ClassId} {s U : State} (hW : s.WarmedH U.vm) (h : zK D cy s) : zK D cy U := by
  refine ⟨va_K.moved hW.alike h.1, fun w hw => ?_⟩
  have h2 := h.2 w hw
  simp only [zN, List.mem_cons, List.not_mem_nil, or_false] at hw
  rcases hw with rfl | rfl | rfl | rfl | rfl | rfl | rfl | rfl | rfl <;> first | exact va_Nw.warmF hW h2 | exact va_Nw.warmM hW h2
theorem zK_call {D : va_G} {cy : Nat → ClassId} {U : State} {g : JFrame} {mk : MethodId} {a : Array Value} (h : zK D cy U) : zK D cy (U.calling g mk a) := ⟨va_K.moved (u := U) (U := U.calling g mk a) (Vm.Alike.refl U.vm) h.1, fun w hw => va_Nw.same (zN_tab w hw) (u := U) (U := U.calling g mk a) rfl (h.2 w hw)⟩
theorem zK_nest {D : va_G} {cy : Nat → ClassId} {s : State} (h : zK D cy s) (i : Nat) {w : Cond} (hi : zN[i]? = some w) {args : Array Value} : w.before args s = true := va_Nw.use (zN_tab w (List.mem_of_getElem? hi)) (h.2 w (List.mem_of_getElem? hi))
def zPr (D : va_G) (cy : Nat → ClassId) (w0 : va_W) (av : List Value) : Array Value → State → Prop := va_Pc av (fun U => va_P D vwCl w0 U.heap ∧ zK D cy U)
theorem zPr_blind {D : va_G} {cy : Nat → ClassId} {w0 : va_W} {av : List Value} : FrameBlind (zPr D cy w0 av) := fun _ _ _ _ q => ⟨q.1, q.2.1, zK_call q.2.2⟩
def zPw (D : va_G) (cy : Nat → ClassId) (w0 : va_W) (sz : Nat) (av : List Value) : Array Value → State → Prop := va_Pc av (fun U => U.heap.size = sz ∧ va_P D vwCl w0 U.heap ∧ zK D cy U ∧ va_D (fun _ => True) w0)
theorem zPw_blind {D : va_G} {cy : Nat → ClassId} {w0 : va_W} {sz : Nat} {av : List Value} : FrameBlind (zPw D cy w0 sz av) := fun _ _ _ _ q => ⟨q.1, q.2.1, q.2.2.1, zK_call q.2.2.2.1, q.2.2.2.2⟩
/-- a reading method's contract -/
abbrev zMi (l : Launch) (y : MethodName) (ws : List Cond) (rm : Room) (D : va_G) (cy : Nat → ClassId) (w0 : va_W) (av : List Value) (post : Int32 → Prop) : Prop := Met l y ws rm (zPr D cy w0 av) (vp_Si post) 0 0 (fun _ => False)
abbrev zMl (l : Launch) (y : MethodName) (ws : List Cond) (rm : Room) (D : va_G) (cy : Nat → ClassId) (w0 : va_W) (av : List Value) (post : Int64 → Prop) : Prop := Met l y ws rm (zPr D cy w0 av) (vp_Sl post) 0 0 (fun _ => False)
/-- a writing method's contract: mc cells of ms slots are new -/
abbrev zWi {S : Type} (l : Launch) (y : MethodName) (ws : List Cond) (rm : Room) (D : va_G) (cy : Nat → ClassId) (w0 : va_W) (sz : Nat) (av : List Value) (post : Int32 → S → Prop) (w1 : S → va_W) : Prop := Met l y ws rm (zPw D cy w0 sz av) (va_Qi post (fun u t => va_P D vwCl (w1 u) t.heap ∧ va_D (va_A w0 sz) (w1 u)) (va_A w0 sz)) 0 0 (va_A w0 sz)
abbrev zWl {S : Type} (l : Launch) (y : MethodName) (ws : List Cond) (rm : Room) (D : va_G) (cy : Nat → ClassId) (w0 : va_W) (sz : Nat) (av : List Value) (post : Int64 → S → Prop) (w1 : S → va_W) : Prop := Met l y ws rm (zPw D cy w0 sz av) (va_Ql post (fun u t => va_P D vwCl (w1 u) t.heap ∧ va_D (va_A w0 sz) (w1 u)) (va_A w0 sz)) 0 0 (va_A w0 sz)
abbrev zWv {S : Type} (l : Launch) (y : MethodName) (ws : List Cond) (rm : Room) (D : va_G) (cy : Nat → ClassId) (w0 : va_W) (sz : Nat) (av : List Value) (post : S → Prop) (w1 : S → va_W) (mc ms : Nat) : Prop := Met l y ws rm (zPw D cy w0 sz av) (va_Qv post (fun u t => va_P D vwCl (w1 u) t.heap ∧ va_D (va_A w0 sz) (w1 u)) (va_A w0 sz)) mc ms (va_A w0 sz)
theorem zz_fm {α β : Type} {is : List α} {f : α → Option β} : ∀ {w : List β}, is.map f = w.map some → is.filterMap f = w := by
  induction is with
  | nil => intro w h; cases w with
    | nil => rfl
    | cons a t => simp at h
  | cons i t ih => intro w h; cases w with
    | nil => simp at h
    | cons a u =>
      simp only [List.map_cons, List.cons.injEq] at h
      rw [List.filterMap_cons, h.1]
      simp only [ih h.2]
/-- a reading method, from its entry (int) -/
theorem zOfR {l : Launch} {y : MethodName} {ws ws' : List Cond} {rm : Room} {D : va_G} {cy : Nat → ClassId} {w0 : va_W} {av : List Value} {cc : ByteArray} {maxL : Nat} {ty : FieldType} {post : Int32 → Prop} (hy : plainName y.cls = true) (hw : ws = Cond.code y cc maxL (some ty) :: ws') (hL : (lg_sl av).length ≤ maxL)
    (body : ∀ (p : Program) (e : Env) (s : State) (m : MethodId) (args : Array Value) (below : List Frame) (meth : Method) (c : Code), p.tables.exec = Jvm.exec → c.code = cc → c.maxLocals = maxL → (∀ w ∈ ws, w.before args s = true) → s.vm.findClass y.cls = some m.cls → va_P D vwCl w0 s.heap → zK D cy s → ∀ (Q : State → Prop), (∀ (v : Int32) (pc : Nat) (ls : Array Slot), decode cc pc = .ok (.ireturn, 1) → narrow ty (.int v) = .int v → post v → W p l e rm s m args below meth c s.heap [] 0 0 Q (F0 m pc ls [.int v])) → ∀ ls : Array Slot, lv_has ls maxL (lv_args 0 av) → W p l e rm s m args below meth c s.heap [] 0 0 Q (F0 m 0 ls [])) : Met l y ws rm (zPr D cy w0 av) (vp_Si post) 0 0 (fun _ => False) := by
  refine Met.ofW (cc := cc) (maxL := maxL) (ret := (some ty)) hy hw ?_
  intro p e s m args below meth c s₁ B hml hv
  obtain ⟨rfl, hP, hK⟩ := hv
  have hl := lv_entry av (n := maxL) hL
  rw [lg_entry_eq]
  generalize (lg_sl av ++ List.replicate (maxL - (lg_sl av).length) Slot.unset).toArray = ls at hl ⊢
  exact body p e s m _ below meth c B.exec B.bytes hml (atoms_spec (ws := ws) B.pre) (findClass_of_methodNamed B.named) hP hK _ (fun v pc ls hd hn hp => W.zret B.exec B.bytes B.returns hn (fun t ht _ => ⟨v, rfl, hp, ht⟩) (fun q hq => absurd hq List.not_mem_nil) hd B.notSynchronized) ls hl
/-- a reading method, from its entry (long) -/
theorem zOfRl {l : Launch} {y : MethodName} {ws ws' : List Cond} {rm : Room} {D : va_G} {cy : Nat → ClassId} {w0 : va_W} {av : List Value} {cc : ByteArray} {maxL : Nat} {post : Int64 → Prop} (hy : plainName y.cls = true) (hw : ws = Cond.code y cc maxL (some .long) :: ws') (hL : (lg_sl av).length ≤ maxL)
    (body : ∀ (p : Program) (e : Env) (s : State) (m : MethodId) (args : Array Value) (below : List Frame) (meth : Method) (c : Code), p.tables.exec = Jvm.exec → c.code = cc → c.maxLocals = maxL → (∀ w ∈ ws, w.before args s = true) → s.vm.findClass y.cls = some m.cls → va_P D vwCl w0 s.heap → zK D cy s → ∀ (Q : State → Prop), (∀ (v : Int64) (pc : Nat) (ls : Array Slot), decode cc pc = .ok (.lreturn, 1) → post v → W p l e rm s m args below meth c s.heap [] 0 0 Q (F0 m pc ls [.long v])) → ∀ ls : Array Slot, lv_has ls maxL (lv_args 0 av) → W p l e rm s m args below meth c s.heap [] 0 0 Q (F0 m 0 ls [])) : Met l y ws rm (zPr D cy w0 av) (vp_Sl post) 0 0 (fun _ => False) := by
  refine Met.ofW (cc := cc) (maxL := maxL) (ret := (some .long)) hy hw ?_
  intro p e s m args below meth c s₁ B hml hv
  obtain ⟨rfl, hP, hK⟩ := hv
  have hl := lv_entry av (n := maxL) hL
  rw [lg_entry_eq]
  generalize (lg_sl av ++ List.replicate (maxL - (lg_sl av).length) Slot.unset).toArray = ls at hl ⊢
  exact body p e s m _ below meth c B.exec B.bytes hml (atoms_spec (ws := ws) B.pre) (findClass_of_methodNamed B.named) hP hK _ (fun v pc ls hd hp => W.lret B.exec B.bytes B.returns (fun t ht _ => ⟨v, rfl, hp, ht⟩) (fun q hq => absurd hq List.not_mem_nil) hd B.notSynchronized) ls hl
/-- a writing method, from its entry (int) -/
theorem zOfW {S : Type} {l : Launch} {y : MethodName} {ws ws' : List Cond} {rm : Room} {D : va_G} {cy : Nat → ClassId} {w0 : va_W} {av : List Value} {cc : ByteArray} {maxL : Nat} {sz : Nat} {ty : FieldType} {post : Int32 → S → Prop} {w1 : S → va_W} (hy : plainName y.cls = true) (hw : ws = Cond.code y cc maxL (some ty) :: ws') (hL : (lg_sl av).length ≤ maxL)
    (body : ∀ (p : Program) (e : Env) (s : State) (m : MethodId) (args : Array Value) (below : List Frame) (meth : Method) (c : Code), p.tables.exec = Jvm.exec → c.code = cc → c.maxLocals = maxL → (∀ w ∈ ws, w.before args s = true) → s.vm.findClass y.cls = some m.cls → va_P D vwCl w0 s.heap → zK D cy s → ∀ (A : Nat → Prop), va_D A w0 → (∀ q : Nat, s.heap.size ≤ q → A q) → ∀ (Q : State → Prop), (∀ (v : Int32) (u : S) (H : Heap) (locs : List Loc) (pc : Nat) (ls : Array Slot), decode cc pc = .ok (.ireturn, 1) → narrow ty (.int v) = .int v → post v u → va_P D vwCl (w1 u) H → va_D A (w1 u) → va_S A s.heap H locs → W p l e rm s m args below meth c H locs 0 0 Q (F0 m pc ls [.int v])) → ∀ ls : Array Slot, lv_has ls maxL (lv_args 0 av) → W p l e rm s m args below meth c s.heap [] 0 0 Q (F0 m 0 ls [])) : Met l y ws rm (zPw D cy w0 sz av) (va_Qi post (fun u t => va_P D vwCl (w1 u) t.heap ∧ va_D (va_A w0 sz) (w1 u)) (va_A w0 sz)) 0 0 (va_A w0 sz) := by
  refine Met.ofW (cc := cc) (maxL := maxL) (ret := (some ty)) hy hw ?_
  intro p e s m args below meth c s₁ B hml hv
  obtain ⟨rfl, hsz, hP, hK, hD0⟩ := hv
  subst hsz
  have hD := hD0.self (sz := s.heap.size)
  have hl := lv_entry av (n := maxL) hL
  rw [lg_entry_eq]
  generalize (lg_sl av ++ List.replicate (maxL - (lg_sl av).length) Slot.unset).toArray = ls at hl ⊢
  exact body p e s m _ below meth c B.exec B.bytes hml (atoms_spec (ws := ws) B.pre) (findClass_of_methodNamed B.named) hP hK (va_A w0 s.heap.size) hD (fun q h => Or.inr h) _ (fun v u H locs pc ls hd hn hp hP1 hD1 hS1 => W.zret B.exec B.bytes B.returns hn (fun t ht _ => ⟨⟨v, u, rfl, hp, by rw [ht]; exact hP1, hD1⟩, hS1.F ht⟩) hS1.2.2 hd B.notSynchronized) ls hl
/-- a writing method, from its entry (long) -/
theorem zOfWl {S : Type} {l : Launch} {y : MethodName} {ws ws' : List Cond} {rm : Room} {D : va_G} {cy : Nat → ClassId} {w0 : va_W} {av : List Value} {cc : ByteArray} {maxL : Nat} {sz : Nat} {post : Int64 → S → Prop} {w1 : S → va_W} (hy : plainName y.cls = true) (hw : ws = Cond.code y cc maxL (some .long) :: ws') (hL : (lg_sl av).length ≤ maxL)
    (body : ∀ (p : Program) (e : Env) (s : State) (m : MethodId) (args : Array Value) (below : List Frame) (meth : Method) (c : Code), p.tables.exec = Jvm.exec → c.code = cc → c.maxLocals = maxL → (∀ w ∈ ws, w.before args s = true) → s.vm.findClass y.cls = some m.cls → va_P D vwCl w0 s.heap → zK D cy s → ∀ (A : Nat → Prop), va_D A w0 → (∀ q : Nat, s.heap.size ≤ q → A q) → ∀ (Q : State → Prop), (∀ (v : Int64) (u : S) (H : Heap) (locs : List Loc) (pc : Nat) (ls : Array Slot), decode cc pc = .ok (.lreturn, 1) → post v u → va_P D vwCl (w1 u) H → va_D A (w1 u) → va_S A s.heap H locs → W p l e rm s m args below meth c H locs 0 0 Q (F0 m pc ls [.long v])) → ∀ ls : Array Slot, lv_has ls maxL (lv_args 0 av) → W p l e rm s m args below meth c s.heap [] 0 0 Q (F0 m 0 ls [])) : Met l y ws rm (zPw D cy w0 sz av) (va_Ql post (fun u t => va_P D vwCl (w1 u) t.heap ∧ va_D (va_A w0 sz) (w1 u)) (va_A w0 sz)) 0 0 (va_A w0 sz) := by
  refine Met.ofW (cc := cc) (maxL := maxL) (ret := (some .long)) hy hw ?_
  intro p e s m args below meth c s₁ B hml hv
  obtain ⟨rfl, hsz, hP, hK, hD0⟩ := hv
  subst hsz
  have hD := hD0.self (sz := s.heap.size)
  have hl := lv_entry av (n := maxL) hL
  rw [lg_entry_eq]
  generalize (lg_sl av ++ List.replicate (maxL - (lg_sl av).length) Slot.unset).toArray = ls at hl ⊢
  exact body p e s m _ below meth c B.exec B.bytes hml (atoms_spec (ws := ws) B.pre) (findClass_of_methodNamed B.named) hP hK (va_A w0 s.heap.size) hD (fun q h => Or.inr h) _ (fun v u H locs pc ls hd hp hP1 hD1 hS1 => W.lret B.exec B.bytes B.returns (fun t ht _ => ⟨⟨v, u, rfl, hp, by rw [ht]; exact hP1, hD1⟩, hS1.F ht⟩) hS1.2.2 hd B.notSynchronized) ls hl
/-- a writing method, from its entry (void) -/
theorem zOfV {S : Type} {l : Launch} {y : MethodName} {ws ws' : List Cond} {rm : Room} {D : va_G} {cy : Nat → ClassId} {w0 : va_W} {av : List Value} {cc : ByteArray} {maxL : Nat} {mc ms : Nat} {sz : Nat} {post : S → Prop} {w1 : S → va_W} (hy : plainName y.cls = true) (hw : ws = Cond.code y cc maxL none :: ws') (hL : (lg_sl av).length ≤ maxL)
    (body : ∀ (p : Program) (e : Env) (s : State) (m : MethodId) (args : Array Value) (below : List Frame) (meth : Method) (c : Code), p.tables.exec = Jvm.exec → c.code = cc → c.maxLocals = maxL → (∀ w ∈ ws, w.before args s = true) → s.vm.findClass y.cls = some m.cls → va_P D vwCl w0 s.heap → zK D cy s → ∀ (A : Nat → Prop), va_D A w0 → (∀ q : Nat, s.heap.size ≤ q → A q) → ∀ (Q : State → Prop), (∀ (u : S) (H : Heap) (locs : List Loc) (pc : Nat) (ls : Array Slot), decode cc pc = .ok (.return_, 1) → post u → va_P D vwCl (w1 u) H → va_D A (w1 u) → va_S A s.heap H locs → W p l e rm s m args below meth c H locs mc ms Q (F0 m pc ls [])) → ∀ ls : Array Slot, lv_has ls maxL (lv_args 0 av) → meth.name = y.name → W p l e rm s m args below meth c s.heap [] 0 0 Q (F0 m 0 ls [])) : Met l y ws rm (zPw D cy w0 sz av) (va_Qv post (fun u t => va_P D vwCl (w1 u) t.heap ∧ va_D (va_A w0 sz) (w1 u)) (va_A w0 sz)) mc ms (va_A w0 sz) := by
  refine Met.ofW (cc := cc) (maxL := maxL) (ret := none) hy hw ?_
  intro p e s m args below meth c s₁ B hml hv
  obtain ⟨rfl, hsz, hP, hK, hD0⟩ := hv
  subst hsz
  have hD := hD0.self (sz := s.heap.size)
  have hl := lv_entry av (n := maxL) hL
  rw [lg_entry_eq]
  generalize (lg_sl av ++ List.replicate (maxL - (lg_sl av).length) Slot.unset).toArray = ls at hl ⊢
  exact body p e s m _ below meth c B.exec B.bytes hml (atoms_spec (ws := ws) B.pre) (findClass_of_methodNamed B.named) hP hK (va_A w0 s.heap.size) hD (fun q h => Or.inr h) _ (fun u H locs pc ls hd hp hP1 hD1 hS1 => W.vret B.exec B.bytes B.returns (fun t ht _ => ⟨⟨u, rfl, hp, by rw [ht]; exact hP1, hD1⟩, hS1.F ht⟩) hS1.2.2 hd B.notSynchronized) ls hl (name_of_methodNamed B.named B.method).1
section
variable {p : Program} {l : Launch} {e : Env} {R rm : Room} {s : State} {m : MethodId} {args : Array Value} {below : List Frame} {meth : Method} {c : Code} {H H0 : Heap} {locs : List Loc} {cells slots pc : Nat} {ls : Array Slot} {rest st0 As : List Value} {Q : State → Prop} {D : va_G} {cy : Nat → ClassId} {w0 ws wr : va_W} {b : Nat} {y : MethodName} {bytes cc : ByteArray} {maxL nL n index ci : Nat} {ret : Option FieldType} {wsy Ts : List Cond} {own C : String} {fs : List Value} {q : vw_C} {A0 : Nat → Prop}
theorem zcRi {post : Int32 → Prop} (S : CallFix p m c cc nL s args Ts own) (hM : Met l y wsy rm (zPr D cy w0 (.ref b :: As)) (vp_Si post) 0 0 (fun _ => False)) (cw : CallW R s args own C index y bytes maxL ret wsy rm 0 0 n) (hK : zK D cy s) (hP : va_P D vwCl ws H) (isC : List Nat) (hC : isC.filterMap (fun i => ws[i]?) = w0) (hc : vwCl[ci]? = some q) (hq : q.1 = C) (h0 : w0[0]? = some (b, .inr (ci, fs))) (hn : As.length = n) (hsz : ls.size = nL) (hst : st0 = As.reverse ++ .ref b :: rest) (hW : (rest.map fun v => v.category).sum ≤ 8) (hdg : decode cc pc = .ok (.invokevirtual index, 3)) (hf : cells ≤ R.cells ∧ slots ≤ R.slots)
    (kk : ∀ r : Int32, post r → W p l e R s m args below meth c H locs cells slots Q (F0 m (pc + 3) ls (.int r :: rest))) : W p l e R s m args below meth c H locs cells slots Q (F0 m pc ls st0) := by
  have hPc := hP.sub (ws' := w0) isC hC
  subst hq
  exact vp_callSi (va_Run.run (va_runV (As := As) (rest := rest) S hM cw ⟨zPr_blind, va_recv hK.1 hPc hc h0, fun U hU hW => ⟨rfl, by rw [hU]; exact hPc, zK_warm hW hK⟩⟩ rfl hn hsz hst (lv_room hW) hdg hf)) kk
theorem zcRl {post : Int64 → Prop} (S : CallFix p m c cc nL s args Ts own) (hM : Met l y wsy rm (zPr D cy w0 (.ref b :: As)) (vp_Sl post) 0 0 (fun _ => False)) (cw : CallW R s args own C index y bytes maxL ret wsy rm 0 0 n) (hK : zK D cy s) (hP : va_P D vwCl ws H) (isC : List Nat) (hC : isC.filterMap (fun i => ws[i]?) = w0) (hc : vwCl[ci]? = some q) (hq : q.1 = C) (h0 : w0[0]? = some (b, .inr (ci, fs))) (hn : As.length = n) (hsz : ls.size = nL) (hst : st0 = As.reverse ++ .ref b :: rest) (hW : (rest.map fun v => v.category).sum ≤ 8) (hdg : decode cc pc = .ok (.invokevirtual index, 3)) (hf : cells ≤ R.cells ∧ slots ≤ R.slots)
    (kk : ∀ r : Int64, post r → W p l e R s m args below meth c H locs cells slots Q (F0 m (pc + 3) ls (.long r :: rest))) : W p l e R s m args below meth c H locs cells slots Q (F0 m pc ls st0) := by
  have hPc := hP.sub (ws' := w0) isC hC
  subst hq
  exact vp_callSl (va_Run.run (va_runV (As := As) (rest := rest) S hM cw ⟨zPr_blind, va_recv hK.1 hPc hc h0, fun U hU hW => ⟨rfl, by rw [hU]; exact hPc, zK_warm hW hK⟩⟩ rfl hn hsz hst (lv_room hW) hdg hf)) kk
theorem zcSi {post : Int32 → Prop} (S : CallFix p m c cc nL s args Ts own) (hM : Met l y wsy rm (zPr D cy w0 As) (vp_Si post) 0 0 (fun _ => False)) (cw : CallB R s args own index y bytes maxL ret wsy rm 0 0 n ∧ (Cond.static y).before args s = true) (hK : zK D cy s) (hP : va_P D vwCl ws H) (isC : List Nat) (hC : isC.filterMap (fun i => ws[i]?) = w0) (hn : As.length = n) (hsz : ls.size = nL) (hst : st0 = As.reverse ++ rest) (hW : (rest.map fun v => v.category).sum ≤ 8) (hdg : decode cc pc = .ok (.invokestatic index, 3)) (hf : cells ≤ R.cells ∧ slots ≤ R.slots)
    (kk : ∀ r : Int32, post r → W p l e R s m args below meth c H locs cells slots Q (F0 m (pc + 3) ls (.int r :: rest))) : W p l e R s m args below meth c H locs cells slots Q (F0 m pc ls st0) := by
  have hPc := hP.sub (ws' := w0) isC hC
  exact vp_callSi (va_Run.run (va_runS (As := As) (rest := rest) S hM cw ⟨zPr_blind, fun U hU hW => ⟨rfl, by rw [hU]; exact hPc, zK_warm hW hK⟩⟩ rfl hn hsz hst (lv_room hW) hdg hf)) kk
theorem zcSl {post : Int64 → Prop} (S : CallFix p m c cc nL s args Ts own) (hM : Met l y wsy rm (zPr D cy w0 As) (vp_Sl post) 0 0 (fun _ => False)) (cw : CallB R s args own index y bytes maxL ret wsy rm 0 0 n ∧ (Cond.static y).before args s = true) (hK : zK D cy s) (hP : va_P D vwCl ws H) (isC : List Nat) (hC : isC.filterMap (fun i => ws[i]?) = w0) (hn : As.length = n) (hsz : ls.size = nL) (hst : st0 = As.reverse ++ rest) (hW : (rest.map fun v => v.category).sum ≤ 8) (hdg : decode cc pc = .ok (.invokestatic index, 3)) (hf : cells ≤ R.cells ∧ slots ≤ R.slots)
    (kk : ∀ r : Int64, post r → W p l e R s m args below meth c H locs cells slots Q (F0 m (pc + 3) ls (.long r :: rest))) : W p l e R s m args below meth c H locs cells slots Q (F0 m pc ls st0) := by
  have hPc := hP.sub (ws' := w0) isC hC
  exact vp_callSl (va_Run.run (va_runS (As := As) (rest := rest) S hM cw ⟨zPr_blind, fun U hU hW => ⟨rfl, by rw [hU]; exact hPc, zK_warm hW hK⟩⟩ rfl hn hsz hst (lv_room hW) hdg hf)) kk
theorem zcWi {S : Type} {post : Int32 → S → Prop} {w1 : S → va_W} (S0 : CallFix p m c cc nL s args Ts own) (hM : Met l y wsy rm (zPw D cy w0 H.size (.ref b :: As)) (va_Qi post (fun u t => va_P D vwCl (w1 u) t.heap ∧ va_D (va_A w0 H.size) (w1 u)) (va_A w0 H.size)) 0 0 (va_A w0 H.size)) (cw : CallW R s args own C index y bytes maxL ret wsy rm 0 0 n) (hK : zK D cy s) (hP : va_P D vwCl ws H) (hD : va_D A0 ws) (hS : va_S A0 H0 H locs) (hA : ∀ q : Nat, H0.size ≤ q → A0 q) (isC isR perm : List Nat) (hC : isC.map (fun i => ws[i]?) = w0.map some) (hnC : va_nd isC = true) (hR : isR.map (fun i => ws[i]?) = wr.map some) (hnR : va_nd isR = true) (hdis : ∀ i ∈ isR, i ∉ isC) {w2 : S → va_W} (hpm : ∀ u : S, perm.map (fun i => (wr ++ w1 u)[i]?) = (w2 u).map some) (hnP : va_nd perm = true) (hc : vwCl[ci]? = some q) (hq : q.1 = C) (h0 : w0[0]? = some (b, .inr (ci, fs))) (hn : As.length = n) (hsz : ls.size = nL) (hst : st0 = As.reverse ++ .ref b :: rest) (hW : (rest.map fun v => v.category).sum ≤ 8) (hdg : decode cc pc = .ok (.invokevirtual index, 3)) (hf : cells ≤ R.cells ∧ slots ≤ R.slots)
    (kk : ∀ (r : Int32) (u : S) (H1 : Heap) (locs1 : List Loc), post r u → va_P D vwCl (w2 u) H1 → va_D A0 (w2 u) → va_S A0 H0 H1 locs1 → W p l e R s m args below meth c H1 locs1 cells slots Q (F0 m (pc + 3) ls (.int r :: rest))) : W p l e R s m args below meth c H locs cells slots Q (F0 m pc ls st0) := by
  have hPc := hP.sub (ws' := w0) isC (zz_fm hC)
  have hDc := hD.sub (ws' := w0) isC hnC hC
  have hFc := va_free (wc := w0) hD hS hA isC hC
  subst hq
  refine va_calli (va_runV (As := As) (rest := rest) S0 hM cw ⟨zPw_blind, va_recv hK.1 hPc hc h0, fun U hU hW => ⟨rfl, by rw [hU], by rw [hU]; exact hPc, zK_warm hW hK, hDc.weaken (fun _ _ _ _ => trivial)⟩⟩ rfl hn hsz hst (lv_room hW) hdg hf) hS (fun q _ h => hFc q h) hFc (fun r u t H1 locs1 ht hvm hw hB hz1 hk1 hS1 => ?_)
  obtain ⟨hP1, hD1⟩ := hB
  rw [ht] at hP1
  obtain ⟨hP2, hD2⟩ := va_join hP hD isC isR hC hR hnR hdis hk1 hFc hP1 hD1
  exact kk r u H1 locs1 hw (hP2.sub perm (zz_fm (hpm u))) (hD2.sub perm hnP (hpm u)) hS1
theorem zcWl {S : Type} {post : Int64 → S → Prop} {w1 : S → va_W} (S0 : CallFix p m c cc nL s args Ts own) (hM : Met l y wsy rm (zPw D cy w0 H.size (.ref b :: As)) (va_Ql post (fun u t => va_P D vwCl (w1 u) t.heap ∧ va_D (va_A w0 H.size) (w1 u)) (va_A w0 H.size)) 0 0 (va_A w0 H.size)) (cw : CallW R s args own C index y bytes maxL ret wsy rm 0 0 n) (hK : zK D cy s) (hP : va_P D vwCl ws H) (hD : va_D A0 ws) (hS : va_S A0 H0 H locs) (hA : ∀ q : Nat, H0.size ≤ q → A0 q) (isC isR perm : List Nat) (hC : isC.map (fun i => ws[i]?) = w0.map some) (hnC : va_nd isC = true) (hR : isR.map (fun i => ws[i]?) = wr.map some) (hnR : va_nd isR = true) (hdis : ∀ i ∈ isR, i ∉ isC) {w2 : S → va_W} (hpm : ∀ u : S, perm.map (fun i => (wr ++ w1 u)[i]?) = (w2 u).map some) (hnP : va_nd perm = true) (hc : vwCl[ci]? = some q) (hq : q.1 = C) (h0 : w0[0]? = some (b, .inr (ci, fs))) (hn : As.length = n) (hsz : ls.size = nL) (hst : st0 = As.reverse ++ .ref b :: rest) (hW : (rest.map fun v => v.category).sum ≤ 8) (hdg : decode cc pc = .ok (.invokevirtual index, 3)) (hf : cells ≤ R.cells ∧ slots ≤ R.slots)
    (kk : ∀ (r : Int64) (u : S) (H1 : Heap) (locs1 : List Loc), post r u → va_P D vwCl (w2 u) H1 → va_D A0 (w2 u) → va_S A0 H0 H1 locs1 → W p l e R s m args below meth c H1 locs1 cells slots Q (F0 m (pc + 3) ls (.long r :: rest))) : W p l e R s m args below meth c H locs cells slots Q (F0 m pc ls st0) := by
  have hPc := hP.sub (ws' := w0) isC (zz_fm hC)
  have hDc := hD.sub (ws' := w0) isC hnC hC
  have hFc := va_free (wc := w0) hD hS hA isC hC
  subst hq
  refine va_calll (va_runV (As := As) (rest := rest) S0 hM cw ⟨zPw_blind, va_recv hK.1 hPc hc h0, fun U hU hW => ⟨rfl, by rw [hU], by rw [hU]; exact hPc, zK_warm hW hK, hDc.weaken (fun _ _ _ _ => trivial)⟩⟩ rfl hn hsz hst (lv_room hW) hdg hf) hS (fun q _ h => hFc q h) hFc (fun r u t H1 locs1 ht hvm hw hB hz1 hk1 hS1 => ?_)
  obtain ⟨hP1, hD1⟩ := hB
  rw [ht] at hP1
  obtain ⟨hP2, hD2⟩ := va_join hP hD isC isR hC hR hnR hdis hk1 hFc hP1 hD1
  exact kk r u H1 locs1 hw (hP2.sub perm (zz_fm (hpm u))) (hD2.sub perm hnP (hpm u)) hS1
theorem zcWv {S : Type} {post : S → Prop} {w1 : S → va_W} (S0 : CallFix p m c cc nL s args Ts own) (hM : Met l y wsy rm (zPw D cy w0 H.size (.ref b :: As)) (va_Qv post (fun u t => va_P D vwCl (w1 u) t.heap ∧ va_D (va_A w0 H.size) (w1 u)) (va_A w0 H.size)) 0 0 (va_A w0 H.size)) (cw : CallW R s args own C index y bytes maxL ret wsy rm 0 0 n) (hK : zK D cy s) (hP : va_P D vwCl ws H) (hD : va_D A0 ws) (hS : va_S A0 H0 H locs) (hA : ∀ q : Nat, H0.size ≤ q → A0 q) (isC isR perm : List Nat) (hC : isC.map (fun i => ws[i]?) = w0.map some) (hnC : va_nd isC = true) (hR : isR.map (fun i => ws[i]?) = wr.map some) (hnR : va_nd isR = true) (hdis : ∀ i ∈ isR, i ∉ isC) {w2 : S → va_W} (hpm : ∀ u : S, perm.map (fun i => (wr ++ w1 u)[i]?) = (w2 u).map some) (hnP : va_nd perm = true) (hc : vwCl[ci]? = some q) (hq : q.1 = C) (h0 : w0[0]? = some (b, .inr (ci, fs))) (hn : As.length = n) (hsz : ls.size = nL) (hst : st0 = As.reverse ++ .ref b :: rest) (hW : (rest.map fun v => v.category).sum ≤ 8) (hdg : decode cc pc = .ok (.invokevirtual index, 3)) (hf : cells ≤ R.cells ∧ slots ≤ R.slots)
    (kk : ∀ (u : S) (H1 : Heap) (locs1 : List Loc), post u → va_P D vwCl (w2 u) H1 → va_D A0 (w2 u) → va_S A0 H0 H1 locs1 → W p l e R s m args below meth c H1 locs1 cells slots Q (F0 m (pc + 3) ls (rest))) : W p l e R s m args below meth c H locs cells slots Q (F0 m pc ls st0) := by
  have hPc := hP.sub (ws' := w0) isC (zz_fm hC)
  have hDc := hD.sub (ws' := w0) isC hnC hC
  have hFc := va_free (wc := w0) hD hS hA isC hC
  subst hq
  refine va_callv (va_runV (As := As) (rest := rest) S0 hM cw ⟨zPw_blind, va_recv hK.1 hPc hc h0, fun U hU hW => ⟨rfl, by rw [hU], by rw [hU]; exact hPc, zK_warm hW hK, hDc.weaken (fun _ _ _ _ => trivial)⟩⟩ rfl hn hsz hst (lv_room hW) hdg hf) hS (fun q _ h => hFc q h) hFc (fun u t H1 locs1 ht hvm hw hB hz1 hk1 hS1 => ?_)
  obtain ⟨hP1, hD1⟩ := hB
  rw [ht] at hP1
  obtain ⟨hP2, hD2⟩ := va_join hP hD isC isR hC hR hnR hdis hk1 hFc hP1 hD1
  exact kk u H1 locs1 hw (hP2.sub perm (zz_fm (hpm u))) (hD2.sub perm hnP (hpm u)) hS1
theorem zcIv {S : Type} {mc ms : Nat} {post : S → Prop} {w1 : S → va_W} (S0 : CallFix p m c cc nL s args Ts own) (hM : Met l y wsy rm (zPw D cy w0 H.size (.ref b :: As)) (va_Qv post (fun u t => va_P D vwCl (w1 u) t.heap ∧ va_D (va_A w0 H.size) (w1 u)) (va_A w0 H.size)) mc ms (va_A w0 H.size)) (cw : CallB R s args own index y bytes maxL none wsy rm mc ms n ∧ y.name = "<init>" ∧ (Cond.instanceMethod y).before args s = true) (hK : zK D cy s) (hP : va_P D vwCl ws H) (hD : va_D A0 ws) (hS : va_S A0 H0 H locs) (hA : ∀ q : Nat, H0.size ≤ q → A0 q) (isC isR perm : List Nat) (hC : isC.map (fun i => ws[i]?) = w0.map some) (hnC : va_nd isC = true) (hR : isR.map (fun i => ws[i]?) = wr.map some) (hnR : va_nd isR = true) (hdis : ∀ i ∈ isR, i ∉ isC) {w2 : S → va_W} (hpm : ∀ u : S, perm.map (fun i => (wr ++ w1 u)[i]?) = (w2 u).map some) (hnP : va_nd perm = true) (hn : As.length = n) (hsz : ls.size = nL) (hst : st0 = As.reverse ++ .ref b :: rest) (hW : (rest.map fun v => v.category).sum ≤ 8) (hdg : decode cc pc = .ok (.invokespecial index, 3)) (hf : cells + mc ≤ R.cells ∧ slots + ms ≤ R.slots)
    (kk : ∀ (u : S) (H1 : Heap) (locs1 : List Loc), post u → va_P D vwCl (w2 u) H1 → va_D A0 (w2 u) → va_S A0 H0 H1 locs1 → W p l e R s m args below meth c H1 locs1 (cells + mc) (slots + ms) Q (F0 m (pc + 3) ls (rest))) : W p l e R s m args below meth c H locs cells slots Q (F0 m pc ls st0) := by
  have hPc := hP.sub (ws' := w0) isC (zz_fm hC)
  have hDc := hD.sub (ws' := w0) isC hnC hC
  have hFc := va_free (wc := w0) hD hS hA isC hC
  refine va_callv (va_runI (As := As) (rest := rest) S0 hM cw ⟨zPw_blind, fun U hU hW => ⟨rfl, by rw [hU], by rw [hU]; exact hPc, zK_warm hW hK, hDc.weaken (fun _ _ _ _ => trivial)⟩⟩ rfl hn hsz hst (lv_room hW) hdg hf) hS (fun q _ h => hFc q h) hFc (fun u t H1 locs1 ht hvm hw hB hz1 hk1 hS1 => ?_)
  obtain ⟨hP1, hD1⟩ := hB
  rw [ht] at hP1
  obtain ⟨hP2, hD2⟩ := va_join hP hD isC isR hC hR hnR hdis hk1 hFc hP1 hD1
  exact kk u H1 locs1 hw (hP2.sub perm (zz_fm (hpm u))) (hD2.sub perm hnP (hpm u)) hS1
theorem zcNv {S : Type} {mc ms : Nat} {host : String} {post : S → Prop} {w1 : S → va_W} (S0 : CallFix p m c cc nL s args Ts own) (hM : Met l y wsy rm (zPw D cy w0 H.size (.ref b :: As)) (va_Qv post (fun u t => va_P D vwCl (w1 u) t.heap ∧ va_D (va_A w0 H.size) (w1 u)) (va_A w0 H.size)) mc ms (va_A w0 H.size)) (cw : va_CN R s args own index y host bytes maxL none wsy rm mc ms n ∧ y.name = "<init>" ∧ (Cond.instanceMethod y).before args s = true) (hK : zK D cy s) (hP : va_P D vwCl ws H) (hD : va_D A0 ws) (hS : va_S A0 H0 H locs) (hA : ∀ q : Nat, H0.size ≤ q → A0 q) (isC isR perm : List Nat) (hC : isC.map (fun i => ws[i]?) = w0.map some) (hnC : va_nd isC = true) (hR : isR.map (fun i => ws[i]?) = wr.map some) (hnR : va_nd isR = true) (hdis : ∀ i ∈ isR, i ∉ isC) {w2 : S → va_W} (hpm : ∀ u : S, perm.map (fun i => (wr ++ w1 u)[i]?) = (w2 u).map some) (hnP : va_nd perm = true) (hn : As.length = n) (hsz : ls.size = nL) (hst : st0 = As.reverse ++ .ref b :: rest) (hW : (rest.map fun v => v.category).sum ≤ 8) (hdg : decode cc pc = .ok (.invokespecial index, 3)) (hf : cells + mc ≤ R.cells ∧ slots + ms ≤ R.slots)
    (kk : ∀ (u : S) (H1 : Heap) (locs1 : List Loc), post u → va_P D vwCl (w2 u) H1 → va_D A0 (w2 u) → va_S A0 H0 H1 locs1 → W p l e R s m args below meth c H1 locs1 (cells + mc) (slots + ms) Q (F0 m (pc + 3) ls (rest))) : W p l e R s m args below meth c H locs cells slots Q (F0 m pc ls st0) := by
  have hPc := hP.sub (ws' := w0) isC (zz_fm hC)
  have hDc := hD.sub (ws' := w0) isC hnC hC
  have hFc := va_free (wc := w0) hD hS hA isC hC
  refine va_callv (va_runIN (As := As) (rest := rest) S0 hM cw ⟨zPw_blind, fun U hU hW => ⟨rfl, by rw [hU], by rw [hU]; exact hPc, zK_warm hW hK, hDc.weaken (fun _ _ _ _ => trivial)⟩⟩ rfl hn hsz hst (lv_room hW) hdg hf) hS (fun q _ h => hFc q h) hFc (fun u t H1 locs1 ht hvm hw hB hz1 hk1 hS1 => ?_)
  obtain ⟨hP1, hD1⟩ := hB
  rw [ht] at hP1
  obtain ⟨hP2, hD2⟩ := va_join hP hD isC isR hC hR hnR hdis hk1 hFc hP1 hD1
  exact kk u H1 locs1 hw (hP2.sub perm (zz_fm (hpm u))) (hD2.sub perm hnP (hpm u)) hS1
theorem zi_add (hx : p.tables.exec = Jvm.exec) (hb : c.code = cc) {x y v : Int32} (hdg : decode cc pc = .ok (.iadd, 1)) (h : x + y = v) (k : W p l e R s m args below meth c H locs cells slots Q (F0 m (pc + 1) ls (.int v :: rest))) : W p l e R s m args below meth c H locs cells slots Q (F0 m pc ls (.int y :: .int x :: rest)) := by
  subst h
  exact lv_iadd hx hb hdg k
theorem zi_sub (hx : p.tables.exec = Jvm.exec) (hb : c.code = cc) {x y v : Int32} (hdg : decode cc pc = .ok (.isub, 1)) (h : x - y = v) (k : W p l e R s m args below meth c H locs cells slots Q (F0 m (pc + 1) ls (.int v :: rest))) : W p l e R s m args below meth c H locs cells slots Q (F0 m pc ls (.int y :: .int x :: rest)) := by
  subst h
  exact lv_isub hx hb hdg k
theorem zi_mul (hx : p.tables.exec = Jvm.exec) (hb : c.code = cc) {x y v : Int32} (hdg : decode cc pc = .ok (.imul, 1)) (h : x * y = v) (k : W p l e R s m args below meth c H locs cells slots Q (F0 m (pc + 1) ls (.int v :: rest))) : W p l e R s m args below meth c H locs cells slots Q (F0 m pc ls (.int y :: .int x :: rest)) := by
  subst h
  exact lv_imul hx hb hdg k
theorem zi_and (hx : p.tables.exec = Jvm.exec) (hb : c.code = cc) {x y v : Int32} (hdg : decode cc pc = .ok (.iand, 1)) (h : x &&& y = v) (k : W p l e R s m args below meth c H locs cells slots Q (F0 m (pc + 1) ls (.int v :: rest))) : W p l e R s m args below meth c H locs cells slots Q (F0 m pc ls (.int y :: .int x :: rest)) := by
  subst h
  exact lv_iand hx hb hdg k
theorem zi_or (hx : p.tables.exec = Jvm.exec) (hb : c.code = cc) {x y v : Int32} (hdg : decode cc pc = .ok (.ior, 1)) (h : x ||| y = v) (k : W p l e R s m args below meth c H locs cells slots Q (F0 m (pc + 1) ls (.int v :: rest))) : W p l e R s m args below meth c H locs cells slots Q (F0 m pc ls (.int y :: .int x :: rest)) := by
  subst h
  exact lv_ior hx hb hdg k
theorem zi_xor (hx : p.tables.exec = Jvm.exec) (hb : c.code = cc) {x y v : Int32} (hdg : decode cc pc = .ok (.ixor, 1)) (h : x ^^^ y = v) (k : W p l e R s m args below meth c H locs cells slots Q (F0 m (pc + 1) ls (.int v :: rest))) : W p l e R s m args below meth c H locs cells slots Q (F0 m pc ls (.int y :: .int x :: rest)) := by
  subst h
  exact lv_ixor hx hb hdg k
theorem zi_shl (hx : p.tables.exec = Jvm.exec) (hb : c.code = cc) {x y v : Int32} (hdg : decode cc pc = .ok (.ishl, 1)) (h : x <<< (y &&& 31) = v) (k : W p l e R s m args below meth c H locs cells slots Q (F0 m (pc + 1) ls (.int v :: rest))) : W p l e R s m args below meth c H locs cells slots Q (F0 m pc ls (.int y :: .int x :: rest)) := by
  subst h
  exact lv_ishl hx hb hdg k
theorem zi_shr (hx : p.tables.exec = Jvm.exec) (hb : c.code = cc) {x y v : Int32} (hdg : decode cc pc = .ok (.ishr, 1)) (h : x >>> (y &&& 31) = v) (k : W p l e R s m args below meth c H locs cells slots Q (F0 m (pc + 1) ls (.int v :: rest))) : W p l e R s m args below meth c H locs cells slots Q (F0 m pc ls (.int y :: .int x :: rest)) := by
  subst h
  exact lv_ishr hx hb hdg k
theorem zi_div (hx : p.tables.exec = Jvm.exec) (hb : c.code = cc) {x y v : Int32} (hdg : decode cc pc = .ok (.idiv, 1)) (hne : ¬ y = 0) (h : x / y = v) (k : W p l e R s m args below meth c H locs cells slots Q (F0 m (pc + 1) ls (.int v :: rest))) : W p l e R s m args below meth c H locs cells slots Q (F0 m pc ls (.int y :: .int x :: rest)) := by
  subst h
  exact lv_idiv hx hb hdg hne k
theorem zi_rem (hx : p.tables.exec = Jvm.exec) (hb : c.code = cc) {x y v : Int32} (hdg : decode cc pc = .ok (.irem, 1)) (hne : ¬ y = 0) (h : x - x / y * y = v) (k : W p l e R s m args below meth c H locs cells slots Q (F0 m (pc + 1) ls (.int v :: rest))) : W p l e R s m args below meth c H locs cells slots Q (F0 m pc ls (.int y :: .int x :: rest)) := by
  subst h
  exact lv_irem hx hb hdg hne k
theorem zi_neg (hx : p.tables.exec = Jvm.exec) (hb : c.code = cc) {x v : Int32} (hdg : decode cc pc = .ok (.ineg, 1)) (h : -x = v) (k : W p l e R s m args below meth c H locs cells slots Q (F0 m (pc + 1) ls (.int v :: rest))) : W p l e R s m args below meth c H locs cells slots Q (F0 m pc ls (.int x :: rest)) := by
  subst h
  exact lv_ineg hx hb hdg k
/-- the number on top by another name -/
theorem zi_top {x v : Int32} (h : x = v) (k : W p l e R s m args below meth c H locs cells slots Q (F0 m pc ls (.int v :: rest))) : W p l e R s m args below meth c H locs cells slots Q (F0 m pc ls (.int x :: rest)) := by
  subst h
  exact k
theorem zl_top {x v : Int64} (h : x = v) (k : W p l e R s m args below meth c H locs cells slots Q (F0 m pc ls (.long v :: rest))) : W p l e R s m args below meth c H locs cells slots Q (F0 m pc ls (.long x :: rest)) := by
  subst h
  exact k
theorem zl_add (hx : p.tables.exec = Jvm.exec) (hb : c.code = cc) {x y v : Int64} (hdg : decode cc pc = .ok (.ladd, 1)) (h : x + y = v) (k : W p l e R s m args below meth c H locs cells slots Q (F0 m (pc + 1) ls (.long v :: rest))) : W p l e R s m args below meth c H locs cells slots Q (F0 m pc ls (.long y :: .long x :: rest)) := by
  subst h
  exact lv_ladd hx hb hdg k
theorem zl_sub (hx : p.tables.exec = Jvm.exec) (hb : c.code = cc) {x y v : Int64} (hdg : decode cc pc = .ok (.lsub, 1)) (h : x - y = v) (k : W p l e R s m args below meth c H locs cells slots Q (F0 m (pc + 1) ls (.long v :: rest))) : W p l e R s m args below meth c H locs cells slots Q (F0 m pc ls (.long y :: .long x :: rest)) := by
  subst h
  exact lv_lsub hx hb hdg k
theorem zl_mul (hx : p.tables.exec = Jvm.exec) (hb : c.code = cc) {x y v : Int64} (hdg : decode cc pc = .ok (.lmul, 1)) (h : x * y = v) (k : W p l e R s m args below meth c H locs cells slots Q (F0 m (pc + 1) ls (.long v :: rest))) : W p l e R s m args below meth c H locs cells slots Q (F0 m pc ls (.long y :: .long x :: rest)) := by
  subst h
  exact lv_lmul hx hb hdg k
theorem zl_and (hx : p.tables.exec = Jvm.exec) (hb : c.code = cc) {x y v : Int64} (hdg : decode cc pc = .ok (.land, 1)) (h : x &&& y = v) (k : W p l e R s m args below meth c H locs cells slots Q (F0 m (pc + 1) ls (.long v :: rest))) : W p l e R s m args below meth c H locs cells slots Q (F0 m pc ls (.long y :: .long x :: rest)) := by
  subst h
  exact lv_land hx hb hdg k
theorem zl_or (hx : p.tables.exec = Jvm.exec) (hb : c.code = cc) {x y v : Int64} (hdg : decode cc pc = .ok (.lor, 1)) (h : x ||| y = v) (k : W p l e R s m args below meth c H locs cells slots Q (F0 m (pc + 1) ls (.long v :: rest))) : W p l e R s m args below meth c H locs cells slots Q (F0 m pc ls (.long y :: .long x :: rest)) := by
  subst h
  exact lv_lor hx hb hdg k
theorem zl_xor (hx : p.tables.exec = Jvm.exec) (hb : c.code = cc) {x y v : Int64} (hdg : decode cc pc = .ok (.lxor, 1)) (h : x ^^^ y = v) (k : W p l e R s m args below meth c H locs cells slots Q (F0 m (pc + 1) ls (.long v :: rest))) : W p l e R s m args below meth c H locs cells slots Q (F0 m pc ls (.long y :: .long x :: rest)) := by
  subst h
  exact lv_lxor hx hb hdg k
theorem zb_eq (hx : p.tables.exec = Jvm.exec) (hb : c.code = cc) {a b : Nat} {off : Int} {tgt : Nat} (hdg : decode cc pc = .ok (.if_icmp .eq off, 3)) (ht : (pc : Int) + off = (tgt : Int)) (ha : a < 2 ^ 31) (hb' : b < 2 ^ 31) (kt : a = b → W p l e R s m args below meth c H locs cells slots Q (F0 m tgt ls (rest))) (kf : a ≠ b → W p l e R s m args below meth c H locs cells slots Q (F0 m (pc + 3) ls (rest))) : W p l e R s m args below meth c H locs cells slots Q (F0 m pc ls (.int (nI b) :: .int (nI a) :: rest)) := by
  refine lv_icmp_eq hx hb hdg ht (fun h => kt ?_) (fun h => kf ?_)
  · simp only [nI_eq ha hb', nI_ltI ha hb', nI_leI ha hb', nI_ltI hb' ha, nI_leI hb' ha] at h; omega
  · simp only [nI_eq ha hb', nI_ltI ha hb', nI_leI ha hb', nI_ltI hb' ha, nI_leI hb' ha] at h; omega
theorem zt_eq (hx : p.tables.exec = Jvm.exec) (hb : c.code = cc) {x y : Int32} {a b : Int} {off : Int} {tgt : Nat} (hdg : decode cc pc = .ok (.if_icmp .eq off, 3)) (ht : (pc : Int) + off = (tgt : Int)) (ha : x.toInt = a) (hb' : y.toInt = b) (kt : a = b → W p l e R s m args below meth c H locs cells slots Q (F0 m tgt ls (rest))) (kf : a ≠ b → W p l e R s m args below meth c H locs cells slots Q (F0 m (pc + 3) ls (rest))) : W p l e R s m args below meth c H locs cells slots Q (F0 m pc ls (.int y :: .int x :: rest)) := by
  subst ha hb'
  refine lv_icmp_eq hx hb hdg ht (fun h => kt ?_) (fun h => kf ?_)
  · simp only [zz_eq, Int32.lt_iff_toInt_lt, Int32.le_iff_toInt_le] at h; omega
  · simp only [zz_eq, Int32.lt_iff_toInt_lt, Int32.le_iff_toInt_le] at h; omega
theorem zb_ne (hx : p.tables.exec = Jvm.exec) (hb : c.code = cc) {a b : Nat} {off : Int} {tgt : Nat} (hdg : decode cc pc = .ok (.if_icmp .ne off, 3)) (ht : (pc : Int) + off = (tgt : Int)) (ha : a < 2 ^ 31) (hb' : b < 2 ^ 31) (kt : a ≠ b → W p l e R s m args below meth c H locs cells slots Q (F0 m tgt ls (rest))) (kf : a = b → W p l e R s m args below meth c H locs cells slots Q (F0 m (pc + 3) ls (rest))) : W p l e R s m args below meth c H locs cells slots Q (F0 m pc ls (.int (nI b) :: .int (nI a) :: rest)) := by
  refine lv_icmp_ne hx hb hdg ht (fun h => kt ?_) (fun h => kf ?_)
  · simp only [nI_eq ha hb', nI_ltI ha hb', nI_leI ha hb', nI_ltI hb' ha, nI_leI hb' ha] at h; omega
  · simp only [nI_eq ha hb', nI_ltI ha hb', nI_leI ha hb', nI_ltI hb' ha, nI_leI hb' ha] at h; omega
theorem zt_ne (hx : p.tables.exec = Jvm.exec) (hb : c.code = cc) {x y : Int32} {a b : Int} {off : Int} {tgt : Nat} (hdg : decode cc pc = .ok (.if_icmp .ne off, 3)) (ht : (pc : Int) + off = (tgt : Int)) (ha : x.toInt = a) (hb' : y.toInt = b) (kt : a ≠ b → W p l e R s m args below meth c H locs cells slots Q (F0 m tgt ls (rest))) (kf : a = b → W p l e R s m args below meth c H locs cells slots Q (F0 m (pc + 3) ls (rest))) : W p l e R s m args below meth c H locs cells slots Q (F0 m pc ls (.int y :: .int x :: rest)) := by
  subst ha hb'
  refine lv_icmp_ne hx hb hdg ht (fun h => kt ?_) (fun h => kf ?_)
  · simp only [zz_eq, Int32.lt_iff_toInt_lt, Int32.le_iff_toInt_le] at h; omega
  · simp only [zz_eq, Int32.lt_iff_toInt_lt, Int32.le_iff_toInt_le] at h; omega
theorem zb_lt (hx : p.tables.exec = Jvm.exec) (hb : c.code = cc) {a b : Nat} {off : Int} {tgt : Nat} (hdg : decode cc pc = .ok (.if_icmp .lt off, 3)) (ht : (pc : Int) + off = (tgt : Int)) (ha : a < 2 ^ 31) (hb' : b < 2 ^ 31) (kt : a < b → W p l e R s m args below meth c H locs cells slots Q (F0 m tgt ls (rest))) (kf : b ≤ a → W p l e R s m args below meth c H locs cells slots Q (F0 m (pc + 3) ls (rest))) : W p l e R s m args below meth c H locs cells slots Q (F0 m pc ls (.int (nI b) :: .int (nI a) :: rest)) := by
  refine lv_icmp_lt hx hb hdg ht (fun h => kt ?_) (fun h => kf ?_)
  · simp only [nI_eq ha hb', nI_ltI ha hb', nI_leI ha hb', nI_ltI hb' ha, nI_leI hb' ha] at h; omega
  · simp only [nI_eq ha hb', nI_ltI ha hb', nI_leI ha hb', nI_ltI hb' ha, nI_leI hb' ha] at h; omega
theorem zt_lt (hx : p.tables.exec = Jvm.exec) (hb : c.code = cc) {x y : Int32} {a b : Int} {off : Int} {tgt : Nat} (hdg : decode cc pc = .ok (.if_icmp .lt off, 3)) (ht : (pc : Int) + off = (tgt : Int)) (ha : x.toInt = a) (hb' : y.toInt = b) (kt : a < b → W p l e R s m args below meth c H locs cells slots Q (F0 m tgt ls (rest))) (kf : b ≤ a → W p l e R s m args below meth c H locs cells slots Q (F0 m (pc + 3) ls (rest))) : W p l e R s m args below meth c H locs cells slots Q (F0 m pc ls (.int y :: .int x :: rest)) := by
  subst ha hb'
  refine lv_icmp_lt hx hb hdg ht (fun h => kt ?_) (fun h => kf ?_)
  · simp only [zz_eq, Int32.lt_iff_toInt_lt, Int32.le_iff_toInt_le] at h; omega
  · simp only [zz_eq, Int32.lt_iff_toInt_lt, Int32.le_iff_toInt_le] at h; omega
theorem zb_ge (hx : p.tables.exec = Jvm.exec) (hb : c.code = cc) {a b : Nat} {off : Int} {tgt : Nat} (hdg : decode cc pc = .ok (.if_icmp .ge off, 3)) (ht : (pc : Int) + off = (tgt : Int)) (ha : a < 2 ^ 31) (hb' : b < 2 ^ 31) (kt : b ≤ a → W p l e R s m args below meth c H locs cells slots Q (F0 m tgt ls (rest))) (kf : a < b → W p l e R s m args below meth c H locs cells slots Q (F0 m (pc + 3) ls (rest))) : W p l e R s m args below meth c H locs cells slots Q (F0 m pc ls (.int (nI b) :: .int (nI a) :: rest)) := by
  refine lv_icmp_ge hx hb hdg ht (fun h => kt ?_) (fun h => kf ?_)
  · simp only [nI_eq ha hb', nI_ltI ha hb', nI_leI ha hb', nI_ltI hb' ha, nI_leI hb' ha] at h; omega
  · simp only [nI_eq ha hb', nI_ltI ha hb', nI_leI ha hb', nI_ltI hb' ha, nI_leI hb' ha] at h; omega
theorem zt_ge (hx : p.tables.exec = Jvm.exec) (hb : c.code = cc) {x y : Int32} {a b : Int} {off : Int} {tgt : Nat} (hdg : decode cc pc = .ok (.if_icmp .ge off, 3)) (ht : (pc : Int) + off = (tgt : Int)) (ha : x.toInt = a) (hb' : y.toInt = b) (kt : b ≤ a → W p l e R s m args below meth c H locs cells slots Q (F0 m tgt ls (rest))) (kf : a < b → W p l e R s m args below meth c H locs cells slots Q (F0 m (pc + 3) ls (rest))) : W p l e R s m args below meth c H locs cells slots Q (F0 m pc ls (.int y :: .int x :: rest)) := by
  subst ha hb'
  refine lv_icmp_ge hx hb hdg ht (fun h => kt ?_) (fun h => kf ?_)
  · simp only [zz_eq, Int32.lt_iff_toInt_lt, Int32.le_iff_toInt_le] at h; omega
  · simp only [zz_eq, Int32.lt_iff_toInt_lt, Int32.le_iff_toInt_le] at h; omega
theorem zb_gt (hx : p.tables.exec = Jvm.exec) (hb : c.code = cc) {a b : Nat} {off : Int} {tgt : Nat} (hdg : decode cc pc = .ok (.if_icmp .gt off, 3)) (ht : (pc : Int) + off = (tgt : Int)) (ha : a < 2 ^ 31) (hb' : b < 2 ^ 31) (kt : b < a → W p l e R s m args below meth c H locs cells slots Q (F0 m tgt ls (rest))) (kf : a ≤ b → W p l e R s m args below meth c H locs cells slots Q (F0 m (pc + 3) ls (rest))) : W p l e R s m args below meth c H locs cells slots Q (F0 m pc ls (.int (nI b) :: .int (nI a) :: rest)) := by
  refine lv_icmp_gt hx hb hdg ht (fun h => kt ?_) (fun h => kf ?_)
  · simp only [nI_eq ha hb', nI_ltI ha hb', nI_leI ha hb', nI_ltI hb' ha, nI_leI hb' ha] at h; omega
  · simp only [nI_eq ha hb', nI_ltI ha hb', nI_leI ha hb', nI_ltI hb' ha, nI_leI hb' ha] at h; omega
theorem zt_gt (hx : p.tables.exec = Jvm.exec) (hb : c.code = cc) {x y : Int32} {a b : Int} {off : Int} {tgt : Nat} (hdg : decode cc pc = .ok (.if_icmp .gt off, 3)) (ht : (pc : Int) + off = (tgt : Int)) (ha : x.toInt = a) (hb' : y.toInt = b) (kt : b < a → W p l e R s m args below meth c H locs cells slots Q (F0 m tgt ls (rest))) (kf : a ≤ b → W p l e R s m args below meth c H locs cells slots Q (F0 m (pc + 3) ls (rest))) : W p l e R s m args below meth c H locs cells slots Q (F0 m pc ls (.int y :: .int x :: rest)) := by
  subst ha hb'
  refine lv_icmp_gt hx hb hdg ht (fun h => kt ?_) (fun h => kf ?_)
  · simp only [zz_eq, Int32.lt_iff_toInt_lt, Int32.le_iff_toInt_le] at h; omega
  · simp only [zz_eq, Int32.lt_iff_toInt_lt, Int32.le_iff_toInt_le] at h; omega
theorem zb_le (hx : p.tables.exec = Jvm.exec) (hb : c.code = cc) {a b : Nat} {off : Int} {tgt : Nat} (hdg : decode cc pc = .ok (.if_icmp .le off, 3)) (ht : (pc : Int) + off = (tgt : Int)) (ha : a < 2 ^ 31) (hb' : b < 2 ^ 31) (kt : a ≤ b → W p l e R s m args below meth c H locs cells slots Q (F0 m tgt ls (rest))) (kf : b < a → W p l e R s m args below meth c H locs cells slots Q (F0 m (pc + 3) ls (rest))) : W p l e R s m args below meth c H locs cells slots Q (F0 m pc ls (.int (nI b) :: .int (nI a) :: rest)) := by
  refine lv_icmp_le hx hb hdg ht (fun h => kt ?_) (fun h => kf ?_)
  · simp only [nI_eq ha hb', nI_ltI ha hb', nI_leI ha hb', nI_ltI hb' ha, nI_leI hb' ha] at h; omega
  · simp only [nI_eq ha hb', nI_ltI ha hb', nI_leI ha hb', nI_ltI hb' ha, nI_leI hb' ha] at h; omega
theorem zt_le (hx : p.tables.exec = Jvm.exec) (hb : c.code = cc) {x y : Int32} {a b : Int} {off : Int} {tgt : Nat} (hdg : decode cc pc = .ok (.if_icmp .le off, 3)) (ht : (pc : Int) + off = (tgt : Int)) (ha : x.toInt = a) (hb' : y.toInt = b) (kt : a ≤ b → W p l e R s m args below meth c H locs cells slots Q (F0 m tgt ls (rest))) (kf : b < a → W p l e R s m args below meth c H locs cells slots Q (F0 m (pc + 3) ls (rest))) : W p l e R s m args below meth c H locs cells slots Q (F0 m pc ls (.int y :: .int x :: rest)) := by
  subst ha hb'
  refine lv_icmp_le hx hb hdg ht (fun h => kt ?_) (fun h => kf ?_)
  · simp only [zz_eq, Int32.lt_iff_toInt_lt, Int32.le_iff_toInt_le] at h; omega
  · simp only [zz_eq, Int32.lt_iff_toInt_lt, Int32.le_iff_toInt_le] at h; omega
theorem zb0_eq (hx : p.tables.exec = Jvm.exec) (hb : c.code = cc) {a : Nat} {off : Int} {tgt : Nat} (hdg : decode cc pc = .ok (.ifCond .eq off, 3)) (ht : (pc : Int) + off = (tgt : Int)) (ha : a < 2 ^ 31) (kt : a = 0 → W p l e R s m args below meth c H locs cells slots Q (F0 m tgt ls (rest))) (kf : a ≠ 0 → W p l e R s m args below meth c H locs cells slots Q (F0 m (pc + 3) ls (rest))) : W p l e R s m args below meth c H locs cells slots Q (F0 m pc ls (.int (nI a) :: rest)) := by
  have h0 : (nI a).toInt = (a : Int) := nI_toInt ha
  refine lv_if_eq hx hb hdg ht (fun h => kt ?_) (fun h => kf ?_)
  · simp only [zz_eq, Int32.lt_iff_toInt_lt, Int32.le_iff_toInt_le, zz_z, h0] at h; omega
  · simp only [zz_eq, Int32.lt_iff_toInt_lt, Int32.le_iff_toInt_le, zz_z, h0] at h; omega
theorem zt0_eq (hx : p.tables.exec = Jvm.exec) (hb : c.code = cc) {x : Int32} {a : Int} {off : Int} {tgt : Nat} (hdg : decode cc pc = .ok (.ifCond .eq off, 3)) (ht : (pc : Int) + off = (tgt : Int)) (ha : x.toInt = a) (kt : a = 0 → W p l e R s m args below meth c H locs cells slots Q (F0 m tgt ls (rest))) (kf : a ≠ 0 → W p l e R s m args below meth c H locs cells slots Q (F0 m (pc + 3) ls (rest))) : W p l e R s m args below meth c H locs cells slots Q (F0 m pc ls (.int x :: rest)) := by
  subst ha
  refine lv_if_eq hx hb hdg ht (fun h => kt ?_) (fun h => kf ?_)
  · simp only [zz_eq, Int32.lt_iff_toInt_lt, Int32.le_iff_toInt_le, zz_z] at h; omega
  · simp only [zz_eq, Int32.lt_iff_toInt_lt, Int32.le_iff_toInt_le, zz_z] at h; omega
theorem zb0_ne (hx : p.tables.exec = Jvm.exec) (hb : c.code = cc) {a : Nat} {off : Int} {tgt : Nat} (hdg : decode cc pc = .ok (.ifCond .ne off, 3)) (ht : (pc : Int) + off = (tgt : Int)) (ha : a < 2 ^ 31) (kt : a ≠ 0 → W p l e R s m args below meth c H locs cells slots Q (F0 m tgt ls (rest))) (kf : a = 0 → W p l e R s m args below meth c H locs cells slots Q (F0 m (pc + 3) ls (rest))) : W p l e R s m args below meth c H locs cells slots Q (F0 m pc ls (.int (nI a) :: rest)) := by
  have h0 : (nI a).toInt = (a : Int) := nI_toInt ha
  refine lv_if_ne hx hb hdg ht (fun h => kt ?_) (fun h => kf ?_)
  · simp only [zz_eq, Int32.lt_iff_toInt_lt, Int32.le_iff_toInt_le, zz_z, h0] at h; omega
  · simp only [zz_eq, Int32.lt_iff_toInt_lt, Int32.le_iff_toInt_le, zz_z, h0] at h; omega
theorem zt0_ne (hx : p.tables.exec = Jvm.exec) (hb : c.code = cc) {x : Int32} {a : Int} {off : Int} {tgt : Nat} (hdg : decode cc pc = .ok (.ifCond .ne off, 3)) (ht : (pc : Int) + off = (tgt : Int)) (ha : x.toInt = a) (kt : a ≠ 0 → W p l e R s m args below meth c H locs cells slots Q (F0 m tgt ls (rest))) (kf : a = 0 → W p l e R s m args below meth c H locs cells slots Q (F0 m (pc + 3) ls (rest))) : W p l e R s m args below meth c H locs cells slots Q (F0 m pc ls (.int x :: rest)) := by
  subst ha
  refine lv_if_ne hx hb hdg ht (fun h => kt ?_) (fun h => kf ?_)
  · simp only [zz_eq, Int32.lt_iff_toInt_lt, Int32.le_iff_toInt_le, zz_z] at h; omega
  · simp only [zz_eq, Int32.lt_iff_toInt_lt, Int32.le_iff_toInt_le, zz_z] at h; omega
theorem zb0_lt (hx : p.tables.exec = Jvm.exec) (hb : c.code = cc) {a : Nat} {off : Int} {tgt : Nat} (hdg : decode cc pc = .ok (.ifCond .lt off, 3)) (ht : (pc : Int) + off = (tgt : Int)) (ha : a < 2 ^ 31) (kt : a < 0 → W p l e R s m args below meth c H locs cells slots Q (F0 m tgt ls (rest))) (kf : 0 ≤ a → W p l e R s m args below meth c H locs cells slots Q (F0 m (pc + 3) ls (rest))) : W p l e R s m args below meth c H locs cells slots Q (F0 m pc ls (.int (nI a) :: rest)) := by
  have h0 : (nI a).toInt = (a : Int) := nI_toInt ha
  refine lv_if_lt hx hb hdg ht (fun h => kt ?_) (fun h => kf ?_)
  · simp only [zz_eq, Int32.lt_iff_toInt_lt, Int32.le_iff_toInt_le, zz_z, h0] at h; omega
  · simp only [zz_eq, Int32.lt_iff_toInt_lt, Int32.le_iff_toInt_le, zz_z, h0] at h; omega
theorem zt0_lt (hx : p.tables.exec = Jvm.exec) (hb : c.code = cc) {x : Int32} {a : Int} {off : Int} {tgt : Nat} (hdg : decode cc pc = .ok (.ifCond .lt off, 3)) (ht : (pc : Int) + off = (tgt : Int)) (ha : x.toInt = a) (kt : a < 0 → W p l e R s m args below meth c H locs cells slots Q (F0 m tgt ls (rest))) (kf : 0 ≤ a → W p l e R s m args below meth c H locs cells slots Q (F0 m (pc + 3) ls (rest))) : W p l e R s m args below meth c H locs cells slots Q (F0 m pc ls (.int x :: rest)) := by
  subst ha
  refine lv_if_lt hx hb hdg ht (fun h => kt ?_) (fun h => kf ?_)
  · simp only [zz_eq, Int32.lt_iff_toInt_lt, Int32.le_iff_toInt_le, zz_z] at h; omega
  · simp only [zz_eq, Int32.lt_iff_toInt_lt, Int32.le_iff_toInt_le, zz_z] at h; omega
theorem zb0_ge (hx : p.tables.exec = Jvm.exec) (hb : c.code = cc) {a : Nat} {off : Int} {tgt : Nat} (hdg : decode cc pc = .ok (.ifCond .ge off, 3)) (ht : (pc : Int) + off = (tgt : Int)) (ha : a < 2 ^ 31) (kt : 0 ≤ a → W p l e R s m args below meth c H locs cells slots Q (F0 m tgt ls (rest))) (kf : a < 0 → W p l e R s m args below meth c H locs cells slots Q (F0 m (pc + 3) ls (rest))) : W p l e R s m args below meth c H locs cells slots Q (F0 m pc ls (.int (nI a) :: rest)) := by
  have h0 : (nI a).toInt = (a : Int) := nI_toInt ha
  refine lv_if_ge hx hb hdg ht (fun h => kt ?_) (fun h => kf ?_)
  · simp only [zz_eq, Int32.lt_iff_toInt_lt, Int32.le_iff_toInt_le, zz_z, h0] at h; omega
  · simp only [zz_eq, Int32.lt_iff_toInt_lt, Int32.le_iff_toInt_le, zz_z, h0] at h; omega
theorem zt0_ge (hx : p.tables.exec = Jvm.exec) (hb : c.code = cc) {x : Int32} {a : Int} {off : Int} {tgt : Nat} (hdg : decode cc pc = .ok (.ifCond .ge off, 3)) (ht : (pc : Int) + off = (tgt : Int)) (ha : x.toInt = a) (kt : 0 ≤ a → W p l e R s m args below meth c H locs cells slots Q (F0 m tgt ls (rest))) (kf : a < 0 → W p l e R s m args below meth c H locs cells slots Q (F0 m (pc + 3) ls (rest))) : W p l e R s m args below meth c H locs cells slots Q (F0 m pc ls (.int x :: rest)) := by
  subst ha
  refine lv_if_ge hx hb hdg ht (fun h => kt ?_) (fun h => kf ?_)
  · simp only [zz_eq, Int32.lt_iff_toInt_lt, Int32.le_iff_toInt_le, zz_z] at h; omega
  · simp only [zz_eq, Int32.lt_iff_toInt_lt, Int32.le_iff_toInt_le, zz_z] at h; omega
theorem zb0_gt (hx : p.tables.exec = Jvm.exec) (hb : c.code = cc) {a : Nat} {off : Int} {tgt : Nat} (hdg : decode cc pc = .ok (.ifCond .gt off, 3)) (ht : (pc : Int) + off = (tgt : Int)) (ha : a < 2 ^ 31) (kt : 0 < a → W p l e R s m args below meth c H locs cells slots Q (F0 m tgt ls (rest))) (kf : a ≤ 0 → W p l e R s m args below meth c H locs cells slots Q (F0 m (pc + 3) ls (rest))) : W p l e R s m args below meth c H locs cells slots Q (F0 m pc ls (.int (nI a) :: rest)) := by
  have h0 : (nI a).toInt = (a : Int) := nI_toInt ha
  refine lv_if_gt hx hb hdg ht (fun h => kt ?_) (fun h => kf ?_)
  · simp only [zz_eq, Int32.lt_iff_toInt_lt, Int32.le_iff_toInt_le, zz_z, h0] at h; omega
  · simp only [zz_eq, Int32.lt_iff_toInt_lt, Int32.le_iff_toInt_le, zz_z, h0] at h; omega
theorem zt0_gt (hx : p.tables.exec = Jvm.exec) (hb : c.code = cc) {x : Int32} {a : Int} {off : Int} {tgt : Nat} (hdg : decode cc pc = .ok (.ifCond .gt off, 3)) (ht : (pc : Int) + off = (tgt : Int)) (ha : x.toInt = a) (kt : 0 < a → W p l e R s m args below meth c H locs cells slots Q (F0 m tgt ls (rest))) (kf : a ≤ 0 → W p l e R s m args below meth c H locs cells slots Q (F0 m (pc + 3) ls (rest))) : W p l e R s m args below meth c H locs cells slots Q (F0 m pc ls (.int x :: rest)) := by
  subst ha
  refine lv_if_gt hx hb hdg ht (fun h => kt ?_) (fun h => kf ?_)
  · simp only [zz_eq, Int32.lt_iff_toInt_lt, Int32.le_iff_toInt_le, zz_z] at h; omega
  · simp only [zz_eq, Int32.lt_iff_toInt_lt, Int32.le_iff_toInt_le, zz_z] at h; omega
theorem zb0_le (hx : p.tables.exec = Jvm.exec) (hb : c.code = cc) {a : Nat} {off : Int} {tgt : Nat} (hdg : decode cc pc = .ok (.ifCond .le off, 3)) (ht : (pc : Int) + off = (tgt : Int)) (ha : a < 2 ^ 31) (kt : a ≤ 0 → W p l e R s m args below meth c H locs cells slots Q (F0 m tgt ls (rest))) (kf : 0 < a → W p l e R s m args below meth c H locs cells slots Q (F0 m (pc + 3) ls (rest))) : W p l e R s m args below meth c H locs cells slots Q (F0 m pc ls (.int (nI a) :: rest)) := by
  have h0 : (nI a).toInt = (a : Int) := nI_toInt ha
  refine lv_if_le hx hb hdg ht (fun h => kt ?_) (fun h => kf ?_)
  · simp only [zz_eq, Int32.lt_iff_toInt_lt, Int32.le_iff_toInt_le, zz_z, h0] at h; omega
  · simp only [zz_eq, Int32.lt_iff_toInt_lt, Int32.le_iff_toInt_le, zz_z, h0] at h; omega
theorem zt0_le (hx : p.tables.exec = Jvm.exec) (hb : c.code = cc) {x : Int32} {a : Int} {off : Int} {tgt : Nat} (hdg : decode cc pc = .ok (.ifCond .le off, 3)) (ht : (pc : Int) + off = (tgt : Int)) (ha : x.toInt = a) (kt : a ≤ 0 → W p l e R s m args below meth c H locs cells slots Q (F0 m tgt ls (rest))) (kf : 0 < a → W p l e R s m args below meth c H locs cells slots Q (F0 m (pc + 3) ls (rest))) : W p l e R s m args below meth c H locs cells slots Q (F0 m pc ls (.int x :: rest)) := by
  subst ha
  refine lv_if_le hx hb hdg ht (fun h => kt ?_) (fun h => kf ?_)
  · simp only [zz_eq, Int32.lt_iff_toInt_lt, Int32.le_iff_toInt_le, zz_z] at h; omega
  · simp only [zz_eq, Int32.lt_iff_toInt_lt, Int32.le_iff_toInt_le, zz_z] at h; omega
theorem zi_iald (hx : p.tables.exec = Jvm.exec) (hb : c.code = cc) (hK : zK D cy s) (hP : va_P D vwCl ws H) (q0 : Nat) {a : Nat} {n : Nat} {f : Nat → Int32} {j : Nat} {v : Int32} (ha : ws[q0]? = some (a, .inl (cy 0, n, .inl f))) (hj : j < n) (hn : n < 2 ^ 31) (hv : f j = v) (hdg : decode cc pc = .ok (.iaload, 1)) (k : W p l e R s m args below meth c H locs cells slots Q (F0 m (pc + 1) ls (.int v :: rest))) : W p l e R s m args below meth c H locs cells slots Q (F0 m pc ls (.int (nI j) :: .ref a :: rest)) := by
  subst hv
  have e := nI_clamp (n := j) (by omega)
  refine va_iald hx hb hK.1 hP q0 0 ha rfl (vp_in_nI hj hn) hdg ?_
  rw [e]
  exact k
theorem zi_lald (hx : p.tables.exec = Jvm.exec) (hb : c.code = cc) (hK : zK D cy s) (hP : va_P D vwCl ws H) (q0 : Nat) {a : Nat} {n : Nat} {f : Nat → Int64} {j : Nat} {v : Int64} (ha : ws[q0]? = some (a, .inl (cy 1, n, .inr (.inl f)))) (hj : j < n) (hn : n < 2 ^ 31) (hv : f j = v) (hdg : decode cc pc = .ok (.laload, 1)) (k : W p l e R s m args below meth c H locs cells slots Q (F0 m (pc + 1) ls (.long v :: rest))) : W p l e R s m args below meth c H locs cells slots Q (F0 m pc ls (.int (nI j) :: .ref a :: rest)) := by
  subst hv
  have e := nI_clamp (n := j) (by omega)
  refine va_lald hx hb hK.1 hP q0 1 ha rfl (vp_in_nI hj hn) hdg ?_
  rw [e]
  exact k
theorem zi_zald (hx : p.tables.exec = Jvm.exec) (hb : c.code = cc) (hK : zK D cy s) (hP : va_P D vwCl ws H) (q0 : Nat) {a : Nat} {n : Nat} {f : Nat → Int32} {j : Nat} {v : Int32} (ha : ws[q0]? = some (a, .inl (cy 2, n, .inl f))) (hj : j < n) (hn : n < 2 ^ 31) (hv : f j = v) (hdg : decode cc pc = .ok (.baload, 1)) (k : W p l e R s m args below meth c H locs cells slots Q (F0 m (pc + 1) ls (.int v :: rest))) : W p l e R s m args below meth c H locs cells slots Q (F0 m pc ls (.int (nI j) :: .ref a :: rest)) := by
  subst hv
  have e := nI_clamp (n := j) (by omega)
  refine va_zald hx hb hK.1 hP q0 2 ha rfl (vp_in_nI hj hn) hdg ?_
  rw [e]
  exact k
theorem zi_cald (hx : p.tables.exec = Jvm.exec) (hb : c.code = cc) (hK : zK D cy s) (hP : va_P D vwCl ws H) (q0 : Nat) {a : Nat} {n : Nat} {f : Nat → Int32} {j : Nat} {v : Int32} (ha : ws[q0]? = some (a, .inl (cy 3, n, .inl f))) (hj : j < n) (hn : n < 2 ^ 31) (hv : f j = v) (hdg : decode cc pc = .ok (.caload, 1)) (k : W p l e R s m args below meth c H locs cells slots Q (F0 m (pc + 1) ls (.int v :: rest))) : W p l e R s m args below meth c H locs cells slots Q (F0 m pc ls (.int (nI j) :: .ref a :: rest)) := by
  subst hv
  have e := nI_clamp (n := j) (by omega)
  refine va_cald hx hb hK.1 hP q0 3 ha rfl (vp_in_nI hj hn) hdg ?_
  rw [e]
  exact k
theorem zi_iast (hx : p.tables.exec = Jvm.exec) (hb : c.code = cc) (hK : zK D cy s) (hP : va_P D vwCl ws H) (hD : va_D A0 ws) (hS : va_S A0 H0 H locs) (q0 : Nat) {a : Nat} {n : Nat} {f : Nat → Int32} {j : Nat} {x : Int32} (ha : ws[q0]? = some (a, .inl (cy 0, n, .inl f))) (hj : j < n) (hn : n < 2 ^ 31) (hdg : decode cc pc = .ok (.iastore, 1)) (k : ∀ (H1 : Heap) (locs1 : List Loc), va_P D vwCl (ws.set q0 (a, .inl (cy 0, n, .inl (upd f j x)))) H1 → va_D A0 (ws.set q0 (a, .inl (cy 0, n, .inl (upd f j x)))) → va_S A0 H0 H1 locs1 → W p l e R s m args below meth c H1 locs1 cells slots Q (F0 m (pc + 1) ls rest)) : W p l e R s m args below meth c H locs cells slots Q (F0 m pc ls (.int x :: .int (nI j) :: .ref a :: rest)) := by
  have e := nI_clamp (n := j) (by omega)
  refine va_iast hx hb hK.1 hP hD hS q0 0 ha rfl (vp_in_nI hj hn) hdg (fun H1 locs1 hP1 hD1 hS1 => ?_)
  rw [e] at hP1 hD1
  exact k H1 locs1 hP1 hD1 hS1
theorem zi_last (hx : p.tables.exec = Jvm.exec) (hb : c.code = cc) (hK : zK D cy s) (hP : va_P D vwCl ws H) (hD : va_D A0 ws) (hS : va_S A0 H0 H locs) (q0 : Nat) {a : Nat} {n : Nat} {f : Nat → Int64} {j : Nat} {x : Int64} (ha : ws[q0]? = some (a, .inl (cy 1, n, .inr (.inl f)))) (hj : j < n) (hn : n < 2 ^ 31) (hdg : decode cc pc = .ok (.lastore, 1)) (k : ∀ (H1 : Heap) (locs1 : List Loc), va_P D vwCl (ws.set q0 (a, .inl (cy 1, n, .inr (.inl (vp_updL f j x))))) H1 → va_D A0 (ws.set q0 (a, .inl (cy 1, n, .inr (.inl (vp_updL f j x))))) → va_S A0 H0 H1 locs1 → W p l e R s m args below meth c H1 locs1 cells slots Q (F0 m (pc + 1) ls rest)) : W p l e R s m args below meth c H locs cells slots Q (F0 m pc ls (.long x :: .int (nI j) :: .ref a :: rest)) := by
  have e := nI_clamp (n := j) (by omega)
  refine va_last hx hb hK.1 hP hD hS q0 1 ha rfl (vp_in_nI hj hn) hdg (fun H1 locs1 hP1 hD1 hS1 => ?_)
  rw [e] at hP1 hD1
  exact k H1 locs1 hP1 hD1 hS1
theorem zi_zast (hx : p.tables.exec = Jvm.exec) (hb : c.code = cc) (hK : zK D cy s) (hP : va_P D vwCl ws H) (hD : va_D A0 ws) (hS : va_S A0 H0 H locs) (q0 : Nat) {a : Nat} {n : Nat} {f : Nat → Int32} {j : Nat} {x : Int32} (ha : ws[q0]? = some (a, .inl (cy 2, n, .inl f))) (hj : j < n) (hn : n < 2 ^ 31) (hx1 : vp_nar .boolean x = x) (hdg : decode cc pc = .ok (.bastore, 1)) (k : ∀ (H1 : Heap) (locs1 : List Loc), va_P D vwCl (ws.set q0 (a, .inl (cy 2, n, .inl (upd f j x)))) H1 → va_D A0 (ws.set q0 (a, .inl (cy 2, n, .inl (upd f j x)))) → va_S A0 H0 H1 locs1 → W p l e R s m args below meth c H1 locs1 cells slots Q (F0 m (pc + 1) ls rest)) : W p l e R s m args below meth c H locs cells slots Q (F0 m pc ls (.int x :: .int (nI j) :: .ref a :: rest)) := by
  have e := nI_clamp (n := j) (by omega)
  refine va_zast hx hb hK.1 hP hD hS q0 2 ha rfl (vp_in_nI hj hn) hdg (fun H1 locs1 hP1 hD1 hS1 => ?_)
  rw [e, hx1] at hP1 hD1
  exact k H1 locs1 hP1 hD1 hS1
theorem zi_cast (hx : p.tables.exec = Jvm.exec) (hb : c.code = cc) (hK : zK D cy s) (hP : va_P D vwCl ws H) (hD : va_D A0 ws) (hS : va_S A0 H0 H locs) (q0 : Nat) {a : Nat} {n : Nat} {f : Nat → Int32} {j : Nat} {x : Int32} (ha : ws[q0]? = some (a, .inl (cy 3, n, .inl f))) (hj : j < n) (hn : n < 2 ^ 31) (hx1 : vp_nar .char x = x) (hdg : decode cc pc = .ok (.castore, 1)) (k : ∀ (H1 : Heap) (locs1 : List Loc), va_P D vwCl (ws.set q0 (a, .inl (cy 3, n, .inl (upd f j x)))) H1 → va_D A0 (ws.set q0 (a, .inl (cy 3, n, .inl (upd f j x)))) → va_S A0 H0 H1 locs1 → W p l e R s m args below meth c H1 locs1 cells slots Q (F0 m (pc + 1) ls rest)) : W p l e R s m args below meth c H locs cells slots Q (F0 m pc ls (.int x :: .int (nI j) :: .ref a :: rest)) := by
  have e := nI_clamp (n := j) (by omega)
  refine va_cast hx hb hK.1 hP hD hS q0 3 ha rfl (vp_in_nI hj hn) hdg (fun H1 locs1 hP1 hD1 hS1 => ?_)
  rw [e, hx1] at hP1 hD1
  exact k H1 locs1 hP1 hD1 hS1
theorem zi_qald (hx : p.tables.exec = Jvm.exec) (hb : c.code = cc) (hK : zK D cy s) (hP : va_P D vwCl ws H) (q0 : Nat) {a : Nat} {n : Nat} {f : Nat → Option Nat} {j v : Nat} (ha : ws[q0]? = some (a, .inl (cy 4, n, .inr (.inr (.inr (.inr f)))))) (hj : j < n) (hn : n < 2 ^ 31) (hv : f j = some v) (hdg : decode cc pc = .ok (.aaload, 1)) (k : W p l e R s m args below meth c H locs cells slots Q (F0 m (pc + 1) ls (.ref v :: rest))) : W p l e R s m args below meth c H locs cells slots Q (F0 m pc ls (.int (nI j) :: .ref a :: rest)) := by
  have e := nI_clamp (n := j) (by omega)
  refine va_aldq hx hb hK.1 hP q0 4 ha rfl (vp_in_nI hj hn) hdg ?_
  rw [e, hv]
  exact k
theorem zi_alen (hx : p.tables.exec = Jvm.exec) (hb : c.code = cc) (hK : zK D cy s) (hP : va_P D vwCl ws H) (q0 t0 : Nat) {a : Nat} {cA : ClassId} {n : Nat} {r : (Nat → Int32) ⊕ (Nat → Int64) ⊕ (Nat → UInt32) ⊕ (Nat → UInt64) ⊕ (Nat → Option Nat)} {ty : FieldType} (ha : ws[q0]? = some (a, .inl (cA, n, r))) (ht : (zT cy)[t0]? = some (cA, ty)) (hdg : decode cc pc = .ok (.arraylength, 1)) (k : W p l e R s m args below meth c H locs cells slots Q (F0 m (pc + 1) ls (.int (nI n) :: rest))) : W p l e R s m args below meth c H locs cells slots Q (F0 m pc ls (.ref a :: rest)) := va_alen hx hb hK.1 hP q0 t0 ha ht rfl hdg k
end
end
section
/-! rows on bits, shifts and unsigned numbers, to paste: each family out of a closed proof of our own, whole with what it rests on; each by itself clean at Lean in its own claim (generation 39, form 5). Take a family whole -/
/-! ===== Int32 by its bits: bt x i ===== -/
def bt (x : Int32) (i : Nat) : Bool := x.toBitVec.getLsbD i
theorem b_ext {x y : Int32} (h : ∀ i, i < 32 → bt x i = bt y i) : x = y := Int32.toBitVec_inj.mp (BitVec.eq_of_getLsbD_eq (fun i hi => h i hi))
theorem b_or (x y : Int32) (i : Nat) : bt (x ||| y) i = (bt x i || bt y i) := by unfold bt; rw [Int32.toBitVec_or, BitVec.getLsbD_or]
theorem b_and (x y : Int32) (i : Nat) : bt (x &&& y) i = (bt x i && bt y i) := by unfold bt; rw [Int32.toBitVec_and, BitVec.getLsbD_and]
theorem b_xor (x y : Int32) (i : Nat) : bt (x ^^^ y) i = (bt x i ^^ bt y i) := by unfold bt; rw [Int32.toBitVec_xor, BitVec.getLsbD_xor]
theorem b_big {x : Int32} {i : Nat} (h : 32 ≤ i) : bt x i = false := BitVec.getLsbD_of_ge _ _ h
theorem b_255 (i : Nat) : bt 255 i = decide (i < 8) := by
  rcases Nat.lt_or_ge i 32 with h | h
  · exact (by decide +kernel : ∀ i, i < 32 → bt 255 i = decide (i < 8)) i h
  · rw [b_big h, decide_eq_false (by omega)]
theorem b_65535 (i : Nat) : bt 65535 i = decide (i < 16) := by
  rcases Nat.lt_or_ge i 32 with h | h
  · exact (by decide +kernel : ∀ i, i < 32 → bt 65535 i = decide (i < 16)) i h
  · rw [b_big h, decide_eq_false (by omega)]
theorem b_m1 : ∀ i, i < 32 → bt (-1) i = true := by decide +kernel
theorem b_0 (i : Nat) : bt 0 i = false := BitVec.getLsbD_zero
theorem s_l : ∀ n, n < 32 → ((nI n &&& 31).toBitVec.smod 32).toNat = n := by decide +kernel
theorem s_u : ∀ n, n < 32 → (((nI n).toUInt32 &&& Int32.toUInt32 31).toBitVec % 32).toNat = n := by decide +kernel
theorem b_shl (n : Nat) (hn : n < 32) (x : Int32) {i : Nat} (hi : i < 32) : bt (x <<< (nI n &&& 31)) i = (decide (n ≤ i) && bt x (i - n)) := by
  unfold bt
  rw [Int32.toBitVec_shiftLeft]
  show (x.toBitVec <<< ((nI n &&& 31).toBitVec.smod 32).toNat).getLsbD i = _
  rw [s_l n hn, BitVec.getLsbD_shiftLeft]
  rcases Nat.lt_or_ge i n with h | h
  · simp [h, Nat.not_le.mpr h]
  · simp [hi, h, Nat.not_lt.mpr h]
theorem b_ushr (n : Nat) (hn : n < 32) (x : Int32) (i : Nat) : bt ((x.toUInt32 >>> ((nI n).toUInt32 &&& Int32.toUInt32 31)).toInt32) i = bt x (n + i) := by
  show (x.toUInt32 >>> ((nI n).toUInt32 &&& Int32.toUInt32 31)).toBitVec.getLsbD i = x.toUInt32.toBitVec.getLsbD (n + i)
  rw [UInt32.toBitVec_shiftRight]
  show (x.toUInt32.toBitVec >>> (((nI n).toUInt32 &&& Int32.toUInt32 31).toBitVec % 32).toNat).getLsbD i = _
  rw [s_u n hn, BitVec.getLsbD_ushiftRight]
theorem b_sshr (n : Nat) (hn : n < 32) (x : Int32) {i : Nat} (hi : i < 32) : bt (x >>> (nI n &&& 31)) i = if n + i < 32 then bt x (n + i) else bt x 31 := by
  unfold bt
  rw [Int32.toBitVec_shiftRight]
  show (x.toBitVec.sshiftRight ((nI n &&& 31).toBitVec.smod 32).toNat).getLsbD i = _
  rw [s_l n hn, BitVec.getLsbD_sshiftRight, BitVec.msb_eq_getLsbD_last]
  simp [hi]
theorem b_shl8 (x : Int32) {i : Nat} (hi : i < 32) : bt (x <<< ((8 : Int32) &&& 31)) i = (decide (8 ≤ i) && bt x (i - 8)) := b_shl 8 (by omega) x hi
theorem b_shl16 (x : Int32) {i : Nat} (hi : i < 32) : bt (x <<< ((16 : Int32) &&& 31)) i = (decide (16 ≤ i) && bt x (i - 16)) := b_shl 16 (by omega) x hi
theorem b_shl24 (x : Int32) {i : Nat} (hi : i < 32) : bt (x <<< ((24 : Int32) &&& 31)) i = (decide (24 ≤ i) && bt x (i - 24)) := b_shl 24 (by omega) x hi
theorem b_sshr8 (x : Int32) {i : Nat} (hi : i < 32) : bt (x >>> ((8 : Int32) &&& 31)) i = if 8 + i < 32 then bt x (8 + i) else bt x 31 := b_sshr 8 (by omega) x hi
/-! ===== nI under and, xor, >>>, one bit, 65535 ===== -/
theorem nx_and (a b : Nat) : nI a &&& nI b = nI (a &&& b) := by
  apply Int32.toBitVec_inj.1
  show BitVec.ofNat 32 a &&& BitVec.ofNat 32 b = BitVec.ofNat 32 (a &&& b)
  apply BitVec.eq_of_getLsbD_eq
  intro i hi
  simp [hi]
theorem nx_xor (a b : Nat) : nI a ^^^ nI b = nI (a ^^^ b) := by
  apply Int32.toBitVec_inj.1
  show BitVec.ofNat 32 a ^^^ BitVec.ofNat 32 b = BitVec.ofNat 32 (a ^^^ b)
  apply BitVec.eq_of_getLsbD_eq
  intro i hi
  simp [hi]
theorem nx_cnt : ∀ j : Fin 32, (UInt32.ofNat j.val &&& Int32.toUInt32 31).toNat % 32 = j.val := by decide +kernel
theorem nx_ush {k j : Nat} (hk : k < 65536) (hj : j < 32) : ((nI k).toUInt32 >>> ((nI j).toUInt32 &&& Int32.toUInt32 31)).toInt32 = nI (k >>> j) := by
  have hs : k >>> j ≤ k := by
    rw [Nat.shiftRight_eq_div_pow]
    exact Nat.div_le_self _ _
  have e2 : UInt32.ofNat k >>> (UInt32.ofNat j &&& Int32.toUInt32 31) = UInt32.ofNat (k >>> j) := by
    apply UInt32.toNat_inj.1
    have h1 : (UInt32.ofNat k).toNat = k := Nat.mod_eq_of_lt (by omega)
    have h2 : (UInt32.ofNat (k >>> j)).toNat = k >>> j := Nat.mod_eq_of_lt (by omega)
    rw [UInt32.toNat_shiftRight, nx_cnt ⟨j, hj⟩, h1, h2]
  show (UInt32.ofNat k >>> (UInt32.ofNat j &&& Int32.toUInt32 31)).toInt32 = _
  rw [e2]
  rfl
theorem nx_bit {k j : Nat} (hk : k < 65536) (hj : j < 16) : (((nI k).toUInt32 >>> ((nI j).toUInt32 &&& Int32.toUInt32 31)).toInt32 &&& 1) = 0 ↔ k.testBit j = false := by
  rw [nx_ush hk (by omega)]
  show nI (k >>> j) &&& nI 1 = 0 ↔ _
  rw [nx_and, Nat.and_one_is_mod, ← nI_0, nI_eq (by omega) (by omega), Nat.testBit_eq_decide_div_mod_eq, Nat.shiftRight_eq_div_pow, decide_eq_false_iff_not]
  generalize k / 2 ^ j = z
  omega
theorem nx_mod (k : Nat) : nI k &&& 65535 = nI (k % 65536) := by
  show nI k &&& nI 65535 = _
  rw [nx_and, show (65535 : Nat) = 2 ^ 16 - 1 from rfl, Nat.and_two_pow_sub_one_eq_mod]
theorem nx_m16 {k : Nat} (h : k < 65536) : nI k &&& 65535 = nI k := by rw [nx_mod, Nat.mod_eq_of_lt h]
theorem nx_mask (x : Int32) : ∃ k, k < 65536 ∧ x &&& 65535 = nI k := by
  have e : x = nI x.toBitVec.toNat := by
    apply Int32.toBitVec_inj.1
    show x.toBitVec = BitVec.ofNat 32 x.toBitVec.toNat
    simp
  refine ⟨x.toBitVec.toNat % 65536, Nat.mod_lt _ (by omega), ?_⟩
  rw [← nx_mod, ← e]
/-! ===== Int32 as a set of bits: test, set ===== -/
def nf_M (m : Int32) : Nat := 4294967296 - m.toBitVec.toNat
theorem nf_sh : ∀ l, l < 32 → ((1 : Int32) <<< (nI l &&& 31)).toBitVec = BitVec.twoPow 32 l := by decide +kernel
theorem nf_sl : ∀ l, l < 32 → (((nI l).toUInt32 &&& Int32.toUInt32 31).toBitVec % 32).toNat = l := by decide +kernel
theorem nf_tp : ∀ l, l < 32 → BitVec.twoPow 32 l ≠ 0#32 := by decide +kernel
theorem nf_bit (m : Int32) (l : Nat) (hl : l < 32) : ((m.toUInt32 >>> ((nI l).toUInt32 &&& Int32.toUInt32 31)).toInt32 &&& 1) = 0 ↔ (m &&& ((1 : Int32) <<< (nI l &&& 31))) = 0 := by
  have e : ((m.toUInt32 >>> ((nI l).toUInt32 &&& Int32.toUInt32 31)).toInt32).toBitVec = m.toBitVec >>> l := by
    show m.toBitVec >>> (((nI l).toUInt32 &&& Int32.toUInt32 31).toBitVec % 32) = m.toBitVec >>> l
    rw [BitVec.ushiftRight_eq', nf_sl l hl]
  rw [← Int32.toBitVec_inj, ← Int32.toBitVec_inj, Int32.toBitVec_and, Int32.toBitVec_and, nf_sh l hl, e, BitVec.and_twoPow]
  show (m.toBitVec >>> l &&& 1#32) = 0#32 ↔ _ = 0#32
  rw [BitVec.and_one_eq_setWidth_ofBool_getLsbD, BitVec.getLsbD_ushiftRight, Nat.add_zero]
  cases hb : m.toBitVec.getLsbD l
  · exact ⟨fun _ => by simp, fun _ => by decide⟩
  · exact ⟨fun z => absurd z (by decide), fun z => absurd ((if_pos rfl).symm.trans z) (nf_tp l hl)⟩
theorem nf_gr (m k : Int32) (h : m &&& k = 0) (hk : k ≠ 0) : nf_M (m ||| k) < nf_M m := by
  have hm := m.toBitVec.isLt
  have hm' := (m ||| k).toBitVec.isLt
  have h1 : m.toBitVec.toNat ≤ (m ||| k).toBitVec.toNat := by
    rw [Int32.toBitVec_or, BitVec.toNat_or]
    exact Nat.left_le_or
  have h2 : m.toBitVec.toNat ≠ (m ||| k).toBitVec.toNat := by
    intro e
    have e2 : m = m ||| k := Int32.toBitVec_inj.mp (BitVec.eq_of_toNat_eq e)
    apply hk
    apply Int32.toBitVec_inj.mp
    show k.toBitVec = 0#32
    apply BitVec.eq_of_getLsbD_eq
    intro i hi
    have a : m.toBitVec.getLsbD i = (m.toBitVec.getLsbD i || k.toBitVec.getLsbD i) := by rw [← BitVec.getLsbD_or, ← Int32.toBitVec_or, ← e2]
    have b : (m.toBitVec.getLsbD i && k.toBitVec.getLsbD i) = false := by
      rw [← BitVec.getLsbD_and, ← Int32.toBitVec_and, h]
      exact BitVec.getLsbD_zero
    rw [BitVec.getLsbD_zero]
    revert a b
    cases m.toBitVec.getLsbD i <;> cases k.toBitVec.getLsbD i <;> simp
  unfold nf_M
  omega
/-! ===== a byte read unsigned ===== -/
theorem bp_b (x : Int32) : x.toInt8.toInt32 &&& 255 = x &&& 255 := by
  apply Int32.toBitVec_inj.mp
  rw [Int32.toBitVec_and, Int32.toBitVec_and, Int8.toBitVec_toInt32, Int32.toBitVec_toInt8]
  apply BitVec.eq_of_getLsbD_eq
  intro i hi
  rw [BitVec.getLsbD_and, BitVec.getLsbD_and]
  have hm : ∀ i < 32, 8 ≤ i → (255 : Int32).toBitVec.getLsbD i = false := by decide
  rcases Nat.lt_or_ge i 8 with z | z
  · rw [BitVec.getLsbD_signExtend, BitVec.getLsbD_signExtend, if_pos z, if_pos hi]
    simp only [z, hi, decide_true, Bool.true_and]
  · rw [hm i hi z]; simp
/-! ===== Int64 as a set of bits: test, set, clear ===== -/
theorem ts_nf {x : Bool} (h : ¬ x = false) : x = true := by cases x <;> first | rfl | exact absurd rfl h
theorem ts_nt {x : Bool} (h : ¬ x = true) : x = false := by cases x <;> first | rfl | exact absurd rfl h
theorem ts_bit {w : Int64} {s : UInt64} {j : Nat} (hj : j < 64) (hs : s.toNat = j) : ((w.toUInt64 >>> s).toInt64 &&& 1) = 0 ↔ w.toBitVec.getLsbD j = false := by
  have e : (w.toUInt64 >>> s).toInt64.toBitVec = w.toBitVec >>> j := by
    apply BitVec.eq_of_toNat_eq
    show (w.toUInt64 >>> s).toNat = _
    rw [UInt64.toNat_shiftRight, hs, Nat.mod_eq_of_lt hj, BitVec.toNat_ushiftRight]
    rfl
  rw [← Int64.toBitVec_inj, Int64.toBitVec_and, e]
  show w.toBitVec >>> j &&& 1#64 = 0#64 ↔ _
  constructor
  · intro h
    have t := congrArg (fun x => x.getLsbD 0) h
    simpa using t
  · intro h
    apply BitVec.eq_of_getLsbD_eq
    intro i hi
    cases i with
    | zero => simp [h]
    | succ i => simp
theorem ts_or {w m : Int64} {j : Nat} (hj : j < 64) (hm : m.toBitVec = BitVec.twoPow 64 j) : (w ||| m) = w ↔ w.toBitVec.getLsbD j = true := by
  rw [← Int64.toBitVec_inj, Int64.toBitVec_or, hm]
  constructor
  · intro h
    have t := congrArg (fun x => x.getLsbD j) h
    simp only [BitVec.getLsbD_or, BitVec.getLsbD_twoPow] at t
    simpa [hj] using t.symm
  · intro h
    apply BitVec.eq_of_getLsbD_eq
    intro i hi
    rw [BitVec.getLsbD_or, BitVec.getLsbD_twoPow]
    by_cases e : j = i
    · subst e; rw [h, Bool.true_or]
    · simp [e]
theorem ts_and {w m : Int64} {j : Nat} (hj : j < 64) (hm : m.toBitVec = BitVec.twoPow 64 j) : (w &&& (m ^^^ (-1))) = w ↔ w.toBitVec.getLsbD j = false := by
  have ha : (-1 : Int64).toBitVec = BitVec.allOnes 64 := by decide
  rw [← Int64.toBitVec_inj, Int64.toBitVec_and, Int64.toBitVec_xor, hm, ha]
  constructor
  · intro h
    have t := congrArg (fun x => x.getLsbD j) h
    simp only [BitVec.getLsbD_and, BitVec.getLsbD_xor, BitVec.getLsbD_twoPow, BitVec.getLsbD_allOnes] at t
    simpa [hj] using t.symm
  · intro h
    apply BitVec.eq_of_getLsbD_eq
    intro i hi
    rw [BitVec.getLsbD_and, BitVec.getLsbD_xor, BitVec.getLsbD_twoPow, BitVec.getLsbD_allOnes]
    by_cases e : j = i
    · subst e; rw [h, Bool.false_and]
    · simp [e, hi]
/-! ===== lN n to 2^64: shifts, and, or, masks, one bit ===== -/
theorem wb_tb (n : Nat) : (lN n).toBitVec = BitVec.ofNat 64 n := rfl
theorem wb_inj {a b : Int64} (h : a.toBitVec = b.toBitVec) : a = b := Int64.toBitVec_inj.mp h
theorem wb_tn {n : Nat} (h : n < 2 ^ 64) : (lN n).toBitVec.toNat = n := by rw [wb_tb, BitVec.toNat_ofNat, Nat.mod_eq_of_lt h]
theorem wb_of (x : Int64) : ∃ n, n < 2 ^ 64 ∧ x = lN n := ⟨x.toBitVec.toNat, x.toBitVec.isLt, wb_inj (by rw [wb_tb]; simp)⟩
theorem wb_of32 (x : Int32) : ∃ n, n < 2 ^ 32 ∧ x = nI n := ⟨x.toBitVec.toNat, x.toBitVec.isLt, Int32.toBitVec_inj.mp (by show _ = BitVec.ofNat 32 _; simp)⟩
theorem wb_c : ∀ k, k < 64 → ((nI k).toInt64 &&& 63) = lN k := by decide +kernel
theorem wb_cu : ∀ k, k < 64 → ((nI k).toInt64.toUInt64 &&& Int64.toUInt64 63) = UInt64.ofNat k := by decide +kernel
theorem wb_sm : ∀ k, k < 64 → (BitVec.ofNat 64 k).smod 64 = BitVec.ofNat 64 k := by decide +kernel
theorem wb_pw {a b : Nat} (h : a ≤ b) : 2 ^ b = 2 ^ a * 2 ^ (b - a) := by rw [← Nat.pow_add]; congr 1; omega
theorem wb_lt2 {a b : Nat} (h : a < b) : 2 ^ a < 2 ^ b := Nat.pow_lt_pow_right (by decide) h
theorem wb_mod (n : Nat) : lN n = lN (n % 2 ^ 64) := wb_inj (by rw [wb_tb, wb_tb]; apply BitVec.eq_of_toNat_eq; rw [BitVec.toNat_ofNat, BitVec.toNat_ofNat, Nat.mod_mod])
theorem wb_shr {n k : Nat} (hn : n < 2 ^ 64) (hk : k < 64) : ((lN n).toUInt64 >>> ((nI k).toInt64.toUInt64 &&& Int64.toUInt64 63)).toInt64 = lN (n / 2 ^ k) := by
  rw [wb_cu k hk]
  apply wb_inj
  apply BitVec.eq_of_toNat_eq
  show ((lN n).toUInt64 >>> UInt64.ofNat k).toNat = (BitVec.ofNat 64 _).toNat
  have h1 : (UInt64.ofNat k).toNat = k := by
    show (BitVec.ofNat 64 k).toNat = k
    rw [BitVec.toNat_ofNat, Nat.mod_eq_of_lt (by omega)]
  have h2 : (lN n).toUInt64.toNat = n := wb_tn hn
  rw [UInt64.toNat_shiftRight, h1, h2, Nat.mod_eq_of_lt hk, Nat.shiftRight_eq_div_pow, BitVec.toNat_ofNat, Nat.mod_eq_of_lt (Nat.lt_of_le_of_lt (Nat.div_le_self _ _) hn)]
theorem wb_shl (n : Nat) {k : Nat} (hk : k < 64) : lN n <<< ((nI k).toInt64 &&& 63) = lN (n * 2 ^ k) := by
  rw [wb_c k hk]
  apply wb_inj
  rw [Int64.toBitVec_shiftLeft, wb_tb, wb_tb, wb_tb, wb_sm k hk]
  apply BitVec.eq_of_toNat_eq
  rw [BitVec.shiftLeft_eq', BitVec.toNat_shiftLeft, BitVec.toNat_ofNat, BitVec.toNat_ofNat, BitVec.toNat_ofNat, Nat.mod_eq_of_lt (show k < 2 ^ 64 by omega), Nat.shiftLeft_eq, Nat.mul_mod, Nat.mod_mod, ← Nat.mul_mod]
theorem wb_and {a b : Nat} (ha : a < 2 ^ 64) (hb : b < 2 ^ 64) : lN a &&& lN b = lN (a &&& b) := by
  apply wb_inj
  rw [Int64.toBitVec_and, wb_tb, wb_tb, wb_tb]
  apply BitVec.eq_of_toNat_eq
  rw [BitVec.toNat_and, BitVec.toNat_ofNat, BitVec.toNat_ofNat, BitVec.toNat_ofNat, Nat.mod_eq_of_lt ha, Nat.mod_eq_of_lt hb, Nat.mod_eq_of_lt (Nat.and_lt_two_pow _ hb)]
theorem wb_or {a b : Nat} (ha : a < 2 ^ 64) (hb : b < 2 ^ 64) : lN a ||| lN b = lN (a ||| b) := by
  apply wb_inj
  rw [Int64.toBitVec_or, wb_tb, wb_tb, wb_tb]
  apply BitVec.eq_of_toNat_eq
  rw [BitVec.toNat_or, BitVec.toNat_ofNat, BitVec.toNat_ofNat, BitVec.toNat_ofNat, Nat.mod_eq_of_lt ha, Nat.mod_eq_of_lt hb, Nat.mod_eq_of_lt (Nat.or_lt_two_pow ha hb)]
theorem wb_mask {n k : Nat} (hn : n < 2 ^ 64) (hk : k < 64) : lN n &&& lN (2 ^ k - 1) = lN (n % 2 ^ k) := by
  rw [wb_and hn (by have := wb_lt2 hk; omega), Nat.and_two_pow_sub_one_eq_mod]
theorem wb_a1 {n : Nat} (hn : n < 2 ^ 64) : lN n &&& 1 = lN (n % 2) := wb_mask (k := 1) hn (by decide)
theorem wb_bit {n k : Nat} (hn : n < 2 ^ 64) (hk : k < 64) : ((lN n).toUInt64 >>> ((nI k).toInt64.toUInt64 &&& Int64.toUInt64 63)).toInt64 &&& 1 = lN (n / 2 ^ k % 2) := by
  rw [wb_shr hn hk, wb_a1 (Nat.lt_of_le_of_lt (Nat.div_le_self _ _) hn)]
theorem wb_xor {q k : Nat} (hk : k < 63) (h : 2 ^ k ≤ q) (h2 : q < 2 ^ (k + 1)) : lN q ^^^ lN (2 ^ k) = lN (q - 2 ^ k) := by
  obtain ⟨r, rfl⟩ : ∃ r, q = 2 ^ k + r := ⟨q - 2 ^ k, by omega⟩
  have hr : r < 2 ^ k := by rw [Nat.pow_succ] at h2; omega
  have hx : (2 ^ k + r) ^^^ 2 ^ k = r := by
    apply Nat.eq_of_testBit_eq
    intro i
    rw [Nat.testBit_xor, Nat.testBit_two_pow]
    rcases Nat.lt_trichotomy i k with h | h | h
    · rw [Nat.testBit_two_pow_add_gt h]
      simp [show ¬ k = i by omega]
    · subst h
      rw [Nat.testBit_two_pow_add_eq]
      simp
    · have a1 : 2 ^ (k + 1) ≤ 2 ^ i := Nat.pow_le_pow_right (by decide) h
      rw [Nat.testBit_lt_two_pow (show 2 ^ k + r < 2 ^ i by omega), Nat.testBit_lt_two_pow (show r < 2 ^ i by omega)]
      simp [show ¬ k = i by omega]
  have b1 := wb_lt2 (show k + 1 < 64 by omega)
  have b2 := wb_lt2 (show k < 64 by omega)
  apply wb_inj
  rw [Int64.toBitVec_xor, wb_tb, wb_tb, wb_tb]
  apply BitVec.eq_of_toNat_eq
  rw [BitVec.toNat_xor, BitVec.toNat_ofNat, BitVec.toNat_ofNat, BitVec.toNat_ofNat, Nat.mod_eq_of_lt (by omega : 2 ^ k + r < 2 ^ 64), Nat.mod_eq_of_lt b2, hx, Nat.add_sub_cancel_left, Nat.mod_eq_of_lt (by omega)]
/-! ===== lN: masks, 'or' of parts that don't overlap is a sum ===== -/
theorem u_tn {n : Nat} (h : n < 2 ^ 64) : (UInt64.ofNat n).toNat = n := Nat.mod_eq_of_lt h
theorem g_and {a b c : Nat} (ha : a < 2 ^ 64) (hb : b < 2 ^ 64) (hc : a &&& b = c) : lN a &&& lN b = lN c := by
  subst hc
  have h : UInt64.ofNat a &&& UInt64.ofNat b = UInt64.ofNat (a &&& b) := UInt64.toNat_inj.mp (by rw [UInt64.toNat_and, u_tn ha, u_tn hb, u_tn (Nat.and_lt_two_pow a hb)])
  have h2 := congrArg UInt64.toInt64 h
  exact h2
theorem g_and1 {a : Nat} (ha : a < 2 ^ 64) : lN a &&& 1 = lN (a % 2) := g_and (b := 1) ha (by decide) (Nat.and_two_pow_sub_one_eq_mod a 1)
theorem g_mask {a s p : Nat} (hp : 2 ^ s = p) (hs : s < 64) (ha : a < 2 ^ 64) : lN a &&& lN (p - 1) = lN (a % p) := by
  subst hp
  have := Nat.pow_lt_pow_right (show 1 < 2 by decide) hs
  exact g_and ha (by omega) (Nat.and_two_pow_sub_one_eq_mod a s)
theorem g_or {k p a b : Nat} (hp : 2 ^ k = p) (ha : a < p) (h : b * p + a < 2 ^ 64) : lN (b * p) ||| lN a = lN (b * p + a) := by
  subst hp
  have h1 : b * 2 ^ k ||| a = b * 2 ^ k + a := by rw [← Nat.shiftLeft_eq, Nat.shiftLeft_add_eq_or_of_lt ha]
  have h3 : UInt64.ofNat (b * 2 ^ k) ||| UInt64.ofNat a = UInt64.ofNat (b * 2 ^ k + a) := UInt64.toNat_inj.mp (by rw [UInt64.toNat_or, u_tn (by omega), u_tn (by omega), u_tn h, h1])
  have h2 := congrArg UInt64.toInt64 h3
  exact h2
theorem g_or' {k p a b : Nat} (hp : 2 ^ k = p) (ha : a < p) (h : a + b * p < 2 ^ 64) : lN a ||| lN (b * p) = lN (a + b * p) := by
  rw [Int64.or_comm, g_or hp ha (by omega), Nat.add_comm]
theorem g_ushr {a k p : Nat} {y : UInt64} (hy : y = UInt64.ofNat k) (hk : k < 64) (hp : 2 ^ k = p) (ha : a < 2 ^ 64) : ((lN a).toUInt64 >>> y).toInt64 = lN (a / p) := by
  subst hy hp
  have h : UInt64.ofNat a >>> UInt64.ofNat k = UInt64.ofNat (a / 2 ^ k) := UInt64.toNat_inj.mp (by rw [UInt64.toNat_shiftRight, u_tn ha, u_tn (by omega), u_tn (Nat.lt_of_le_of_lt (Nat.div_le_self _ _) ha), Nat.mod_eq_of_lt hk, Nat.shiftRight_eq_div_pow])
  have h2 := congrArg UInt64.toInt64 h
  exact h2
theorem g_shl {a k p : Nat} {y : Int64} (hy : y.toBitVec.smod 64 = BitVec.ofNat 64 k) (hk : k < 64) (hp : 2 ^ k = p) (ha : a < 2 ^ 64) : lN a <<< y = lN (a * p) := by
  subst hp
  apply Int64.toBitVec_inj.mp
  rw [Int64.toBitVec_shiftLeft, hy]
  apply BitVec.eq_of_toNat_eq
  have hb : (lN a).toBitVec.toNat = a := Nat.mod_eq_of_lt ha
  have hk' : (BitVec.ofNat 64 k).toNat = k := Nat.mod_eq_of_lt (by omega)
  have h : ((lN a).toBitVec <<< BitVec.ofNat 64 k).toNat = (a * 2 ^ k) % 2 ^ 64 := by simp only [BitVec.shiftLeft_eq', BitVec.toNat_shiftLeft, hb, hk', Nat.shiftLeft_eq]
  exact h
/-! ===== lN to 2^62 under >> and >>> ===== -/
theorem pf_lI {a : Nat} (h : a < 2 ^ 63) : (lN a).toInt = (a : Int) := lg_ofNat_toInt h
theorem pf_shr {a d : Nat} {D : Int64} (hD : (D.toBitVec.smod 64).toNat = d) (h : a < 2 ^ 62) : lN a >>> D = lN (a / 2 ^ d) := by
  have hd : a / 2 ^ d ≤ a := Nat.div_le_self _ _
  apply Int64.toInt_inj.mp
  have e : (lN a >>> D).toInt = (lN a).toInt >>> d := by
    rw [← hD]
    exact BitVec.toInt_sshiftRight ..
  rw [e, Int.shiftRight_eq_div_pow, pf_lI (by omega), pf_lI (by omega)]
  rfl
theorem pf_ushr {a d : Nat} {D : UInt64} (hD : D.toNat % 64 = d) (h : a < 2 ^ 62) : ((lN a).toUInt64 >>> D).toInt64 = lN (a / 2 ^ d) := by
  have hd : a / 2 ^ d ≤ a := Nat.div_le_self _ _
  have e : (lN a).toUInt64 >>> D = UInt64.ofNat (a / 2 ^ d) := UInt64.toNat_inj.mp (by
    rw [UInt64.toNat_shiftRight, hD, Nat.shiftRight_eq_div_pow, UInt64.toNat_ofNat']
    show (UInt64.ofNat a).toNat / 2 ^ d = _
    rw [UInt64.toNat_ofNat', Nat.mod_eq_of_lt (by omega), Nat.mod_eq_of_lt (by omega)])
  rw [e]
  rfl
theorem pf_andw (x : Int64) : ∃ m, m < 2 ^ 32 ∧ x &&& 4294967295 = lN m := ⟨x.toBitVec.toNat % 2 ^ 32, Nat.mod_lt _ (by decide), Int64.toBitVec_inj.mp (BitVec.eq_of_toNat_eq (by
  show (x.toBitVec &&& 4294967295#64).toNat = (BitVec.ofNat 64 (x.toBitVec.toNat % 2 ^ 32)).toNat
  rw [BitVec.toNat_and, show (4294967295#64).toNat = 2 ^ 32 - 1 from by decide, Nat.and_two_pow_sub_one_eq_mod, BitVec.toNat_ofNat]
  omega))⟩
/-! ===== Int64 as an unsigned number: uN x ===== -/
def uN (x : Int64) : Nat := x.toUInt64.toNat
theorem uN_lt (x : Int64) : uN x < 18446744073709551616 := x.toUInt64.toNat_lt
theorem uN_inj {x y : Int64} (h : uN x = uN y) : x = y := congrArg UInt64.toInt64 (UInt64.toNat_inj.mp h)
theorem uN_add (x y : Int64) : uN (x + y) = (uN x + uN y) % 18446744073709551616 := by
  show (x.toUInt64 + y.toUInt64).toNat = _
  exact UInt64.toNat_add _ _
theorem uN_mul (x y : Int64) : uN (x * y) = (uN x * uN y) % 18446744073709551616 := by
  show (x.toUInt64 * y.toUInt64).toNat = _
  exact UInt64.toNat_mul _ _
theorem uN_shl (x : Int64) : uN (x <<< ((1 : Int32).toInt64 &&& 63)) = (2 * uN x) % 18446744073709551616 := by
  have h : (((1 : Int32).toInt64 &&& 63).toBitVec.smod 64).toNat = 1 := by decide
  show (x.toBitVec <<< (((1 : Int32).toInt64 &&& 63).toBitVec.smod 64).toNat).toNat = _
  rw [h, BitVec.toNat_shiftLeft, Nat.shiftLeft_eq, Nat.mul_comm]
  rfl
theorem uN_shr (x : Int64) (s : UInt64) : uN (x.toUInt64 >>> s).toInt64 = uN x / 2 ^ (s.toNat % 64) := by
  show (x.toUInt64 >>> s).toNat = _
  rw [UInt64.toNat_shiftRight, Nat.shiftRight_eq_div_pow]
  rfl
theorem uN_s32 (x : Int64) : uN (x.toUInt64 >>> ((32 : Int32).toInt64.toUInt64 &&& Int64.toUInt64 63)).toInt64 = uN x / 4294967296 := by
  have h : ((32 : Int32).toInt64.toUInt64 &&& Int64.toUInt64 63).toNat % 64 = 32 := by decide
  rw [uN_shr, h]
theorem uN_s63 (x : Int64) : uN (x.toUInt64 >>> ((63 : Int32).toInt64.toUInt64 &&& Int64.toUInt64 63)).toInt64 = uN x / 9223372036854775808 := by
  have h : ((63 : Int32).toInt64.toUInt64 &&& Int64.toUInt64 63).toNat % 64 = 63 := by decide
  rw [uN_shr, h]
theorem uN_lo (x : Int64) : uN (x &&& 4294967295) = uN x % 4294967296 := by
  show (x.toUInt64 &&& Int64.toUInt64 4294967295).toNat = _
  rw [UInt64.toNat_and]
  exact Nat.and_two_pow_sub_one_eq_mod _ 32
theorem uN_bit (x : Int64) : (x &&& 1) = 0 ↔ uN x % 2 = 0 := by
  have h : uN (x &&& 1) = uN x % 2 := by
    show (x.toUInt64 &&& Int64.toUInt64 1).toNat = _
    rw [UInt64.toNat_and]
    exact Nat.and_two_pow_sub_one_eq_mod _ 1
  rw [← h]
  exact ⟨fun z => by rw [z]; rfl, fun z => uN_inj (z.trans rfl)⟩
theorem uN_or {x y : Int64} (hy : uN y < 2) : uN ((x <<< ((1 : Int32).toInt64 &&& 63)) ||| y) = (2 * uN x) % 18446744073709551616 + uN y := by
  have h1 : uN ((x <<< ((1 : Int32).toInt64 &&& 63)) ||| y) = uN (x <<< ((1 : Int32).toInt64 &&& 63)) ||| uN y := UInt64.toNat_or _ _
  have h2 : (2 * uN x) % 18446744073709551616 = 2 ^ 1 * (uN x % 9223372036854775808) := by omega
  rw [h1, uN_shl, h2]
  exact (Nat.two_pow_add_eq_or_of_lt (i := 1) hy _).symm
theorem nat_xor {a : Nat} (h : a < 18446744073709551616) : a ^^^ 2 ^ 63 = (a + 9223372036854775808) % 18446744073709551616 := by
  have h1 : (a ^^^ 2 ^ 63) % 2 ^ 63 = a % 2 ^ 63 := by rw [Nat.xor_mod_two_pow, Nat.mod_self, Nat.xor_zero]
  have h2 : (a ^^^ 2 ^ 63) / 2 ^ 63 = (a / 2 ^ 63) ^^^ 1 := by rw [Nat.xor_div_two_pow, Nat.div_self (Nat.two_pow_pos 63)]
  have h3 : a / 2 ^ 63 = 0 ∨ a / 2 ^ 63 = 1 := by omega
  generalize a ^^^ 2 ^ 63 = t at h1 h2
  rcases h3 with h3 | h3
  · rw [h3] at h2
    have h2 : t / 2 ^ 63 = 1 := h2
    omega
  · rw [h3] at h2
    have h2 : t / 2 ^ 63 = 0 := h2
    omega
theorem uN_xor (x : Int64) : uN (x ^^^ (-9223372036854775808)) = (uN x + 9223372036854775808) % 18446744073709551616 := by
  rw [← nat_xor (uN_lt x)]
  exact UInt64.toNat_xor _ _
theorem uN_int (x : Int64) : x.toInt = if 2 * uN x < 18446744073709551616 then (uN x : Int) else (uN x : Int) - 18446744073709551616 := BitVec.toInt_eq_toNat_cond _
theorem uN_le (x y : Int64) : (x ^^^ (-9223372036854775808)) ≤ (y ^^^ (-9223372036854775808)) ↔ uN x ≤ uN y := by
  have hx := uN_lt x
  have hy := uN_lt y
  rw [Int64.le_iff_toInt_le, uN_int, uN_int, uN_xor, uN_xor]
  omega
theorem uN_sk (x : Int64) {k : Nat} (hk : k < 64) : uN (x.toUInt64 >>> ((nI k).toInt64.toUInt64 &&& Int64.toUInt64 63)).toInt64 = uN x / 2 ^ k := by
  have h : ((nI k).toInt64.toUInt64 &&& Int64.toUInt64 63).toNat % 64 = k := by
    rw [nI_l (by omega), UInt64.toNat_and]
    have e : (lN k).toUInt64.toNat = k % 2 ^ 64 := rfl
    have e2 : (Int64.toUInt64 63).toNat = 2 ^ 6 - 1 := by decide
    rw [e, e2, Nat.and_two_pow_sub_one_eq_mod]
    omega
  rw [uN_shr, h]
/-! ===== unsigned comparison by xor with the least ===== -/
theorem lN_bv (n : Nat) : (lN n).toBitVec = BitVec.ofNat 64 n := rfl
theorem lN_nat {n : Nat} (h : n < 2 ^ 64) : (lN n).toBitVec.toNat = n := by rw [lN_bv, BitVec.toNat_ofNat]; exact Nat.mod_eq_of_lt h
theorem lN_xor (a b : Nat) : lN a ^^^ lN b = lN (a ^^^ b) := by
  apply Int64.toBitVec_inj.mp; rw [Int64.toBitVec_xor, lN_bv, lN_bv, lN_bv]; apply BitVec.eq_of_getLsbD_eq; intro i hi; simp [BitVec.getLsbD_ofNat, Nat.testBit_xor, hi]
theorem lN_ti {m : Nat} (h : m < 2 ^ 64) : (lN m).toInt = if m < 2 ^ 63 then (m : Int) else (m : Int) - 2 ^ 64 := by
  have c := BitVec.toInt_eq_toNat_cond (lN m).toBitVec
  rw [lN_nat h] at c
  show (lN m).toBitVec.toInt = _
  rw [c]
  split <;> split <;> omega
theorem xor63 {x : Nat} (h : x < 2 ^ 63) : x ^^^ 2 ^ 63 = 2 ^ 63 + x := by
  apply Nat.eq_of_testBit_eq
  intro i
  rw [Nat.testBit_xor, Nat.testBit_two_pow]
  rcases Nat.lt_trichotomy i 63 with z | z | z
  · rw [Nat.testBit_two_pow_add_gt z, decide_eq_false (by omega)]; simp
  · subst z; rw [Nat.testBit_two_pow_add_eq]; simp
  · have hp : 2 ^ 64 ≤ 2 ^ i := Nat.pow_le_pow_right (by decide) z
    rw [Nat.testBit_lt_two_pow (show x < 2 ^ i by omega), Nat.testBit_lt_two_pow (show 2 ^ 63 + x < 2 ^ i by omega), decide_eq_false (by omega)]; rfl
theorem xorS {a : Nat} (h : a < 2 ^ 64) : (lN a ^^^ (-9223372036854775808)).toInt = (a : Int) - 2 ^ 63 := by
  rw [show (-9223372036854775808 : Int64) = lN (2 ^ 63) from by decide +kernel, lN_xor]
  rcases Nat.lt_or_ge a (2 ^ 63) with z | z
  · rw [xor63 z, lN_ti (by omega), if_neg (by omega)]; omega
  · obtain ⟨x, rfl⟩ : ∃ x, a = 2 ^ 63 + x := ⟨a - 2 ^ 63, by omega⟩
    rw [← xor63 (by omega), Nat.xor_assoc, Nat.xor_self, Nat.xor_zero, lN_ti (by omega), if_pos (by omega), xor63 (by omega)]; omega
theorem ultL {a b : Nat} (ha : a < 2 ^ 64) (hb : b < 2 ^ 64) : ((lN b ^^^ (-9223372036854775808)) ≤ (lN a ^^^ (-9223372036854775808))) ↔ b ≤ a := by
  rw [Int64.le_iff_toInt_le, xorS ha, xorS hb]; omega
/-! ===== Int64 masks of n low bits ===== -/
theorem cr_bits (W U M : BitVec 64) : ((W &&& U) &&& (U &&& (M ^^^ BitVec.allOnes 64))) = 0#64 ↔ (W &&& U) &&& M = W &&& U := by
  constructor
  · intro h
    apply BitVec.eq_of_getLsbD_eq
    intro i hi
    have e := congrArg (fun x => BitVec.getLsbD x i) h
    simp only [BitVec.getLsbD_and, BitVec.getLsbD_xor, BitVec.getLsbD_allOnes, BitVec.getLsbD_zero, hi, decide_true] at e ⊢
    revert e
    cases W.getLsbD i <;> cases U.getLsbD i <;> cases M.getLsbD i <;> decide
  · intro h
    apply BitVec.eq_of_getLsbD_eq
    intro i hi
    have e := congrArg (fun x => BitVec.getLsbD x i) h
    simp only [BitVec.getLsbD_and, BitVec.getLsbD_xor, BitVec.getLsbD_allOnes, BitVec.getLsbD_zero, hi, decide_true] at e ⊢
    revert e
    cases W.getLsbD i <;> cases U.getLsbD i <;> cases M.getLsbD i <;> decide
theorem cr_mask (w U m : Int64) (n : Nat) (hm : m.toBitVec.toNat = 2 ^ n - 1) : ((w &&& U) &&& (U &&& (m ^^^ (-1)))) = 0 ↔ (w &&& U).toBitVec.toNat < 2 ^ n := by
  have e0 : (-1 : Int64).toBitVec = BitVec.allOnes 64 := by decide
  have z0 : (0 : Int64).toBitVec = 0#64 := by decide
  rw [← Int64.toBitVec_inj, z0, Int64.toBitVec_and, Int64.toBitVec_and, Int64.toBitVec_and, Int64.toBitVec_xor, e0, cr_bits]
  generalize w.toBitVec &&& U.toBitVec = T
  rw [← BitVec.toNat_inj, BitVec.toNat_and, hm, Nat.and_two_pow_sub_one_eq_mod]
  constructor
  · intro h
    have t := Nat.mod_lt T.toNat (Nat.two_pow_pos n)
    rw [h] at t
    exact t
  · exact Nat.mod_eq_of_lt
theorem cr_shr (t : Int64) (x : UInt64) (n : Nat) (hx : x.toNat % 64 = n) : (t.toUInt64 >>> x).toInt64 = 0 ↔ t.toBitVec.toNat < 2 ^ n := by
  rw [← Int64.toBitVec_inj, ← BitVec.toNat_inj]
  show (t.toUInt64 >>> x).toNat = 0 ↔ t.toUInt64.toNat < 2 ^ n
  rw [UInt64.toNat_shiftRight, hx, Nat.shiftRight_eq_div_pow]
  constructor
  · intro h
    have d : t.toUInt64.toNat / 2 ^ n < 1 := by
      rw [h]
      decide
    have e := (Nat.div_lt_iff_lt_mul (Nat.two_pow_pos n)).mp d
    rw [Nat.one_mul] at e
    exact e
  · exact Nat.div_eq_of_lt
theorem cr_amt (s : Int64) : ∃ n, n < 64 ∧ s &&& 63 = lN n ∧ (s.toUInt64 &&& Int64.toUInt64 63).toNat % 64 = n := by
  have e : (s.toUInt64 &&& Int64.toUInt64 63).toNat = s.toUInt64.toNat % 2 ^ 6 := by
    rw [UInt64.toNat_and, show (Int64.toUInt64 63).toNat = 2 ^ 6 - 1 from by decide, Nat.and_two_pow_sub_one_eq_mod]
  refine ⟨s.toUInt64.toNat % 2 ^ 6, by omega, ?_, by omega⟩
  rw [← Int64.toBitVec_inj, ← BitVec.toNat_inj]
  show (s.toUInt64 &&& Int64.toUInt64 63).toNat = (BitVec.ofNat 64 (s.toUInt64.toNat % 2 ^ 6)).toNat
  rw [e, BitVec.toNat_ofNat]
  omega
end
section
/-! plain facts on numbers and arrays, to paste: each family by itself; over the kit's rows on nI and upd -/
/-! ===== order of ints, in all its forms, and through longs ===== -/
theorem fa_lt (a b : Int32) : a < b ↔ a.toInt < b.toInt := Int32.lt_iff_toInt_lt
theorem fa_le (a b : Int32) : a ≤ b ↔ a.toInt ≤ b.toInt := Int32.le_iff_toInt_le
theorem fa_eq (a b : Int32) : a = b ↔ a.toInt = b.toInt := Int32.toInt_inj.symm
theorem fa_lt64 (a b : Int64) : a < b ↔ a.toInt < b.toInt := Int64.lt_iff_toInt_lt
theorem fa_le64 (a b : Int64) : a ≤ b ↔ a.toInt ≤ b.toInt := Int64.le_iff_toInt_le
theorem fa_eq64 (a b : Int64) : a = b ↔ a.toInt = b.toInt := Int64.toInt_inj.symm
/-- a comparison of two ints taken as longs -/
theorem fa_wide_lt (a b : Int32) : a.toInt64 < b.toInt64 ↔ a < b := by rw [fa_lt64, fa_lt, Int32.toInt_toInt64, Int32.toInt_toInt64]
theorem fa_wide_le (a b : Int32) : a.toInt64 ≤ b.toInt64 ↔ a ≤ b := by rw [fa_le64, fa_le, Int32.toInt_toInt64, Int32.toInt_toInt64]
theorem fa_wide_eq (a b : Int32) : a.toInt64 = b.toInt64 ↔ a = b := by rw [fa_eq64, fa_eq, Int32.toInt_toInt64, Int32.toInt_toInt64]
/-- one strict comparison gives all the others -/
theorem fa_of_lt {a b : Int32} (h : a < b) : a ≤ b ∧ ¬ b ≤ a ∧ ¬ b < a ∧ a ≠ b ∧ b ≠ a := by
  rw [fa_lt] at h
  refine ⟨?_, ?_, ?_, ?_, ?_⟩
  · rw [fa_le]; omega
  · rw [fa_le]; omega
  · rw [fa_lt]; omega
  · intro e; rw [fa_eq] at e; omega
  · intro e; rw [fa_eq] at e; omega
theorem fa_of_nlt {a b : Int32} (h : ¬ a < b) : b ≤ a := by
  rw [fa_lt] at h
  rw [fa_le]
  omega
theorem fa_of_nle {a b : Int32} (h : ¬ a ≤ b) : b < a := by
  rw [fa_le] at h
  rw [fa_lt]
  omega
theorem fa_le_ne {a b : Int32} (h : a ≤ b) (h2 : a ≠ b) : a < b := by
  rw [fa_le] at h
  rw [fa_lt]
  have h3 : a.toInt ≠ b.toInt := fun e => h2 ((fa_eq a b).mpr e)
  omega
theorem fa_three (a b : Int32) : a < b ∨ a = b ∨ b < a := by
  rw [fa_lt, fa_lt, fa_eq]
  omega
theorem fa_trans {a b c : Int32} (h : a < b) (h2 : b ≤ c) : a < c := by
  rw [fa_lt] at *
  rw [fa_le] at h2
  omega
/-! ===== small literals as numbers ===== -/
theorem fa_lit (n : Nat) : (OfNat.ofNat n : Int32) = nI n := rfl
theorem fa_litL (n : Nat) : (OfNat.ofNat n : Int64) = lN n := rfl
/-! ===== bits of a number: 'or', masks, one bit ===== -/
theorem fa_and (a b : Nat) : nI a &&& nI b = nI (a &&& b) := by
  apply Int32.toBitVec_inj.1
  show BitVec.ofNat 32 a &&& BitVec.ofNat 32 b = BitVec.ofNat 32 (a &&& b)
  apply BitVec.eq_of_getLsbD_eq
  intro i hi
  simp [hi]
theorem fa_or (a b : Nat) : nI a ||| nI b = nI (a ||| b) := by
  apply Int32.toBitVec_inj.1
  show BitVec.ofNat 32 a ||| BitVec.ofNat 32 b = BitVec.ofNat 32 (a ||| b)
  apply BitVec.eq_of_getLsbD_eq
  intro i hi
  simp [hi]
/-- a remainder by a power of two, as a mask -/
theorem fa_mask (n k : Nat) : nI n &&& nI (2 ^ k - 1) = nI (n % 2 ^ k) := by rw [fa_and, Nat.and_two_pow_sub_one_eq_mod]
/-- 'or' of a high part and a low one that don't meet is their sum -/
theorem fa_or_sum {a k : Nat} (b : Nat) (h : a < 2 ^ k) : nI (2 ^ k * b) ||| nI a = nI (2 ^ k * b + a) := by rw [fa_or, Nat.two_pow_add_eq_or_of_lt h]
/-- one bit, by 'and' with a power of two -/
theorem fa_bit {n j : Nat} (hj : j < 31) : nI n &&& nI (2 ^ j) = 0 ↔ n.testBit j = false := by
  have h2 : (2 : Nat) ^ j < 2 ^ 31 := Nat.pow_lt_pow_right (by decide) hj
  have hle : n &&& 2 ^ j ≤ 2 ^ j := Nat.and_le_right
  have e : n &&& 2 ^ j = 0 ↔ n.testBit j = false := by
    constructor
    · intro h
      have h1 : (n &&& 2 ^ j).testBit j = false := by rw [h]; simp
      rw [Nat.testBit_and] at h1
      first | simpa using h1 | simpa [Nat.testBit_two_pow_self] using h1 | simpa [Nat.testBit_two_pow] using h1
    · intro h
      apply Nat.eq_of_testBit_eq
      intro i
      rw [Nat.testBit_and]
      by_cases hi : j = i
      · subst hi; simp [h]
      · first | (simp [Nat.testBit_two_pow, hi]; done) | (simp [Nat.testBit_two_pow_of_ne hi]; done)
  rw [fa_and]
  constructor
  · intro h
    apply e.mp
    rcases Nat.eq_zero_or_pos (n &&& 2 ^ j) with z | z
    · exact z
    · exact absurd h (nI_ne0 z (Nat.lt_of_le_of_lt hle h2))
  · intro h
    rw [e.mpr h]; exact nI_0
/-- a remainder by a power of two of a number that isn't negative, as Java divides -/
theorem fa_rem {a k : Nat} (ha : a < 2 ^ 31) (hk : k < 31) : nI a - nI a / nI (2 ^ k) * nI (2 ^ k) = nI (a % 2 ^ k) := pk_rem ha (Nat.two_pow_pos k) (Nat.pow_lt_pow_right (by decide) hk)
/-! ===== cuts to a byte, a short ===== -/
theorem fa_byte_xor (x y : Int32) : (x ^^^ y).toInt8 = x.toInt8 ^^^ y.toInt8 := by
  apply Int8.toBitVec_inj.1
  apply BitVec.eq_of_getLsbD_eq
  intro i hi
  first | (simp [hi]; done) | (simp [hi, BitVec.getLsbD_setWidth, BitVec.getLsbD_signExtend]; done)
theorem fa_short_xor (x y : Int32) : (x ^^^ y).toInt16 = x.toInt16 ^^^ y.toInt16 := by
  apply Int16.toBitVec_inj.1
  apply BitVec.eq_of_getLsbD_eq
  intro i hi
  first | (simp [hi]; done) | (simp [hi, BitVec.getLsbD_setWidth, BitVec.getLsbD_signExtend]; done)
/-- the cut to a byte sees the low byte alone -/
theorem fa_byte_low (x : Int32) : (x &&& 255).toInt8 = x.toInt8 := by
  apply Int8.toBitVec_inj.1
  apply BitVec.eq_of_getLsbD_eq
  intro i hi
  have h2 : (255 : Int32).toBitVec.getLsbD i = true := by
    have : ∀ j : Fin 8, (255 : Int32).toBitVec.getLsbD j.val = true := by decide +kernel
    exact this ⟨i, hi⟩
  have h4 : (x &&& 255).toBitVec.getLsbD i = x.toBitVec.getLsbD i := by
    show (x.toBitVec &&& (255 : Int32).toBitVec).getLsbD i = _
    rw [BitVec.getLsbD_and, h2, Bool.and_true]
  have h3 : i < 32 := by omega
  first
    | (show (((x &&& 255).toBitVec).signExtend 8).getLsbD i = (x.toBitVec.signExtend 8).getLsbD i; rw [BitVec.getLsbD_signExtend, BitVec.getLsbD_signExtend, if_pos h3, if_pos h3, h4])
    | (show (((x &&& 255).toBitVec).setWidth 8).getLsbD i = (x.toBitVec.setWidth 8).getLsbD i; rw [BitVec.getLsbD_setWidth, BitVec.getLsbD_setWidth, h4])
    | (simp [hi, h3, h4]; done)
theorem fa_short_low (x : Int32) : (x &&& 65535).toInt16 = x.toInt16 := by
  apply Int16.toBitVec_inj.1
  apply BitVec.eq_of_getLsbD_eq
  intro i hi
  have h2 : (65535 : Int32).toBitVec.getLsbD i = true := by
    have : ∀ j : Fin 16, (65535 : Int32).toBitVec.getLsbD j.val = true := by decide +kernel
    exact this ⟨i, hi⟩
  have h4 : (x &&& 65535).toBitVec.getLsbD i = x.toBitVec.getLsbD i := by
    show (x.toBitVec &&& (65535 : Int32).toBitVec).getLsbD i = _
    rw [BitVec.getLsbD_and, h2, Bool.and_true]
  have h3 : i < 32 := by omega
  first
    | (show (((x &&& 65535).toBitVec).signExtend 16).getLsbD i = (x.toBitVec.signExtend 16).getLsbD i; rw [BitVec.getLsbD_signExtend, BitVec.getLsbD_signExtend, if_pos h3, if_pos h3, h4])
    | (show (((x &&& 65535).toBitVec).setWidth 16).getLsbD i = (x.toBitVec.setWidth 16).getLsbD i; rw [BitVec.getLsbD_setWidth, BitVec.getLsbD_setWidth, h4])
    | (simp [hi, h3, h4]; done)
/-- a small number is its own byte, its own short -/
theorem fa_byte_small {n : Nat} (h : n < 128) : (nI n).toInt8.toInt32 = nI n := by
  have : ∀ j : Fin 128, (nI j.val).toInt8.toInt32 = nI j.val := by decide +kernel
  exact this ⟨n, h⟩
/-! ===== absolute difference ===== -/
theorem fa_absdiff {a b : Nat} (ha : a < 2 ^ 31) (hb : b < 2 ^ 31) : (if nI a < nI b then nI b - nI a else nI a - nI b) = nI (if a < b then b - a else a - b) := by
  by_cases h : a < b
  · rw [if_pos (nI_lt h hb), if_pos h]
    exact pk_sub (Nat.le_of_lt h)
  · rw [if_neg (nI_nlt (Nat.le_of_not_lt h) ha), if_neg h]
    exact pk_sub (Nat.le_of_not_lt h)
/-! ===== an array behind i stores, a conditional store, a row copied ===== -/
/-- f where k < i, what stood there else -/
def fa_fill {α : Type} (f g : Nat → α) (i : Nat) : Nat → α := fun k => if k < i then f k else g k
theorem fa_fill_0 {α : Type} (f g : Nat → α) : fa_fill f g 0 = g := funext fun k => if_neg (Nat.not_lt_zero k)
theorem fa_fill_in {α : Type} {f g : Nat → α} {i k : Nat} (h : k < i) : fa_fill f g i k = f k := if_pos h
theorem fa_fill_out {α : Type} {f g : Nat → α} {i k : Nat} (h : i ≤ k) : fa_fill f g i k = g k := if_neg (Nat.not_lt.mpr h)
theorem fa_fill_succ (f g : Nat → Int32) (i : Nat) : upd (fa_fill f g i) i (f i) = fa_fill f g (i + 1) := by
  funext k
  by_cases e : k = i
  · subst e
    rw [pk_us]
    exact (if_pos (Nat.lt_succ_self k)).symm
  · rw [pk_un e]
    by_cases h : k < i
    · rw [fa_fill_in h, fa_fill_in (Nat.lt_succ_of_lt h)]
    · rw [fa_fill_out (Nat.le_of_not_lt h), fa_fill_out (by omega)]
/-- a store that changes nothing -/
theorem fa_upd_same {f : Nat → Int32} {i : Nat} {x : Int32} (h : f i = x) : upd f i x = f := by
  funext k
  by_cases e : k = i
  · subst e
    rw [pk_us, h]
  · rw [pk_un e]
/-- a store under a condition, told as one -/
theorem fa_upd_if (c : Prop) [Decidable c] (f : Nat → Int32) (i : Nat) (x : Int32) : (if c then upd f i x else f) = upd f i (if c then x else f i) := by
  by_cases h : c
  · rw [if_pos h, if_pos h]
  · rw [if_neg h, if_neg h, fa_upd_same rfl]
/-- two stores at one place, at two -/
theorem fa_upd_twice (f : Nat → Int32) (i : Nat) (x y : Int32) : upd (upd f i x) i y = upd f i y := by
  funext k
  by_cases e : k = i
  · subst e
    rw [pk_us, pk_us]
  · rw [pk_un e, pk_un e, pk_un e]
theorem fa_upd_swap (f : Nat → Int32) {i j : Nat} (h : i ≠ j) (x y : Int32) : upd (upd f i x) j y = upd (upd f j y) i x := by
  funext k
  by_cases e : k = i
  · subst e
    rw [pk_un h, pk_us, pk_us]
  · by_cases e2 : k = j
    · subst e2
      rw [pk_us, pk_un e, pk_us]
    · rw [pk_un e2, pk_un e, pk_un e, pk_un e2]
/-! ===== the first index with a property; a count ===== -/
/-- the first k < n with p k, n if there is none -/
def fa_first (p : Nat → Bool) : Nat → Nat
  | 0 => 0
  | n + 1 => if fa_first p n < n then fa_first p n else if p n then n else n + 1
theorem fa_first_le (p : Nat → Bool) : ∀ n, fa_first p n ≤ n
  | 0 => Nat.le_refl 0
  | n + 1 => by
    have ih := fa_first_le p n
    unfold fa_first
    split
    · omega
    · split
      · omega
      · omega
theorem fa_first_no (p : Nat → Bool) : ∀ n k, k < fa_first p n → p k = false
  | 0, k, h => absurd h (Nat.not_lt_zero k)
  | n + 1, k, h => by
    have ih := fa_first_no p n
    have hl := fa_first_le p n
    unfold fa_first at h
    split at h
    · exact ih k h
    · rename_i h1
      split at h
      · exact ih k (by omega)
      · rename_i h2
        by_cases e : k = n
        · subst e
          exact Bool.eq_false_iff.mpr h2
        · exact ih k (by omega)
theorem fa_first_yes (p : Nat → Bool) : ∀ n, fa_first p n < n → p (fa_first p n) = true
  | 0, h => absurd h (Nat.not_lt_zero _)
  | n + 1, h => by
    have ih := fa_first_yes p n
    have hl := fa_first_le p n
    unfold fa_first at h ⊢
    split at h
    · rename_i h1
      rw [if_pos h1]
      exact ih h1
    · rename_i h1
      rw [if_neg h1]
      split at h
      · rename_i h2
        rw [if_pos h2]
        exact h2
      · omega
/-- how many k < n have p k -/
def fa_cnt (p : Nat → Bool) : Nat → Nat
  | 0 => 0
  | n + 1 => fa_cnt p n + if p n then 1 else 0
theorem fa_cnt_le (p : Nat → Bool) : ∀ n, fa_cnt p n ≤ n
  | 0 => Nat.le_refl 0
  | n + 1 => by
    have ih := fa_cnt_le p n
    unfold fa_cnt
    split
    · omega
    · omega
theorem fa_cnt_yes {p : Nat → Bool} {n : Nat} (h : p n = true) : fa_cnt p (n + 1) = fa_cnt p n + 1 := by rw [fa_cnt, if_pos h]
theorem fa_cnt_no {p : Nat → Bool} {n : Nat} (h : p n = false) : fa_cnt p (n + 1) = fa_cnt p n := by rw [fa_cnt, if_neg (by rw [h]; decide)]; rfl
theorem fa_cnt_cong {p q : Nat → Bool} : ∀ {n : Nat}, (∀ k, k < n → p k = q k) → fa_cnt p n = fa_cnt q n
  | 0, _ => rfl
  | n + 1, h => by rw [fa_cnt, fa_cnt, fa_cnt_cong (fun k hk => h k (Nat.lt_succ_of_lt hk)), h n (Nat.lt_succ_self n)]
/-! ===== an answer carried into a post; a branch on a boolean answer ===== -/
theorem fa_post {α : Type} {P : α → Prop} {x y : α} (h : x = y) (hp : P y) : P x := h ▸ hp
theorem fa_post2 {α β : Type} {P : α → β → Prop} {x y : α} {u v : β} (h : x = y) (h2 : u = v) (hp : P y v) : P x u := h ▸ h2 ▸ hp
theorem fa_bool {r : Int32} {b : Bool} (h : r = if b then 1 else 0) : (r = 0 ↔ b = false) ∧ (¬ r = 0 ↔ b = true) := by
  subst h
  cases b
  · exact ⟨⟨fun _ => rfl, fun _ => rfl⟩, ⟨fun h => absurd rfl h, fun h => absurd h (by decide)⟩⟩
  · exact ⟨⟨fun h => absurd h (by decide), fun h => absurd h (by decide)⟩, ⟨fun _ => rfl, fun _ => by decide⟩⟩
/-- a boolean's narrowing changes nothing -/
theorem fa_bool_and {r : Int32} (h : r = 0 ∨ r = 1) : r &&& 1 = r := by
  rcases h with rfl | rfl
  · decide
  · decide
theorem fa_bool_prop {c : Prop} [Decidable c] {r : Int32} (h : r = if c then 1 else 0) : (r = 0 ↔ ¬ c) ∧ (¬ r = 0 ↔ c) := by
  subst h
  by_cases hc : c
  · rw [if_pos hc]
    exact ⟨⟨fun h => absurd h (by decide), fun h => absurd hc h⟩, ⟨fun _ => hc, fun _ => by decide⟩⟩
  · rw [if_neg hc]
    exact ⟨⟨fun _ => hc, fun _ => rfl⟩, ⟨fun h => absurd rfl h, fun h => absurd h hc⟩⟩
end
section
/-! plain facts to paste, each family by itself; over the kit's nI, lN and upd -/
/-! ===== drawers: more things than places ===== -/
theorem fb_holes : ∀ (m n : Nat) (f : Nat → Nat), (∀ i, i < n → f i < m) → (∀ i j, i < j → j < n → f i ≠ f j) → n ≤ m := by
  intro m
  induction m with
  | zero =>
    intro n f h1 _
    rcases Nat.eq_zero_or_pos n with h | h
    · omega
    · exact absurd (h1 0 h) (Nat.not_lt_zero _)
  | succ m ih =>
    intro n f h1 h2
    by_cases hx : ∃ i, i < n ∧ f i = m
    · obtain ⟨a, ha, hfa⟩ := hx
      have hg := ih (n - 1) (fun i => if i < a then f i else f (i + 1)) (by
        intro i hi
        by_cases q : i < a
        · simp only [if_pos q]
          have b1 := h1 i (by omega)
          have b2 := h2 i a q ha
          omega
        · simp only [if_neg q]
          have b1 := h1 (i + 1) (by omega)
          have b2 := h2 a (i + 1) (by omega) (by omega)
          omega) (by
        intro i j hij hj
        by_cases q : i < a
        · by_cases r : j < a
          · simp only [if_pos q, if_pos r]
            exact h2 i j hij (by omega)
          · simp only [if_pos q, if_neg r]
            exact h2 i (j + 1) (by omega) (by omega)
        · have r : ¬ j < a := by omega
          simp only [if_neg q, if_neg r]
          exact h2 (i + 1) (j + 1) (by omega) (by omega))
      omega
    · have hg := ih n f (fun i hi => by
        have b1 := h1 i hi
        have b2 : f i ≠ m := fun e => hx ⟨i, hi, e⟩
        omega) h2
      omega
/-- two of them in one place -/
theorem fb_twice {m n : Nat} {f : Nat → Nat} (h : ∀ i, i < n → f i < m) (hm : m < n) : ∃ i j, i < j ∧ j < n ∧ f i = f j := by
  refine Classical.byContradiction fun hx => ?_
  have := fb_holes m n f h (fun i j hij hj e => hx ⟨i, j, hij, hj, e⟩)
  omega
/-- as many as places, none twice: each place is taken -/
theorem fb_onto {n : Nat} {f : Nat → Nat} (h : ∀ i, i < n → f i < n) (h2 : ∀ i j, i < j → j < n → f i ≠ f j) {y : Nat} (hy : y < n) : ∃ i, i < n ∧ f i = y := by
  refine Classical.byContradiction fun hx => ?_
  have hne : ∀ i, i < n → f i ≠ y := fun i hi e => hx ⟨i, hi, e⟩
  have := fb_holes (n - 1) n (fun i => if f i < y then f i else f i - 1) (by
    intro i hi
    have b1 := h i hi
    have b2 := hne i hi
    by_cases q : f i < y
    · simp only [if_pos q]; omega
    · simp only [if_neg q]; omega) (by
    intro i j hij hj
    have b1 := hne i (by omega)
    have b2 := hne j hj
    have b3 := h2 i j hij hj
    by_cases q : f i < y
    · by_cases r : f j < y
      · simp only [if_pos q, if_pos r]; exact b3
      · simp only [if_pos q, if_neg r]; omega
    · by_cases r : f j < y
      · simp only [if_neg q, if_pos r]; omega
      · simp only [if_neg q, if_neg r]; omega)
  omega
/-! ===== how many places have a property ===== -/
def fb_ct (p : Nat → Bool) : Nat → Nat
  | 0 => 0
  | n + 1 => fb_ct p n + (if p n then 1 else 0)
theorem fb_ct_succ (p : Nat → Bool) (n : Nat) : fb_ct p (n + 1) = fb_ct p n + (if p n then 1 else 0) := rfl
theorem fb_ct_le (p : Nat → Bool) : ∀ n, fb_ct p n ≤ n
  | 0 => Nat.le_refl _
  | n + 1 => by
    have h := fb_ct_le p n
    rw [fb_ct_succ]
    split <;> omega
theorem fb_ct_step (p : Nat → Bool) (m : Nat) : ∀ n, fb_ct p m ≤ fb_ct p (m + n)
  | 0 => Nat.le_refl _
  | n + 1 => by
    have h := fb_ct_step p m n
    show fb_ct p m ≤ fb_ct p (m + n + 1)
    rw [fb_ct_succ]
    omega
theorem fb_ct_mono (p : Nat → Bool) {m n : Nat} (h : m ≤ n) : fb_ct p m ≤ fb_ct p n := by
  have := fb_ct_step p m (n - m)
  rwa [Nat.add_sub_cancel' h] at this
theorem fb_ct_cong {p q : Nat → Bool} : ∀ {n : Nat}, (∀ k, k < n → p k = q k) → fb_ct p n = fb_ct q n
  | 0, _ => rfl
  | n + 1, h => by
    rw [fb_ct_succ, fb_ct_succ, fb_ct_cong (fun k hk => h k (by omega)), h n (by omega)]
/-- one place changed -/
theorem fb_ct_out (p : Nat → Bool) (b : Bool) {i n : Nat} (h : n ≤ i) : fb_ct (fun k => if k = i then b else p k) n = fb_ct p n :=
  fb_ct_cong fun k hk => if_neg (by omega)
theorem fb_ct_upd (p : Nat → Bool) (b : Bool) {i : Nat} : ∀ {n : Nat}, i < n → fb_ct (fun k => if k = i then b else p k) n + (if p i then 1 else 0) = fb_ct p n + (if b then 1 else 0)
  | 0, h => absurd h (Nat.not_lt_zero i)
  | n + 1, h => by
    rw [fb_ct_succ, fb_ct_succ]
    rcases Nat.lt_or_ge i n with q | q
    · have := fb_ct_upd p b q
      have e : (if n = i then b else p n) = p n := if_neg (by omega)
      rw [e]
      omega
    · have e : i = n := by omega
      subst e
      rw [fb_ct_out p b (Nat.le_refl _)]
      simp only [if_true]
      omega
theorem fb_ct_sub {p q : Nat → Bool} : ∀ {n : Nat}, (∀ k, k < n → p k = true → q k = true) → fb_ct p n ≤ fb_ct q n
  | 0, _ => Nat.le_refl _
  | n + 1, h => by
    have h1 := fb_ct_sub (n := n) (p := p) (q := q) (fun k hk => h k (by omega))
    have h2 := h n (by omega)
    rw [fb_ct_succ, fb_ct_succ]
    cases hp : p n <;> cases hq : q n <;> simp_all <;> omega
theorem fb_ct_or {p q : Nat → Bool} : ∀ {n : Nat}, (∀ k, k < n → ¬ (p k = true ∧ q k = true)) → fb_ct (fun k => p k || q k) n = fb_ct p n + fb_ct q n
  | 0, _ => rfl
  | n + 1, h => by
    have h1 := fb_ct_or (n := n) (p := p) (q := q) (fun k hk => h k (by omega))
    have h2 := h n (by omega)
    rw [fb_ct_succ, fb_ct_succ, fb_ct_succ, h1]
    cases hp : p n <;> cases hq : q n <;> simp_all <;> omega
theorem fb_ct_not (p : Nat → Bool) : ∀ n, fb_ct p n + fb_ct (fun k => !p k) n = n
  | 0 => rfl
  | n + 1 => by
    have h := fb_ct_not p n
    rw [fb_ct_succ, fb_ct_succ]
    cases p n <;> simp <;> omega
theorem fb_ct_split (p : Nat → Bool) (m : Nat) : ∀ n, fb_ct p (m + n) = fb_ct p m + fb_ct (fun k => p (m + k)) n
  | 0 => rfl
  | n + 1 => by
    have h := fb_ct_split p m n
    show fb_ct p (m + n + 1) = _
    rw [fb_ct_succ, fb_ct_succ, h, Nat.add_assoc]
theorem fb_ct_zero {p : Nat → Bool} : ∀ {n : Nat}, fb_ct p n = 0 ↔ ∀ k, k < n → p k = false
  | 0 => ⟨fun _ k hk => absurd hk (Nat.not_lt_zero k), fun _ => rfl⟩
  | n + 1 => by
    have h := fb_ct_zero (p := p) (n := n)
    rw [fb_ct_succ]
    constructor
    · intro e k hk
      have e1 : fb_ct p n = 0 := by omega
      rcases Nat.lt_or_ge k n with q | q
      · exact h.mp e1 k q
      · have ek : k = n := by omega
        subst ek
        cases hp : p k
        · rfl
        · simp [hp] at e
    · intro a
      rw [h.mpr (fun k hk => a k (by omega)), a n (by omega)]
      rfl
theorem fb_ct_pos {p : Nat → Bool} {n : Nat} : 0 < fb_ct p n ↔ ∃ k, k < n ∧ p k = true := by
  constructor
  · intro h
    refine Classical.byContradiction fun hx => ?_
    have := fb_ct_zero.mpr (fun k hk => by
      cases hp : p k
      · rfl
      · exact absurd ⟨k, hk, hp⟩ hx : ∀ k, k < n → p k = false)
    omega
  · rintro ⟨k, hk, hp⟩
    rcases Nat.eq_zero_or_pos (fb_ct p n) with e | e
    · have := fb_ct_zero.mp e k hk
      rw [this] at hp
      cases hp
    · exact e
theorem fb_ct_all {p : Nat → Bool} {n : Nat} : fb_ct p n = n ↔ ∀ k, k < n → p k = true := by
  have h := fb_ct_not p n
  constructor
  · intro e k hk
    have z : fb_ct (fun k => !p k) n = 0 := by omega
    have := fb_ct_zero.mp z k hk
    cases hp : p k
    · simp [hp] at this
    · rfl
  · intro a
    have z : fb_ct (fun k => !p k) n = 0 := fb_ct_zero.mpr (fun k hk => by simp [a k hk])
    omega
/-- the k-th place with the property -/
theorem fb_ct_kth {p : Nat → Bool} {k : Nat} : ∀ {n : Nat}, k < fb_ct p n → ∃ i, i < n ∧ p i = true ∧ fb_ct p i = k
  | 0, h => absurd h (Nat.not_lt_zero k)
  | n + 1, h => by
    rcases Nat.lt_or_ge k (fb_ct p n) with q | q
    · obtain ⟨i, h1, h2⟩ := fb_ct_kth q
      exact ⟨i, by omega, h2⟩
    · rw [fb_ct_succ] at h
      cases hp : p n
      · simp [hp] at h; omega
      · simp [hp] at h
        exact ⟨n, by omega, hp, by omega⟩
theorem fb_ct_kth_one {p : Nat → Bool} {i j : Nat} (hi : p i = true) (hj : p j = true) (e : fb_ct p i = fb_ct p j) : i = j := by
  have key : ∀ a b : Nat, a < b → p a = true → fb_ct p a < fb_ct p b := by
    intro a b hab ha
    have h := fb_ct_mono p (show a + 1 ≤ b from hab)
    rw [fb_ct_succ, ha] at h
    simp at h
    omega
  rcases Nat.lt_trichotomy i j with q | q | q
  · have := key i j q hi; omega
  · exact q
  · have := key j i q hj; omega
/-! ===== sums over a range: one place changed, parts, bounds ===== -/
def fb_sm (f : Nat → Nat) : Nat → Nat
  | 0 => 0
  | n + 1 => fb_sm f n + f n
theorem fb_sm_succ (f : Nat → Nat) (n : Nat) : fb_sm f (n + 1) = fb_sm f n + f n := rfl
theorem fb_sm_cong {f g : Nat → Nat} : ∀ {n : Nat}, (∀ k, k < n → f k = g k) → fb_sm f n = fb_sm g n
  | 0, _ => rfl
  | n + 1, h => by rw [fb_sm_succ, fb_sm_succ, fb_sm_cong (fun k hk => h k (by omega)), h n (by omega)]
theorem fb_sm_out (f : Nat → Nat) (v : Nat) {i n : Nat} (h : n ≤ i) : fb_sm (fun k => if k = i then v else f k) n = fb_sm f n :=
  fb_sm_cong fun k hk => if_neg (by omega)
theorem fb_sm_upd (f : Nat → Nat) (v : Nat) {i : Nat} : ∀ {n : Nat}, i < n → fb_sm (fun k => if k = i then v else f k) n + f i = fb_sm f n + v
  | 0, h => absurd h (Nat.not_lt_zero i)
  | n + 1, h => by
    rw [fb_sm_succ, fb_sm_succ]
    rcases Nat.lt_or_ge i n with q | q
    · have := fb_sm_upd f v q
      have e : (if n = i then v else f n) = f n := if_neg (by omega)
      rw [e]
      omega
    · have e : i = n := by omega
      subst e
      rw [fb_sm_out f v (Nat.le_refl _)]
      simp only [if_true]
      omega
theorem fb_sm_add (f g : Nat → Nat) : ∀ n, fb_sm (fun k => f k + g k) n = fb_sm f n + fb_sm g n
  | 0 => rfl
  | n + 1 => by
    have h := fb_sm_add f g n
    rw [fb_sm_succ, fb_sm_succ, fb_sm_succ, h]
    omega
theorem fb_sm_le {f g : Nat → Nat} : ∀ {n : Nat}, (∀ k, k < n → f k ≤ g k) → fb_sm f n ≤ fb_sm g n
  | 0, _ => Nat.le_refl _
  | n + 1, h => by
    have h1 := fb_sm_le (n := n) (f := f) (g := g) (fun k hk => h k (by omega))
    have h2 := h n (by omega)
    rw [fb_sm_succ, fb_sm_succ]
    omega
theorem fb_sm_const (c : Nat) : ∀ n, fb_sm (fun _ => c) n = n * c
  | 0 => by rw [Nat.zero_mul]; rfl
  | n + 1 => by rw [fb_sm_succ, fb_sm_const c n, Nat.succ_mul]
theorem fb_sm_bound {f : Nat → Nat} {c n : Nat} (h : ∀ k, k < n → f k ≤ c) : fb_sm f n ≤ n * c := by
  rw [← fb_sm_const c n]
  exact fb_sm_le h
theorem fb_sm_mono (f : Nat → Nat) (m : Nat) : ∀ n, fb_sm f m ≤ fb_sm f (m + n)
  | 0 => Nat.le_refl _
  | n + 1 => by
    have h := fb_sm_mono f m n
    show fb_sm f m ≤ fb_sm f (m + n + 1)
    rw [fb_sm_succ]
    omega
theorem fb_sm_part (f : Nat → Nat) {i n : Nat} (h : i < n) : fb_sm f i + f i ≤ fb_sm f n := by
  have := fb_sm_mono f (i + 1) (n - (i + 1))
  rw [fb_sm_succ, show i + 1 + (n - (i + 1)) = n by omega] at this
  exact this
theorem fb_sm_split (f : Nat → Nat) (m : Nat) : ∀ n, fb_sm f (m + n) = fb_sm f m + fb_sm (fun k => f (m + k)) n
  | 0 => rfl
  | n + 1 => by
    have h := fb_sm_split f m n
    show fb_sm f (m + n + 1) = _
    rw [fb_sm_succ, fb_sm_succ, h, Nat.add_assoc]
theorem fb_sm_zero {f : Nat → Nat} {n : Nat} (h : fb_sm f n = 0) : ∀ k, k < n → f k = 0 := fun k hk => by
  have := fb_sm_part f hk
  omega
/-- the same over whole numbers -/
def fb_si (f : Nat → Int) : Nat → Int
  | 0 => 0
  | n + 1 => fb_si f n + f n
theorem fb_si_succ (f : Nat → Int) (n : Nat) : fb_si f (n + 1) = fb_si f n + f n := rfl
theorem fb_si_cong {f g : Nat → Int} : ∀ {n : Nat}, (∀ k, k < n → f k = g k) → fb_si f n = fb_si g n
  | 0, _ => rfl
  | n + 1, h => by rw [fb_si_succ, fb_si_succ, fb_si_cong (fun k hk => h k (by omega)), h n (by omega)]
theorem fb_si_out (f : Nat → Int) (v : Int) {i n : Nat} (h : n ≤ i) : fb_si (fun k => if k = i then v else f k) n = fb_si f n :=
  fb_si_cong fun k hk => if_neg (by omega)
theorem fb_si_upd (f : Nat → Int) (v : Int) {i : Nat} : ∀ {n : Nat}, i < n → fb_si (fun k => if k = i then v else f k) n = fb_si f n - f i + v
  | 0, h => absurd h (Nat.not_lt_zero i)
  | n + 1, h => by
    rw [fb_si_succ, fb_si_succ]
    rcases Nat.lt_or_ge i n with q | q
    · have := fb_si_upd f v q
      have e : (if n = i then v else f n) = f n := if_neg (by omega)
      rw [e]
      omega
    · have e : i = n := by omega
      subst e
      rw [fb_si_out f v (Nat.le_refl _)]
      simp only [if_true]
      omega
theorem fb_si_add (f g : Nat → Int) : ∀ n, fb_si (fun k => f k + g k) n = fb_si f n + fb_si g n
  | 0 => rfl
  | n + 1 => by
    have h := fb_si_add f g n
    rw [fb_si_succ, fb_si_succ, fb_si_succ, h]
    omega
theorem fb_si_sub (f g : Nat → Int) : ∀ n, fb_si (fun k => f k - g k) n = fb_si f n - fb_si g n
  | 0 => rfl
  | n + 1 => by
    have h := fb_si_sub f g n
    rw [fb_si_succ, fb_si_succ, fb_si_succ, h]
    omega
theorem fb_si_mul (c : Int) (f : Nat → Int) : ∀ n, fb_si (fun k => c * f k) n = c * fb_si f n
  | 0 => (Int.mul_zero c).symm
  | n + 1 => by
    have h := fb_si_mul c f n
    rw [fb_si_succ, fb_si_succ, h, Int.mul_add]
theorem fb_si_split (f : Nat → Int) (m : Nat) : ∀ n, fb_si f (m + n) = fb_si f m + fb_si (fun k => f (m + k)) n
  | 0 => (Int.add_zero _).symm
  | n + 1 => by
    have h := fb_si_split f m n
    show fb_si f (m + n + 1) = _
    rw [fb_si_succ, fb_si_succ, h, Int.add_assoc]
theorem fb_si_nat (f : Nat → Nat) : ∀ n, fb_si (fun k => (f k : Int)) n = (fb_sm f n : Int)
  | 0 => rfl
  | n + 1 => by
    have h := fb_si_nat f n
    rw [fb_si_succ, fb_sm_succ, h]
    omega
theorem fb_si_bound {f : Nat → Int} {c : Int} (hc : 0 ≤ c) : ∀ {n : Nat}, (∀ k, k < n → -c ≤ f k ∧ f k ≤ c) → -(n * c) ≤ fb_si f n ∧ fb_si f n ≤ n * c
  | 0, _ => by simp [fb_si]
  | n + 1, h => by
    have h1 := fb_si_bound (n := n) (f := f) hc (fun k hk => h k (by omega))
    have h2 := h n (by omega)
    have e : ((n + 1 : Nat) : Int) * c = n * c + c := by rw [Int.natCast_add, Int.add_mul]; simp
    rw [fb_si_succ, e]
    omega
/-! ===== bits of a long that isn't negative ===== -/
theorem fb_andL (a b : Nat) : lN a &&& lN b = lN (a &&& b) := by
  apply Int64.toBitVec_inj.1
  show BitVec.ofNat 64 a &&& BitVec.ofNat 64 b = BitVec.ofNat 64 (a &&& b)
  apply BitVec.eq_of_getLsbD_eq
  intro i hi
  simp [hi]
theorem fb_orL (a b : Nat) : lN a ||| lN b = lN (a ||| b) := by
  apply Int64.toBitVec_inj.1
  show BitVec.ofNat 64 a ||| BitVec.ofNat 64 b = BitVec.ofNat 64 (a ||| b)
  apply BitVec.eq_of_getLsbD_eq
  intro i hi
  simp [hi]
theorem fb_xorL (a b : Nat) : lN a ^^^ lN b = lN (a ^^^ b) := by
  apply Int64.toBitVec_inj.1
  show BitVec.ofNat 64 a ^^^ BitVec.ofNat 64 b = BitVec.ofNat 64 (a ^^^ b)
  apply BitVec.eq_of_getLsbD_eq
  intro i hi
  simp [hi]
theorem fb_xorI (a b : Nat) : nI a ^^^ nI b = nI (a ^^^ b) := by
  apply Int32.toBitVec_inj.1
  show BitVec.ofNat 32 a ^^^ BitVec.ofNat 32 b = BitVec.ofNat 32 (a ^^^ b)
  apply BitVec.eq_of_getLsbD_eq
  intro i hi
  simp [hi]
theorem fb_maskL (n k : Nat) : lN n &&& lN (2 ^ k - 1) = lN (n % 2 ^ k) := by rw [fb_andL, Nat.and_two_pow_sub_one_eq_mod]
theorem fb_or_sumL {a k : Nat} (b : Nat) (h : a < 2 ^ k) : lN (2 ^ k * b) ||| lN a = lN (2 ^ k * b + a) := by rw [fb_orL, Nat.two_pow_add_eq_or_of_lt h]
theorem fb_lN_inj {a b : Nat} (ha : a < 2 ^ 63) (hb : b < 2 ^ 63) : lN a = lN b ↔ a = b := by
  constructor
  · intro h
    have h1 : (BitVec.ofNat 64 a).toNat = (BitVec.ofNat 64 b).toNat := congrArg (fun x : Int64 => x.toBitVec.toNat) h
    rw [BitVec.toNat_ofNat, BitVec.toNat_ofNat, Nat.mod_eq_of_lt (by omega), Nat.mod_eq_of_lt (by omega)] at h1
    exact h1
  · rintro rfl; rfl
theorem fb_bit_nat (n j : Nat) : n &&& 2 ^ j = 0 ↔ n.testBit j = false := by
  constructor
  · intro h
    have h1 : (n &&& 2 ^ j).testBit j = false := by rw [h]; simp
    rw [Nat.testBit_and] at h1
    simpa using h1
  · intro h
    apply Nat.eq_of_testBit_eq
    intro i
    rw [Nat.testBit_and]
    by_cases hi : j = i
    · subst hi; simp [h]
    · first | (simp [Nat.testBit_two_pow, hi]; done) | (simp [Nat.testBit_two_pow_of_ne hi]; done)
/-- one bit of a long -/
theorem fb_bitL {n j : Nat} (hj : j < 63) : lN n &&& lN (2 ^ j) = 0 ↔ n.testBit j = false := by
  have h2 : (2 : Nat) ^ j < 2 ^ 63 := Nat.pow_lt_pow_right (by decide) hj
  have hle : n &&& 2 ^ j ≤ 2 ^ j := Nat.and_le_right
  rw [fb_andL, ← fb_bit_nat, show (0 : Int64) = lN 0 from rfl]
  exact fb_lN_inj (by omega) (by decide)
/-- a bit set, a bit taken off -/
theorem fb_bit_set (n j i : Nat) : (n ||| 2 ^ j).testBit i = (n.testBit i || decide (i = j)) := by
  rw [Nat.testBit_or]
  by_cases h : j = i
  · subst h; simp
  · have h2 : ¬ i = j := fun e => h e.symm
    first | (simp [Nat.testBit_two_pow, h, h2]; done) | (simp [Nat.testBit_two_pow_of_ne h, h2]; done)
theorem fb_bit_flip (n j i : Nat) : (n ^^^ 2 ^ j).testBit i = (n.testBit i ^^ decide (i = j)) := by
  rw [Nat.testBit_xor]
  by_cases h : j = i
  · subst h; simp
  · have h2 : ¬ i = j := fun e => h e.symm
    first | (simp [Nat.testBit_two_pow, h, h2]; done) | (simp [Nat.testBit_two_pow_of_ne h, h2]; done)
/-! ===== a stretch of an array written over by a function ===== -/
def fb_put {α : Type} (f g : Nat → α) (a n : Nat) : Nat → α := fun k => if a ≤ k ∧ k < a + n then g (k - a) else f k
theorem fb_put_0 {α : Type} (f g : Nat → α) (a : Nat) : fb_put f g a 0 = f := funext fun k => if_neg (by omega)
theorem fb_put_in {α : Type} {f g : Nat → α} {a n k : Nat} (h1 : a ≤ k) (h2 : k < a + n) : fb_put f g a n k = g (k - a) := if_pos ⟨h1, h2⟩
theorem fb_put_out {α : Type} {f g : Nat → α} {a n k : Nat} (h : k < a ∨ a + n ≤ k) : fb_put f g a n k = f k := if_neg (by omega)
theorem fb_put_succ (f g : Nat → Int32) (a n : Nat) : upd (fb_put f g a n) (a + n) (g n) = fb_put f g a (n + 1) := by
  funext k
  by_cases h : k = a + n
  · subst h
    simp [upd, fb_put]
  · by_cases h1 : a ≤ k ∧ k < a + n
    · have h2 : a ≤ k ∧ k < a + (n + 1) := by omega
      simp only [upd, fb_put, if_neg h, if_pos h1, if_pos h2]
    · have h2 : ¬ (a ≤ k ∧ k < a + (n + 1)) := by omega
      simp only [upd, fb_put, if_neg h, if_neg h1, if_neg h2]
/-- .. from the far end down -/
theorem fb_put_down (f g : Nat → Int32) {a n m : Nat} (h : m < n) : upd (fb_put f (fun k => g (k + (m + 1))) (a + (m + 1)) (n - (m + 1))) (a + m) (g m) = fb_put f (fun k => g (k + m)) (a + m) (n - m) := by
  funext k
  by_cases h0 : k = a + m
  · subst h0
    simp only [upd, if_true]
    rw [fb_put_in (by omega) (by omega)]
    exact congrArg g (by omega)
  · simp only [upd, if_neg h0]
    by_cases h1 : a + (m + 1) ≤ k ∧ k < a + (m + 1) + (n - (m + 1))
    · rw [fb_put_in h1.1 h1.2, fb_put_in (by omega) (by omega)]
      exact congrArg g (by omega)
    · rw [fb_put_out (by omega), fb_put_out (by omega)]
theorem fb_put_cong {α : Type} {f f2 g g2 : Nat → α} {a n : Nat} (hf : ∀ k, (k < a ∨ a + n ≤ k) → f k = f2 k) (hg : ∀ k, k < n → g k = g2 k) : fb_put f g a n = fb_put f2 g2 a n := by
  funext k
  by_cases h : a ≤ k ∧ k < a + n
  · rw [fb_put_in h.1 h.2, fb_put_in h.1 h.2, hg _ (by omega)]
  · rw [fb_put_out (by omega), fb_put_out (by omega), hf _ (by omega)]
/-! ===== the least, the first, the best so far; that there is one alone ===== -/
theorem fb_first {p : Nat → Prop} [DecidablePred p] : ∀ {n : Nat}, (∃ i, i < n ∧ p i) → ∃ i, i < n ∧ p i ∧ ∀ j, j < i → ¬ p j
  | 0, h => by obtain ⟨i, hi, -⟩ := h; exact absurd hi (Nat.not_lt_zero i)
  | n + 1, h => by
    by_cases q : ∃ i, i < n ∧ p i
    · obtain ⟨i, h1, h2⟩ := fb_first q
      exact ⟨i, by omega, h2⟩
    · obtain ⟨i, h1, h2⟩ := h
      have e : i = n := by
        rcases Nat.lt_or_ge i n with r | r
        · exact absurd ⟨i, r, h2⟩ q
        · omega
      subst e
      exact ⟨i, by omega, h2, fun j hj hp => q ⟨j, hj, hp⟩⟩
theorem fb_first_one {p : Nat → Prop} {i j : Nat} (hi : p i) (hi2 : ∀ k, k < i → ¬ p k) (hj : p j) (hj2 : ∀ k, k < j → ¬ p k) : i = j := by
  rcases Nat.lt_trichotomy i j with q | q | q
  · exact absurd hi (hj2 i q)
  · exact q
  · exact absurd hj (hi2 j q)
theorem fb_last {p : Nat → Prop} [DecidablePred p] : ∀ {n : Nat}, (∃ i, i < n ∧ p i) → ∃ i, i < n ∧ p i ∧ ∀ j, i < j → j < n → ¬ p j
  | 0, h => by obtain ⟨i, hi, -⟩ := h; exact absurd hi (Nat.not_lt_zero i)
  | n + 1, h => by
    by_cases q : p n
    · exact ⟨n, by omega, q, fun j h1 h2 => by omega⟩
    · obtain ⟨i, h1, h2⟩ := h
      have hi : i < n := by
        rcases Nat.lt_or_ge i n with r | r
        · exact r
        · have e : i = n := by omega
          subst e
          exact absurd h2 q
      obtain ⟨i2, a1, a2, a3⟩ := fb_last (n := n) ⟨i, hi, h2⟩
      refine ⟨i2, by omega, a2, fun j b1 b2 => ?_⟩
      rcases Nat.lt_or_ge j n with r | r
      · exact a3 j b1 r
      · have e : j = n := by omega
        subst e
        exact q
/-- the first greatest -/
theorem fb_best (f : Nat → Int) : ∀ {n : Nat}, 0 < n → ∃ i, i < n ∧ (∀ j, j < n → f j ≤ f i) ∧ ∀ j, j < i → f j < f i
  | 0, h => absurd h (Nat.lt_irrefl 0)
  | 1, _ => ⟨0, by omega, fun j hj => by have e : j = 0 := by omega
                                         subst e; exact Int.le_refl _, fun j hj => absurd hj (Nat.not_lt_zero j)⟩
  | n + 2, _ => by
    obtain ⟨i, h1, h2, h3⟩ := fb_best f (n := n + 1) (by omega)
    by_cases q : f i < f (n + 1)
    · refine ⟨n + 1, by omega, fun j hj => ?_, fun j hj => ?_⟩
      · rcases Nat.lt_or_ge j (n + 1) with r | r
        · have := h2 j r; omega
        · have e : j = n + 1 := by omega
          subst e; exact Int.le_refl _
      · have := h2 j hj; omega
    · refine ⟨i, by omega, fun j hj => ?_, h3⟩
      rcases Nat.lt_or_ge j (n + 1) with r | r
      · exact h2 j r
      · have e : j = n + 1 := by omega
        subst e; omega
theorem fb_best_one {f : Nat → Int} {n i j : Nat} (hi : i < n) (hi2 : ∀ k, k < n → f k ≤ f i) (hi3 : ∀ k, k < i → f k < f i) (hj : j < n) (hj2 : ∀ k, k < n → f k ≤ f j) (hj3 : ∀ k, k < j → f k < f j) : i = j := by
  rcases Nat.lt_trichotomy i j with q | q | q
  · have a := hj3 i q
    have b := hi2 j hj
    omega
  · exact q
  · have a := hi3 j q
    have b := hj2 i hi
    omega
/-- the first least -/
theorem fb_low (f : Nat → Int) {n : Nat} (h : 0 < n) : ∃ i, i < n ∧ (∀ j, j < n → f i ≤ f j) ∧ ∀ j, j < i → f i < f j := by
  obtain ⟨i, h1, h2, h3⟩ := fb_best (fun k => -f k) h
  exact ⟨i, h1, fun j hj => by have := h2 j hj; omega, fun j hj => by have := h3 j hj; omega⟩
/-! ===== signed ints as whole numbers, within bounds ===== -/
theorem fb_rng (x : Int32) : -2147483648 ≤ x.toInt ∧ x.toInt < 2147483648 := by
  have h1 := Int32.le_toInt x
  have h2 := Int32.toInt_lt x
  omega
theorem fb_bmod {z : Int} (h1 : -2147483648 ≤ z) (h2 : z < 2147483648) : z.bmod (2 ^ 32) = z := by
  rw [Int.bmod_eq_of_le (by omega) (by omega)]
theorem fb_addI {x y : Int32} (h1 : -2147483648 ≤ x.toInt + y.toInt) (h2 : x.toInt + y.toInt < 2147483648) : (x + y).toInt = x.toInt + y.toInt := by
  rw [Int32.toInt_add, fb_bmod h1 h2]
theorem fb_subI {x y : Int32} (h1 : -2147483648 ≤ x.toInt - y.toInt) (h2 : x.toInt - y.toInt < 2147483648) : (x - y).toInt = x.toInt - y.toInt := by
  rw [Int32.toInt_sub, fb_bmod h1 h2]
theorem fb_mulI {x y : Int32} (h1 : -2147483648 ≤ x.toInt * y.toInt) (h2 : x.toInt * y.toInt < 2147483648) : (x * y).toInt = x.toInt * y.toInt := by
  rw [Int32.toInt_mul, fb_bmod h1 h2]
theorem fb_negI {x : Int32} (h : x.toInt ≠ -2147483648) : (-x).toInt = -x.toInt := by
  have := fb_rng x
  rw [Int32.toInt_neg, fb_bmod (by omega) (by omega)]
theorem fb_ofI {z : Int} (h1 : -2147483648 ≤ z) (h2 : z < 2147483648) : (Int32.ofInt z).toInt = z := by
  rw [Int32.toInt_ofInt, fb_bmod h1 h2]
theorem fb_asI (x : Int32) : Int32.ofInt x.toInt = x := Int32.ofInt_toInt x
theorem fb_rngL (x : Int64) : -9223372036854775808 ≤ x.toInt ∧ x.toInt < 9223372036854775808 := by
  have h1 := Int64.le_toInt x
  have h2 := Int64.toInt_lt x
  omega
theorem fb_bmodL {z : Int} (h1 : -9223372036854775808 ≤ z) (h2 : z < 9223372036854775808) : z.bmod (2 ^ 64) = z := by
  rw [Int.bmod_eq_of_le (by omega) (by omega)]
theorem fb_addL {x y : Int64} (h1 : -9223372036854775808 ≤ x.toInt + y.toInt) (h2 : x.toInt + y.toInt < 9223372036854775808) : (x + y).toInt = x.toInt + y.toInt := by
  rw [Int64.toInt_add, fb_bmodL h1 h2]
theorem fb_subL {x y : Int64} (h1 : -9223372036854775808 ≤ x.toInt - y.toInt) (h2 : x.toInt - y.toInt < 9223372036854775808) : (x - y).toInt = x.toInt - y.toInt := by
  rw [Int64.toInt_sub, fb_bmodL h1 h2]
theorem fb_mulL {x y : Int64} (h1 : -9223372036854775808 ≤ x.toInt * y.toInt) (h2 : x.toInt * y.toInt < 9223372036854775808) : (x * y).toInt = x.toInt * y.toInt := by
  rw [Int64.toInt_mul, fb_bmodL h1 h2]
/-! ===== cuts of what is narrow already ===== -/
theorem fb_byte {x : Int32} (h1 : -128 ≤ x.toInt) (h2 : x.toInt < 128) : x.toInt8.toInt32 = x := by
  apply Int32.toInt_inj.1
  rw [Int8.toInt_toInt32, Int32.toInt_toInt8, Int.bmod_eq_of_le (by omega) (by omega)]
theorem fb_short {x : Int32} (h1 : -32768 ≤ x.toInt) (h2 : x.toInt < 32768) : x.toInt16.toInt32 = x := by
  apply Int32.toInt_inj.1
  rw [Int16.toInt_toInt32, Int32.toInt_toInt16, Int.bmod_eq_of_le (by omega) (by omega)]
theorem fb_byte_rng (x : Int32) : -128 ≤ x.toInt8.toInt32.toInt ∧ x.toInt8.toInt32.toInt < 128 := by
  rw [Int8.toInt_toInt32]
  have h1 := Int8.le_toInt x.toInt8
  have h2 := Int8.toInt_lt x.toInt8
  omega
theorem fb_short_rng (x : Int32) : -32768 ≤ x.toInt16.toInt32.toInt ∧ x.toInt16.toInt32.toInt < 32768 := by
  rw [Int16.toInt_toInt32]
  have h1 := Int16.le_toInt x.toInt16
  have h2 := Int16.toInt_lt x.toInt16
  omega
theorem fb_byte_twice (x : Int32) : x.toInt8.toInt32.toInt8.toInt32 = x.toInt8.toInt32 := fb_byte (fb_byte_rng x).1 (fb_byte_rng x).2
theorem fb_short_twice (x : Int32) : x.toInt16.toInt32.toInt16.toInt32 = x.toInt16.toInt32 := fb_short (fb_short_rng x).1 (fb_short_rng x).2
theorem fb_char {n : Nat} (h : n < 65536) : (nI n).toUInt32.toUInt16.toUInt32.toInt32 = nI n := by
  apply Int32.toBitVec_inj.1
  apply BitVec.eq_of_toNat_eq
  have e1 : (nI n).toBitVec.toNat = n := by
    show (BitVec.ofNat 32 n).toNat = n
    rw [BitVec.toNat_ofNat, Nat.mod_eq_of_lt (by omega)]
  have e2 : ((nI n).toUInt32.toUInt16.toUInt32).toNat = n := by
    rw [UInt16.toNat_toUInt32, UInt32.toNat_toUInt16]
    show (nI n).toBitVec.toNat % 2 ^ 16 = n
    rw [e1, Nat.mod_eq_of_lt (by omega)]
  rw [e1]
  exact e2
end
section
/-! nibbles of a long: nb x p, p < 16; pk g: the long of the nibbles g -/
def nb (x : Int64) (p : Nat) : Nat := x.toBitVec.toNat / 16 ^ p % 16
theorem nb_lt (x : Int64) (p : Nat) : nb x p < 16 := Nat.mod_lt _ (by decide)
def pkN (g : Nat → Nat) : Nat → Nat
  | 0 => 0
  | k + 1 => pkN g k + g k % 16 * 16 ^ k
theorem pkN_lt (g : Nat → Nat) : ∀ k : Nat, pkN g k < 16 ^ k
  | 0 => by simp [pkN]
  | k + 1 => by
    have h := pkN_lt g k
    have h2 : g k % 16 < 16 := Nat.mod_lt _ (by decide)
    have h3 : g k % 16 * 16 ^ k ≤ 15 * 16 ^ k := Nat.mul_le_mul_right _ (by omega)
    have e : 16 ^ (k + 1) = 16 ^ k * 16 := Nat.pow_succ _ _
    show pkN g k + g k % 16 * 16 ^ k < 16 ^ (k + 1)
    rw [e]
    generalize g k % 16 * 16 ^ k = a at h3 ⊢
    generalize 16 ^ k = b at h h3 ⊢
    omega
theorem pkN_at (g : Nat → Nat) (p : Nat) : ∀ k : Nat, p < k → pkN g k / 16 ^ p % 16 = g p % 16
  | 0, h => absurd h (Nat.not_lt_zero p)
  | k + 1, h => by
    have hp : 0 < 16 ^ p := Nat.pow_pos (by decide)
    show (pkN g k + g k % 16 * 16 ^ k) / 16 ^ p % 16 = g p % 16
    rcases Nat.lt_or_ge p k with q | q
    · have ih := pkN_at g p k q
      have e1 : 16 ^ k = 16 ^ (k - p - 1) * 16 * 16 ^ p := by
        rw [← Nat.pow_succ, ← Nat.pow_add]
        congr 1
        omega
      have e : g k % 16 * 16 ^ k = (g k % 16 * 16 ^ (k - p - 1) * 16) * 16 ^ p := by
        rw [e1]
        simp only [Nat.mul_assoc]
      rw [e, Nat.add_mul_div_right _ _ hp, Nat.add_mul_mod_self_right, ih]
    · have e : p = k := by omega
      subst e
      rw [Nat.add_mul_div_right _ _ hp, Nat.div_eq_of_lt (pkN_lt g p), Nat.zero_add, Nat.mod_mod]
def pk (g : Nat → Nat) : Int64 := lN (pkN g 16)
theorem pk_toNat (g : Nat → Nat) : (pk g).toBitVec.toNat = pkN g 16 := wb_tn (Nat.lt_of_lt_of_le (pkN_lt g 16) (by decide))
theorem nb_pk (g : Nat → Nat) {p : Nat} (hp : p < 16) : nb (pk g) p = g p % 16 := by
  unfold nb
  rw [pk_toNat]
  exact pkN_at g p 16 hp
theorem nb_pk' {g : Nat → Nat} {p : Nat} (hp : p < 16) (h : g p < 16) : nb (pk g) p = g p := by rw [nb_pk g hp, Nat.mod_eq_of_lt h]
theorem pkN_congr {g h : Nat → Nat} : ∀ k : Nat, (∀ p, p < k → g p % 16 = h p % 16) → pkN g k = pkN h k
  | 0, _ => rfl
  | k + 1, q => by
    show pkN g k + g k % 16 * 16 ^ k = pkN h k + h k % 16 * 16 ^ k
    rw [pkN_congr k (fun p hp => q p (by omega)), q k (by omega)]
theorem pk_congr {g h : Nat → Nat} (q : ∀ p, p < 16 → g p % 16 = h p % 16) : pk g = pk h := congrArg lN (pkN_congr 16 q)
theorem pk_congr' {g h : Nat → Nat} (q : ∀ p, p < 16 → g p = h p) : pk g = pk h := pk_congr (fun p hp => by rw [q p hp])
theorem pkN_nb (x : Int64) : ∀ k : Nat, pkN (nb x) k = x.toBitVec.toNat % 16 ^ k
  | 0 => by simp [pkN, Nat.mod_one]
  | k + 1 => by
    show pkN (nb x) k + nb x k % 16 * 16 ^ k = _
    rw [pkN_nb x k, Nat.mod_eq_of_lt (nb_lt x k), Nat.pow_succ, Nat.mod_mul]
    unfold nb
    rw [Nat.mul_comm (16 ^ k)]
theorem pq_nb (x : Int64) : pk (nb x) = x := wb_inj (BitVec.eq_of_toNat_eq (by
  rw [pk_toNat, pkN_nb]
  exact Nat.mod_eq_of_lt (Nat.lt_of_lt_of_le x.toBitVec.isLt (by decide))))
theorem nb_ext {x y : Int64} (h : ∀ p, p < 16 → nb x p = nb y p) : x = y := (pq_nb x).symm.trans ((pk_congr' h).trans (pq_nb y))
theorem pow16 (p : Nat) : 2 ^ (4 * p) = 16 ^ p := by rw [Nat.pow_mul]
theorem nb_to (x : Int64) {p : Nat} (hp : p < 16) : (x.toUInt64 >>> ((nI (4 * p)).toInt64.toUInt64 &&& Int64.toUInt64 63)).toInt64.toInt32 &&& nI 15 = nI (nb x p) := by
  obtain ⟨n, hn, rfl⟩ := wb_of x
  rw [wb_shr hn (by omega), lN_i, fa_and, show (15 : Nat) = 2 ^ 4 - 1 from rfl, Nat.and_two_pow_sub_one_eq_mod]
  unfold nb
  rw [wb_tn hn, pow16]
theorem nb_bit (x : Int64) (q i : Nat) : (nb x q).testBit i = (decide (i < 4) && x.toBitVec.getLsbD (4 * q + i)) := by
  unfold nb
  rw [show (16 : Nat) ^ q = 2 ^ (4 * q) from (pow16 q).symm, show (16 : Nat) = 2 ^ 4 from rfl, Nat.testBit_mod_two_pow, Nat.testBit_div_two_pow, BitVec.testBit_toNat]
  congr 2
  omega
theorem lN_lsb (n : Nat) {j : Nat} (hj : j < 64) : (lN n).toBitVec.getLsbD j = n.testBit j := by
  rw [wb_tb, BitVec.getLsbD_ofNat]
  simp [hj]
theorem nb_with (x : Int64) {p t : Nat} (hp : p < 16) (ht : t < 16) : (x &&& ((lN 15 <<< ((nI (4 * p)).toInt64 &&& 63)) ^^^ (-1))) ||| ((nI t).toInt64 <<< ((nI (4 * p)).toInt64 &&& 63)) = pk (fun q => if q = p then t else nb x q) := by
  apply nb_ext
  intro q hq
  rw [nb_pk _ hq, wb_shl 15 (by omega), nI_l (by omega), wb_shl t (by omega)]
  have hr : (if q = p then t else nb x q) % 16 = if q = p then t else nb x q := Nat.mod_eq_of_lt (by split; exact ht; exact nb_lt x q)
  rw [hr]
  apply Nat.eq_of_testBit_eq
  intro i
  rw [nb_bit, Int64.toBitVec_or, Int64.toBitVec_and, Int64.toBitVec_xor, BitVec.getLsbD_or, BitVec.getLsbD_and, BitVec.getLsbD_xor]
  rcases Nat.lt_or_ge i 4 with hi | hi
  · have hj : 4 * q + i < 64 := by omega
    have e1 : (-1 : Int64).toBitVec.getLsbD (4 * q + i) = true := by
      rw [show (-1 : Int64).toBitVec = BitVec.allOnes 64 from rfl, BitVec.getLsbD_allOnes]
      simp [hj]
    rw [lN_lsb _ hj, lN_lsb _ hj, e1, ← Nat.shiftLeft_eq, ← Nat.shiftLeft_eq, Nat.testBit_shiftLeft, Nat.testBit_shiftLeft, show (15 : Nat) = 2 ^ 4 - 1 from rfl, Nat.testBit_two_pow_sub_one]
    by_cases hqp : q = p
    · subst hqp
      rw [if_pos rfl, show 4 * q + i - 4 * q = i by omega]
      simp [hi]
    · rw [if_neg hqp, nb_bit]
      rcases Nat.lt_or_ge q p with h | h
      · simp [hi, show ¬ 4 * p ≤ 4 * q + i by omega]
      · have h4 : 4 ≤ 4 * q + i - 4 * p := by omega
        have ht4 : t.testBit (4 * q + i - 4 * p) = false := Nat.testBit_lt_two_pow (Nat.lt_of_lt_of_le ht (show 2 ^ 4 ≤ _ from Nat.pow_le_pow_right (by decide) h4))
        rw [ht4]
        simp [hi, show 4 * p ≤ 4 * q + i by omega, show ¬ 4 * q + i - 4 * p < 4 by omega]
  · have hs : (if q = p then t else nb x q) < 2 ^ i := Nat.lt_of_lt_of_le (show _ < 2 ^ 4 by split; exact ht; exact nb_lt x q) (Nat.pow_le_pow_right (by decide) hi)
    rw [Nat.testBit_lt_two_pow hs]
    simp [Nat.not_lt.mpr hi]
/-- nibble p put to t -/
def wN (x : Int64) (p t : Nat) : Int64 := pk (fun q => if q = p then t else nb x q)
theorem nb_wN (x : Int64) {p t q : Nat} (hq : q < 16) (ht : t < 16) : nb (wN x p t) q = if q = p then t else nb x q := by
  unfold wN
  rw [nb_pk' hq (by split; exact ht; exact nb_lt x q)]
theorem nb_0 (p : Nat) : nb 0 p = 0 := by
  unfold nb
  rw [show (0 : Int64).toBitVec.toNat = 0 from rfl, Nat.zero_div]
end
section
/-! more rows of our own: truth values on the stack, long compares, shifts in numbers -/
theorem zz_shl1 {p : Nat} (h : p < 31) : nI 1 <<< (nI p &&& 31) = nI (2 ^ p) := by
  have h2 : 2 ^ p < 2 ^ 32 := Nat.pow_lt_pow_right (by decide) (by omega)
  rw [pk_shlN (n := 1) (nI p &&& 31) p (s_l p (by omega)) (by omega), Nat.one_mul]
theorem zz_shr {n k : Nat} (hn : n < 2 ^ 31) (hk : k < 32) : nI n >>> (nI k &&& 31) = nI (n / 2 ^ k) := pk_shrN hn _ k (s_l k hk)
theorem sb_m1z {n : Nat} (h : 0 < n) : nI n + Int32.ofInt (-1) = nI (n - 1) := sb_m1 h
theorem zz_narb (P : Prop) [Decidable P] : narrow .boolean (.int (if P then 1 else 0)) = .int (if P then 1 else 0) := by split <;> rfl
theorem zz_fitb (P : Prop) [Decidable P] : fits .boolean (.int (if P then 1 else 0)) = true := by split <;> rfl
theorem zz_narbz (P : Prop) [Decidable P] : vp_nar .boolean (if P then 1 else 0) = if P then 1 else 0 := by split <;> rfl
theorem zz_rng {x : Int32} {n : Nat} (h : 0 ≤ x.toInt ∧ x.toInt < (n : Int)) : ∃ j : Nat, j < n ∧ x = nI j := by
  have h2 : x.toInt < 2 ^ 31 := by have := fb_rng x; omega
  refine ⟨x.toInt.toNat, by omega, ?_⟩
  apply Int32.toInt_inj.mp
  rw [nI_toInt (by omega)]
  omega
section
variable {p : Program} {l : Launch} {e : Env} {R rm : Room} {s : State} {m : MethodId} {args : Array Value} {below : List Frame} {meth : Method} {c : Code} {H : Heap} {locs : List Loc} {cells slots pc : Nat} {ls : Array Slot} {rest : List Value} {Q : State → Prop} {cc : ByteArray}
theorem zq_eq {P : Prop} [Decidable P] (hx : p.tables.exec = Jvm.exec) (hb : c.code = cc) {off : Int} {tgt : Nat} (hdg : decode cc pc = .ok (.ifCond .eq off, 3)) (ht : (pc : Int) + off = (tgt : Int)) (kt : ¬ P → W p l e R s m args below meth c H locs cells slots Q (F0 m tgt ls rest)) (kf : P → W p l e R s m args below meth c H locs cells slots Q (F0 m (pc + 3) ls rest)) : W p l e R s m args below meth c H locs cells slots Q (F0 m pc ls (.int (if P then 1 else 0) :: rest)) := by
  by_cases h : P
  · rw [if_pos h]
    exact lv_if_eq hx hb hdg ht (fun h0 => absurd h0 (by decide)) (fun _ => kf h)
  · rw [if_neg h]
    exact lv_if_eq hx hb hdg ht (fun _ => kt h) (fun h0 => absurd rfl h0)
theorem zq_ne {P : Prop} [Decidable P] (hx : p.tables.exec = Jvm.exec) (hb : c.code = cc) {off : Int} {tgt : Nat} (hdg : decode cc pc = .ok (.ifCond .ne off, 3)) (ht : (pc : Int) + off = (tgt : Int)) (kt : P → W p l e R s m args below meth c H locs cells slots Q (F0 m tgt ls rest)) (kf : ¬ P → W p l e R s m args below meth c H locs cells slots Q (F0 m (pc + 3) ls rest)) : W p l e R s m args below meth c H locs cells slots Q (F0 m pc ls (.int (if P then 1 else 0) :: rest)) := by
  by_cases h : P
  · rw [if_pos h]
    exact lv_if_ne hx hb hdg ht (fun _ => kt h) (fun h0 => absurd h0 (by decide))
  · rw [if_neg h]
    exact lv_if_ne hx hb hdg ht (fun h0 => absurd rfl h0) (fun _ => kf h)
theorem lg_cmp0 (x y : Int64) : lg_cmp x y = 0 ↔ x = y := by
  unfold lg_cmp
  by_cases h : x > y
  · rw [if_pos h]
    refine ⟨fun q => absurd q (by decide), fun q => ?_⟩
    subst q
    exact absurd h Int64.lt_irrefl
  · rw [if_neg h]
    by_cases h2 : x = y
    · rw [if_pos h2]; exact ⟨fun _ => h2, fun _ => rfl⟩
    · rw [if_neg h2]; exact ⟨fun q => absurd q (by decide), fun q => absurd q h2⟩
theorem zc_eq (hx : p.tables.exec = Jvm.exec) (hb : c.code = cc) {x y : Int64} {off : Int} {tgt : Nat} (hdg : decode cc pc = .ok (.ifCond .eq off, 3)) (ht : (pc : Int) + off = (tgt : Int)) (kt : x = y → W p l e R s m args below meth c H locs cells slots Q (F0 m tgt ls rest)) (kf : x ≠ y → W p l e R s m args below meth c H locs cells slots Q (F0 m (pc + 3) ls rest)) : W p l e R s m args below meth c H locs cells slots Q (F0 m pc ls (.int (lg_cmp x y) :: rest)) :=
  lv_if_eq hx hb hdg ht (fun h => kt ((lg_cmp0 x y).mp h)) (fun h => kf (fun q => h ((lg_cmp0 x y).mpr q)))
theorem zc_ne (hx : p.tables.exec = Jvm.exec) (hb : c.code = cc) {x y : Int64} {off : Int} {tgt : Nat} (hdg : decode cc pc = .ok (.ifCond .ne off, 3)) (ht : (pc : Int) + off = (tgt : Int)) (kt : x ≠ y → W p l e R s m args below meth c H locs cells slots Q (F0 m tgt ls rest)) (kf : x = y → W p l e R s m args below meth c H locs cells slots Q (F0 m (pc + 3) ls rest)) : W p l e R s m args below meth c H locs cells slots Q (F0 m pc ls (.int (lg_cmp x y) :: rest)) :=
  lv_if_ne hx hb hdg ht (fun h => kt (fun q => h ((lg_cmp0 x y).mpr q))) (fun h => kf ((lg_cmp0 x y).mp h))
end
end
section
/-! iterates, permutations of the sixteen places, cycle lengths, masks -/
def it (g : Nat → Nat) : Nat → Nat → Nat
  | 0, p => p
  | k + 1, p => it g k (g p)
theorem it_succ (g : Nat → Nat) : ∀ k p : Nat, it g (k + 1) p = g (it g k p)
  | 0, _ => rfl
  | k + 1, p => it_succ g k (g p)
theorem it_add (g : Nat → Nat) (a : Nat) : ∀ b p : Nat, it g (a + b) p = it g b (it g a p)
  | 0, _ => rfl
  | b + 1, p => by rw [← Nat.add_assoc, it_succ, it_add g a b, it_succ]
theorem it_lt {g : Nat → Nat} {n : Nat} (h : ∀ p, p < n → g p < n) : ∀ {k p : Nat}, p < n → it g k p < n
  | 0, _, hp => hp
  | k + 1, p, hp => it_lt h (k := k) (h p hp)
theorem it_congr {g h : Nat → Nat} {n : Nat} (hg : ∀ p, p < n → g p < n) (e : ∀ p, p < n → g p = h p) : ∀ {k p : Nat}, p < n → it g k p = it h k p
  | 0, _, _ => rfl
  | k + 1, p, hp => by
    show it g k (g p) = it h k (h p)
    rw [← e p hp]
    exact it_congr hg e (hg p hp)
def P16 (g : Nat → Nat) : Prop := (∀ p, p < 16 → g p < 16) ∧ ∀ p q, p < 16 → q < 16 → g p = g q → p = q
def Hi (n : Nat) (g : Nat → Nat) : Prop := ∀ p, n ≤ p → p < 16 → g p = p
def WF (n : Nat) (x : Int64) : Prop := P16 (nb x) ∧ Hi n (nb x)
theorem WF.inj {n : Nat} {x : Int64} (h : WF n x) {p q : Nat} (hp : p < 16) (hq : q < 16) (e : nb x p = nb x q) : p = q := h.1.2 p q hp hq e
theorem WF.lt {n : Nat} {x : Int64} (h : WF n x) {p : Nat} (hp : p < n) (hn : n ≤ 16) : nb x p < n := by
  rcases Nat.lt_or_ge (nb x p) n with q | q
  · exact q
  · have e := h.2 (nb x p) q (nb_lt x p)
    have e2 := h.inj (nb_lt x p) (by omega) e
    omega
theorem it_inj {g : Nat → Nat} (h : P16 g) : ∀ {k p q : Nat}, p < 16 → q < 16 → it g k p = it g k q → p = q
  | 0, _, _, _, _, e => e
  | k + 1, p, q, hp, hq, e => h.2 p q hp hq (it_inj h (k := k) (h.1 p hp) (h.1 q hq) e)
/-- the first place that goes to t, as 'from' finds it -/
def fr (x : Int64) (t : Nat) : Nat := if fa_first (fun p => nb x p == t) 16 < 16 then fa_first (fun p => nb x p == t) 16 else 0
theorem fa_first_of {p : Nat → Bool} {n i : Nat} (hi : i < n) (hp : p i = true) (hl : ∀ j, j < i → p j = false) : fa_first p n = i := by
  have h1 := fa_first_le p n
  rcases Nat.lt_trichotomy (fa_first p n) i with q | q | q
  · have := fa_first_yes p n (by omega)
    rw [hl _ q] at this
    cases this
  · exact q
  · have := fa_first_no p n i q
    rw [hp] at this
    cases this
theorem fa_first_end {p : Nat → Bool} {n : Nat} (hl : ∀ j, j < n → p j = false) : fa_first p n = n := by
  have h1 := fa_first_le p n
  rcases Nat.lt_or_ge (fa_first p n) n with q | q
  · have := fa_first_yes p n q
    rw [hl _ q] at this
    cases this
  · omega
theorem fr_found {x : Int64} {t i : Nat} (hi : i < 16) (e : nb x i = t) (hl : ∀ j, j < i → nb x j ≠ t) : fr x t = i := by
  have h := fa_first_of (p := fun p => nb x p == t) hi (by simp [e]) (fun j hj => by simp [hl j hj])
  unfold fr
  rw [h, if_pos hi]
theorem fr_none {x : Int64} {t : Nat} (hl : ∀ j, j < 16 → nb x j ≠ t) : fr x t = 0 := by
  have h := fa_first_end (p := fun p => nb x p == t) (n := 16) (fun j hj => by simp [hl j hj])
  unfold fr
  rw [h, if_neg (by omega)]
theorem fr_lt (x : Int64) (t : Nat) : fr x t < 16 := by
  unfold fr
  split <;> omega
theorem P16.onto {g : Nat → Nat} (h : P16 g) {t : Nat} (ht : t < 16) : ∃ i, i < 16 ∧ g i = t := fb_onto (n := 16) (fun i hi => h.1 i hi) (fun i j hij hj e => by have := h.2 i j (by omega) hj e; omega) ht
theorem nb_fr {x : Int64} (h : P16 (nb x)) {t : Nat} (ht : t < 16) : nb x (fr x t) = t := by
  obtain ⟨i, hi, e⟩ := h.onto ht
  obtain ⟨j, hj, hj2, hj3⟩ := fb_first (p := fun i => nb x i = t) (n := 16) ⟨i, hi, e⟩
  rw [fr_found hj hj2 hj3, hj2]
theorem fr_nb {x : Int64} (h : P16 (nb x)) {p : Nat} (hp : p < 16) : fr x (nb x p) = p := h.2 _ _ (fr_lt x _) hp (nb_fr h (nb_lt x p))
theorem fr_of {x : Int64} (h : P16 (nb x)) {p t : Nat} (hp : p < 16) (e : nb x p = t) : fr x t = p := by rw [← e, fr_nb h hp]
theorem fr_P16 {x : Int64} (h : P16 (nb x)) : P16 (fr x) := ⟨fun p _ => fr_lt x p, fun p q hp hq e => by rw [← nb_fr h hp, ← nb_fr h hq, e]⟩
theorem WF.frHi {n : Nat} {x : Int64} (h : WF n x) : Hi n (fr x) := fun p hp hp2 => fr_of h.1 hp2 (h.2 p hp hp2)
theorem WF.frLt {n : Nat} {x : Int64} (h : WF n x) {p : Nat} (hp : p < n) (hn : n ≤ 16) : fr x p < n := by
  rcases Nat.lt_or_ge (fr x p) n with q | q
  · exact q
  · have e := h.2 _ q (fr_lt x p)
    rw [nb_fr h.1 (by omega)] at e
    omega
/-- the length of the cycle of p, as it is counted: 16 at most -/
def cl (g : Nat → Nat) (p : Nat) : Nat := fa_first (fun j => it g (j + 1) p == p) 15 + 1
theorem cl_pos (g : Nat → Nat) (p : Nat) : 0 < cl g p := Nat.succ_pos _
theorem cl_le (g : Nat → Nat) (p : Nat) : cl g p ≤ 16 := by
  have := fa_first_le (fun j => it g (j + 1) p == p) 15
  unfold cl
  omega
theorem cl_found {g : Nat → Nat} {p i : Nat} (h0 : 0 < i) (hi : i ≤ 16) (e : it g i p = p ∨ i = 16) (hl : ∀ j, 0 < j → j < i → it g j p ≠ p) : cl g p = i := by
  unfold cl
  obtain ⟨i, rfl⟩ : ∃ k, i = k + 1 := ⟨i - 1, by omega⟩
  rcases Nat.lt_or_ge i 15 with q | q
  · have e2 : it g (i + 1) p = p := by rcases e with e | e; exact e; omega
    rw [fa_first_of (p := fun j => it g (j + 1) p == p) q (by simp [e2]) (fun j hj => by simp [hl (j + 1) (by omega) (by omega)])]
  · have e3 : i = 15 := by omega
    subst e3
    rw [fa_first_end (p := fun j => it g (j + 1) p == p) (n := 15) (fun j hj => by simp [hl (j + 1) (by omega) (by omega)])]
theorem cl_least {g : Nat → Nat} {p j : Nat} (h0 : 0 < j) (hj : j < cl g p) : it g j p ≠ p := by
  unfold cl at hj
  have := fa_first_no (fun j => it g (j + 1) p == p) 15 (j - 1) (by omega)
  rw [show j - 1 + 1 = j by omega] at this
  simpa using this
theorem cl_it {g : Nat → Nat} (h : P16 g) {p : Nat} (hp : p < 16) : it g (cl g p) p = p := by
  obtain ⟨i, j, hij, hj, e⟩ := fb_twice (m := 16) (n := 17) (f := fun k => it g k p) (fun k _ => it_lt h.1 hp) (by decide)
  have e2 : it g (j - i) p = p := by
    have e3 : it g i (it g (j - i) p) = it g i p := by rw [← it_add, show j - i + i = j by omega]; exact e.symm
    exact it_inj h (it_lt h.1 hp) hp e3
  rcases Nat.lt_or_ge (fa_first (fun j => it g (j + 1) p == p) 15) 15 with q | q
  · have := fa_first_yes (fun j => it g (j + 1) p == p) 15 q
    simpa [cl] using this
  · have q2 := fa_first_le (fun j => it g (j + 1) p == p) 15
    have q3 : fa_first (fun j => it g (j + 1) p == p) 15 = 15 := by omega
    have q4 : j - i = 16 := by
      rcases Nat.lt_or_ge (j - i - 1) 15 with r | r
      · have := fa_first_no (fun j => it g (j + 1) p == p) 15 (j - i - 1) (by omega)
        rw [show j - i - 1 + 1 = j - i by omega] at this
        simp [e2] at this
      · omega
    unfold cl
    rw [q3]
    rw [q4] at e2
    exact e2
/-- a mask of the places at which P holds -/
def bm (P : Nat → Bool) : Nat → Nat
  | 0 => 0
  | k + 1 => bm P k ||| (if P k then 2 ^ k else 0)
theorem bm_lt (P : Nat → Bool) : ∀ n : Nat, bm P n < 2 ^ n
  | 0 => by simp [bm]
  | n + 1 => by
    have h := bm_lt P n
    have e : 2 ^ (n + 1) = 2 ^ n * 2 := Nat.pow_succ _ _
    refine Nat.or_lt_two_pow (by omega) ?_
    split
    · omega
    · exact Nat.pow_pos (by decide)
theorem bm_bit (P : Nat → Bool) (i : Nat) : ∀ n : Nat, (bm P n).testBit i = (decide (i < n) && P i)
  | 0 => by simp [bm]
  | n + 1 => by
    show (bm P n ||| (if P n then 2 ^ n else 0)).testBit i = _
    rw [Nat.testBit_or, bm_bit P i n]
    rcases Nat.lt_trichotomy i n with q | q | q
    · have : ((if P n then 2 ^ n else 0) : Nat).testBit i = false := by
        split
        · rw [Nat.testBit_two_pow]; simp; omega
        · exact Nat.zero_testBit i
      rw [this]
      simp [q, show i < n + 1 by omega]
    · subst q
      cases hP : P i
      · simp
      · simp [Nat.testBit_two_pow]
    · have : ((if P n then 2 ^ n else 0) : Nat).testBit i = false := by
        split
        · rw [Nat.testBit_two_pow]; simp; omega
        · exact Nat.zero_testBit i
      rw [this]
      simp [show ¬ i < n by omega, show ¬ i < n + 1 by omega]
theorem bm_yes {P : Nat → Bool} {k : Nat} (h : P k = true) : bm P k ||| 2 ^ k = bm P (k + 1) := by show _ = bm P k ||| _; rw [if_pos h]
theorem bm_no {P : Nat → Bool} {k : Nat} (h : P k = false) : bm P k = bm P (k + 1) := by show _ = bm P k ||| _; rw [if_neg (by rw [h]; decide), Nat.or_zero]
theorem bm_congr {P R : Nat → Bool} : ∀ n : Nat, (∀ k, k < n → P k = R k) → bm P n = bm R n
  | 0, _ => rfl
  | n + 1, h => by
    show bm P n ||| (if P n then 2 ^ n else 0) = bm R n ||| (if R n then 2 ^ n else 0)
    rw [bm_congr n (fun k hk => h k (by omega)), h n (by omega)]
/-- the power z of a mark at a place -/
def pw (x : Int64) (z : Int) (p : Nat) : Nat := if 0 ≤ z then it (nb x) z.toNat p else it (fr x) (-z).toNat p
end
section
/-! what two methods of the library come to: floorMod by a number above 0, bitCount of sixteen bits -/
theorem zz_tdm {z : Int} {L : Nat} : ∃ a : Nat, (z = a ∧ z.tdiv L = ((a / L : Nat) : Int) ∧ z.tmod L = ((a % L : Nat) : Int)) ∨ (z = -(a : Int) ∧ z.tdiv L = -((a / L : Nat) : Int) ∧ z.tmod L = -((a % L : Nat) : Int)) := by
  refine ⟨z.natAbs, ?_⟩
  rcases Int.natAbs_eq z with h | h
  · left
    refine ⟨h, ?_, ?_⟩
    · rw [h, Int.natAbs_natCast]; exact Int.ofNat_tdiv _ _
    · rw [h, Int.natAbs_natCast]; exact Int.ofNat_tmod _ _
  · right
    refine ⟨h, ?_, ?_⟩
    · rw [h, Int.natAbs_neg, Int.natAbs_natCast, Int.neg_tdiv]; exact congrArg Neg.neg (Int.ofNat_tdiv _ _)
    · rw [h, Int.natAbs_neg, Int.natAbs_natCast, Int.neg_tmod]; exact congrArg Neg.neg (Int.ofNat_tmod _ _)
theorem zz_remI {x : Int32} {L : Nat} (h0 : 0 < L) (hL : L < 2 ^ 31) : (x - x / nI L * nI L).toInt = x.toInt.tmod L := by
  have hx := fb_rng x
  have hy : (nI L).toInt = (L : Int) := nI_toInt hL
  obtain ⟨a, ha⟩ := zz_tdm (z := x.toInt) (L := L)
  have hdl : a / L ≤ a := Nat.div_le_self a L
  have hml : a / L * L ≤ a := Nat.div_mul_le_self a L
  have hmd : a / L * L + a % L = a := by rw [Nat.mul_comm]; exact Nat.div_add_mod a L
  have hrm : a % L ≤ a := Nat.mod_le a L
  have hb : a ≤ 2147483648 := by rcases ha with ⟨h1, _⟩ | ⟨h1, _⟩ <;> omega
  generalize a / L = dq at ha hdl hml hmd
  generalize a % L = dr at ha hmd hrm
  have hd : (x / nI L).toInt = x.toInt.tdiv L := by
    rw [Int32.toInt_div, hy]
    rcases ha with ⟨h1, h2, h3⟩ | ⟨h1, h2, h3⟩
    · rw [h2]; apply fb_bmod <;> omega
    · rw [h2]; apply fb_bmod <;> omega
  have hm : (x / nI L * nI L).toInt = x.toInt.tdiv L * L := by
    rw [fb_mulI, hd, hy] <;> rw [hd, hy]
    · rcases ha with ⟨h1, h2, h3⟩ | ⟨h1, h2, h3⟩
      · rw [h2]; rw [← Int.natCast_mul]; omega
      · rw [h2, Int.neg_mul, ← Int.natCast_mul]; omega
    · rcases ha with ⟨h1, h2, h3⟩ | ⟨h1, h2, h3⟩
      · rw [h2]; rw [← Int.natCast_mul]; omega
      · rw [h2, Int.neg_mul, ← Int.natCast_mul]; omega
  have e : x.toInt - x.toInt.tdiv L * L = x.toInt.tmod L := by
    rcases ha with ⟨h1, h2, h3⟩ | ⟨h1, h2, h3⟩
    · rw [h2, h3, ← Int.natCast_mul]; omega
    · rw [h2, h3, Int.neg_mul, ← Int.natCast_mul]; omega
  have hr : -2147483648 ≤ x.toInt.tmod L ∧ x.toInt.tmod L < 2147483648 := by
    rcases ha with ⟨h1, h2, h3⟩ | ⟨h1, h2, h3⟩ <;> omega
  rw [fb_subI, hm, e] <;> rw [hm, e] <;> omega
theorem zz_rem {x : Int32} {L : Nat} (h0 : 0 < L) (hL : L < 2 ^ 31) : x - x / nI L * nI L = Int32.ofInt (x.toInt.tmod L) := by
  rw [← zz_remI h0 hL, fb_asI]
theorem zz_xor {x : Int32} {L : Nat} (hL : L < 2 ^ 31) : (x ^^^ nI L).toInt < 0 ↔ x.toInt < 0 := by
  have h1 : ∀ y : Int32, y.toInt < 0 ↔ y.toBitVec.msb = true := by
    intro y
    show y.toBitVec.toInt < 0 ↔ _
    exact BitVec.toInt_neg_iff.trans (by rw [BitVec.msb_eq_decide]; simp; omega)
  rw [h1, h1, Int32.toBitVec_xor, BitVec.msb_xor]
  have h2 : (nI L).toBitVec.msb = false := by
    have h3 : (nI L).toBitVec.toNat = L := pk_tn (by omega)
    rw [BitVec.msb_eq_decide, h3]
    simp
    omega
  rw [h2, Bool.xor_false]
theorem zz_fm1 {x : Int32} {L : Nat} (h0 : 0 < L) (hL : L < 2 ^ 31) (h : 0 ≤ x.toInt ∨ x.toInt.tmod L = 0) : Int32.ofInt (x.toInt.tmod L) = nI (x.toInt % (L : Int)).toNat := by
  have hb : x.toInt % (L : Int) < L := Int.emod_lt_of_pos _ (by omega)
  have hb0 : 0 ≤ x.toInt % (L : Int) := Int.emod_nonneg _ (by omega)
  have e : x.toInt.tmod L = x.toInt % (L : Int) := by
    rcases h with h | h
    · exact Int.tmod_eq_emod_of_nonneg h
    · rw [h]
      exact (Int.emod_eq_zero_of_dvd (Int.dvd_of_tmod_eq_zero h)).symm
  apply Int32.toInt_inj.mp
  rw [e, fb_ofI (by omega) (by omega), nI_toInt (by omega)]
  omega
theorem zz_fm2 {x : Int32} {L : Nat} (h0 : 0 < L) (hL : L < 2 ^ 31) (h : x.toInt < 0) (h2 : x.toInt.tmod L ≠ 0) : Int32.ofInt (x.toInt.tmod L) + nI L = nI (x.toInt % (L : Int)).toNat := by
  have hb : x.toInt % (L : Int) < L := Int.emod_lt_of_pos _ (by omega)
  have hb0 : 0 ≤ x.toInt % (L : Int) := Int.emod_nonneg _ (by omega)
  have hnd : ¬ (0 ≤ x.toInt ∨ (L : Int) ∣ x.toInt) := by
    rintro (q | q)
    · omega
    · exact h2 (Int.tmod_eq_zero_of_dvd q)
  have e : x.toInt.tmod L = x.toInt % (L : Int) - L := by
    rw [Int.tmod_eq_emod, if_neg hnd]
    simp
  apply Int32.toInt_inj.mp
  have e1 : (Int32.ofInt (x.toInt.tmod L)).toInt = x.toInt % (L : Int) - L := by rw [fb_ofI, e] <;> rw [e] <;> omega
  have e2 : (nI L).toInt = (L : Int) := nI_toInt hL
  rw [fb_addI, e1, e2, nI_toInt] <;> first | omega | (rw [e1, e2]; omega)
def popN (m : Nat) : Nat :=
  let a := m - (m / 2 ^ 1 &&& 1431655765)
  let b := (a &&& 858993459) + (a / 2 ^ 2 &&& 858993459)
  let c := (b + b / 2 ^ 4) &&& 252645135
  let d := c + c / 2 ^ 8
  (d + d / 2 ^ 16) &&& 63
def chkA (f : Nat → Bool) : Nat → Bool
  | 0 => true
  | n + 1 => f n && chkA f n
theorem chkA_of {f : Nat → Bool} : ∀ {n : Nat}, chkA f n = true → ∀ k, k < n → f k = true
  | 0, _, k, hk => absurd hk (Nat.not_lt_zero k)
  | n + 1, h, k, hk => by
    simp only [chkA, Bool.and_eq_true] at h
    rcases Nat.lt_or_ge k n with q | q
    · exact chkA_of h.2 k q
    · rw [show k = n by omega]; exact h.1
theorem and256 {a b c d : Nat} (hb : b < 256) (hd : d < 256) : (256 * a + b) &&& (256 * c + d) = 256 * (a &&& c) + (b &&& d) := by
  apply Nat.eq_of_testBit_eq
  intro i
  have e := Nat.testBit_two_pow_mul_add (i := 8) (a &&& c) (b := b &&& d) (Nat.lt_of_le_of_lt Nat.and_le_left hb) i
  have e1 := Nat.testBit_two_pow_mul_add (i := 8) a (b := b) hb i
  have e2 := Nat.testBit_two_pow_mul_add (i := 8) c (b := d) hd i
  rw [show (2 : Nat) ^ 8 = 256 from rfl] at e e1 e2
  rw [Nat.testBit_and, e, e1, e2]
  split <;> rw [Nat.testBit_and]
def popA (x : Nat) : Nat := x - (x / 2 &&& 85)
def popB (x : Nat) : Nat := (x &&& 51) + (x / 4 &&& 51)
def popC (x : Nat) : Nat := (x + x / 16) &&& 15
theorem pop1 : ∀ x, x < 256 → (x / 2 &&& 85) ≤ x ∧ popA x < 256 ∧ x / 2 &&& 5592405 = x / 2 &&& 85 ∧ (128 + x / 2) &&& 85 = x / 2 &&& 85 := fun x hx => of_decide_eq_true (chkA_of (f := fun x => decide ((x / 2 &&& 85) ≤ x ∧ popA x < 256 ∧ x / 2 &&& 5592405 = x / 2 &&& 85 ∧ (128 + x / 2) &&& 85 = x / 2 &&& 85)) (n := 256) (by decide +kernel) x hx)
theorem pop2 : ∀ x, x < 256 → popB x ≤ 102 ∧ x &&& 3355443 = x &&& 51 ∧ x / 4 &&& 3355443 = x / 4 &&& 51 ∧ (64 + x / 4) &&& 51 = x / 4 &&& 51 ∧ (128 + x / 4) &&& 51 = x / 4 &&& 51 ∧ (192 + x / 4) &&& 51 = x / 4 &&& 51 := fun x hx => of_decide_eq_true (chkA_of (f := fun x => decide (popB x ≤ 102 ∧ x &&& 3355443 = x &&& 51 ∧ x / 4 &&& 3355443 = x / 4 &&& 51 ∧ (64 + x / 4) &&& 51 = x / 4 &&& 51 ∧ (128 + x / 4) &&& 51 = x / 4 &&& 51 ∧ (192 + x / 4) &&& 51 = x / 4 &&& 51)) (n := 256) (by decide +kernel) x hx)
theorem pop2b : ∀ x, x < 256 → popB (popA x) ≤ 68 ∧ popB (popA x) % 16 ≤ 4 ∧ popC (popB (popA x)) = fb_ct (fun i => x.testBit i) 8 := fun x hx => of_decide_eq_true (chkA_of (f := fun x => decide (popB (popA x) ≤ 68 ∧ popB (popA x) % 16 ≤ 4 ∧ popC (popB (popA x)) = fb_ct (fun i => x.testBit i) 8)) (n := 256) (by decide +kernel) x hx)
theorem pop3 : ∀ q, q ≤ 68 → ∀ r, r ≤ 4 → (q + q / 16) &&& 986895 = (q + q / 16) &&& 15 ∧ (q + q / 16 + 16 * r) &&& 15 = (q + q / 16) &&& 15 ∧ (q + q / 16) &&& 15 ≤ 15 := fun q hq r hr => of_decide_eq_true (chkA_of (chkA_of (f := fun q => chkA (fun r => decide ((q + q / 16) &&& 986895 = (q + q / 16) &&& 15 ∧ (q + q / 16 + 16 * r) &&& 15 = (q + q / 16) &&& 15 ∧ (q + q / 16) &&& 15 ≤ 15)) 5) (n := 69) (by decide +kernel) q (by omega)) r (by omega))
theorem pop_ct {m : Nat} (h : m < 65536) : popN m = fb_ct (fun i => m.testBit i) 16 := by
  obtain ⟨u, v, hu, hv, rfl⟩ : ∃ u v, u < 256 ∧ v < 256 ∧ m = 256 * u + v := ⟨m / 256, m % 256, by omega, by omega, by omega⟩
  obtain ⟨a1, a2, a3, a4⟩ := pop1 u hu
  obtain ⟨b1, b2, b3, b4⟩ := pop1 v hv
  have e1 : (256 * u + v) / 2 ^ 1 &&& 1431655765 = 256 * (u / 2 &&& 85) + (v / 2 &&& 85) := by
    have : (256 * u + v) / 2 ^ 1 = 256 * (u / 2) + (128 * (u % 2) + v / 2) := by omega
    rw [this, show 1431655765 = 256 * 5592405 + 85 from rfl, and256 (by omega) (by omega), a3]
    rcases (show u % 2 = 0 ∨ u % 2 = 1 by omega) with q | q <;> rw [q]
    · rw [Nat.mul_zero, Nat.zero_add]
    · rw [Nat.mul_one, b4]
  have e2 : 256 * u + v - ((256 * u + v) / 2 ^ 1 &&& 1431655765) = 256 * popA u + popA v := by
    rw [e1]
    unfold popA
    omega
  obtain ⟨c1, c2, c3, c4, c5, c6⟩ := pop2 (popA u) a2
  obtain ⟨d1, d2, d3, d4, d5, d6⟩ := pop2 (popA v) b2
  have e3 : ((256 * popA u + popA v) &&& 858993459) + ((256 * popA u + popA v) / 2 ^ 2 &&& 858993459) = 256 * popB (popA u) + popB (popA v) := by
    have : (256 * popA u + popA v) / 2 ^ 2 = 256 * (popA u / 4) + (64 * (popA u % 4) + popA v / 4) := by omega
    rw [this, show 858993459 = 256 * 3355443 + 51 from rfl, and256 (by omega) (by omega), and256 (by omega) (by omega), c2, c3]
    have e : (64 * (popA u % 4) + popA v / 4) &&& 51 = popA v / 4 &&& 51 := by
      rcases (show popA u % 4 = 0 ∨ popA u % 4 = 1 ∨ popA u % 4 = 2 ∨ popA u % 4 = 3 by omega) with q | q | q | q <;> rw [q]
      · rw [Nat.mul_zero, Nat.zero_add]
      · exact d4
      · exact d5
      · exact d6
    rw [e]
    unfold popB
    omega
  obtain ⟨f1, f2, f3⟩ := pop2b u hu
  obtain ⟨g1, g2, g3⟩ := pop2b v hv
  have e4 : ((256 * popB (popA u) + popB (popA v)) + (256 * popB (popA u) + popB (popA v)) / 2 ^ 4) &&& 252645135 = 256 * popC (popB (popA u)) + popC (popB (popA v)) := by
    have : (256 * popB (popA u) + popB (popA v)) + (256 * popB (popA u) + popB (popA v)) / 2 ^ 4 = 256 * (popB (popA u) + popB (popA u) / 16) + (popB (popA v) + popB (popA v) / 16 + 16 * (popB (popA u) % 16)) := by omega
    rw [this, show 252645135 = 256 * 986895 + 15 from rfl, and256 (by omega) (by omega), (pop3 _ f1 0 (by omega)).1, (pop3 _ g1 _ f2).2.1]
    rfl
  have h5 : popC (popB (popA u)) ≤ 8 := by rw [f3]; exact fb_ct_le _ 8
  have h6 : popC (popB (popA v)) ≤ 8 := by rw [g3]; exact fb_ct_le _ 8
  have e5 : popN (256 * u + v) = popC (popB (popA u)) + popC (popB (popA v)) := by
    unfold popN
    simp only [e2, e3, e4]
    have e6 : 256 * popC (popB (popA u)) + popC (popB (popA v)) + (256 * popC (popB (popA u)) + popC (popB (popA v))) / 2 ^ 8 = 256 * popC (popB (popA u)) + (popC (popB (popA u)) + popC (popB (popA v))) := by omega
    rw [e6]
    have e7 : 256 * popC (popB (popA u)) + (popC (popB (popA u)) + popC (popB (popA v))) + (256 * popC (popB (popA u)) + (popC (popB (popA u)) + popC (popB (popA v)))) / 2 ^ 16 = 256 * popC (popB (popA u)) + (popC (popB (popA u)) + popC (popB (popA v))) := by omega
    rw [e7, show (63 : Nat) = 2 ^ 6 - 1 from rfl, Nat.and_two_pow_sub_one_eq_mod]
    omega
  rw [e5, f3, g3]
  have e8 := fb_ct_split (fun i => (256 * u + v).testBit i) 8 8
  have hb : ∀ i, (256 * u + v).testBit i = if i < 8 then v.testBit i else u.testBit (i - 8) := fun i => Nat.testBit_two_pow_mul_add (i := 8) u (b := v) hv i
  rw [show 8 + 8 = 16 from rfl] at e8
  rw [e8, fb_ct_cong (p := fun i => (256 * u + v).testBit i) (q := fun i => v.testBit i) (fun k hk => by show (256 * u + v).testBit k = _; rw [hb, if_pos hk]), fb_ct_cong (p := fun k => (256 * u + v).testBit (8 + k)) (q := fun i => u.testBit i) (fun k hk => by show (256 * u + v).testBit (8 + k) = _; rw [hb, if_neg (by omega), show 8 + k - 8 = k by omega]), Nat.add_comm]
theorem pop_le (m : Nat) : (m / 2 ^ 1 &&& 1431655765) ≤ m := Nat.le_trans Nat.and_le_left (Nat.div_le_self _ _)
/-- what is below a bit count's steps -/
theorem pop_b1 {m : Nat} (h : m < 65536) : m < 2 ^ 32 := by omega
theorem pop_b2 {m : Nat} (h : m < 65536) : m - (m / 2 ^ 1 &&& 1431655765) < 2 ^ 32 := by omega
theorem pop_b3 {m : Nat} (h : m < 65536) : ((m - (m / 2 ^ 1 &&& 1431655765)) &&& 858993459) + ((m - (m / 2 ^ 1 &&& 1431655765)) / 2 ^ 2 &&& 858993459) < 2 ^ 32 := by
  have h1 : ((m - (m / 2 ^ 1 &&& 1431655765)) &&& 858993459) ≤ 858993459 := Nat.and_le_right
  have h2 : ((m - (m / 2 ^ 1 &&& 1431655765)) / 2 ^ 2 &&& 858993459) ≤ 858993459 := Nat.and_le_right
  omega
theorem pop_b4 (a : Nat) : a &&& 252645135 < 2 ^ 32 := Nat.lt_of_le_of_lt Nat.and_le_right (by decide)
theorem pop_b5 (a : Nat) : (a &&& 252645135) + (a &&& 252645135) / 2 ^ 8 < 2 ^ 32 := by
  have h : a &&& 252645135 ≤ 252645135 := Nat.and_le_right
  omega
end
section
/-! marks as longs: product, inverse, powers, the mask of fixed places; how the loops lay them -/
def zfl (g : Nat → Nat) (i : Nat) : Nat → Nat := fun q => if q < i then g q else 0
theorem zfl_0 (g : Nat → Nat) : lN 0 = pk (zfl g 0) := by
  apply nb_ext
  intro q hq
  rw [nb_pk _ hq, show lN 0 = 0 from rfl, nb_0]
  rfl
theorem zfl_s {g : Nat → Nat} {i : Nat} (hi : i < 16) (hg : g i < 16) : wN (pk (zfl g i)) i (g i) = pk (zfl g (i + 1)) := by
  apply nb_ext
  intro q hq
  rw [nb_wN _ hq hg, nb_pk _ hq, nb_pk _ hq]
  unfold zfl
  by_cases h : q = i
  · subst h
    rw [if_pos rfl, if_pos (by omega), Nat.mod_eq_of_lt hg]
  · rw [if_neg h]
    by_cases h2 : q < i
    · rw [if_pos h2, if_pos (by omega)]
    · rw [if_neg h2, if_neg (by omega)]
theorem zfl_e (g : Nat → Nat) : pk (zfl g 16) = pk g := pk_congr' (fun q hq => by unfold zfl; rw [if_pos hq])
def thenL (x y : Int64) : Int64 := pk (fun q => nb y (nb x q))
def invL (x : Int64) : Int64 := pk (fr x)
def timesL (x : Int64) (z : Int) : Int64 := pk (pw x z)
def fixM (x : Int64) (n : Nat) : Nat := bm (fun q => nb x q == q) n
theorem nb_then (x y : Int64) {p : Nat} (hp : p < 16) : nb (thenL x y) p = nb y (nb x p) := nb_pk' hp (nb_lt _ _)
theorem nb_inv (x : Int64) {p : Nat} (hp : p < 16) : nb (invL x) p = fr x p := nb_pk' hp (fr_lt _ _)
def zfi (x : Int64) (i : Nat) : Nat → Nat := fun q => if fr x q < i then fr x q else 0
theorem zfi_0 (x : Int64) : lN 0 = pk (zfi x 0) := by
  apply nb_ext
  intro q hq
  rw [nb_pk _ hq, show lN 0 = 0 from rfl, nb_0]
  rfl
theorem zfi_s {x : Int64} (h : P16 (nb x)) {i : Nat} (hi : i < 16) : wN (pk (zfi x i)) (nb x i) i = pk (zfi x (i + 1)) := by
  apply nb_ext
  intro q hq
  rw [nb_wN _ hq hi, nb_pk _ hq, nb_pk _ hq]
  unfold zfi
  have hf := fr_lt x q
  by_cases h1 : q = nb x i
  · subst h1
    rw [if_pos rfl, fr_nb h hi, if_pos (by omega), Nat.mod_eq_of_lt hi]
  · rw [if_neg h1]
    have h3 : fr x q ≠ i := fun e => h1 (by rw [← nb_fr h hq, e])
    by_cases h2 : fr x q < i
    · rw [if_pos h2, if_pos (by omega)]
    · rw [if_neg h2, if_neg (by omega)]
theorem zfi_e (x : Int64) : pk (zfi x 16) = invL x := pk_congr' (fun q hq => by unfold zfi; rw [if_pos (fr_lt x q)])
theorem it_mul {g : Nat → Nat} {p L : Nat} (h : it g L p = p) : ∀ k : Nat, it g (L * k) p = p
  | 0 => rfl
  | k + 1 => by rw [Nat.mul_succ, it_add, it_mul h k, h]
theorem it_mod {g : Nat → Nat} {p L : Nat} (h : it g L p = p) (k : Nat) : it g (k % L) p = it g k p := by
  have e : it g k p = it g (L * (k / L) + k % L) p := by rw [Nat.div_add_mod]
  rw [e, it_add, it_mul h]
theorem it_back {x : Int64} (h : P16 (nb x)) : ∀ {k p : Nat}, p < 16 → it (fr x) k (it (nb x) k p) = p
  | 0, _, _ => rfl
  | k + 1, p, hp => by
    rw [it_succ (nb x), show it (fr x) (k + 1) (nb x (it (nb x) k p)) = it (fr x) k (fr x (nb x (it (nb x) k p))) from rfl, fr_nb h (it_lt (fun q _ => nb_lt x q) hp), it_back h hp]
theorem it_forth {x : Int64} (h : P16 (nb x)) : ∀ {k p : Nat}, p < 16 → it (nb x) k (it (fr x) k p) = p
  | 0, _, _ => rfl
  | k + 1, p, hp => by
    rw [it_succ (fr x), show it (nb x) (k + 1) (fr x (it (fr x) k p)) = it (nb x) k (nb x (fr x (it (fr x) k p))) from rfl, nb_fr h (it_lt (fun q _ => fr_lt x q) hp), it_forth h hp]
theorem pw_mod {x : Int64} (h : P16 (nb x)) {p : Nat} (hp : p < 16) (z : Int) : it (nb x) (z % ((cl (nb x) p : Nat) : Int)).toNat p = pw x z p := by
  have hL := cl_pos (nb x) p
  have hc := cl_it h hp
  unfold pw
  by_cases hz : 0 ≤ z
  · rw [if_pos hz]
    obtain ⟨a, rfl⟩ := Int.eq_ofNat_of_zero_le hz
    rw [← Int.natCast_emod, Int.toNat_natCast, Int.toNat_natCast, it_mod hc]
  · rw [if_neg hz]
    obtain ⟨a, ha⟩ : ∃ a : Nat, z = -(a : Int) := ⟨z.natAbs, by omega⟩
    subst ha
    rw [Int.neg_neg, Int.toNat_natCast]
    generalize cl (nb x) p = L at hL hc
    have h1 : (-(a : Int) % (L : Int)).toNat < L := by
      have := Int.emod_lt_of_pos (-(a : Int)) (show (0 : Int) < L by omega)
      have := Int.emod_nonneg (-(a : Int)) (show (L : Int) ≠ 0 by omega)
      omega
    have h2 : ((-(a : Int) % (L : Int)).toNat + a) % L = 0 := by
      have h3 : (((-(a : Int) % (L : Int)).toNat + a : Nat) : Int) % (L : Int) = 0 := by
        rw [Int.natCast_add, Int.toNat_of_nonneg (Int.emod_nonneg _ (by omega)), Int.emod_add_emod, Int.add_left_neg, Int.zero_emod]
      rw [← Int.natCast_emod] at h3
      exact Int.ofNat_inj.mp h3
    generalize (-(a : Int) % (L : Int)).toNat = k at h1 h2
    have h4 : it (nb x) (k + a) p = p := by rw [← it_mod hc, h2]; rfl
    have h5 : it (fr x) a (it (nb x) a (it (nb x) k p)) = it (nb x) k p := it_back h (it_lt (fun q _ => nb_lt x q) hp)
    rw [← it_add, h4] at h5
    exact h5.symm
theorem pw_lt (x : Int64) (z : Int) {p : Nat} (hp : p < 16) : pw x z p < 16 := by
  unfold pw
  split
  · exact it_lt (fun q _ => nb_lt x q) hp
  · exact it_lt (fun q _ => fr_lt x q) hp
theorem fixM_yes {x : Int64} {i : Nat} (h : nb x i = i) : nI (fixM x i) ||| nI (2 ^ i) = nI (fixM x (i + 1)) := by
  rw [fa_or]
  exact congrArg nI (bm_yes (by simp [h]))
theorem fixM_no {x : Int64} {i : Nat} (h : nb x i ≠ i) : nI (fixM x i) = nI (fixM x (i + 1)) := congrArg nI (bm_no (by simp [h]))
theorem fixM_lt (x : Int64) {n : Nat} (hn : n ≤ 16) : fixM x n < 65536 := Nat.lt_of_lt_of_le (bm_lt _ n) (Nat.pow_le_pow_right (n := 2) (by decide) hn)
theorem zz_and15 {t : Nat} (h : t < 16) : nI t &&& nI 15 = nI t := by
  rw [fa_and, show (15 : Nat) = 2 ^ 4 - 1 from rfl, Nat.and_two_pow_sub_one_eq_mod, Nat.mod_eq_of_lt h]
theorem zz_modlt (z : Int) (x : Int64) (p : Nat) : (z % ((cl (nb x) p : Nat) : Int)).toNat < 17 := by
  have h0 := cl_pos (nb x) p
  have h1 := cl_le (nb x) p
  have := Int.emod_lt_of_pos z (show (0 : Int) < (cl (nb x) p : Nat) by omega)
  have := Int.emod_nonneg z (show ((cl (nb x) p : Nat) : Int) ≠ 0 by omega)
  omega
end
section
/-- a reading method, from its entry (int) -/
theorem zOfRF {l : Launch} {y : MethodName} {ws ws' : List Cond} {rm : Room} {D : va_G} {cy : Nat → ClassId} {w0 : va_W} {av : List Value} {cc : ByteArray} {maxL : Nat} {ty : FieldType} {post : Int32 → Prop} (hy : plainFor y = true) (hw : ws = Cond.code y cc maxL (some ty) :: ws') (hL : (lg_sl av).length ≤ maxL)
    (body : ∀ (p : Program) (e : Env) (s : State) (m : MethodId) (args : Array Value) (below : List Frame) (meth : Method) (c : Code), p.tables.exec = Jvm.exec → c.code = cc → c.maxLocals = maxL → (∀ w ∈ ws, w.before args s = true) → s.vm.findClass y.cls = some m.cls → va_P D vwCl w0 s.heap → zK D cy s → ∀ (Q : State → Prop), (∀ (v : Int32) (pc : Nat) (ls : Array Slot), decode cc pc = .ok (.ireturn, 1) → narrow ty (.int v) = .int v → post v → W p l e rm s m args below meth c s.heap [] 0 0 Q (F0 m pc ls [.int v])) → ∀ ls : Array Slot, lv_has ls maxL (lv_args 0 av) → W p l e rm s m args below meth c s.heap [] 0 0 Q (F0 m 0 ls [])) : Met l y ws rm (zPr D cy w0 av) (vp_Si post) 0 0 (fun _ => False) := by
  refine va_MetF (cc := cc) (maxL := maxL) (ret := (some ty)) hy hw ?_
  intro p e s m args below meth c s₁ B hml hv
  obtain ⟨rfl, hP, hK⟩ := hv
  have hl := lv_entry av (n := maxL) hL
  rw [lg_entry_eq]
  generalize (lg_sl av ++ List.replicate (maxL - (lg_sl av).length) Slot.unset).toArray = ls at hl ⊢
  exact body p e s m _ below meth c B.exec B.bytes hml (atoms_spec (ws := ws) B.pre) (findClass_of_methodNamed B.named) hP hK _ (fun v pc ls hd hn hp => W.zret B.exec B.bytes B.returns hn (fun t ht _ => ⟨v, rfl, hp, ht⟩) (fun q hq => absurd hq List.not_mem_nil) hd B.notSynchronized) ls hl
/-- a reading method, from its entry (long) -/
theorem zOfRFl {l : Launch} {y : MethodName} {ws ws' : List Cond} {rm : Room} {D : va_G} {cy : Nat → ClassId} {w0 : va_W} {av : List Value} {cc : ByteArray} {maxL : Nat} {post : Int64 → Prop} (hy : plainFor y = true) (hw : ws = Cond.code y cc maxL (some .long) :: ws') (hL : (lg_sl av).length ≤ maxL)
    (body : ∀ (p : Program) (e : Env) (s : State) (m : MethodId) (args : Array Value) (below : List Frame) (meth : Method) (c : Code), p.tables.exec = Jvm.exec → c.code = cc → c.maxLocals = maxL → (∀ w ∈ ws, w.before args s = true) → s.vm.findClass y.cls = some m.cls → va_P D vwCl w0 s.heap → zK D cy s → ∀ (Q : State → Prop), (∀ (v : Int64) (pc : Nat) (ls : Array Slot), decode cc pc = .ok (.lreturn, 1) → post v → W p l e rm s m args below meth c s.heap [] 0 0 Q (F0 m pc ls [.long v])) → ∀ ls : Array Slot, lv_has ls maxL (lv_args 0 av) → W p l e rm s m args below meth c s.heap [] 0 0 Q (F0 m 0 ls [])) : Met l y ws rm (zPr D cy w0 av) (vp_Sl post) 0 0 (fun _ => False) := by
  refine va_MetF (cc := cc) (maxL := maxL) (ret := (some .long)) hy hw ?_
  intro p e s m args below meth c s₁ B hml hv
  obtain ⟨rfl, hP, hK⟩ := hv
  have hl := lv_entry av (n := maxL) hL
  rw [lg_entry_eq]
  generalize (lg_sl av ++ List.replicate (maxL - (lg_sl av).length) Slot.unset).toArray = ls at hl ⊢
  exact body p e s m _ below meth c B.exec B.bytes hml (atoms_spec (ws := ws) B.pre) (findClass_of_methodNamed B.named) hP hK _ (fun v pc ls hd hp => W.lret B.exec B.bytes B.returns (fun t ht _ => ⟨v, rfl, hp, ht⟩) (fun q hq => absurd hq List.not_mem_nil) hd B.notSynchronized) ls hl
end
section
abbrev w_J9_floorMod_7cf53 : List Cond := Cond.code yJ9_floorMod_7cf53 cJ9_floorMod_7cf53 3 (some .int) :: zAll
abbrev r_J9_floorMod_7cf53 : Room := { frames := 0, cells := 0, slots := 0, locals := 0 }
theorem zd_J9_floorMod_7cf53 : yJ9_floorMod_7cf53.cls ≠ "java/lang/invoke/MethodHandle" ∧ yJ9_floorMod_7cf53.cls ≠ "java/lang/invoke/VarHandle" ∧ (parseMethodDescriptor yJ9_floorMod_7cf53.desc).map (fun d => d.parameters.length) = some 2 := by decide +kernel
set_option maxHeartbeats 4000000 in
set_option maxRecDepth 100000 in
theorem c_J9_floorMod_7cf53 (l : Launch) (D : va_G) (cy : Nat → ClassId) (x_ : Int32) (L_ : Nat) (h0 : 0 < L_) (hL : L_ < 2 ^ 31) : zMi l yJ9_floorMod_7cf53 w_J9_floorMod_7cf53 r_J9_floorMod_7cf53 D cy [] [.int x_, .int (nI L_)] (fun r_ => r_ = nI ((x_.toInt % (L_ : Int)).toNat)) := by
  refine zOfRF (cc := cJ9_floorMod_7cf53) (maxL := 3) (ty := .int) (by decide +kernel) rfl (Nat.le_of_ble_eq_true rfl) ?_
  intro zp ze zs zm za zb zme zc hx hb hml hts hown hP hK Q kr ls hl
  have hown : zs.vm.findClass RJ9 = some zm.cls := hown
  have hl : lv_has ls 3 [(0, .int x_), (1, .int (nI L_))] := hl
  refine lv_iload_n hx hb dJ9_floorMod_7cf53_0 rfl (lv_at hl 0 rfl) ?_
  refine lv_iload_n hx hb dJ9_floorMod_7cf53_1 rfl (lv_at hl 1 rfl) ?_
  refine zi_rem (v := Int32.ofInt (x_.toInt.tmod (L_ : Int))) hx hb dJ9_floorMod_7cf53_2 (nI_ne0 h0 hL) (zz_rem h0 hL) ?_
  refine lv_istore_n (lv' := [(2, .int (Int32.ofInt (x_.toInt.tmod (L_ : Int)))), (0, .int x_), (1, .int (nI L_))]) hx hb dJ9_floorMod_7cf53_3 rfl hl (by decide) rfl (fun ls hl => ?_)
  refine lv_iload_n hx hb dJ9_floorMod_7cf53_4 rfl (lv_at hl 1 rfl) ?_
  refine lv_iload_n hx hb dJ9_floorMod_7cf53_5 rfl (lv_at hl 2 rfl) ?_
  refine zi_xor (v := x_ ^^^ (nI L_)) hx hb dJ9_floorMod_7cf53_6 rfl ?_
  refine zt0_ge (a := (x_ ^^^ (nI L_)).toInt) (tgt := 18) hx hb dJ9_floorMod_7cf53_7 (by decide) rfl (fun c7 => ?_) (fun c7 => ?_)
  · skip
    refine lv_iload_n hx hb dJ9_floorMod_7cf53_18 rfl (lv_at hl 0 rfl) ?_
    exact kr _ _ _ dJ9_floorMod_7cf53_19 (vp_nar_int _) (zz_fm1 h0 hL (Or.inl (Int.not_lt.mp (fun q_ => absurd ((zz_xor hL).mpr q_) (by omega)))))
  · skip
    refine lv_iload_n hx hb dJ9_floorMod_7cf53_10 rfl (lv_at hl 0 rfl) ?_
    refine zt0_eq (a := x_.toInt.tmod (L_ : Int)) (tgt := 18) hx hb dJ9_floorMod_7cf53_11 (by decide) (by rw [← zz_rem h0 hL]; exact zz_remI h0 hL) (fun c11 => ?_) (fun c11 => ?_)
    · skip
      refine lv_iload_n hx hb dJ9_floorMod_7cf53_18 rfl (lv_at hl 0 rfl) ?_
      exact kr _ _ _ dJ9_floorMod_7cf53_19 (vp_nar_int _) (zz_fm1 h0 hL (Or.inr c11))
    · skip
      refine lv_iload_n hx hb dJ9_floorMod_7cf53_14 rfl (lv_at hl 0 rfl) ?_
      refine lv_iload_n hx hb dJ9_floorMod_7cf53_15 rfl (lv_at hl 2 rfl) ?_
      refine zi_add (v := (Int32.ofInt (x_.toInt.tmod (L_ : Int))) + (nI L_)) hx hb dJ9_floorMod_7cf53_16 rfl ?_
      exact kr _ _ _ dJ9_floorMod_7cf53_17 (vp_nar_int _) (zz_fm2 h0 hL ((zz_xor hL).mp c7) c11)
abbrev w_J6_bitCount_0f7a4 : List Cond := Cond.code yJ6_bitCount_0f7a4 cJ6_bitCount_0f7a4 1 (some .int) :: zAll
abbrev r_J6_bitCount_0f7a4 : Room := { frames := 0, cells := 0, slots := 0, locals := 0 }
theorem zd_J6_bitCount_0f7a4 : yJ6_bitCount_0f7a4.cls ≠ "java/lang/invoke/MethodHandle" ∧ yJ6_bitCount_0f7a4.cls ≠ "java/lang/invoke/VarHandle" ∧ (parseMethodDescriptor yJ6_bitCount_0f7a4.desc).map (fun d => d.parameters.length) = some 1 := by decide +kernel
set_option maxHeartbeats 4000000 in
set_option maxRecDepth 100000 in
theorem c_J6_bitCount_0f7a4 (l : Launch) (D : va_G) (cy : Nat → ClassId) (m_ : Nat) (hm : m_ < 65536) : zMi l yJ6_bitCount_0f7a4 w_J6_bitCount_0f7a4 r_J6_bitCount_0f7a4 D cy [] [.int (nI m_)] (fun r_ => r_ = nI (popN m_)) := by
  refine zOfRF (cc := cJ6_bitCount_0f7a4) (maxL := 1) (ty := .int) (by decide +kernel) rfl (Nat.le_of_ble_eq_true rfl) ?_
  intro zp ze zs zm za zb zme zc hx hb hml hts hown hP hK Q kr ls hl
  have hown : zs.vm.findClass RJ6 = some zm.cls := hown
  have hl : lv_has ls 1 [(0, .int (nI m_))] := hl
  refine lv_iload_n hx hb dJ6_bitCount_0f7a4_0 rfl (lv_at hl 0 rfl) ?_
  refine lv_iload_n hx hb dJ6_bitCount_0f7a4_1 rfl (lv_at hl 0 rfl) ?_
  refine lv_iconst (v := nI 1) hx hb dJ6_bitCount_0f7a4_2 (by decide) ?_
  refine lv_iushr (v := nI (m_ / 2 ^ 1)) hx hb dJ6_bitCount_0f7a4_3 (pk_ushrN (pop_b1 hm) _ 1 (s_u 1 (by decide))) ?_
  refine lv_ldcw hx hb hown (hts _ (List.mem_cons_of_mem _ zw_410)) dJ6_bitCount_0f7a4_4 ?_
  refine zi_top (v := nI 1431655765) (fa_lit _) ?_
  refine zi_and (v := nI ((m_ / 2 ^ 1) &&& 1431655765)) hx hb dJ6_bitCount_0f7a4_7 (fa_and _ _) ?_
  refine zi_sub (v := nI (m_ - ((m_ / 2 ^ 1) &&& 1431655765))) hx hb dJ6_bitCount_0f7a4_8 (pk_sub (pop_le m_)) ?_
  refine lv_istore_n (lv' := [(0, .int (nI (m_ - ((m_ / 2 ^ 1) &&& 1431655765))))]) hx hb dJ6_bitCount_0f7a4_9 rfl hl (by decide) rfl (fun ls hl => ?_)
  refine lv_iload_n hx hb dJ6_bitCount_0f7a4_10 rfl (lv_at hl 0 rfl) ?_
  refine lv_ldcw hx hb hown (hts _ (List.mem_cons_of_mem _ zw_411)) dJ6_bitCount_0f7a4_11 ?_
  refine zi_top (v := nI 858993459) (fa_lit _) ?_
  refine zi_and (v := nI ((m_ - ((m_ / 2 ^ 1) &&& 1431655765)) &&& 858993459)) hx hb dJ6_bitCount_0f7a4_14 (fa_and _ _) ?_
  refine lv_iload_n hx hb dJ6_bitCount_0f7a4_15 rfl (lv_at hl 0 rfl) ?_
  refine lv_iconst (v := nI 2) hx hb dJ6_bitCount_0f7a4_16 (by decide) ?_
  refine lv_iushr (v := nI ((m_ - ((m_ / 2 ^ 1) &&& 1431655765)) / 2 ^ 2)) hx hb dJ6_bitCount_0f7a4_17 (pk_ushrN (pop_b2 hm) _ 2 (s_u 2 (by decide))) ?_
  refine lv_ldcw hx hb hown (hts _ (List.mem_cons_of_mem _ zw_411)) dJ6_bitCount_0f7a4_18 ?_
  refine zi_top (v := nI 858993459) (fa_lit _) ?_
  refine zi_and (v := nI (((m_ - ((m_ / 2 ^ 1) &&& 1431655765)) / 2 ^ 2) &&& 858993459)) hx hb dJ6_bitCount_0f7a4_21 (fa_and _ _) ?_
  refine zi_add (v := nI (((m_ - ((m_ / 2 ^ 1) &&& 1431655765)) &&& 858993459) + (((m_ - ((m_ / 2 ^ 1) &&& 1431655765)) / 2 ^ 2) &&& 858993459))) hx hb dJ6_bitCount_0f7a4_22 (nI_add _ _) ?_
  refine lv_istore_n (lv' := [(0, .int (nI (((m_ - ((m_ / 2 ^ 1) &&& 1431655765)) &&& 858993459) + (((m_ - ((m_ / 2 ^ 1) &&& 1431655765)) / 2 ^ 2) &&& 858993459))))]) hx hb dJ6_bitCount_0f7a4_23 rfl hl (by decide) rfl (fun ls hl => ?_)
  refine lv_iload_n hx hb dJ6_bitCount_0f7a4_24 rfl (lv_at hl 0 rfl) ?_
  refine lv_iload_n hx hb dJ6_bitCount_0f7a4_25 rfl (lv_at hl 0 rfl) ?_
  refine lv_iconst (v := nI 4) hx hb dJ6_bitCount_0f7a4_26 (by decide) ?_
  refine lv_iushr (v := nI ((((m_ - ((m_ / 2 ^ 1) &&& 1431655765)) &&& 858993459) + (((m_ - ((m_ / 2 ^ 1) &&& 1431655765)) / 2 ^ 2) &&& 858993459)) / 2 ^ 4)) hx hb dJ6_bitCount_0f7a4_27 (pk_ushrN (pop_b3 hm) _ 4 (s_u 4 (by decide))) ?_
  refine zi_add (v := nI ((((m_ - ((m_ / 2 ^ 1) &&& 1431655765)) &&& 858993459) + (((m_ - ((m_ / 2 ^ 1) &&& 1431655765)) / 2 ^ 2) &&& 858993459)) + ((((m_ - ((m_ / 2 ^ 1) &&& 1431655765)) &&& 858993459) + (((m_ - ((m_ / 2 ^ 1) &&& 1431655765)) / 2 ^ 2) &&& 858993459)) / 2 ^ 4))) hx hb dJ6_bitCount_0f7a4_28 (nI_add _ _) ?_
  refine lv_ldcw hx hb hown (hts _ (List.mem_cons_of_mem _ zw_412)) dJ6_bitCount_0f7a4_29 ?_
  refine zi_top (v := nI 252645135) (fa_lit _) ?_
  refine zi_and (v := nI (((((m_ - ((m_ / 2 ^ 1) &&& 1431655765)) &&& 858993459) + (((m_ - ((m_ / 2 ^ 1) &&& 1431655765)) / 2 ^ 2) &&& 858993459)) + ((((m_ - ((m_ / 2 ^ 1) &&& 1431655765)) &&& 858993459) + (((m_ - ((m_ / 2 ^ 1) &&& 1431655765)) / 2 ^ 2) &&& 858993459)) / 2 ^ 4)) &&& 252645135)) hx hb dJ6_bitCount_0f7a4_32 (fa_and _ _) ?_
  refine lv_istore_n (lv' := [(0, .int (nI (((((m_ - ((m_ / 2 ^ 1) &&& 1431655765)) &&& 858993459) + (((m_ - ((m_ / 2 ^ 1) &&& 1431655765)) / 2 ^ 2) &&& 858993459)) + ((((m_ - ((m_ / 2 ^ 1) &&& 1431655765)) &&& 858993459) + (((m_ - ((m_ / 2 ^ 1) &&& 1431655765)) / 2 ^ 2) &&& 858993459)) / 2 ^ 4)) &&& 252645135)))]) hx hb dJ6_bitCount_0f7a4_33 rfl hl (by decide) rfl (fun ls hl => ?_)
  refine lv_iload_n hx hb dJ6_bitCount_0f7a4_34 rfl (lv_at hl 0 rfl) ?_
  refine lv_iload_n hx hb dJ6_bitCount_0f7a4_35 rfl (lv_at hl 0 rfl) ?_
  refine lv_bipush (v := nI 8) hx hb dJ6_bitCount_0f7a4_36 (by decide) ?_
  refine lv_iushr (v := nI ((((((m_ - ((m_ / 2 ^ 1) &&& 1431655765)) &&& 858993459) + (((m_ - ((m_ / 2 ^ 1) &&& 1431655765)) / 2 ^ 2) &&& 858993459)) + ((((m_ - ((m_ / 2 ^ 1) &&& 1431655765)) &&& 858993459) + (((m_ - ((m_ / 2 ^ 1) &&& 1431655765)) / 2 ^ 2) &&& 858993459)) / 2 ^ 4)) &&& 252645135) / 2 ^ 8)) hx hb dJ6_bitCount_0f7a4_38 (pk_ushrN (pop_b4 _) _ 8 (s_u 8 (by decide))) ?_
  refine zi_add (v := nI ((((((m_ - ((m_ / 2 ^ 1) &&& 1431655765)) &&& 858993459) + (((m_ - ((m_ / 2 ^ 1) &&& 1431655765)) / 2 ^ 2) &&& 858993459)) + ((((m_ - ((m_ / 2 ^ 1) &&& 1431655765)) &&& 858993459) + (((m_ - ((m_ / 2 ^ 1) &&& 1431655765)) / 2 ^ 2) &&& 858993459)) / 2 ^ 4)) &&& 252645135) + ((((((m_ - ((m_ / 2 ^ 1) &&& 1431655765)) &&& 858993459) + (((m_ - ((m_ / 2 ^ 1) &&& 1431655765)) / 2 ^ 2) &&& 858993459)) + ((((m_ - ((m_ / 2 ^ 1) &&& 1431655765)) &&& 858993459) + (((m_ - ((m_ / 2 ^ 1) &&& 1431655765)) / 2 ^ 2) &&& 858993459)) / 2 ^ 4)) &&& 252645135) / 2 ^ 8))) hx hb dJ6_bitCount_0f7a4_39 (nI_add _ _) ?_
  refine lv_istore_n (lv' := [(0, .int (nI ((((((m_ - ((m_ / 2 ^ 1) &&& 1431655765)) &&& 858993459) + (((m_ - ((m_ / 2 ^ 1) &&& 1431655765)) / 2 ^ 2) &&& 858993459)) + ((((m_ - ((m_ / 2 ^ 1) &&& 1431655765)) &&& 858993459) + (((m_ - ((m_ / 2 ^ 1) &&& 1431655765)) / 2 ^ 2) &&& 858993459)) / 2 ^ 4)) &&& 252645135) + ((((((m_ - ((m_ / 2 ^ 1) &&& 1431655765)) &&& 858993459) + (((m_ - ((m_ / 2 ^ 1) &&& 1431655765)) / 2 ^ 2) &&& 858993459)) + ((((m_ - ((m_ / 2 ^ 1) &&& 1431655765)) &&& 858993459) + (((m_ - ((m_ / 2 ^ 1) &&& 1431655765)) / 2 ^ 2) &&& 858993459)) / 2 ^ 4)) &&& 252645135) / 2 ^ 8))))]) hx hb dJ6_bitCount_0f7a4_40 rfl hl (by decide) rfl (fun ls hl => ?_)
  refine lv_iload_n hx hb dJ6_bitCount_0f7a4_41 rfl (lv_at hl 0 rfl) ?_
  refine lv_iload_n hx hb dJ6_bitCount_0f7a4_42 rfl (lv_at hl 0 rfl) ?_
  refine lv_bipush (v := nI 16) hx hb dJ6_bitCount_0f7a4_43 (by decide) ?_
  refine lv_iushr (v := nI (((((((m_ - ((m_ / 2 ^ 1) &&& 1431655765)) &&& 858993459) + (((m_ - ((m_ / 2 ^ 1) &&& 1431655765)) / 2 ^ 2) &&& 858993459)) + ((((m_ - ((m_ / 2 ^ 1) &&& 1431655765)) &&& 858993459) + (((m_ - ((m_ / 2 ^ 1) &&& 1431655765)) / 2 ^ 2) &&& 858993459)) / 2 ^ 4)) &&& 252645135) + ((((((m_ - ((m_ / 2 ^ 1) &&& 1431655765)) &&& 858993459) + (((m_ - ((m_ / 2 ^ 1) &&& 1431655765)) / 2 ^ 2) &&& 858993459)) + ((((m_ - ((m_ / 2 ^ 1) &&& 1431655765)) &&& 858993459) + (((m_ - ((m_ / 2 ^ 1) &&& 1431655765)) / 2 ^ 2) &&& 858993459)) / 2 ^ 4)) &&& 252645135) / 2 ^ 8)) / 2 ^ 16)) hx hb dJ6_bitCount_0f7a4_45 (pk_ushrN (pop_b5 _) _ 16 (s_u 16 (by decide))) ?_
  refine zi_add (v := nI (((((((m_ - ((m_ / 2 ^ 1) &&& 1431655765)) &&& 858993459) + (((m_ - ((m_ / 2 ^ 1) &&& 1431655765)) / 2 ^ 2) &&& 858993459)) + ((((m_ - ((m_ / 2 ^ 1) &&& 1431655765)) &&& 858993459) + (((m_ - ((m_ / 2 ^ 1) &&& 1431655765)) / 2 ^ 2) &&& 858993459)) / 2 ^ 4)) &&& 252645135) + ((((((m_ - ((m_ / 2 ^ 1) &&& 1431655765)) &&& 858993459) + (((m_ - ((m_ / 2 ^ 1) &&& 1431655765)) / 2 ^ 2) &&& 858993459)) + ((((m_ - ((m_ / 2 ^ 1) &&& 1431655765)) &&& 858993459) + (((m_ - ((m_ / 2 ^ 1) &&& 1431655765)) / 2 ^ 2) &&& 858993459)) / 2 ^ 4)) &&& 252645135) / 2 ^ 8)) + (((((((m_ - ((m_ / 2 ^ 1) &&& 1431655765)) &&& 858993459) + (((m_ - ((m_ / 2 ^ 1) &&& 1431655765)) / 2 ^ 2) &&& 858993459)) + ((((m_ - ((m_ / 2 ^ 1) &&& 1431655765)) &&& 858993459) + (((m_ - ((m_ / 2 ^ 1) &&& 1431655765)) / 2 ^ 2) &&& 858993459)) / 2 ^ 4)) &&& 252645135) + ((((((m_ - ((m_ / 2 ^ 1) &&& 1431655765)) &&& 858993459) + (((m_ - ((m_ / 2 ^ 1) &&& 1431655765)) / 2 ^ 2) &&& 858993459)) + ((((m_ - ((m_ / 2 ^ 1) &&& 1431655765)) &&& 858993459) + (((m_ - ((m_ / 2 ^ 1) &&& 1431655765)) / 2 ^ 2) &&& 858993459)) / 2 ^ 4)) &&& 252645135) / 2 ^ 8)) / 2 ^ 16))) hx hb dJ6_bitCount_0f7a4_46 (nI_add _ _) ?_
  refine lv_istore_n (lv' := [(0, .int (nI (((((((m_ - ((m_ / 2 ^ 1) &&& 1431655765)) &&& 858993459) + (((m_ - ((m_ / 2 ^ 1) &&& 1431655765)) / 2 ^ 2) &&& 858993459)) + ((((m_ - ((m_ / 2 ^ 1) &&& 1431655765)) &&& 858993459) + (((m_ - ((m_ / 2 ^ 1) &&& 1431655765)) / 2 ^ 2) &&& 858993459)) / 2 ^ 4)) &&& 252645135) + ((((((m_ - ((m_ / 2 ^ 1) &&& 1431655765)) &&& 858993459) + (((m_ - ((m_ / 2 ^ 1) &&& 1431655765)) / 2 ^ 2) &&& 858993459)) + ((((m_ - ((m_ / 2 ^ 1) &&& 1431655765)) &&& 858993459) + (((m_ - ((m_ / 2 ^ 1) &&& 1431655765)) / 2 ^ 2) &&& 858993459)) / 2 ^ 4)) &&& 252645135) / 2 ^ 8)) + (((((((m_ - ((m_ / 2 ^ 1) &&& 1431655765)) &&& 858993459) + (((m_ - ((m_ / 2 ^ 1) &&& 1431655765)) / 2 ^ 2) &&& 858993459)) + ((((m_ - ((m_ / 2 ^ 1) &&& 1431655765)) &&& 858993459) + (((m_ - ((m_ / 2 ^ 1) &&& 1431655765)) / 2 ^ 2) &&& 858993459)) / 2 ^ 4)) &&& 252645135) + ((((((m_ - ((m_ / 2 ^ 1) &&& 1431655765)) &&& 858993459) + (((m_ - ((m_ / 2 ^ 1) &&& 1431655765)) / 2 ^ 2) &&& 858993459)) + ((((m_ - ((m_ / 2 ^ 1) &&& 1431655765)) &&& 858993459) + (((m_ - ((m_ / 2 ^ 1) &&& 1431655765)) / 2 ^ 2) &&& 858993459)) / 2 ^ 4)) &&& 252645135) / 2 ^ 8)) / 2 ^ 16))))]) hx hb dJ6_bitCount_0f7a4_47 rfl hl (by decide) rfl (fun ls hl => ?_)
  refine lv_iload_n hx hb dJ6_bitCount_0f7a4_48 rfl (lv_at hl 0 rfl) ?_
  refine lv_bipush (v := nI 63) hx hb dJ6_bitCount_0f7a4_49 (by decide) ?_
  refine zi_and (v := nI ((((((((m_ - ((m_ / 2 ^ 1) &&& 1431655765)) &&& 858993459) + (((m_ - ((m_ / 2 ^ 1) &&& 1431655765)) / 2 ^ 2) &&& 858993459)) + ((((m_ - ((m_ / 2 ^ 1) &&& 1431655765)) &&& 858993459) + (((m_ - ((m_ / 2 ^ 1) &&& 1431655765)) / 2 ^ 2) &&& 858993459)) / 2 ^ 4)) &&& 252645135) + ((((((m_ - ((m_ / 2 ^ 1) &&& 1431655765)) &&& 858993459) + (((m_ - ((m_ / 2 ^ 1) &&& 1431655765)) / 2 ^ 2) &&& 858993459)) + ((((m_ - ((m_ / 2 ^ 1) &&& 1431655765)) &&& 858993459) + (((m_ - ((m_ / 2 ^ 1) &&& 1431655765)) / 2 ^ 2) &&& 858993459)) / 2 ^ 4)) &&& 252645135) / 2 ^ 8)) + (((((((m_ - ((m_ / 2 ^ 1) &&& 1431655765)) &&& 858993459) + (((m_ - ((m_ / 2 ^ 1) &&& 1431655765)) / 2 ^ 2) &&& 858993459)) + ((((m_ - ((m_ / 2 ^ 1) &&& 1431655765)) &&& 858993459) + (((m_ - ((m_ / 2 ^ 1) &&& 1431655765)) / 2 ^ 2) &&& 858993459)) / 2 ^ 4)) &&& 252645135) + ((((((m_ - ((m_ / 2 ^ 1) &&& 1431655765)) &&& 858993459) + (((m_ - ((m_ / 2 ^ 1) &&& 1431655765)) / 2 ^ 2) &&& 858993459)) + ((((m_ - ((m_ / 2 ^ 1) &&& 1431655765)) &&& 858993459) + (((m_ - ((m_ / 2 ^ 1) &&& 1431655765)) / 2 ^ 2) &&& 858993459)) / 2 ^ 4)) &&& 252645135) / 2 ^ 8)) / 2 ^ 16)) &&& 63)) hx hb dJ6_bitCount_0f7a4_51 (fa_and _ _) ?_
  exact kr _ _ _ dJ6_bitCount_0f7a4_52 (vp_nar_int _) rfl
abbrev w_X3_to : List Cond := Cond.code yX3_to cX3_to 3 (some .int) :: zAll
abbrev r_X3_to : Room := { frames := 0, cells := 0, slots := 0, locals := 0 }
theorem zd_X3_to : yX3_to.cls ≠ "java/lang/invoke/MethodHandle" ∧ yX3_to.cls ≠ "java/lang/invoke/VarHandle" ∧ (parseMethodDescriptor yX3_to.desc).map (fun d => d.parameters.length) = some 2 := by decide +kernel
set_option maxHeartbeats 4000000 in
set_option maxRecDepth 100000 in
theorem c_X3_to (l : Launch) (D : va_G) (cy : Nat → ClassId) (x_ : Int64) (p_ : Nat) (hp : p_ < 16) : zMi l yX3_to w_X3_to r_X3_to D cy [] [.long x_, .int (nI p_)] (fun r_ => r_ = nI (nb x_ p_)) := by
  refine zOfR (cc := cX3_to) (maxL := 3) (ty := .int) (by decide) rfl (Nat.le_of_ble_eq_true rfl) ?_
  intro zp ze zs zm za zb zme zc hx hb hml hts hown hP hK Q kr ls hl
  have hown : zs.vm.findClass RX3 = some zm.cls := hown
  have hl : lv_has ls 3 [(0, .long x_), (2, .int (nI p_))] := hl
  refine lv_lload_n hx hb dX3_to_0 rfl (lv_at hl 0 rfl) ?_
  refine lv_iconst (v := nI 4) hx hb dX3_to_1 (by decide) ?_
  refine lv_iload_n hx hb dX3_to_2 rfl (lv_at hl 1 rfl) ?_
  refine zi_mul (v := nI (4 * p_)) hx hb dX3_to_3 (pk_mul _ _) ?_
  refine lv_lushr (v := (x_.toUInt64 >>> ((nI (4 * p_)).toInt64.toUInt64 &&& Int64.toUInt64 63)).toInt64) hx hb dX3_to_4 rfl ?_
  refine lv_l2i (v := (x_.toUInt64 >>> ((nI (4 * p_)).toInt64.toUInt64 &&& Int64.toUInt64 63)).toInt64.toInt32) hx hb dX3_to_5 rfl ?_
  refine lv_bipush (v := nI 15) hx hb dX3_to_6 (by decide) ?_
  refine zi_and (v := nI (nb x_ p_)) hx hb dX3_to_8 (nb_to x_ hp) ?_
  exact kr _ _ _ dX3_to_9 (vp_nar_int _) rfl
abbrev w_X3_from : List Cond := Cond.code yX3_from cX3_from 4 (some .int) :: zAll
abbrev r_X3_from : Room := { frames := 1, cells := 0, slots := 0, locals := 22 }
theorem zd_X3_from : yX3_from.cls ≠ "java/lang/invoke/MethodHandle" ∧ yX3_from.cls ≠ "java/lang/invoke/VarHandle" ∧ (parseMethodDescriptor yX3_from.desc).map (fun d => d.parameters.length) = some 2 := by decide +kernel
set_option maxHeartbeats 4000000 in
set_option maxRecDepth 100000 in
theorem c_X3_from (l : Launch) (D : va_G) (cy : Nat → ClassId) (x_ : Int64) (t_ : Nat) (ht : t_ < 16) : zMi l yX3_from w_X3_from r_X3_from D cy [] [.long x_, .int (nI t_)] (fun r_ => r_ = nI (fr x_ t_)) := by
  refine zOfR (cc := cX3_from) (maxL := 4) (ty := .int) (by decide) rfl (Nat.le_of_ble_eq_true rfl) ?_
  intro zp ze zs zm za zb zme zc hx hb hml hts hown hP hK Q kr ls hl
  have hown : zs.vm.findClass RX3 = some zm.cls := hown
  have hl : lv_has ls 4 [(0, .long x_), (2, .int (nI t_))] := hl
  refine lv_iconst (v := nI 0) hx hb dX3_from_0 (by decide) ?_
  refine lv_istore_n (lv' := [(3, .int (nI 0)), (0, .long x_), (2, .int (nI t_))]) hx hb dX3_from_1 rfl hl (by decide) rfl (fun ls hl => ?_)
  have L2 : ∀ (kf_ : Nat) (i_ : Nat) (hi : i_ ≤ 16) (hl_ : ∀ j_, j_ < i_ → nb x_ j_ ≠ t_), 16 - i_ < kf_ → ∀ ls : Array Slot, lv_has ls 4 [(0, .long x_), (2, .int (nI t_)), (3, .int (nI i_))] → W zp l ze r_X3_from zs zm za zb zme zc zs.heap [] 0 0 Q (F0 zm 2 ls []) := by
    intro kf_
    induction kf_ with
    | zero => intro i_ hi hl_ hk_; exact absurd hk_ (Nat.not_lt_zero _)
    | succ kf_ ih2 =>
      intro i_ hi hl_ hk_ ls hl
      refine lv_iload_n hx hb dX3_from_2 rfl (lv_at hl 2 rfl) ?_
      refine lv_bipush (v := nI 16) hx hb dX3_from_3 (by decide) ?_
      refine zb_ge (a := i_) (b := 16) (tgt := 25) hx hb dX3_from_5 (by decide) (by omega) (by omega) (fun c5 => ?_) (fun c5 => ?_)
      · skip
        refine lv_iconst (v := nI 0) hx hb dX3_from_25 (by decide) ?_
        exact kr _ _ _ dX3_from_26 (vp_nar_int _) (congrArg nI (fr_none (fun j_ hj_ => hl_ j_ (by omega))).symm)
      · skip
        refine lv_lload_n hx hb dX3_from_8 rfl (lv_at hl 0 rfl) ?_
        refine lv_iload_n hx hb dX3_from_9 rfl (lv_at hl 2 rfl) ?_
        refine zcSi (As := [.long x_, .int (nI i_)]) (rest := []) ⟨hx, hb, hml, hown, hts⟩ (c_X3_to l D cy x_ i_ (by omega)) (va_cwS 2 hts (zG_S zw_245 zw_246 zw_171 zw_247) rfl rfl rfl zd_X3_to ⟨Nat.le_of_ble_eq_true rfl, Nat.le_of_ble_eq_true rfl⟩) hK hP [] rfl rfl hl.1 rfl (Nat.le_of_ble_eq_true rfl) dX3_from_10 ⟨Nat.zero_le _, Nat.zero_le _⟩ (fun r10 h10 => ?_)
        subst h10
        refine lv_iload_n hx hb dX3_from_13 rfl (lv_at hl 1 rfl) ?_
        have hb14 := nb_lt x_ i_
        refine zb_ne (a := nb x_ i_) (b := t_) (tgt := 19) hx hb dX3_from_14 (by decide) (by omega) (by omega) (fun c14 => ?_) (fun c14 => ?_)
        · skip
          refine lv_iinc (v := nI (i_ + 1)) (lv' := [(3, .int (nI (i_ + 1))), (0, .long x_), (2, .int (nI t_))]) hx hb dX3_from_19 hl (k := 2) rfl (nI_1 _) (by decide) rfl (fun ls hl => ?_)
          refine lv_goto (tgt := 2) hx hb dX3_from_22 (by decide) ?_
          exact ih2 (i_ + 1) (by omega) (fun j_ hj_ => by rcases Nat.lt_or_ge j_ i_ with q_ | q_; exact hl_ j_ q_; rw [show j_ = i_ by omega]; exact c14) (by omega) _ (lv_sub hl [1, 2, 0] rfl)
        · skip
          refine lv_iload_n hx hb dX3_from_17 rfl (lv_at hl 2 rfl) ?_
          exact kr _ _ _ dX3_from_18 (vp_nar_int _) (congrArg nI (fr_found (by omega) c14 hl_).symm)
  exact L2 (16 - 0 + 1) 0 (by omega) (fun j_ hj_ => by omega) (Nat.lt_succ_self _) _ (lv_sub hl [1, 2, 0] rfl)
abbrev w_X3_with : List Cond := Cond.code yX3_with cX3_with 6 (some .long) :: zAll
abbrev r_X3_with : Room := { frames := 0, cells := 0, slots := 0, locals := 0 }
theorem zd_X3_with : yX3_with.cls ≠ "java/lang/invoke/MethodHandle" ∧ yX3_with.cls ≠ "java/lang/invoke/VarHandle" ∧ (parseMethodDescriptor yX3_with.desc).map (fun d => d.parameters.length) = some 3 := by decide +kernel
set_option maxHeartbeats 4000000 in
set_option maxRecDepth 100000 in
theorem c_X3_with (l : Launch) (D : va_G) (cy : Nat → ClassId) (x_ : Int64) (p_ : Nat) (t_ : Nat) (hp : p_ < 16) (ht : t_ < 16) : zMl l yX3_with w_X3_with r_X3_with D cy [] [.long x_, .int (nI p_), .int (nI t_)] (fun r_ => r_ = wN x_ p_ t_) := by
  refine zOfRl (cc := cX3_with) (maxL := 6) (by decide) rfl (Nat.le_of_ble_eq_true rfl) ?_
  intro zp ze zs zm za zb zme zc hx hb hml hts hown hP hK Q kr ls hl
  have hown : zs.vm.findClass RX3 = some zm.cls := hown
  have hl : lv_has ls 6 [(0, .long x_), (2, .int (nI p_)), (3, .int (nI t_))] := hl
  refine lv_lload_n hx hb dX3_with_0 rfl (lv_at hl 0 rfl) ?_
  refine lv_ldc2 hx hb hown (hts _ (List.mem_cons_of_mem _ zw_173)) dX3_with_1 ?_
  refine zl_top (v := lN 15) rfl ?_
  refine lv_iconst (v := nI 4) hx hb dX3_with_4 (by decide) ?_
  refine lv_iload_n hx hb dX3_with_5 rfl (lv_at hl 1 rfl) ?_
  refine zi_mul (v := nI (4 * p_)) hx hb dX3_with_6 (pk_mul _ _) ?_
  refine lv_lshl (v := (lN 15) <<< ((nI (4 * p_)).toInt64 &&& 63)) hx hb dX3_with_7 rfl ?_
  refine lv_ldc2 hx hb hown (hts _ (List.mem_cons_of_mem _ zw_174)) dX3_with_8 ?_
  refine zl_xor (v := ((lN 15) <<< ((nI (4 * p_)).toInt64 &&& 63)) ^^^ (-1 : Int64)) hx hb dX3_with_11 rfl ?_
  refine zl_and (v := x_ &&& (((lN 15) <<< ((nI (4 * p_)).toInt64 &&& 63)) ^^^ (-1 : Int64))) hx hb dX3_with_12 rfl ?_
  refine lv_lstore (lv' := [(4, .long (x_ &&& (((lN 15) <<< ((nI (4 * p_)).toInt64 &&& 63)) ^^^ (-1 : Int64)))), (0, .long x_), (2, .int (nI p_)), (3, .int (nI t_))]) hx hb dX3_with_13 hl (by decide) rfl (fun ls hl => ?_)
  refine lv_lload hx hb dX3_with_15 (lv_at hl 0 rfl) ?_
  refine lv_iload_n hx hb dX3_with_17 rfl (lv_at hl 3 rfl) ?_
  refine lv_bipush (v := nI 15) hx hb dX3_with_18 (by decide) ?_
  refine zi_and (v := nI t_) hx hb dX3_with_20 (zz_and15 ht) ?_
  refine lv_i2l (v := (nI t_).toInt64) hx hb dX3_with_21 rfl ?_
  refine lv_iconst (v := nI 4) hx hb dX3_with_22 (by decide) ?_
  refine lv_iload_n hx hb dX3_with_23 rfl (lv_at hl 2 rfl) ?_
  refine zi_mul (v := nI (4 * p_)) hx hb dX3_with_24 (pk_mul _ _) ?_
  refine lv_lshl (v := ((nI t_).toInt64) <<< ((nI (4 * p_)).toInt64 &&& 63)) hx hb dX3_with_25 rfl ?_
  refine zl_or (v := wN x_ p_ t_) hx hb dX3_with_26 (nb_with x_ hp ht) ?_
  exact kr _ _ _ dX3_with_27 rfl
abbrev w_X3_then : List Cond := Cond.code yX3_then cX3_then 7 (some .long) :: zAll
abbrev r_X3_then : Room := { frames := 1, cells := 0, slots := 0, locals := 25 }
theorem zd_X3_then : yX3_then.cls ≠ "java/lang/invoke/MethodHandle" ∧ yX3_then.cls ≠ "java/lang/invoke/VarHandle" ∧ (parseMethodDescriptor yX3_then.desc).map (fun d => d.parameters.length) = some 2 := by decide +kernel
set_option maxHeartbeats 4000000 in
set_option maxRecDepth 100000 in
theorem c_X3_then (l : Launch) (D : va_G) (cy : Nat → ClassId) (x_ : Int64) (y_ : Int64) : zMl l yX3_then w_X3_then r_X3_then D cy [] [.long x_, .long y_] (fun r_ => r_ = thenL x_ y_) := by
  refine zOfRl (cc := cX3_then) (maxL := 7) (by decide) rfl (Nat.le_of_ble_eq_true rfl) ?_
  intro zp ze zs zm za zb zme zc hx hb hml hts hown hP hK Q kr ls hl
  have hown : zs.vm.findClass RX3 = some zm.cls := hown
  have hl : lv_has ls 7 [(0, .long x_), (2, .long y_)] := hl
  refine lv_lconst (v := lN 0) hx hb dX3_then_0 rfl ?_
  refine zl_top (v := pk (zfl (fun q_ => nb y_ (nb x_ q_)) 0)) (zfl_0 _) ?_
  refine lv_lstore (lv' := [(4, .long (pk (zfl (fun q_ => nb y_ (nb x_ q_)) 0))), (0, .long x_), (2, .long y_)]) hx hb dX3_then_1 hl (by decide) rfl (fun ls hl => ?_)
  refine lv_iconst (v := nI 0) hx hb dX3_then_3 (by decide) ?_
  refine lv_istore (lv' := [(6, .int (nI 0)), (4, .long (pk (zfl (fun q_ => nb y_ (nb x_ q_)) 0))), (0, .long x_), (2, .long y_)]) hx hb dX3_then_4 hl (by decide) rfl (fun ls hl => ?_)
  have L6 : ∀ (kf_ : Nat) (i_ : Nat) (hi : i_ ≤ 16), 16 - i_ < kf_ → ∀ ls : Array Slot, lv_has ls 7 [(0, .long x_), (2, .long y_), (4, .long (pk (zfl (fun q_ => nb y_ (nb x_ q_)) i_))), (6, .int (nI i_))] → W zp l ze r_X3_then zs zm za zb zme zc zs.heap [] 0 0 Q (F0 zm 6 ls []) := by
    intro kf_
    induction kf_ with
    | zero => intro i_ hi hk_; exact absurd hk_ (Nat.not_lt_zero _)
    | succ kf_ ih6 =>
      intro i_ hi hk_ ls hl
      refine lv_iload hx hb dX3_then_6 (lv_at hl 3 rfl) ?_
      refine lv_bipush (v := nI 16) hx hb dX3_then_8 (by decide) ?_
      refine zb_ge (a := i_) (b := 16) (tgt := 38) hx hb dX3_then_10 (by decide) (by omega) (by omega) (fun c10 => ?_) (fun c10 => ?_)
      · skip
        refine lv_lload hx hb dX3_then_38 (lv_at hl 2 rfl) ?_
        exact kr _ _ _ dX3_then_40 (by rw [show i_ = 16 by omega]; exact zfl_e _)
      · skip
        refine lv_lload hx hb dX3_then_13 (lv_at hl 2 rfl) ?_
        refine lv_iload hx hb dX3_then_15 (lv_at hl 3 rfl) ?_
        refine lv_lload_n hx hb dX3_then_17 rfl (lv_at hl 1 rfl) ?_
        refine lv_lload_n hx hb dX3_then_18 rfl (lv_at hl 0 rfl) ?_
        refine lv_iload hx hb dX3_then_19 (lv_at hl 3 rfl) ?_
        refine zcSi (As := [.long x_, .int (nI i_)]) (rest := [.long y_, .int (nI i_), .long (pk (zfl (fun q_ => nb y_ (nb x_ q_)) i_))]) ⟨hx, hb, hml, hown, hts⟩ (c_X3_to l D cy x_ i_ (by omega)) (va_cwS 2 hts (zG_S zw_245 zw_246 zw_171 zw_247) rfl rfl rfl zd_X3_to ⟨Nat.le_of_ble_eq_true rfl, Nat.le_of_ble_eq_true rfl⟩) hK hP [] rfl rfl hl.1 rfl (Nat.le_of_ble_eq_true rfl) dX3_then_21 ⟨Nat.zero_le _, Nat.zero_le _⟩ (fun r21 h21 => ?_)
        subst h21
        refine zcSi (As := [.long y_, .int (nI (nb x_ i_))]) (rest := [.int (nI i_), .long (pk (zfl (fun q_ => nb y_ (nb x_ q_)) i_))]) ⟨hx, hb, hml, hown, hts⟩ (c_X3_to l D cy y_ (nb x_ i_) (nb_lt _ _)) (va_cwS 2 hts (zG_S zw_245 zw_246 zw_171 zw_247) rfl rfl rfl zd_X3_to ⟨Nat.le_of_ble_eq_true rfl, Nat.le_of_ble_eq_true rfl⟩) hK hP [] rfl rfl hl.1 rfl (Nat.le_of_ble_eq_true rfl) dX3_then_24 ⟨Nat.zero_le _, Nat.zero_le _⟩ (fun r24 h24 => ?_)
        subst h24
        refine zcSl (As := [.long (pk (zfl (fun q_ => nb y_ (nb x_ q_)) i_)), .int (nI i_), .int (nI (nb y_ (nb x_ i_)))]) (rest := []) ⟨hx, hb, hml, hown, hts⟩ (c_X3_with l D cy (pk (zfl (fun q_ => nb y_ (nb x_ q_)) i_)) i_ (nb y_ (nb x_ i_)) (by omega) (nb_lt _ _)) (va_cwS 3 hts (zG_S zw_248 zw_170 zw_171 zw_172) rfl rfl rfl zd_X3_with ⟨Nat.le_of_ble_eq_true rfl, Nat.le_of_ble_eq_true rfl⟩) hK hP [] rfl rfl hl.1 rfl (Nat.le_of_ble_eq_true rfl) dX3_then_27 ⟨Nat.zero_le _, Nat.zero_le _⟩ (fun r27 h27 => ?_)
        subst h27
        refine zl_top (v := pk (zfl (fun q_ => nb y_ (nb x_ q_)) (i_ + 1))) (zfl_s (g := (fun q_ => nb y_ (nb x_ q_))) (by omega) (nb_lt _ _)) ?_
        refine lv_lstore (lv' := [(4, .long (pk (zfl (fun q_ => nb y_ (nb x_ q_)) (i_ + 1)))), (0, .long x_), (2, .long y_), (6, .int (nI i_))]) hx hb dX3_then_30 hl (by decide) rfl (fun ls hl => ?_)
        refine lv_iinc (v := nI (i_ + 1)) (lv' := [(6, .int (nI (i_ + 1))), (4, .long (pk (zfl (fun q_ => nb y_ (nb x_ q_)) (i_ + 1)))), (0, .long x_), (2, .long y_)]) hx hb dX3_then_32 hl (k := 3) rfl (nI_1 _) (by decide) rfl (fun ls hl => ?_)
        refine lv_goto (tgt := 6) hx hb dX3_then_35 (by decide) ?_
        exact ih6 (i_ + 1) (by omega) (by omega) _ (lv_sub hl [2, 3, 1, 0] rfl)
  exact L6 (16 - 0 + 1) 0 (by omega) (Nat.lt_succ_self _) _ (lv_sub hl [2, 3, 1, 0] rfl)
abbrev w_X3_inverse : List Cond := Cond.code yX3_inverse cX3_inverse 5 (some .long) :: zAll
abbrev r_X3_inverse : Room := { frames := 1, cells := 0, slots := 0, locals := 25 }
theorem zd_X3_inverse : yX3_inverse.cls ≠ "java/lang/invoke/MethodHandle" ∧ yX3_inverse.cls ≠ "java/lang/invoke/VarHandle" ∧ (parseMethodDescriptor yX3_inverse.desc).map (fun d => d.parameters.length) = some 1 := by decide +kernel
set_option maxHeartbeats 4000000 in
set_option maxRecDepth 100000 in
theorem c_X3_inverse (l : Launch) (D : va_G) (cy : Nat → ClassId) (x_ : Int64) (hx_ : P16 (nb x_)) : zMl l yX3_inverse w_X3_inverse r_X3_inverse D cy [] [.long x_] (fun r_ => r_ = invL x_) := by
  refine zOfRl (cc := cX3_inverse) (maxL := 5) (by decide) rfl (Nat.le_of_ble_eq_true rfl) ?_
  intro zp ze zs zm za zb zme zc hx hb hml hts hown hP hK Q kr ls hl
  have hown : zs.vm.findClass RX3 = some zm.cls := hown
  have hl : lv_has ls 5 [(0, .long x_)] := hl
  refine lv_lconst (v := lN 0) hx hb dX3_inverse_0 rfl ?_
  refine zl_top (v := pk (zfi x_ 0)) (zfi_0 _) ?_
  refine lv_lstore_n (lv' := [(2, .long (pk (zfi x_ 0))), (0, .long x_)]) hx hb dX3_inverse_1 rfl hl (by decide) rfl (fun ls hl => ?_)
  refine lv_iconst (v := nI 0) hx hb dX3_inverse_2 (by decide) ?_
  refine lv_istore (lv' := [(4, .int (nI 0)), (2, .long (pk (zfi x_ 0))), (0, .long x_)]) hx hb dX3_inverse_3 hl (by decide) rfl (fun ls hl => ?_)
  have L5 : ∀ (kf_ : Nat) (i_ : Nat) (hi : i_ ≤ 16), 16 - i_ < kf_ → ∀ ls : Array Slot, lv_has ls 5 [(0, .long x_), (2, .long (pk (zfi x_ i_))), (4, .int (nI i_))] → W zp l ze r_X3_inverse zs zm za zb zme zc zs.heap [] 0 0 Q (F0 zm 5 ls []) := by
    intro kf_
    induction kf_ with
    | zero => intro i_ hi hk_; exact absurd hk_ (Nat.not_lt_zero _)
    | succ kf_ ih5 =>
      intro i_ hi hk_ ls hl
      refine lv_iload hx hb dX3_inverse_5 (lv_at hl 2 rfl) ?_
      refine lv_bipush (v := nI 16) hx hb dX3_inverse_7 (by decide) ?_
      refine zb_ge (a := i_) (b := 16) (tgt := 31) hx hb dX3_inverse_9 (by decide) (by omega) (by omega) (fun c9 => ?_) (fun c9 => ?_)
      · skip
        refine lv_lload_n hx hb dX3_inverse_31 rfl (lv_at hl 1 rfl) ?_
        exact kr _ _ _ dX3_inverse_32 (by rw [show i_ = 16 by omega]; exact zfi_e _)
      · skip
        refine lv_lload_n hx hb dX3_inverse_12 rfl (lv_at hl 1 rfl) ?_
        refine lv_lload_n hx hb dX3_inverse_13 rfl (lv_at hl 0 rfl) ?_
        refine lv_iload hx hb dX3_inverse_14 (lv_at hl 2 rfl) ?_
        refine zcSi (As := [.long x_, .int (nI i_)]) (rest := [.long (pk (zfi x_ i_))]) ⟨hx, hb, hml, hown, hts⟩ (c_X3_to l D cy x_ i_ (by omega)) (va_cwS 2 hts (zG_S zw_245 zw_246 zw_171 zw_247) rfl rfl rfl zd_X3_to ⟨Nat.le_of_ble_eq_true rfl, Nat.le_of_ble_eq_true rfl⟩) hK hP [] rfl rfl hl.1 rfl (Nat.le_of_ble_eq_true rfl) dX3_inverse_16 ⟨Nat.zero_le _, Nat.zero_le _⟩ (fun r16 h16 => ?_)
        subst h16
        refine lv_iload hx hb dX3_inverse_19 (lv_at hl 2 rfl) ?_
        refine zcSl (As := [.long (pk (zfi x_ i_)), .int (nI (nb x_ i_)), .int (nI i_)]) (rest := []) ⟨hx, hb, hml, hown, hts⟩ (c_X3_with l D cy (pk (zfi x_ i_)) (nb x_ i_) i_ (nb_lt _ _) (by omega)) (va_cwS 3 hts (zG_S zw_248 zw_170 zw_171 zw_172) rfl rfl rfl zd_X3_with ⟨Nat.le_of_ble_eq_true rfl, Nat.le_of_ble_eq_true rfl⟩) hK hP [] rfl rfl hl.1 rfl (Nat.le_of_ble_eq_true rfl) dX3_inverse_21 ⟨Nat.zero_le _, Nat.zero_le _⟩ (fun r21 h21 => ?_)
        subst h21
        refine zl_top (v := pk (zfi x_ (i_ + 1))) (zfi_s hx_ (by omega)) ?_
        refine lv_lstore_n (lv' := [(2, .long (pk (zfi x_ (i_ + 1)))), (0, .long x_), (4, .int (nI i_))]) hx hb dX3_inverse_24 rfl hl (by decide) rfl (fun ls hl => ?_)
        refine lv_iinc (v := nI (i_ + 1)) (lv' := [(4, .int (nI (i_ + 1))), (2, .long (pk (zfi x_ (i_ + 1)))), (0, .long x_)]) hx hb dX3_inverse_25 hl (k := 2) rfl (nI_1 _) (by decide) rfl (fun ls hl => ?_)
        refine lv_goto (tgt := 5) hx hb dX3_inverse_28 (by decide) ?_
        exact ih5 (i_ + 1) (by omega) (by omega) _ (lv_sub hl [2, 1, 0] rfl)
  exact L5 (16 - 0 + 1) 0 (by omega) (Nat.lt_succ_self _) _ (lv_sub hl [2, 1, 0] rfl)
abbrev w_X3_cycleLength : List Cond := Cond.code yX3_cycleLength cX3_cycleLength 5 (some .int) :: zAll
abbrev r_X3_cycleLength : Room := { frames := 1, cells := 0, slots := 0, locals := 22 }
theorem zd_X3_cycleLength : yX3_cycleLength.cls ≠ "java/lang/invoke/MethodHandle" ∧ yX3_cycleLength.cls ≠ "java/lang/invoke/VarHandle" ∧ (parseMethodDescriptor yX3_cycleLength.desc).map (fun d => d.parameters.length) = some 2 := by decide +kernel
set_option maxHeartbeats 4000000 in
set_option maxRecDepth 100000 in
theorem c_X3_cycleLength (l : Launch) (D : va_G) (cy : Nat → ClassId) (x_ : Int64) (p_ : Nat) (hp : p_ < 16) : zMi l yX3_cycleLength w_X3_cycleLength r_X3_cycleLength D cy [] [.long x_, .int (nI p_)] (fun r_ => r_ = nI (cl (nb x_) p_)) := by
  refine zOfR (cc := cX3_cycleLength) (maxL := 5) (ty := .int) (by decide) rfl (Nat.le_of_ble_eq_true rfl) ?_
  intro zp ze zs zm za zb zme zc hx hb hml hts hown hP hK Q kr ls hl
  have hown : zs.vm.findClass RX3 = some zm.cls := hown
  have hl : lv_has ls 5 [(0, .long x_), (2, .int (nI p_))] := hl
  refine lv_iconst (v := nI 1) hx hb dX3_cycleLength_0 (by decide) ?_
  refine lv_istore_n (lv' := [(3, .int (nI 1)), (0, .long x_), (2, .int (nI p_))]) hx hb dX3_cycleLength_1 rfl hl (by decide) rfl (fun ls hl => ?_)
  refine lv_lload_n hx hb dX3_cycleLength_2 rfl (lv_at hl 1 rfl) ?_
  refine lv_iload_n hx hb dX3_cycleLength_3 rfl (lv_at hl 2 rfl) ?_
  refine zcSi (As := [.long x_, .int (nI p_)]) (rest := []) ⟨hx, hb, hml, hown, hts⟩ (c_X3_to l D cy x_ p_ (by omega)) (va_cwS 2 hts (zG_S zw_245 zw_246 zw_171 zw_247) rfl rfl rfl zd_X3_to ⟨Nat.le_of_ble_eq_true rfl, Nat.le_of_ble_eq_true rfl⟩) hK hP [] rfl rfl hl.1 rfl (Nat.le_of_ble_eq_true rfl) dX3_cycleLength_4 ⟨Nat.zero_le _, Nat.zero_le _⟩ (fun r4 h4 => ?_)
  subst h4
  refine zi_top (v := nI (it (nb x_) 1 p_)) rfl ?_
  refine lv_istore (lv' := [(4, .int (nI (it (nb x_) 1 p_))), (3, .int (nI 1)), (0, .long x_), (2, .int (nI p_))]) hx hb dX3_cycleLength_7 hl (by decide) rfl (fun ls hl => ?_)
  have L9 : ∀ (kf_ : Nat) (i_ : Nat) (h0 : 0 < i_) (hi : i_ ≤ 16) (hl_ : ∀ j_, 0 < j_ → j_ < i_ → it (nb x_) j_ p_ ≠ p_), 16 - i_ < kf_ → ∀ ls : Array Slot, lv_has ls 5 [(0, .long x_), (2, .int (nI p_)), (3, .int (nI i_)), (4, .int (nI (it (nb x_) i_ p_)))] → W zp l ze r_X3_cycleLength zs zm za zb zme zc zs.heap [] 0 0 Q (F0 zm 9 ls []) := by
    intro kf_
    induction kf_ with
    | zero => intro i_ h0 hi hl_ hk_; exact absurd hk_ (Nat.not_lt_zero _)
    | succ kf_ ih9 =>
      intro i_ h0 hi hl_ hk_ ls hl
      refine lv_iload hx hb dX3_cycleLength_9 (lv_at hl 3 rfl) ?_
      refine lv_iload_n hx hb dX3_cycleLength_11 rfl (lv_at hl 1 rfl) ?_
      have hb12 : it (nb x_) i_ p_ < 16 := (it_lt (fun q_ _ => nb_lt x_ q_) hp)
      refine zb_eq (a := it (nb x_) i_ p_) (b := p_) (tgt := 35) hx hb dX3_cycleLength_12 (by decide) (by omega) (by omega) (fun c12 => ?_) (fun c12 => ?_)
      · skip
        refine lv_iload_n hx hb dX3_cycleLength_35 rfl (lv_at hl 2 rfl) ?_
        exact kr _ _ _ dX3_cycleLength_36 (vp_nar_int _) (congrArg nI (cl_found h0 hi (Or.inl c12) hl_).symm)
      · skip
        refine lv_iload_n hx hb dX3_cycleLength_15 rfl (lv_at hl 2 rfl) ?_
        refine lv_bipush (v := nI 16) hx hb dX3_cycleLength_16 (by decide) ?_
        refine zb_ge (a := i_) (b := 16) (tgt := 35) hx hb dX3_cycleLength_18 (by decide) (by omega) (by omega) (fun c18 => ?_) (fun c18 => ?_)
        · skip
          refine lv_iload_n hx hb dX3_cycleLength_35 rfl (lv_at hl 2 rfl) ?_
          exact kr _ _ _ dX3_cycleLength_36 (vp_nar_int _) (congrArg nI (cl_found h0 hi (Or.inr (by omega)) hl_).symm)
        · skip
          refine lv_lload_n hx hb dX3_cycleLength_21 rfl (lv_at hl 0 rfl) ?_
          refine lv_iload hx hb dX3_cycleLength_22 (lv_at hl 3 rfl) ?_
          refine zcSi (As := [.long x_, .int (nI (it (nb x_) i_ p_))]) (rest := []) ⟨hx, hb, hml, hown, hts⟩ (c_X3_to l D cy x_ (it (nb x_) i_ p_) (it_lt (fun q_ _ => nb_lt x_ q_) hp)) (va_cwS 2 hts (zG_S zw_245 zw_246 zw_171 zw_247) rfl rfl rfl zd_X3_to ⟨Nat.le_of_ble_eq_true rfl, Nat.le_of_ble_eq_true rfl⟩) hK hP [] rfl rfl hl.1 rfl (Nat.le_of_ble_eq_true rfl) dX3_cycleLength_24 ⟨Nat.zero_le _, Nat.zero_le _⟩ (fun r24 h24 => ?_)
          subst h24
          refine zi_top (v := nI (it (nb x_) (i_ + 1) p_)) (congrArg nI (it_succ _ _ _).symm) ?_
          refine lv_istore (lv' := [(4, .int (nI (it (nb x_) (i_ + 1) p_))), (0, .long x_), (2, .int (nI p_)), (3, .int (nI i_))]) hx hb dX3_cycleLength_27 hl (by decide) rfl (fun ls hl => ?_)
          refine lv_iinc (v := nI (i_ + 1)) (lv' := [(3, .int (nI (i_ + 1))), (4, .int (nI (it (nb x_) (i_ + 1) p_))), (0, .long x_), (2, .int (nI p_))]) hx hb dX3_cycleLength_29 hl (k := 3) rfl (nI_1 _) (by decide) rfl (fun ls hl => ?_)
          refine lv_goto (tgt := 9) hx hb dX3_cycleLength_32 (by decide) ?_
          exact ih9 (i_ + 1) (by omega) (by omega) (fun j_ h0_ hj_ => by rcases Nat.lt_or_ge j_ i_ with q_ | q_; exact hl_ j_ h0_ q_; rw [show j_ = i_ by omega]; exact c12) (by omega) _ (lv_sub hl [2, 3, 0, 1] rfl)
  exact L9 (16 - 1 + 1) 1 (by omega) (by omega) (fun j_ hj_ hk_ => by omega) (Nat.lt_succ_self _) _ (lv_sub hl [2, 3, 1, 0] rfl)
abbrev w_X3_toAfter : List Cond := Cond.code yX3_toAfter cX3_toAfter 8 (some .int) :: zAll
abbrev r_X3_toAfter : Room := { frames := 2, cells := 0, slots := 0, locals := 46 }
theorem zd_X3_toAfter : yX3_toAfter.cls ≠ "java/lang/invoke/MethodHandle" ∧ yX3_toAfter.cls ≠ "java/lang/invoke/VarHandle" ∧ (parseMethodDescriptor yX3_toAfter.desc).map (fun d => d.parameters.length) = some 3 := by decide +kernel
set_option maxHeartbeats 4000000 in
set_option maxRecDepth 100000 in
theorem c_X3_toAfter (l : Launch) (D : va_G) (cy : Nat → ClassId) (x_ : Int64) (n_ : Int32) (p_ : Nat) (hx_ : P16 (nb x_)) (hp : p_ < 16) : zMi l yX3_toAfter w_X3_toAfter r_X3_toAfter D cy [] [.long x_, .int n_, .int (nI p_)] (fun r_ => r_ = nI (pw x_ n_.toInt p_)) := by
  refine zOfR (cc := cX3_toAfter) (maxL := 8) (ty := .int) (by decide) rfl (Nat.le_of_ble_eq_true rfl) ?_
  intro zp ze zs zm za zb zme zc hx hb hml hts hown hP hK Q kr ls hl
  have hown : zs.vm.findClass RX3 = some zm.cls := hown
  have hl : lv_has ls 8 [(0, .long x_), (2, .int n_), (3, .int (nI p_))] := hl
  have hc0 := cl_pos (nb x_) p_
  have hc1 := cl_le (nb x_) p_
  have hc2 : (n_.toInt % ((cl (nb x_) p_ : Nat) : Int)).toNat < 17 := zz_modlt n_.toInt x_ p_
  refine lv_lload_n hx hb dX3_toAfter_0 rfl (lv_at hl 0 rfl) ?_
  refine lv_iload_n hx hb dX3_toAfter_1 rfl (lv_at hl 2 rfl) ?_
  refine zcSi (As := [.long x_, .int (nI p_)]) (rest := []) ⟨hx, hb, hml, hown, hts⟩ (c_X3_cycleLength l D cy x_ p_ (by omega)) (va_cwS 2 hts (zG_S zw_282 zw_283 zw_171 zw_284) rfl rfl rfl zd_X3_cycleLength ⟨Nat.le_of_ble_eq_true rfl, Nat.le_of_ble_eq_true rfl⟩) hK hP [] rfl rfl hl.1 rfl (Nat.le_of_ble_eq_true rfl) dX3_toAfter_2 ⟨Nat.zero_le _, Nat.zero_le _⟩ (fun r2 h2 => ?_)
  subst h2
  refine lv_istore (lv' := [(4, .int (nI (cl (nb x_) p_))), (0, .long x_), (2, .int n_), (3, .int (nI p_))]) hx hb dX3_toAfter_5 hl (by decide) rfl (fun ls hl => ?_)
  refine lv_iload hx hb dX3_toAfter_7 (lv_at hl 0 rfl) ?_
  refine zb0_le (a := cl (nb x_) p_) (tgt := 21) hx hb dX3_toAfter_9 (by decide) (by omega) (fun hd_ => absurd hd_ (by omega)) (fun c9 => ?_)
  refine lv_iload_n hx hb dX3_toAfter_12 rfl (lv_at hl 2 rfl) ?_
  refine lv_iload hx hb dX3_toAfter_13 (lv_at hl 0 rfl) ?_
  refine zcSi (As := [.int n_, .int (nI (cl (nb x_) p_))]) (rest := []) ⟨hx, hb, hml, hown, hts⟩ (c_J9_floorMod_7cf53 l D cy n_ (cl (nb x_) p_) (by omega) (by omega)) (va_cwS 2 hts (zG_S zw_285 zw_286 zw_287 zw_288) rfl rfl rfl zd_J9_floorMod_7cf53 ⟨Nat.le_of_ble_eq_true rfl, Nat.le_of_ble_eq_true rfl⟩) hK hP [] rfl rfl hl.1 rfl (Nat.le_of_ble_eq_true rfl) dX3_toAfter_15 ⟨Nat.zero_le _, Nat.zero_le _⟩ (fun r15 h15 => ?_)
  subst h15
  refine lv_goto (tgt := 22) hx hb dX3_toAfter_18 (by decide) ?_
  refine lv_istore (lv' := [(5, .int (nI ((n_.toInt % ((cl (nb x_) p_) : Int)).toNat))), (4, .int (nI (cl (nb x_) p_))), (0, .long x_), (2, .int n_), (3, .int (nI p_))]) hx hb dX3_toAfter_22 hl (by decide) rfl (fun ls hl => ?_)
  refine lv_iload_n hx hb dX3_toAfter_24 rfl (lv_at hl 4 rfl) ?_
  refine zi_top (v := nI (it (nb x_) 0 p_)) rfl ?_
  refine lv_istore (lv' := [(6, .int (nI (it (nb x_) 0 p_))), (5, .int (nI ((n_.toInt % ((cl (nb x_) p_) : Int)).toNat))), (4, .int (nI (cl (nb x_) p_))), (0, .long x_), (2, .int n_), (3, .int (nI p_))]) hx hb dX3_toAfter_25 hl (by decide) rfl (fun ls hl => ?_)
  refine lv_iconst (v := nI 0) hx hb dX3_toAfter_27 (by decide) ?_
  refine lv_istore (lv' := [(7, .int (nI 0)), (6, .int (nI (it (nb x_) 0 p_))), (5, .int (nI ((n_.toInt % ((cl (nb x_) p_) : Int)).toNat))), (4, .int (nI (cl (nb x_) p_))), (0, .long x_), (2, .int n_), (3, .int (nI p_))]) hx hb dX3_toAfter_28 hl (by decide) rfl (fun ls hl => ?_)
  have L30 : ∀ (kf_ : Nat) (i_ : Nat) (hi : i_ ≤ (n_.toInt % ((cl (nb x_) p_ : Nat) : Int)).toNat), (n_.toInt % ((cl (nb x_) p_ : Nat) : Int)).toNat - i_ < kf_ → ∀ ls : Array Slot, lv_has ls 8 [(0, .long x_), (2, .int n_), (3, .int (nI p_)), (4, .int (nI (cl (nb x_) p_))), (5, .int (nI ((n_.toInt % ((cl (nb x_) p_) : Int)).toNat))), (6, .int (nI (it (nb x_) i_ p_))), (7, .int (nI i_))] → W zp l ze r_X3_toAfter zs zm za zb zme zc zs.heap [] 0 0 Q (F0 zm 30 ls []) := by
    intro kf_
    induction kf_ with
    | zero => intro i_ hi hk_; exact absurd hk_ (Nat.not_lt_zero _)
    | succ kf_ ih30 =>
      intro i_ hi hk_ ls hl
      refine lv_iload hx hb dX3_toAfter_30 (lv_at hl 6 rfl) ?_
      refine lv_iload hx hb dX3_toAfter_32 (lv_at hl 4 rfl) ?_
      refine zb_ge (a := i_) (b := (n_.toInt % ((cl (nb x_) p_) : Int)).toNat) (tgt := 51) hx hb dX3_toAfter_34 (by decide) (by omega) (by omega) (fun c34 => ?_) (fun c34 => ?_)
      · skip
        refine lv_iload hx hb dX3_toAfter_51 (lv_at hl 5 rfl) ?_
        exact kr _ _ _ dX3_toAfter_53 (vp_nar_int _) (by rw [show i_ = (n_.toInt % ((cl (nb x_) p_ : Nat) : Int)).toNat by omega]; exact congrArg nI (pw_mod hx_ hp _))
      · skip
        refine lv_lload_n hx hb dX3_toAfter_37 rfl (lv_at hl 0 rfl) ?_
        refine lv_iload hx hb dX3_toAfter_38 (lv_at hl 5 rfl) ?_
        refine zcSi (As := [.long x_, .int (nI (it (nb x_) i_ p_))]) (rest := []) ⟨hx, hb, hml, hown, hts⟩ (c_X3_to l D cy x_ (it (nb x_) i_ p_) (it_lt (fun q_ _ => nb_lt x_ q_) hp)) (va_cwS 2 hts (zG_S zw_245 zw_246 zw_171 zw_247) rfl rfl rfl zd_X3_to ⟨Nat.le_of_ble_eq_true rfl, Nat.le_of_ble_eq_true rfl⟩) hK hP [] rfl rfl hl.1 rfl (Nat.le_of_ble_eq_true rfl) dX3_toAfter_40 ⟨Nat.zero_le _, Nat.zero_le _⟩ (fun r40 h40 => ?_)
        subst h40
        refine zi_top (v := nI (it (nb x_) (i_ + 1) p_)) (congrArg nI (it_succ _ _ _).symm) ?_
        refine lv_istore (lv' := [(6, .int (nI (it (nb x_) (i_ + 1) p_))), (0, .long x_), (2, .int n_), (3, .int (nI p_)), (4, .int (nI (cl (nb x_) p_))), (5, .int (nI ((n_.toInt % ((cl (nb x_) p_) : Int)).toNat))), (7, .int (nI i_))]) hx hb dX3_toAfter_43 hl (by decide) rfl (fun ls hl => ?_)
        refine lv_iinc (v := nI (i_ + 1)) (lv' := [(7, .int (nI (i_ + 1))), (6, .int (nI (it (nb x_) (i_ + 1) p_))), (0, .long x_), (2, .int n_), (3, .int (nI p_)), (4, .int (nI (cl (nb x_) p_))), (5, .int (nI ((n_.toInt % ((cl (nb x_) p_) : Int)).toNat)))]) hx hb dX3_toAfter_45 hl (k := 6) rfl (nI_1 _) (by decide) rfl (fun ls hl => ?_)
        refine lv_goto (tgt := 30) hx hb dX3_toAfter_48 (by decide) ?_
        exact ih30 (i_ + 1) (by omega) (by omega) _ (lv_sub hl [2, 3, 4, 5, 6, 1, 0] rfl)
  exact L30 ((n_.toInt % ((cl (nb x_) p_ : Nat) : Int)).toNat - 0 + 1) 0 (by omega) (Nat.lt_succ_self _) _ (lv_sub hl [4, 5, 6, 3, 2, 1, 0] rfl)
abbrev w_X3_times : List Cond := Cond.code yX3_times cX3_times 6 (some .long) :: zAll
abbrev r_X3_times : Room := { frames := 3, cells := 0, slots := 0, locals := 73 }
theorem zd_X3_times : yX3_times.cls ≠ "java/lang/invoke/MethodHandle" ∧ yX3_times.cls ≠ "java/lang/invoke/VarHandle" ∧ (parseMethodDescriptor yX3_times.desc).map (fun d => d.parameters.length) = some 2 := by decide +kernel
set_option maxHeartbeats 4000000 in
set_option maxRecDepth 100000 in
theorem c_X3_times (l : Launch) (D : va_G) (cy : Nat → ClassId) (x_ : Int64) (n_ : Int32) (hx_ : P16 (nb x_)) : zMl l yX3_times w_X3_times r_X3_times D cy [] [.long x_, .int n_] (fun r_ => r_ = timesL x_ n_.toInt) := by
  refine zOfRl (cc := cX3_times) (maxL := 6) (by decide) rfl (Nat.le_of_ble_eq_true rfl) ?_
  intro zp ze zs zm za zb zme zc hx hb hml hts hown hP hK Q kr ls hl
  have hown : zs.vm.findClass RX3 = some zm.cls := hown
  have hl : lv_has ls 6 [(0, .long x_), (2, .int n_)] := hl
  refine lv_lconst (v := lN 0) hx hb dX3_times_0 rfl ?_
  refine zl_top (v := pk (zfl (pw x_ n_.toInt) 0)) (zfl_0 _) ?_
  refine lv_lstore_n (lv' := [(3, .long (pk (zfl (pw x_ n_.toInt) 0))), (0, .long x_), (2, .int n_)]) hx hb dX3_times_1 rfl hl (by decide) rfl (fun ls hl => ?_)
  refine lv_iconst (v := nI 0) hx hb dX3_times_2 (by decide) ?_
  refine lv_istore (lv' := [(5, .int (nI 0)), (3, .long (pk (zfl (pw x_ n_.toInt) 0))), (0, .long x_), (2, .int n_)]) hx hb dX3_times_3 hl (by decide) rfl (fun ls hl => ?_)
  have L5 : ∀ (kf_ : Nat) (i_ : Nat) (hi : i_ ≤ 16), 16 - i_ < kf_ → ∀ ls : Array Slot, lv_has ls 6 [(0, .long x_), (2, .int n_), (3, .long (pk (zfl (pw x_ n_.toInt) i_))), (5, .int (nI i_))] → W zp l ze r_X3_times zs zm za zb zme zc zs.heap [] 0 0 Q (F0 zm 5 ls []) := by
    intro kf_
    induction kf_ with
    | zero => intro i_ hi hk_; exact absurd hk_ (Nat.not_lt_zero _)
    | succ kf_ ih5 =>
      intro i_ hi hk_ ls hl
      refine lv_iload hx hb dX3_times_5 (lv_at hl 3 rfl) ?_
      refine lv_bipush (v := nI 16) hx hb dX3_times_7 (by decide) ?_
      refine zb_ge (a := i_) (b := 16) (tgt := 32) hx hb dX3_times_9 (by decide) (by omega) (by omega) (fun c9 => ?_) (fun c9 => ?_)
      · skip
        refine lv_lload_n hx hb dX3_times_32 rfl (lv_at hl 2 rfl) ?_
        exact kr _ _ _ dX3_times_33 (by rw [show i_ = 16 by omega]; exact zfl_e _)
      · skip
        refine lv_lload_n hx hb dX3_times_12 rfl (lv_at hl 2 rfl) ?_
        refine lv_iload hx hb dX3_times_13 (lv_at hl 3 rfl) ?_
        refine lv_lload_n hx hb dX3_times_15 rfl (lv_at hl 0 rfl) ?_
        refine lv_iload_n hx hb dX3_times_16 rfl (lv_at hl 1 rfl) ?_
        refine lv_iload hx hb dX3_times_17 (lv_at hl 3 rfl) ?_
        refine zcSi (As := [.long x_, .int n_, .int (nI i_)]) (rest := [.int (nI i_), .long (pk (zfl (pw x_ n_.toInt) i_))]) ⟨hx, hb, hml, hown, hts⟩ (c_X3_toAfter l D cy x_ n_ i_ hx_ (by omega)) (va_cwS 3 hts (zG_S zw_279 zw_280 zw_171 zw_281) rfl rfl rfl zd_X3_toAfter ⟨Nat.le_of_ble_eq_true rfl, Nat.le_of_ble_eq_true rfl⟩) hK hP [] rfl rfl hl.1 rfl (Nat.le_of_ble_eq_true rfl) dX3_times_19 ⟨Nat.zero_le _, Nat.zero_le _⟩ (fun r19 h19 => ?_)
        subst h19
        refine zcSl (As := [.long (pk (zfl (pw x_ n_.toInt) i_)), .int (nI i_), .int (nI (pw x_ n_.toInt i_))]) (rest := []) ⟨hx, hb, hml, hown, hts⟩ (c_X3_with l D cy (pk (zfl (pw x_ n_.toInt) i_)) i_ (pw x_ n_.toInt i_) (by omega) (pw_lt _ _ (by omega))) (va_cwS 3 hts (zG_S zw_248 zw_170 zw_171 zw_172) rfl rfl rfl zd_X3_with ⟨Nat.le_of_ble_eq_true rfl, Nat.le_of_ble_eq_true rfl⟩) hK hP [] rfl rfl hl.1 rfl (Nat.le_of_ble_eq_true rfl) dX3_times_22 ⟨Nat.zero_le _, Nat.zero_le _⟩ (fun r22 h22 => ?_)
        subst h22
        refine zl_top (v := pk (zfl (pw x_ n_.toInt) (i_ + 1))) (zfl_s (g := (pw x_ n_.toInt)) (by omega) (pw_lt _ _ (by omega))) ?_
        refine lv_lstore_n (lv' := [(3, .long (pk (zfl (pw x_ n_.toInt) (i_ + 1)))), (0, .long x_), (2, .int n_), (5, .int (nI i_))]) hx hb dX3_times_25 rfl hl (by decide) rfl (fun ls hl => ?_)
        refine lv_iinc (v := nI (i_ + 1)) (lv' := [(5, .int (nI (i_ + 1))), (3, .long (pk (zfl (pw x_ n_.toInt) (i_ + 1)))), (0, .long x_), (2, .int n_)]) hx hb dX3_times_26 hl (k := 3) rfl (nI_1 _) (by decide) rfl (fun ls hl => ?_)
        refine lv_goto (tgt := 5) hx hb dX3_times_29 (by decide) ?_
        exact ih5 (i_ + 1) (by omega) (by omega) _ (lv_sub hl [2, 3, 1, 0] rfl)
  exact L5 (16 - 0 + 1) 0 (by omega) (Nat.lt_succ_self _) _ (lv_sub hl [2, 3, 1, 0] rfl)
abbrev w_X3_fixedPlaces : List Cond := Cond.code yX3_fixedPlaces cX3_fixedPlaces 5 (some .int) :: zAll
abbrev r_X3_fixedPlaces : Room := { frames := 1, cells := 0, slots := 0, locals := 22 }
theorem zd_X3_fixedPlaces : yX3_fixedPlaces.cls ≠ "java/lang/invoke/MethodHandle" ∧ yX3_fixedPlaces.cls ≠ "java/lang/invoke/VarHandle" ∧ (parseMethodDescriptor yX3_fixedPlaces.desc).map (fun d => d.parameters.length) = some 2 := by decide +kernel
set_option maxHeartbeats 4000000 in
set_option maxRecDepth 100000 in
theorem c_X3_fixedPlaces (l : Launch) (D : va_G) (cy : Nat → ClassId) (x_ : Int64) (n_ : Nat) (hn : n_ ≤ 16) : zMi l yX3_fixedPlaces w_X3_fixedPlaces r_X3_fixedPlaces D cy [] [.long x_, .int (nI n_)] (fun r_ => r_ = nI (fixM x_ n_)) := by
  refine zOfR (cc := cX3_fixedPlaces) (maxL := 5) (ty := .int) (by decide) rfl (Nat.le_of_ble_eq_true rfl) ?_
  intro zp ze zs zm za zb zme zc hx hb hml hts hown hP hK Q kr ls hl
  have hown : zs.vm.findClass RX3 = some zm.cls := hown
  have hl : lv_has ls 5 [(0, .long x_), (2, .int (nI n_))] := hl
  refine lv_iconst (v := nI 0) hx hb dX3_fixedPlaces_0 (by decide) ?_
  refine zi_top (v := nI (fixM x_ 0)) rfl ?_
  refine lv_istore_n (lv' := [(3, .int (nI (fixM x_ 0))), (0, .long x_), (2, .int (nI n_))]) hx hb dX3_fixedPlaces_1 rfl hl (by decide) rfl (fun ls hl => ?_)
  refine lv_iconst (v := nI 0) hx hb dX3_fixedPlaces_2 (by decide) ?_
  refine lv_istore (lv' := [(4, .int (nI 0)), (3, .int (nI (fixM x_ 0))), (0, .long x_), (2, .int (nI n_))]) hx hb dX3_fixedPlaces_3 hl (by decide) rfl (fun ls hl => ?_)
  have L5 : ∀ (kf_ : Nat) (i_ : Nat) (hi : i_ ≤ n_), n_ - i_ < kf_ → ∀ ls : Array Slot, lv_has ls 5 [(0, .long x_), (2, .int (nI n_)), (3, .int (nI (fixM x_ i_))), (4, .int (nI i_))] → W zp l ze r_X3_fixedPlaces zs zm za zb zme zc zs.heap [] 0 0 Q (F0 zm 5 ls []) := by
    intro kf_
    induction kf_ with
    | zero => intro i_ hi hk_; exact absurd hk_ (Nat.not_lt_zero _)
    | succ kf_ ih5 =>
      intro i_ hi hk_ ls hl
      refine lv_iload hx hb dX3_fixedPlaces_5 (lv_at hl 3 rfl) ?_
      refine lv_iload_n hx hb dX3_fixedPlaces_7 rfl (lv_at hl 1 rfl) ?_
      refine zb_ge (a := i_) (b := n_) (tgt := 35) hx hb dX3_fixedPlaces_8 (by decide) (by omega) (by omega) (fun c8 => ?_) (fun c8 => ?_)
      · skip
        refine lv_iload_n hx hb dX3_fixedPlaces_35 rfl (lv_at hl 2 rfl) ?_
        exact kr _ _ _ dX3_fixedPlaces_36 (vp_nar_int _) (by rw [show i_ = n_ by omega])
      · skip
        refine lv_lload_n hx hb dX3_fixedPlaces_11 rfl (lv_at hl 0 rfl) ?_
        refine lv_iload hx hb dX3_fixedPlaces_12 (lv_at hl 3 rfl) ?_
        refine zcSi (As := [.long x_, .int (nI i_)]) (rest := []) ⟨hx, hb, hml, hown, hts⟩ (c_X3_to l D cy x_ i_ (by omega)) (va_cwS 2 hts (zG_S zw_245 zw_246 zw_171 zw_247) rfl rfl rfl zd_X3_to ⟨Nat.le_of_ble_eq_true rfl, Nat.le_of_ble_eq_true rfl⟩) hK hP [] rfl rfl hl.1 rfl (Nat.le_of_ble_eq_true rfl) dX3_fixedPlaces_14 ⟨Nat.zero_le _, Nat.zero_le _⟩ (fun r14 h14 => ?_)
        subst h14
        refine lv_iload hx hb dX3_fixedPlaces_17 (lv_at hl 3 rfl) ?_
        have hb19 := nb_lt x_ i_
        refine zb_ne (a := nb x_ i_) (b := i_) (tgt := 29) hx hb dX3_fixedPlaces_19 (by decide) (by omega) (by omega) (fun c19 => ?_) (fun c19 => ?_)
        · skip
          have e_ : nI (fixM x_ i_) = nI (fixM x_ (i_ + 1)) := fixM_no c19
          rw [e_] at hl
          refine lv_iinc (v := nI (i_ + 1)) (lv' := [(4, .int (nI (i_ + 1))), (0, .long x_), (2, .int (nI n_)), (3, .int (nI (fixM x_ (i_ + 1))))]) hx hb dX3_fixedPlaces_29 hl (k := 3) rfl (nI_1 _) (by decide) rfl (fun ls hl => ?_)
          refine lv_goto (tgt := 5) hx hb dX3_fixedPlaces_32 (by decide) ?_
          exact ih5 (i_ + 1) (by omega) (by omega) _ (lv_sub hl [1, 2, 3, 0] rfl)
        · skip
          refine lv_iload_n hx hb dX3_fixedPlaces_22 rfl (lv_at hl 2 rfl) ?_
          refine lv_iconst (v := nI 1) hx hb dX3_fixedPlaces_23 (by decide) ?_
          refine lv_iload hx hb dX3_fixedPlaces_24 (lv_at hl 3 rfl) ?_
          refine zi_shl (v := nI (2 ^ i_)) hx hb dX3_fixedPlaces_26 (zz_shl1 (by omega)) ?_
          refine zi_or (v := nI (fixM x_ (i_ + 1))) hx hb dX3_fixedPlaces_27 (fixM_yes c19) ?_
          refine lv_istore_n (lv' := [(3, .int (nI (fixM x_ (i_ + 1)))), (0, .long x_), (2, .int (nI n_)), (4, .int (nI i_))]) hx hb dX3_fixedPlaces_28 rfl hl (by decide) rfl (fun ls hl => ?_)
          refine lv_iinc (v := nI (i_ + 1)) (lv' := [(4, .int (nI (i_ + 1))), (3, .int (nI (fixM x_ (i_ + 1)))), (0, .long x_), (2, .int (nI n_))]) hx hb dX3_fixedPlaces_29 hl (k := 3) rfl (nI_1 _) (by decide) rfl (fun ls hl => ?_)
          refine lv_goto (tgt := 5) hx hb dX3_fixedPlaces_32 (by decide) ?_
          exact ih5 (i_ + 1) (by omega) (by omega) _ (lv_sub hl [2, 3, 1, 0] rfl)
  exact L5 (n_ - 0 + 1) 0 (by omega) (Nat.lt_succ_self _) _ (lv_sub hl [2, 3, 1, 0] rfl)
end
section
/-! cuts, riffles, turnings in numbers; contents of rows in numbers -/
def cutF (k n p : Nat) : Nat := if p < k then p + n - k else p - k
def cuI (k n q : Nat) : Nat := if q + k < n then q + k else q + k - n
theorem cutF_lt {k n p : Nat} (hk : k ≤ n) (hp : p < n) : cutF k n p < n := by unfold cutF; split <;> omega
theorem cuI_lt {k n q : Nat} (hk : k < n) (hq : q < n) : cuI k n q < n := by unfold cuI; split <;> omega
theorem cuI_cutF {k n p : Nat} (hk : k < n) (hp : p < n) : cuI k n (cutF k n p) = p := by unfold cuI cutF; split <;> split <;> omega
theorem cutF_cuI {k n q : Nat} (hk : k < n) (hq : q < n) : cutF k n (cuI k n q) = q := by unfold cuI cutF; split <;> split <;> omega
theorem zz_cutA {k n p : Nat} (h : p < k) (hk : k ≤ n) (hn : n ≤ 16) : nI p - nI k + nI n = nI (cutF k n p) := by
  have e : cutF k n p = p + n - k := by unfold cutF; rw [if_pos h]
  rw [e]
  apply Int32.toInt_inj.mp
  rw [nI_toInt (by omega), fb_addI] <;> rw [pk_sub_toInt (by omega) (by omega), nI_toInt (by omega)] <;> omega
def rifH (b n : Nat) : Nat := if b = 0 then (n + 1) / 2 else n / 2
def rifF (b n p : Nat) : Nat := if p < rifH b n then 2 * p + b else 2 * (p - rifH b n) + 1 - b
theorem rif_lo {b n p h : Nat} (hh : h = rifH b n) (hp : p < h) : 2 * p + b = rifF b n p := by subst hh; unfold rifF; rw [if_pos hp]
theorem rif_hi {b n p h : Nat} (hh : h = rifH b n) (hp : h ≤ p) : 2 * (p - h) + 1 - b = rifF b n p := by subst hh; unfold rifF; rw [if_neg (by omega)]
theorem rifF_lt {b n p : Nat} (hb : b ≤ 1) (hp : p < n) : rifF b n p < n := by
  unfold rifF rifH
  rcases (show b = 0 ∨ b = 1 by omega) with rfl | rfl
  · rw [if_pos rfl]; split <;> omega
  · rw [if_neg (show ¬ (1 : Nat) = 0 by decide)]; split <;> omega
def stepF (t n p : Nat) : Nat := if t = 0 then cutF 1 n p else if t = 1 then rifF 0 n p else if t = 2 then rifF 1 n p else n - 1 - p
theorem stepF_lt {t n p : Nat} (hp : p < n) : stepF t n p < n := by
  unfold stepF
  split
  · exact cutF_lt (by omega) hp
  · split
    · exact rifF_lt (by omega) hp
    · split
      · exact rifF_lt (by omega) hp
      · omega
def perL (g : Nat → Nat) (n : Nat) : Int64 := pk (fun q => if q < n then g q else q)
theorem stay_perL (g : Nat → Nat) : (-81985529216486896 : Int64) = perL g 0 := by
  have e : perL g 0 = pk (fun q => q) := pk_congr' (fun q _ => by rw [if_neg (by omega)])
  rw [e]
  decide +kernel
theorem perL_s {g : Nat → Nat} {i : Nat} (hi : i < 16) (hg : g i < 16) : wN (perL g i) i (g i) = perL g (i + 1) := by
  apply nb_ext
  intro q hq
  unfold perL
  rw [nb_wN _ hq hg, nb_pk _ hq, nb_pk _ hq]
  by_cases h : q = i
  · subst h
    rw [if_pos rfl, if_pos (by omega), Nat.mod_eq_of_lt hg]
  · rw [if_neg h]
    by_cases h2 : q < i
    · rw [if_pos h2, if_pos (by omega)]
    · rw [if_neg h2, if_neg (by omega)]
theorem nb_perL {g : Nat → Nat} {n p : Nat} (hp : p < 16) (hn : n ≤ 16) (hg : ∀ q, q < n → g q < n) : nb (perL g n) p = if p < n then g p else p := by
  unfold perL
  rw [nb_pk' hp]
  split
  · have := hg p (by omega); omega
  · exact hp
theorem perL_WF {g : Nat → Nat} {n : Nat} (hn : n ≤ 16) (hg : ∀ q, q < n → g q < n) (hi : ∀ p q, p < n → q < n → g p = g q → p = q) : WF n (perL g n) := by
  refine ⟨⟨fun p _ => nb_lt _ p, fun p q hp hq e => ?_⟩, fun p hp hp2 => ?_⟩
  · rw [nb_perL hp hn hg, nb_perL hq hn hg] at e
    by_cases h1 : p < n
    · by_cases h2 : q < n
      · rw [if_pos h1, if_pos h2] at e; exact hi p q h1 h2 e
      · rw [if_pos h1, if_neg h2] at e; have := hg p h1; omega
    · by_cases h2 : q < n
      · rw [if_neg h1, if_pos h2] at e; have := hg q h2; omega
      · rw [if_neg h1, if_neg h2] at e; exact e
  · rw [nb_perL hp2 hn hg, if_neg (by omega)]
def stayL : Int64 := -81985529216486896
theorem stayL_eq : stayL = pk (fun q => q) := by decide +kernel
theorem nb_stay {p : Nat} (hp : p < 16) : nb stayL p = p := by rw [stayL_eq, nb_pk' hp hp]
theorem stay_WF (n : Nat) : WF n stayL := ⟨⟨fun p _ => nb_lt _ p, fun p q hp hq e => by rw [nb_stay hp, nb_stay hq] at e; exact e⟩, fun p _ hp => nb_stay hp⟩
def becF (x : Int64) (k n i : Nat) : Nat → Nat := fun q => if q < n ∧ cuI k n q < i then cutF k n (nb x (cuI k n q)) else q
def becL (x : Int64) (k n : Nat) : Int64 := pk (becF x k n n)
theorem bec_0 (x : Int64) (k n : Nat) : (-81985529216486896 : Int64) = pk (becF x k n 0) := by
  have e : pk (becF x k n 0) = pk (fun q => q) := pk_congr' (fun q _ => by unfold becF; rw [if_neg (by omega)])
  rw [e]
  decide +kernel
theorem bec_s {x : Int64} {k n i : Nat} (hw : WF n x) (hn : n ≤ 16) (hk : k < n) (hi : i < n) : wN (pk (becF x k n i)) (cutF k n i) (cutF k n (nb x i)) = pk (becF x k n (i + 1)) := by
  have hx := hw.lt hi hn
  have h1 := cutF_lt (p := nb x i) (Nat.le_of_lt hk) hx
  have h2 := cutF_lt (p := i) (Nat.le_of_lt hk) hi
  apply nb_ext
  intro q hq
  rw [nb_wN _ hq (by omega), nb_pk _ hq, nb_pk _ hq]
  unfold becF
  by_cases h : q = cutF k n i
  · subst h
    rw [if_pos rfl, cuI_cutF hk hi, if_pos ⟨h2, by omega⟩, Nat.mod_eq_of_lt (by omega)]
  · rw [if_neg h]
    by_cases h3 : q < n
    · have h4 : cuI k n q ≠ i := fun e => h (by rw [← e, cutF_cuI hk h3])
      by_cases h5 : cuI k n q < i
      · rw [if_pos ⟨h3, h5⟩, if_pos ⟨h3, by omega⟩]
      · rw [if_neg (by omega), if_neg (by omega)]
    · rw [if_neg (by omega), if_neg (by omega)]
theorem nb_bec {x : Int64} {k n p : Nat} (hw : WF n x) (hn : n ≤ 16) (hk : k < n) (hp : p < 16) : nb (becL x k n) p = if p < n then cutF k n (nb x (cuI k n p)) else p := by
  have e : becF x k n n p = if p < n then cutF k n (nb x (cuI k n p)) else p := by
    unfold becF
    by_cases h : p < n
    · rw [if_pos ⟨h, cuI_lt hk h⟩, if_pos h]
    · rw [if_neg (by omega), if_neg h]
  unfold becL
  rw [nb_pk' hp, e]
  rw [e]
  split
  · next h => have := cutF_lt (p := nb x (cuI k n p)) (Nat.le_of_lt hk) (hw.lt (cuI_lt hk h) hn); omega
  · exact hp
/-- contents of rows: whole numbers from 0 on, truth values -/
def nIf (c : Nat → Nat) : Nat → Int32 := fun j => nI (c j)
def nBf (b : Nat → Bool) : Nat → Int32 := fun j => if b j = true then 1 else 0
def uN1 (c : Nat → Nat) (k v : Nat) : Nat → Nat := fun j => if j = k then v else c j
def uB1 (b : Nat → Bool) (k : Nat) (v : Bool) : Nat → Bool := fun j => if j = k then v else b j
theorem upd_nIf (c : Nat → Nat) (k v : Nat) : upd (nIf c) k (nI v) = nIf (uN1 c k v) := by
  funext j
  unfold upd nIf uN1
  split <;> rfl
theorem upd_nB1 (b : Nat → Bool) (k : Nat) : upd (nBf b) k (nI 1) = nBf (uB1 b k true) := by
  funext j
  unfold upd nBf uB1
  split <;> rfl
theorem upd_nB0 (b : Nat → Bool) (k : Nat) : upd (nBf b) k (nI 0) = nBf (uB1 b k false) := by
  funext j
  unfold upd nBf uB1
  split <;> rfl
theorem uN1_s (c : Nat → Nat) (k v : Nat) : uN1 c k v k = v := if_pos rfl
theorem uN1_n (c : Nat → Nat) {k v j : Nat} (h : j ≠ k) : uN1 c k v j = c j := if_neg h
theorem uB1_s (c : Nat → Bool) (k : Nat) (v : Bool) : uB1 c k v k = v := if_pos rfl
theorem uB1_n (c : Nat → Bool) {k j : Nat} {v : Bool} (h : j ≠ k) : uB1 c k v j = c j := if_neg h
/-- one bit of a mask, as the code asks for it -/
theorem zz_tb (m i : Nat) : nI (m / 2 ^ i) &&& nI 1 = if m.testBit i = true then 1 else 0 := by
  rw [fa_and, show (1 : Nat) = 2 ^ 1 - 1 from rfl, Nat.and_two_pow_sub_one_eq_mod, ← Nat.shiftRight_eq_div_pow]
  have h : m.testBit i = decide (m >>> i % 2 = 1) := by
    rw [Nat.testBit_eq_decide_div_mod_eq, Nat.shiftRight_eq_div_pow]
  rw [h]
  rcases (show m >>> i % 2 = 0 ∨ m >>> i % 2 = 1 by omega) with q | q <;> simp [q] <;> rfl
end
section
abbrev w_X5_cutTo : List Cond := Cond.code yX5_cutTo cX5_cutTo 3 (some .int) :: zAll
abbrev r_X5_cutTo : Room := { frames := 0, cells := 0, slots := 0, locals := 0 }
theorem zd_X5_cutTo : yX5_cutTo.cls ≠ "java/lang/invoke/MethodHandle" ∧ yX5_cutTo.cls ≠ "java/lang/invoke/VarHandle" ∧ (parseMethodDescriptor yX5_cutTo.desc).map (fun d => d.parameters.length) = some 3 := by decide +kernel
set_option maxHeartbeats 4000000 in
set_option maxRecDepth 100000 in
theorem c_X5_cutTo (l : Launch) (D : va_G) (cy : Nat → ClassId) (k_ : Nat) (p_ : Nat) (n_ : Nat) (hk : k_ ≤ n_) (hp : p_ < n_) (hn : n_ ≤ 16) : zMi l yX5_cutTo w_X5_cutTo r_X5_cutTo D cy [] [.int (nI k_), .int (nI p_), .int (nI n_)] (fun r_ => r_ = nI (cutF k_ n_ p_)) := by
  refine zOfR (cc := cX5_cutTo) (maxL := 3) (ty := .int) (by decide) rfl (Nat.le_of_ble_eq_true rfl) ?_
  intro zp ze zs zm za zb zme zc hx hb hml hts hown hP hK Q kr ls hl
  have hown : zs.vm.findClass RX5 = some zm.cls := hown
  have hl : lv_has ls 3 [(0, .int (nI k_)), (1, .int (nI p_)), (2, .int (nI n_))] := hl
  refine lv_iload_n hx hb dX5_cutTo_0 rfl (lv_at hl 1 rfl) ?_
  refine lv_iload_n hx hb dX5_cutTo_1 rfl (lv_at hl 0 rfl) ?_
  refine zb_ge (a := p_) (b := k_) (tgt := 13) hx hb dX5_cutTo_2 (by decide) (by omega) (by omega) (fun c2 => ?_) (fun c2 => ?_)
  · skip
    refine lv_iload_n hx hb dX5_cutTo_13 rfl (lv_at hl 1 rfl) ?_
    refine lv_iload_n hx hb dX5_cutTo_14 rfl (lv_at hl 0 rfl) ?_
    refine zi_sub (v := nI (p_ - k_)) hx hb dX5_cutTo_15 (pk_sub (by omega)) ?_
    exact kr _ _ _ dX5_cutTo_16 (vp_nar_int _) (congrArg nI (by unfold cutF; rw [if_neg (by omega)]))
  · skip
    refine lv_iload_n hx hb dX5_cutTo_5 rfl (lv_at hl 1 rfl) ?_
    refine lv_iload_n hx hb dX5_cutTo_6 rfl (lv_at hl 0 rfl) ?_
    refine zi_sub (v := (nI p_) - (nI k_)) hx hb dX5_cutTo_7 rfl ?_
    refine lv_iload_n hx hb dX5_cutTo_8 rfl (lv_at hl 2 rfl) ?_
    refine zi_add (v := nI (cutF k_ n_ p_)) hx hb dX5_cutTo_9 (zz_cutA c2 hk hn) ?_
    refine lv_goto (tgt := 16) hx hb dX5_cutTo_10 (by decide) ?_
    exact kr _ _ _ dX5_cutTo_16 (vp_nar_int _) rfl
abbrev w_X5_riffleTo : List Cond := Cond.code yX5_riffleTo cX5_riffleTo 5 (some .int) :: zAll
abbrev r_X5_riffleTo : Room := { frames := 0, cells := 0, slots := 0, locals := 0 }
theorem zd_X5_riffleTo : yX5_riffleTo.cls ≠ "java/lang/invoke/MethodHandle" ∧ yX5_riffleTo.cls ≠ "java/lang/invoke/VarHandle" ∧ (parseMethodDescriptor yX5_riffleTo.desc).map (fun d => d.parameters.length) = some 3 := by decide +kernel
set_option maxHeartbeats 4000000 in
set_option maxRecDepth 100000 in
theorem c_X5_riffleTo (l : Launch) (D : va_G) (cy : Nat → ClassId) (b_ : Nat) (p_ : Nat) (n_ : Nat) (hb_ : b_ ≤ 1) (hp : p_ < n_) (hn : n_ ≤ 16) : zMi l yX5_riffleTo w_X5_riffleTo r_X5_riffleTo D cy [] [.int (nI b_), .int (nI p_), .int (nI n_)] (fun r_ => r_ = nI (rifF b_ n_ p_)) := by
  refine zOfR (cc := cX5_riffleTo) (maxL := 5) (ty := .int) (by decide) rfl (Nat.le_of_ble_eq_true rfl) ?_
  intro zp ze zs zm za zb zme zc hx hb hml hts hown hP hK Q kr ls hl
  have hown : zs.vm.findClass RX5 = some zm.cls := hown
  have hl : lv_has ls 5 [(0, .int (nI b_)), (1, .int (nI p_)), (2, .int (nI n_))] := hl
  refine lv_iload_n hx hb dX5_riffleTo_0 rfl (lv_at hl 0 rfl) ?_
  refine zb0_eq (a := b_) (tgt := 10) hx hb dX5_riffleTo_1 (by decide) (by omega) (fun c1 => ?_) (fun c1 => ?_)
  · skip
    refine lv_iload_n hx hb dX5_riffleTo_10 rfl (lv_at hl 2 rfl) ?_
    refine lv_iconst (v := nI 1) hx hb dX5_riffleTo_11 (by decide) ?_
    refine zi_add (v := nI (n_ + 1)) hx hb dX5_riffleTo_12 (nI_add _ _) ?_
    refine lv_iconst (v := nI 2) hx hb dX5_riffleTo_13 (by decide) ?_
    refine zi_div (v := nI ((n_ + 1) / 2)) hx hb dX5_riffleTo_14 (nI_ne0 (by omega) (by omega)) (pk_div (by omega) (by omega) (by omega)) ?_
    refine lv_istore_n (lv' := [(3, .int (nI ((n_ + 1) / 2))), (0, .int (nI b_)), (1, .int (nI p_)), (2, .int (nI n_))]) hx hb dX5_riffleTo_15 rfl hl (by decide) rfl (fun ls hl => ?_)
    refine lv_iload_n hx hb dX5_riffleTo_16 rfl (lv_at hl 1 rfl) ?_
    refine zb0_eq (a := b_) (tgt := 24) hx hb dX5_riffleTo_17 (by decide) (by omega) (fun c17 => ?_) (fun c17 => ?_)
    · skip
      refine lv_iconst (v := nI 0) hx hb dX5_riffleTo_24 (by decide) ?_
      refine lv_istore (lv' := [(4, .int (nI 0)), (3, .int (nI ((n_ + 1) / 2))), (0, .int (nI b_)), (1, .int (nI p_)), (2, .int (nI n_))]) hx hb dX5_riffleTo_25 hl (by decide) rfl (fun ls hl => ?_)
      refine lv_iload_n hx hb dX5_riffleTo_27 rfl (lv_at hl 3 rfl) ?_
      refine lv_iload_n hx hb dX5_riffleTo_28 rfl (lv_at hl 1 rfl) ?_
      refine zb_ge (a := p_) (b := (n_ + 1) / 2) (tgt := 41) hx hb dX5_riffleTo_29 (by decide) (by omega) (by omega) (fun c29 => ?_) (fun c29 => ?_)
      · skip
        refine lv_iconst (v := nI 2) hx hb dX5_riffleTo_41 (by decide) ?_
        refine lv_iload_n hx hb dX5_riffleTo_42 rfl (lv_at hl 3 rfl) ?_
        refine lv_iload_n hx hb dX5_riffleTo_43 rfl (lv_at hl 1 rfl) ?_
        refine zi_sub (v := nI (p_ - ((n_ + 1) / 2))) hx hb dX5_riffleTo_44 (pk_sub (by omega)) ?_
        refine zi_mul (v := nI (2 * (p_ - ((n_ + 1) / 2)))) hx hb dX5_riffleTo_45 (pk_mul _ _) ?_
        refine lv_iconst (v := nI 1) hx hb dX5_riffleTo_46 (by decide) ?_
        refine zi_add (v := nI ((2 * (p_ - ((n_ + 1) / 2))) + 1)) hx hb dX5_riffleTo_47 (nI_add _ _) ?_
        refine lv_iload hx hb dX5_riffleTo_48 (lv_at hl 0 rfl) ?_
        refine zi_sub (v := nI (((2 * (p_ - ((n_ + 1) / 2))) + 1) - 0)) hx hb dX5_riffleTo_50 (pk_sub (by omega)) ?_
        exact kr _ _ _ dX5_riffleTo_51 (vp_nar_int _) (congrArg nI (Eq.trans (show 2 * (p_ - ((n_ + 1) / 2)) + 1 - 0 = 2 * (p_ - ((n_ + 1) / 2)) + 1 - b_ by omega) (rif_hi (h := (n_ + 1) / 2) (by unfold rifH; split <;> omega) (by omega))))
      · skip
        refine lv_iconst (v := nI 2) hx hb dX5_riffleTo_32 (by decide) ?_
        refine lv_iload_n hx hb dX5_riffleTo_33 rfl (lv_at hl 3 rfl) ?_
        refine zi_mul (v := nI (2 * p_)) hx hb dX5_riffleTo_34 (pk_mul _ _) ?_
        refine lv_iload hx hb dX5_riffleTo_35 (lv_at hl 0 rfl) ?_
        refine zi_add (v := nI ((2 * p_) + 0)) hx hb dX5_riffleTo_37 (nI_add _ _) ?_
        refine lv_goto (tgt := 51) hx hb dX5_riffleTo_38 (by decide) ?_
        exact kr _ _ _ dX5_riffleTo_51 (vp_nar_int _) (congrArg nI (Eq.trans (show 2 * p_ + 0 = 2 * p_ + b_ by omega) (rif_lo (h := (n_ + 1) / 2) (by unfold rifH; split <;> omega) (by omega))))
    · skip
      refine lv_iconst (v := nI 1) hx hb dX5_riffleTo_20 (by decide) ?_
      refine lv_goto (tgt := 25) hx hb dX5_riffleTo_21 (by decide) ?_
      refine lv_istore (lv' := [(4, .int (nI 1)), (3, .int (nI ((n_ + 1) / 2))), (0, .int (nI b_)), (1, .int (nI p_)), (2, .int (nI n_))]) hx hb dX5_riffleTo_25 hl (by decide) rfl (fun ls hl => ?_)
      refine lv_iload_n hx hb dX5_riffleTo_27 rfl (lv_at hl 3 rfl) ?_
      refine lv_iload_n hx hb dX5_riffleTo_28 rfl (lv_at hl 1 rfl) ?_
      refine zb_ge (a := p_) (b := (n_ + 1) / 2) (tgt := 41) hx hb dX5_riffleTo_29 (by decide) (by omega) (by omega) (fun c29 => ?_) (fun c29 => ?_)
      · skip
        refine lv_iconst (v := nI 2) hx hb dX5_riffleTo_41 (by decide) ?_
        refine lv_iload_n hx hb dX5_riffleTo_42 rfl (lv_at hl 3 rfl) ?_
        refine lv_iload_n hx hb dX5_riffleTo_43 rfl (lv_at hl 1 rfl) ?_
        refine zi_sub (v := nI (p_ - ((n_ + 1) / 2))) hx hb dX5_riffleTo_44 (pk_sub (by omega)) ?_
        refine zi_mul (v := nI (2 * (p_ - ((n_ + 1) / 2)))) hx hb dX5_riffleTo_45 (pk_mul _ _) ?_
        refine lv_iconst (v := nI 1) hx hb dX5_riffleTo_46 (by decide) ?_
        refine zi_add (v := nI ((2 * (p_ - ((n_ + 1) / 2))) + 1)) hx hb dX5_riffleTo_47 (nI_add _ _) ?_
        refine lv_iload hx hb dX5_riffleTo_48 (lv_at hl 0 rfl) ?_
        refine zi_sub (v := nI (((2 * (p_ - ((n_ + 1) / 2))) + 1) - 1)) hx hb dX5_riffleTo_50 (pk_sub (by omega)) ?_
        exact kr _ _ _ dX5_riffleTo_51 (vp_nar_int _) (congrArg nI (Eq.trans (show 2 * (p_ - ((n_ + 1) / 2)) + 1 - 1 = 2 * (p_ - ((n_ + 1) / 2)) + 1 - b_ by omega) (rif_hi (h := (n_ + 1) / 2) (by unfold rifH; split <;> omega) (by omega))))
      · skip
        refine lv_iconst (v := nI 2) hx hb dX5_riffleTo_32 (by decide) ?_
        refine lv_iload_n hx hb dX5_riffleTo_33 rfl (lv_at hl 3 rfl) ?_
        refine zi_mul (v := nI (2 * p_)) hx hb dX5_riffleTo_34 (pk_mul _ _) ?_
        refine lv_iload hx hb dX5_riffleTo_35 (lv_at hl 0 rfl) ?_
        refine zi_add (v := nI ((2 * p_) + 1)) hx hb dX5_riffleTo_37 (nI_add _ _) ?_
        refine lv_goto (tgt := 51) hx hb dX5_riffleTo_38 (by decide) ?_
        exact kr _ _ _ dX5_riffleTo_51 (vp_nar_int _) (congrArg nI (Eq.trans (show 2 * p_ + 1 = 2 * p_ + b_ by omega) (rif_lo (h := (n_ + 1) / 2) (by unfold rifH; split <;> omega) (by omega))))
  · skip
    refine lv_iload_n hx hb dX5_riffleTo_4 rfl (lv_at hl 2 rfl) ?_
    refine lv_iconst (v := nI 2) hx hb dX5_riffleTo_5 (by decide) ?_
    refine zi_div (v := nI (n_ / 2)) hx hb dX5_riffleTo_6 (nI_ne0 (by omega) (by omega)) (pk_div (by omega) (by omega) (by omega)) ?_
    refine lv_goto (tgt := 15) hx hb dX5_riffleTo_7 (by decide) ?_
    refine lv_istore_n (lv' := [(3, .int (nI (n_ / 2))), (0, .int (nI b_)), (1, .int (nI p_)), (2, .int (nI n_))]) hx hb dX5_riffleTo_15 rfl hl (by decide) rfl (fun ls hl => ?_)
    refine lv_iload_n hx hb dX5_riffleTo_16 rfl (lv_at hl 1 rfl) ?_
    refine zb0_eq (a := b_) (tgt := 24) hx hb dX5_riffleTo_17 (by decide) (by omega) (fun c17 => ?_) (fun c17 => ?_)
    · skip
      refine lv_iconst (v := nI 0) hx hb dX5_riffleTo_24 (by decide) ?_
      refine lv_istore (lv' := [(4, .int (nI 0)), (3, .int (nI (n_ / 2))), (0, .int (nI b_)), (1, .int (nI p_)), (2, .int (nI n_))]) hx hb dX5_riffleTo_25 hl (by decide) rfl (fun ls hl => ?_)
      refine lv_iload_n hx hb dX5_riffleTo_27 rfl (lv_at hl 3 rfl) ?_
      refine lv_iload_n hx hb dX5_riffleTo_28 rfl (lv_at hl 1 rfl) ?_
      refine zb_ge (a := p_) (b := n_ / 2) (tgt := 41) hx hb dX5_riffleTo_29 (by decide) (by omega) (by omega) (fun c29 => ?_) (fun c29 => ?_)
      · skip
        refine lv_iconst (v := nI 2) hx hb dX5_riffleTo_41 (by decide) ?_
        refine lv_iload_n hx hb dX5_riffleTo_42 rfl (lv_at hl 3 rfl) ?_
        refine lv_iload_n hx hb dX5_riffleTo_43 rfl (lv_at hl 1 rfl) ?_
        refine zi_sub (v := nI (p_ - (n_ / 2))) hx hb dX5_riffleTo_44 (pk_sub (by omega)) ?_
        refine zi_mul (v := nI (2 * (p_ - (n_ / 2)))) hx hb dX5_riffleTo_45 (pk_mul _ _) ?_
        refine lv_iconst (v := nI 1) hx hb dX5_riffleTo_46 (by decide) ?_
        refine zi_add (v := nI ((2 * (p_ - (n_ / 2))) + 1)) hx hb dX5_riffleTo_47 (nI_add _ _) ?_
        refine lv_iload hx hb dX5_riffleTo_48 (lv_at hl 0 rfl) ?_
        refine zi_sub (v := nI (((2 * (p_ - (n_ / 2))) + 1) - 0)) hx hb dX5_riffleTo_50 (pk_sub (by omega)) ?_
        exact kr _ _ _ dX5_riffleTo_51 (vp_nar_int _) (congrArg nI (Eq.trans (show 2 * (p_ - (n_ / 2)) + 1 - 0 = 2 * (p_ - (n_ / 2)) + 1 - b_ by omega) (rif_hi (h := n_ / 2) (by unfold rifH; split <;> omega) (by omega))))
      · skip
        refine lv_iconst (v := nI 2) hx hb dX5_riffleTo_32 (by decide) ?_
        refine lv_iload_n hx hb dX5_riffleTo_33 rfl (lv_at hl 3 rfl) ?_
        refine zi_mul (v := nI (2 * p_)) hx hb dX5_riffleTo_34 (pk_mul _ _) ?_
        refine lv_iload hx hb dX5_riffleTo_35 (lv_at hl 0 rfl) ?_
        refine zi_add (v := nI ((2 * p_) + 0)) hx hb dX5_riffleTo_37 (nI_add _ _) ?_
        refine lv_goto (tgt := 51) hx hb dX5_riffleTo_38 (by decide) ?_
        exact kr _ _ _ dX5_riffleTo_51 (vp_nar_int _) (congrArg nI (Eq.trans (show 2 * p_ + 0 = 2 * p_ + b_ by omega) (rif_lo (h := n_ / 2) (by unfold rifH; split <;> omega) (by omega))))
    · skip
      refine lv_iconst (v := nI 1) hx hb dX5_riffleTo_20 (by decide) ?_
      refine lv_goto (tgt := 25) hx hb dX5_riffleTo_21 (by decide) ?_
      refine lv_istore (lv' := [(4, .int (nI 1)), (3, .int (nI (n_ / 2))), (0, .int (nI b_)), (1, .int (nI p_)), (2, .int (nI n_))]) hx hb dX5_riffleTo_25 hl (by decide) rfl (fun ls hl => ?_)
      refine lv_iload_n hx hb dX5_riffleTo_27 rfl (lv_at hl 3 rfl) ?_
      refine lv_iload_n hx hb dX5_riffleTo_28 rfl (lv_at hl 1 rfl) ?_
      refine zb_ge (a := p_) (b := n_ / 2) (tgt := 41) hx hb dX5_riffleTo_29 (by decide) (by omega) (by omega) (fun c29 => ?_) (fun c29 => ?_)
      · skip
        refine lv_iconst (v := nI 2) hx hb dX5_riffleTo_41 (by decide) ?_
        refine lv_iload_n hx hb dX5_riffleTo_42 rfl (lv_at hl 3 rfl) ?_
        refine lv_iload_n hx hb dX5_riffleTo_43 rfl (lv_at hl 1 rfl) ?_
        refine zi_sub (v := nI (p_ - (n_ / 2))) hx hb dX5_riffleTo_44 (pk_sub (by omega)) ?_
        refine zi_mul (v := nI (2 * (p_ - (n_ / 2)))) hx hb dX5_riffleTo_45 (pk_mul _ _) ?_
        refine lv_iconst (v := nI 1) hx hb dX5_riffleTo_46 (by decide) ?_
        refine zi_add (v := nI ((2 * (p_ - (n_ / 2))) + 1)) hx hb dX5_riffleTo_47 (nI_add _ _) ?_
        refine lv_iload hx hb dX5_riffleTo_48 (lv_at hl 0 rfl) ?_
        refine zi_sub (v := nI (((2 * (p_ - (n_ / 2))) + 1) - 1)) hx hb dX5_riffleTo_50 (pk_sub (by omega)) ?_
        exact kr _ _ _ dX5_riffleTo_51 (vp_nar_int _) (congrArg nI (Eq.trans (show 2 * (p_ - (n_ / 2)) + 1 - 1 = 2 * (p_ - (n_ / 2)) + 1 - b_ by omega) (rif_hi (h := n_ / 2) (by unfold rifH; split <;> omega) (by omega))))
      · skip
        refine lv_iconst (v := nI 2) hx hb dX5_riffleTo_32 (by decide) ?_
        refine lv_iload_n hx hb dX5_riffleTo_33 rfl (lv_at hl 3 rfl) ?_
        refine zi_mul (v := nI (2 * p_)) hx hb dX5_riffleTo_34 (pk_mul _ _) ?_
        refine lv_iload hx hb dX5_riffleTo_35 (lv_at hl 0 rfl) ?_
        refine zi_add (v := nI ((2 * p_) + 1)) hx hb dX5_riffleTo_37 (nI_add _ _) ?_
        refine lv_goto (tgt := 51) hx hb dX5_riffleTo_38 (by decide) ?_
        exact kr _ _ _ dX5_riffleTo_51 (vp_nar_int _) (congrArg nI (Eq.trans (show 2 * p_ + 1 = 2 * p_ + b_ by omega) (rif_lo (h := n_ / 2) (by unfold rifH; split <;> omega) (by omega))))
abbrev w_X5_stepTo : List Cond := Cond.code yX5_stepTo cX5_stepTo 3 (some .int) :: zAll
abbrev r_X5_stepTo : Room := { frames := 1, cells := 0, slots := 0, locals := 24 }
theorem zd_X5_stepTo : yX5_stepTo.cls ≠ "java/lang/invoke/MethodHandle" ∧ yX5_stepTo.cls ≠ "java/lang/invoke/VarHandle" ∧ (parseMethodDescriptor yX5_stepTo.desc).map (fun d => d.parameters.length) = some 3 := by decide +kernel
set_option maxHeartbeats 4000000 in
set_option maxRecDepth 100000 in
theorem c_X5_stepTo (l : Launch) (D : va_G) (cy : Nat → ClassId) (t_ : Nat) (p_ : Nat) (n_ : Nat) (ht : t_ < 4) (hp : p_ < n_) (hn : n_ ≤ 16) : zMi l yX5_stepTo w_X5_stepTo r_X5_stepTo D cy [] [.int (nI t_), .int (nI p_), .int (nI n_)] (fun r_ => r_ = nI (stepF t_ n_ p_)) := by
  refine zOfR (cc := cX5_stepTo) (maxL := 3) (ty := .int) (by decide) rfl (Nat.le_of_ble_eq_true rfl) ?_
  intro zp ze zs zm za zb zme zc hx hb hml hts hown hP hK Q kr ls hl
  have hown : zs.vm.findClass RX5 = some zm.cls := hown
  have hl : lv_has ls 3 [(0, .int (nI t_)), (1, .int (nI p_)), (2, .int (nI n_))] := hl
  refine lv_iload_n hx hb dX5_stepTo_0 rfl (lv_at hl 0 rfl) ?_
  have hsw1 : (nI t_).toInt = ((t_ : Nat) : Int) := (nI_toInt (by omega))
  rcases (show ((t_ : Nat) : Int) = 0 ∨ ((t_ : Nat) : Int) = 1 ∨ ((t_ : Nat) : Int) = 2 ∨ (((t_ : Nat) : Int) < 0 ∨ 2 < ((t_ : Nat) : Int)) by omega) with c1 | c1 | c1 | c1
  · refine lv_tableIn (tgt := 28) (off := 27) hx hb dX5_stepTo_1 (by rw [hsw1, c1]; decide) (by rw [hsw1, c1]; decide) (by rw [hsw1, c1]; rfl) (by decide) ?_
    refine lv_iconst (v := nI 1) hx hb dX5_stepTo_28 (by decide) ?_
    refine lv_iload_n hx hb dX5_stepTo_29 rfl (lv_at hl 1 rfl) ?_
    refine lv_iload_n hx hb dX5_stepTo_30 rfl (lv_at hl 2 rfl) ?_
    refine zcSi (As := [.int (nI 1), .int (nI p_), .int (nI n_)]) (rest := []) ⟨hx, hb, hml, hown, hts⟩ (c_X5_cutTo l D cy 1 p_ n_ (by omega) (by omega) (by omega)) (va_cwS 3 hts (zG_S zw_349 zw_350 zw_346 zw_351) rfl rfl rfl zd_X5_cutTo ⟨Nat.le_of_ble_eq_true rfl, Nat.le_of_ble_eq_true rfl⟩) hK hP [] rfl rfl hl.1 rfl (Nat.le_of_ble_eq_true rfl) dX5_stepTo_31 ⟨Nat.zero_le _, Nat.zero_le _⟩ (fun r31 h31 => ?_)
    subst h31
    exact kr _ _ _ dX5_stepTo_34 (vp_nar_int _) (congrArg nI (by unfold stepF; rw [if_pos (by omega)]))
  · refine lv_tableIn (tgt := 35) (off := 34) hx hb dX5_stepTo_1 (by rw [hsw1, c1]; decide) (by rw [hsw1, c1]; decide) (by rw [hsw1, c1]; rfl) (by decide) ?_
    refine lv_iconst (v := nI 0) hx hb dX5_stepTo_35 (by decide) ?_
    refine lv_iload_n hx hb dX5_stepTo_36 rfl (lv_at hl 1 rfl) ?_
    refine lv_iload_n hx hb dX5_stepTo_37 rfl (lv_at hl 2 rfl) ?_
    refine zcSi (As := [.int (nI 0), .int (nI p_), .int (nI n_)]) (rest := []) ⟨hx, hb, hml, hown, hts⟩ (c_X5_riffleTo l D cy 0 p_ n_ (by omega) (by omega) (by omega)) (va_cwS 3 hts (zG_S zw_371 zw_372 zw_346 zw_373) rfl rfl rfl zd_X5_riffleTo ⟨Nat.le_of_ble_eq_true rfl, Nat.le_of_ble_eq_true rfl⟩) hK hP [] rfl rfl hl.1 rfl (Nat.le_of_ble_eq_true rfl) dX5_stepTo_38 ⟨Nat.zero_le _, Nat.zero_le _⟩ (fun r38 h38 => ?_)
    subst h38
    exact kr _ _ _ dX5_stepTo_41 (vp_nar_int _) (congrArg nI (by unfold stepF; rw [if_neg (by omega), if_pos (by omega)]))
  · refine lv_tableIn (tgt := 42) (off := 41) hx hb dX5_stepTo_1 (by rw [hsw1, c1]; decide) (by rw [hsw1, c1]; decide) (by rw [hsw1, c1]; rfl) (by decide) ?_
    refine lv_iconst (v := nI 1) hx hb dX5_stepTo_42 (by decide) ?_
    refine lv_iload_n hx hb dX5_stepTo_43 rfl (lv_at hl 1 rfl) ?_
    refine lv_iload_n hx hb dX5_stepTo_44 rfl (lv_at hl 2 rfl) ?_
    refine zcSi (As := [.int (nI 1), .int (nI p_), .int (nI n_)]) (rest := []) ⟨hx, hb, hml, hown, hts⟩ (c_X5_riffleTo l D cy 1 p_ n_ (by omega) (by omega) (by omega)) (va_cwS 3 hts (zG_S zw_371 zw_372 zw_346 zw_373) rfl rfl rfl zd_X5_riffleTo ⟨Nat.le_of_ble_eq_true rfl, Nat.le_of_ble_eq_true rfl⟩) hK hP [] rfl rfl hl.1 rfl (Nat.le_of_ble_eq_true rfl) dX5_stepTo_45 ⟨Nat.zero_le _, Nat.zero_le _⟩ (fun r45 h45 => ?_)
    subst h45
    exact kr _ _ _ dX5_stepTo_48 (vp_nar_int _) (congrArg nI (by unfold stepF; rw [if_neg (by omega), if_neg (by omega), if_pos (by omega)]))
  · refine lv_tableOut (tgt := 49) hx hb dX5_stepTo_1 (by rw [hsw1]; exact c1) (by decide) ?_
    refine lv_iload_n hx hb dX5_stepTo_49 rfl (lv_at hl 2 rfl) ?_
    refine lv_iconst (v := nI 1) hx hb dX5_stepTo_50 (by decide) ?_
    refine zi_sub (v := nI (n_ - 1)) hx hb dX5_stepTo_51 (pk_sub (by omega)) ?_
    refine lv_iload_n hx hb dX5_stepTo_52 rfl (lv_at hl 1 rfl) ?_
    refine zi_sub (v := nI ((n_ - 1) - p_)) hx hb dX5_stepTo_53 (pk_sub (by omega)) ?_
    exact kr _ _ _ dX5_stepTo_54 (vp_nar_int _) (congrArg nI (by unfold stepF; rw [if_neg (by omega), if_neg (by omega), if_neg (by omega)]))
abbrev w_X5_cutBy : List Cond := Cond.code yX5_cutBy cX5_cutBy 5 (some .long) :: zAll
abbrev r_X5_cutBy : Room := { frames := 1, cells := 0, slots := 0, locals := 25 }
theorem zd_X5_cutBy : yX5_cutBy.cls ≠ "java/lang/invoke/MethodHandle" ∧ yX5_cutBy.cls ≠ "java/lang/invoke/VarHandle" ∧ (parseMethodDescriptor yX5_cutBy.desc).map (fun d => d.parameters.length) = some 2 := by decide +kernel
set_option maxHeartbeats 4000000 in
set_option maxRecDepth 100000 in
theorem c_X5_cutBy (l : Launch) (D : va_G) (cy : Nat → ClassId) (k_ : Nat) (n_ : Nat) (hk : k_ < n_) (hn : n_ ≤ 16) : zMl l yX5_cutBy w_X5_cutBy r_X5_cutBy D cy [] [.int (nI k_), .int (nI n_)] (fun r_ => r_ = perL (cutF k_ n_) n_) := by
  refine zOfRl (cc := cX5_cutBy) (maxL := 5) (by decide) rfl (Nat.le_of_ble_eq_true rfl) ?_
  intro zp ze zs zm za zb zme zc hx hb hml hts hown hP hK Q kr ls hl
  have hown : zs.vm.findClass RX5 = some zm.cls := hown
  have hl : lv_has ls 5 [(0, .int (nI k_)), (1, .int (nI n_))] := hl
  refine lv_ldc2 hx hb hown (hts _ (List.mem_cons_of_mem _ zw_348)) dX5_cutBy_0 ?_
  refine zl_top (v := perL (cutF k_ n_) 0) (stay_perL _) ?_
  refine lv_lstore_n (lv' := [(2, .long (perL (cutF k_ n_) 0)), (0, .int (nI k_)), (1, .int (nI n_))]) hx hb dX5_cutBy_3 rfl hl (by decide) rfl (fun ls hl => ?_)
  refine lv_iconst (v := nI 0) hx hb dX5_cutBy_4 (by decide) ?_
  refine lv_istore (lv' := [(4, .int (nI 0)), (2, .long (perL (cutF k_ n_) 0)), (0, .int (nI k_)), (1, .int (nI n_))]) hx hb dX5_cutBy_5 hl (by decide) rfl (fun ls hl => ?_)
  have L7 : ∀ (kf_ : Nat) (i_ : Nat) (hi : i_ ≤ n_), n_ - i_ < kf_ → ∀ ls : Array Slot, lv_has ls 5 [(0, .int (nI k_)), (1, .int (nI n_)), (2, .long (perL (cutF k_ n_) i_)), (4, .int (nI i_))] → W zp l ze r_X5_cutBy zs zm za zb zme zc zs.heap [] 0 0 Q (F0 zm 7 ls []) := by
    intro kf_
    induction kf_ with
    | zero => intro i_ hi hk_; exact absurd hk_ (Nat.not_lt_zero _)
    | succ kf_ ih7 =>
      intro i_ hi hk_ ls hl
      refine lv_iload hx hb dX5_cutBy_7 (lv_at hl 3 rfl) ?_
      refine lv_iload_n hx hb dX5_cutBy_9 rfl (lv_at hl 1 rfl) ?_
      refine zb_ge (a := i_) (b := n_) (tgt := 33) hx hb dX5_cutBy_10 (by decide) (by omega) (by omega) (fun c10 => ?_) (fun c10 => ?_)
      · skip
        refine lv_lload_n hx hb dX5_cutBy_33 rfl (lv_at hl 2 rfl) ?_
        exact kr _ _ _ dX5_cutBy_34 (by rw [show i_ = n_ by omega])
      · skip
        refine lv_lload_n hx hb dX5_cutBy_13 rfl (lv_at hl 2 rfl) ?_
        refine lv_iload hx hb dX5_cutBy_14 (lv_at hl 3 rfl) ?_
        refine lv_iload_n hx hb dX5_cutBy_16 rfl (lv_at hl 0 rfl) ?_
        refine lv_iload hx hb dX5_cutBy_17 (lv_at hl 3 rfl) ?_
        refine lv_iload_n hx hb dX5_cutBy_19 rfl (lv_at hl 1 rfl) ?_
        refine zcSi (As := [.int (nI k_), .int (nI i_), .int (nI n_)]) (rest := [.int (nI i_), .long (perL (cutF k_ n_) i_)]) ⟨hx, hb, hml, hown, hts⟩ (c_X5_cutTo l D cy k_ i_ n_ (by omega) (by omega) (by omega)) (va_cwS 3 hts (zG_S zw_349 zw_350 zw_346 zw_351) rfl rfl rfl zd_X5_cutTo ⟨Nat.le_of_ble_eq_true rfl, Nat.le_of_ble_eq_true rfl⟩) hK hP [] rfl rfl hl.1 rfl (Nat.le_of_ble_eq_true rfl) dX5_cutBy_20 ⟨Nat.zero_le _, Nat.zero_le _⟩ (fun r20 h20 => ?_)
        subst h20
        refine zcSl (As := [.long (perL (cutF k_ n_) i_), .int (nI i_), .int (nI (cutF k_ n_ i_))]) (rest := []) ⟨hx, hb, hml, hown, hts⟩ (c_X3_with l D cy (perL (cutF k_ n_) i_) i_ (cutF k_ n_ i_) (by omega) (Nat.lt_of_lt_of_le (cutF_lt (Nat.le_of_lt hk) (by omega)) hn)) (va_cwS 3 hts (zG_S zw_352 zw_170 zw_171 zw_172) rfl rfl rfl zd_X3_with ⟨Nat.le_of_ble_eq_true rfl, Nat.le_of_ble_eq_true rfl⟩) hK hP [] rfl rfl hl.1 rfl (Nat.le_of_ble_eq_true rfl) dX5_cutBy_23 ⟨Nat.zero_le _, Nat.zero_le _⟩ (fun r23 h23 => ?_)
        subst h23
        refine zl_top (v := perL (cutF k_ n_) (i_ + 1)) (perL_s (g := (cutF k_ n_)) (by omega) (Nat.lt_of_lt_of_le (cutF_lt (Nat.le_of_lt hk) (by omega)) hn)) ?_
        refine lv_lstore_n (lv' := [(2, .long (perL (cutF k_ n_) (i_ + 1))), (0, .int (nI k_)), (1, .int (nI n_)), (4, .int (nI i_))]) hx hb dX5_cutBy_26 rfl hl (by decide) rfl (fun ls hl => ?_)
        refine lv_iinc (v := nI (i_ + 1)) (lv' := [(4, .int (nI (i_ + 1))), (2, .long (perL (cutF k_ n_) (i_ + 1))), (0, .int (nI k_)), (1, .int (nI n_))]) hx hb dX5_cutBy_27 hl (k := 3) rfl (nI_1 _) (by decide) rfl (fun ls hl => ?_)
        refine lv_goto (tgt := 7) hx hb dX5_cutBy_30 (by decide) ?_
        exact ih7 (i_ + 1) (by omega) (by omega) _ (lv_sub hl [2, 3, 1, 0] rfl)
  exact L7 (n_ - 0 + 1) 0 (by omega) (Nat.lt_succ_self _) _ (lv_sub hl [2, 3, 1, 0] rfl)
abbrev w_X5_stepBy : List Cond := Cond.code yX5_stepBy cX5_stepBy 5 (some .long) :: zAll
abbrev r_X5_stepBy : Room := { frames := 2, cells := 0, slots := 0, locals := 46 }
theorem zd_X5_stepBy : yX5_stepBy.cls ≠ "java/lang/invoke/MethodHandle" ∧ yX5_stepBy.cls ≠ "java/lang/invoke/VarHandle" ∧ (parseMethodDescriptor yX5_stepBy.desc).map (fun d => d.parameters.length) = some 2 := by decide +kernel
set_option maxHeartbeats 4000000 in
set_option maxRecDepth 100000 in
theorem c_X5_stepBy (l : Launch) (D : va_G) (cy : Nat → ClassId) (t_ : Nat) (n_ : Nat) (ht : t_ < 4) (hn : n_ ≤ 16) : zMl l yX5_stepBy w_X5_stepBy r_X5_stepBy D cy [] [.int (nI t_), .int (nI n_)] (fun r_ => r_ = perL (stepF t_ n_) n_) := by
  refine zOfRl (cc := cX5_stepBy) (maxL := 5) (by decide) rfl (Nat.le_of_ble_eq_true rfl) ?_
  intro zp ze zs zm za zb zme zc hx hb hml hts hown hP hK Q kr ls hl
  have hown : zs.vm.findClass RX5 = some zm.cls := hown
  have hl : lv_has ls 5 [(0, .int (nI t_)), (1, .int (nI n_))] := hl
  refine lv_ldc2 hx hb hown (hts _ (List.mem_cons_of_mem _ zw_348)) dX5_stepBy_0 ?_
  refine zl_top (v := perL (stepF t_ n_) 0) (stay_perL _) ?_
  refine lv_lstore_n (lv' := [(2, .long (perL (stepF t_ n_) 0)), (0, .int (nI t_)), (1, .int (nI n_))]) hx hb dX5_stepBy_3 rfl hl (by decide) rfl (fun ls hl => ?_)
  refine lv_iconst (v := nI 0) hx hb dX5_stepBy_4 (by decide) ?_
  refine lv_istore (lv' := [(4, .int (nI 0)), (2, .long (perL (stepF t_ n_) 0)), (0, .int (nI t_)), (1, .int (nI n_))]) hx hb dX5_stepBy_5 hl (by decide) rfl (fun ls hl => ?_)
  have L7 : ∀ (kf_ : Nat) (i_ : Nat) (hi : i_ ≤ n_), n_ - i_ < kf_ → ∀ ls : Array Slot, lv_has ls 5 [(0, .int (nI t_)), (1, .int (nI n_)), (2, .long (perL (stepF t_ n_) i_)), (4, .int (nI i_))] → W zp l ze r_X5_stepBy zs zm za zb zme zc zs.heap [] 0 0 Q (F0 zm 7 ls []) := by
    intro kf_
    induction kf_ with
    | zero => intro i_ hi hk_; exact absurd hk_ (Nat.not_lt_zero _)
    | succ kf_ ih7 =>
      intro i_ hi hk_ ls hl
      refine lv_iload hx hb dX5_stepBy_7 (lv_at hl 3 rfl) ?_
      refine lv_iload_n hx hb dX5_stepBy_9 rfl (lv_at hl 1 rfl) ?_
      refine zb_ge (a := i_) (b := n_) (tgt := 33) hx hb dX5_stepBy_10 (by decide) (by omega) (by omega) (fun c10 => ?_) (fun c10 => ?_)
      · skip
        refine lv_lload_n hx hb dX5_stepBy_33 rfl (lv_at hl 2 rfl) ?_
        exact kr _ _ _ dX5_stepBy_34 (by rw [show i_ = n_ by omega])
      · skip
        refine lv_lload_n hx hb dX5_stepBy_13 rfl (lv_at hl 2 rfl) ?_
        refine lv_iload hx hb dX5_stepBy_14 (lv_at hl 3 rfl) ?_
        refine lv_iload_n hx hb dX5_stepBy_16 rfl (lv_at hl 0 rfl) ?_
        refine lv_iload hx hb dX5_stepBy_17 (lv_at hl 3 rfl) ?_
        refine lv_iload_n hx hb dX5_stepBy_19 rfl (lv_at hl 1 rfl) ?_
        refine zcSi (As := [.int (nI t_), .int (nI i_), .int (nI n_)]) (rest := [.int (nI i_), .long (perL (stepF t_ n_) i_)]) ⟨hx, hb, hml, hown, hts⟩ (c_X5_stepTo l D cy t_ i_ n_ (by omega) (by omega) (by omega)) (va_cwS 3 hts (zG_S zw_368 zw_369 zw_346 zw_370) rfl rfl rfl zd_X5_stepTo ⟨Nat.le_of_ble_eq_true rfl, Nat.le_of_ble_eq_true rfl⟩) hK hP [] rfl rfl hl.1 rfl (Nat.le_of_ble_eq_true rfl) dX5_stepBy_20 ⟨Nat.zero_le _, Nat.zero_le _⟩ (fun r20 h20 => ?_)
        subst h20
        refine zcSl (As := [.long (perL (stepF t_ n_) i_), .int (nI i_), .int (nI (stepF t_ n_ i_))]) (rest := []) ⟨hx, hb, hml, hown, hts⟩ (c_X3_with l D cy (perL (stepF t_ n_) i_) i_ (stepF t_ n_ i_) (by omega) (Nat.lt_of_lt_of_le (stepF_lt (by omega)) hn)) (va_cwS 3 hts (zG_S zw_352 zw_170 zw_171 zw_172) rfl rfl rfl zd_X3_with ⟨Nat.le_of_ble_eq_true rfl, Nat.le_of_ble_eq_true rfl⟩) hK hP [] rfl rfl hl.1 rfl (Nat.le_of_ble_eq_true rfl) dX5_stepBy_23 ⟨Nat.zero_le _, Nat.zero_le _⟩ (fun r23 h23 => ?_)
        subst h23
        refine zl_top (v := perL (stepF t_ n_) (i_ + 1)) (perL_s (g := (stepF t_ n_)) (by omega) (Nat.lt_of_lt_of_le (stepF_lt (by omega)) hn)) ?_
        refine lv_lstore_n (lv' := [(2, .long (perL (stepF t_ n_) (i_ + 1))), (0, .int (nI t_)), (1, .int (nI n_)), (4, .int (nI i_))]) hx hb dX5_stepBy_26 rfl hl (by decide) rfl (fun ls hl => ?_)
        refine lv_iinc (v := nI (i_ + 1)) (lv' := [(4, .int (nI (i_ + 1))), (2, .long (perL (stepF t_ n_) (i_ + 1))), (0, .int (nI t_)), (1, .int (nI n_))]) hx hb dX5_stepBy_27 hl (k := 3) rfl (nI_1 _) (by decide) rfl (fun ls hl => ?_)
        refine lv_goto (tgt := 7) hx hb dX5_stepBy_30 (by decide) ?_
        exact ih7 (i_ + 1) (by omega) (by omega) _ (lv_sub hl [2, 3, 1, 0] rfl)
  exact L7 (n_ - 0 + 1) 0 (by omega) (Nat.lt_succ_self _) _ (lv_sub hl [2, 3, 1, 0] rfl)
abbrev w_X5_becomesBy : List Cond := Cond.code yX5_becomesBy cX5_becomesBy 7 (some .long) :: zAll
abbrev r_X5_becomesBy : Room := { frames := 1, cells := 0, slots := 0, locals := 25 }
theorem zd_X5_becomesBy : yX5_becomesBy.cls ≠ "java/lang/invoke/MethodHandle" ∧ yX5_becomesBy.cls ≠ "java/lang/invoke/VarHandle" ∧ (parseMethodDescriptor yX5_becomesBy.desc).map (fun d => d.parameters.length) = some 3 := by decide +kernel
set_option maxHeartbeats 4000000 in
set_option maxRecDepth 100000 in
theorem c_X5_becomesBy (l : Launch) (D : va_G) (cy : Nat → ClassId) (x_ : Int64) (k_ : Nat) (n_ : Nat) (hw : WF n_ x_) (hk : k_ < n_) (hn : n_ ≤ 16) : zMl l yX5_becomesBy w_X5_becomesBy r_X5_becomesBy D cy [] [.long x_, .int (nI k_), .int (nI n_)] (fun r_ => r_ = becL x_ k_ n_) := by
  refine zOfRl (cc := cX5_becomesBy) (maxL := 7) (by decide) rfl (Nat.le_of_ble_eq_true rfl) ?_
  intro zp ze zs zm za zb zme zc hx hb hml hts hown hP hK Q kr ls hl
  have hown : zs.vm.findClass RX5 = some zm.cls := hown
  have hl : lv_has ls 7 [(0, .long x_), (2, .int (nI k_)), (3, .int (nI n_))] := hl
  refine lv_ldc2 hx hb hown (hts _ (List.mem_cons_of_mem _ zw_348)) dX5_becomesBy_0 ?_
  refine zl_top (v := pk (becF x_ k_ n_ 0)) (bec_0 _ _ _) ?_
  refine lv_lstore (lv' := [(4, .long (pk (becF x_ k_ n_ 0))), (0, .long x_), (2, .int (nI k_)), (3, .int (nI n_))]) hx hb dX5_becomesBy_3 hl (by decide) rfl (fun ls hl => ?_)
  refine lv_iconst (v := nI 0) hx hb dX5_becomesBy_5 (by decide) ?_
  refine lv_istore (lv' := [(6, .int (nI 0)), (4, .long (pk (becF x_ k_ n_ 0))), (0, .long x_), (2, .int (nI k_)), (3, .int (nI n_))]) hx hb dX5_becomesBy_6 hl (by decide) rfl (fun ls hl => ?_)
  have L8 : ∀ (kf_ : Nat) (i_ : Nat) (hi : i_ ≤ n_), n_ - i_ < kf_ → ∀ ls : Array Slot, lv_has ls 7 [(0, .long x_), (2, .int (nI k_)), (3, .int (nI n_)), (4, .long (pk (becF x_ k_ n_ i_))), (6, .int (nI i_))] → W zp l ze r_X5_becomesBy zs zm za zb zme zc zs.heap [] 0 0 Q (F0 zm 8 ls []) := by
    intro kf_
    induction kf_ with
    | zero => intro i_ hi hk_; exact absurd hk_ (Nat.not_lt_zero _)
    | succ kf_ ih8 =>
      intro i_ hi hk_ ls hl
      refine lv_iload hx hb dX5_becomesBy_8 (lv_at hl 4 rfl) ?_
      refine lv_iload_n hx hb dX5_becomesBy_10 rfl (lv_at hl 2 rfl) ?_
      refine zb_ge (a := i_) (b := n_) (tgt := 45) hx hb dX5_becomesBy_11 (by decide) (by omega) (by omega) (fun c11 => ?_) (fun c11 => ?_)
      · skip
        refine lv_lload hx hb dX5_becomesBy_45 (lv_at hl 3 rfl) ?_
        exact kr _ _ _ dX5_becomesBy_47 (by rw [show i_ = n_ by omega]; rfl)
      · skip
        have hx14 : nb x_ i_ < n_ := hw.lt (by omega) hn
        have hc14 : cutF k_ n_ i_ < n_ := cutF_lt (Nat.le_of_lt hk) (by omega)
        have hd14 : cutF k_ n_ (nb x_ i_) < n_ := cutF_lt (Nat.le_of_lt hk) hx14
        refine lv_lload hx hb dX5_becomesBy_14 (lv_at hl 3 rfl) ?_
        refine lv_iload_n hx hb dX5_becomesBy_16 rfl (lv_at hl 1 rfl) ?_
        refine lv_iload hx hb dX5_becomesBy_17 (lv_at hl 4 rfl) ?_
        refine lv_iload_n hx hb dX5_becomesBy_19 rfl (lv_at hl 2 rfl) ?_
        refine zcSi (As := [.int (nI k_), .int (nI i_), .int (nI n_)]) (rest := [.long (pk (becF x_ k_ n_ i_))]) ⟨hx, hb, hml, hown, hts⟩ (c_X5_cutTo l D cy k_ i_ n_ (by omega) (by omega) (by omega)) (va_cwS 3 hts (zG_S zw_349 zw_350 zw_346 zw_351) rfl rfl rfl zd_X5_cutTo ⟨Nat.le_of_ble_eq_true rfl, Nat.le_of_ble_eq_true rfl⟩) hK hP [] rfl rfl hl.1 rfl (Nat.le_of_ble_eq_true rfl) dX5_becomesBy_20 ⟨Nat.zero_le _, Nat.zero_le _⟩ (fun r20 h20 => ?_)
        subst h20
        refine lv_iload_n hx hb dX5_becomesBy_23 rfl (lv_at hl 1 rfl) ?_
        refine lv_lload_n hx hb dX5_becomesBy_24 rfl (lv_at hl 0 rfl) ?_
        refine lv_iload hx hb dX5_becomesBy_25 (lv_at hl 4 rfl) ?_
        refine zcSi (As := [.long x_, .int (nI i_)]) (rest := [.int (nI k_), .int (nI (cutF k_ n_ i_)), .long (pk (becF x_ k_ n_ i_))]) ⟨hx, hb, hml, hown, hts⟩ (c_X3_to l D cy x_ i_ (by omega)) (va_cwS 2 hts (zG_S zw_482 zw_246 zw_171 zw_247) rfl rfl rfl zd_X3_to ⟨Nat.le_of_ble_eq_true rfl, Nat.le_of_ble_eq_true rfl⟩) hK hP [] rfl rfl hl.1 rfl (Nat.le_of_ble_eq_true rfl) dX5_becomesBy_27 ⟨Nat.zero_le _, Nat.zero_le _⟩ (fun r27 h27 => ?_)
        subst h27
        refine lv_iload_n hx hb dX5_becomesBy_30 rfl (lv_at hl 2 rfl) ?_
        refine zcSi (As := [.int (nI k_), .int (nI (nb x_ i_)), .int (nI n_)]) (rest := [.int (nI (cutF k_ n_ i_)), .long (pk (becF x_ k_ n_ i_))]) ⟨hx, hb, hml, hown, hts⟩ (c_X5_cutTo l D cy k_ (nb x_ i_) n_ (by omega) (by omega) (by omega)) (va_cwS 3 hts (zG_S zw_349 zw_350 zw_346 zw_351) rfl rfl rfl zd_X5_cutTo ⟨Nat.le_of_ble_eq_true rfl, Nat.le_of_ble_eq_true rfl⟩) hK hP [] rfl rfl hl.1 rfl (Nat.le_of_ble_eq_true rfl) dX5_becomesBy_31 ⟨Nat.zero_le _, Nat.zero_le _⟩ (fun r31 h31 => ?_)
        subst h31
        refine zcSl (As := [.long (pk (becF x_ k_ n_ i_)), .int (nI (cutF k_ n_ i_)), .int (nI (cutF k_ n_ (nb x_ i_)))]) (rest := []) ⟨hx, hb, hml, hown, hts⟩ (c_X3_with l D cy (pk (becF x_ k_ n_ i_)) (cutF k_ n_ i_) (cutF k_ n_ (nb x_ i_)) (by omega) (by omega)) (va_cwS 3 hts (zG_S zw_352 zw_170 zw_171 zw_172) rfl rfl rfl zd_X3_with ⟨Nat.le_of_ble_eq_true rfl, Nat.le_of_ble_eq_true rfl⟩) hK hP [] rfl rfl hl.1 rfl (Nat.le_of_ble_eq_true rfl) dX5_becomesBy_34 ⟨Nat.zero_le _, Nat.zero_le _⟩ (fun r34 h34 => ?_)
        subst h34
        refine zl_top (v := pk (becF x_ k_ n_ (i_ + 1))) (bec_s hw hn hk (by omega)) ?_
        refine lv_lstore (lv' := [(4, .long (pk (becF x_ k_ n_ (i_ + 1)))), (0, .long x_), (2, .int (nI k_)), (3, .int (nI n_)), (6, .int (nI i_))]) hx hb dX5_becomesBy_37 hl (by decide) rfl (fun ls hl => ?_)
        refine lv_iinc (v := nI (i_ + 1)) (lv' := [(6, .int (nI (i_ + 1))), (4, .long (pk (becF x_ k_ n_ (i_ + 1)))), (0, .long x_), (2, .int (nI k_)), (3, .int (nI n_))]) hx hb dX5_becomesBy_39 hl (k := 4) rfl (nI_1 _) (by decide) rfl (fun ls hl => ?_)
        refine lv_goto (tgt := 8) hx hb dX5_becomesBy_42 (by decide) ?_
        exact ih8 (i_ + 1) (by omega) (by omega) _ (lv_sub hl [2, 3, 4, 1, 0] rfl)
  exact L8 (n_ - 0 + 1) 0 (by omega) (Nat.lt_succ_self _) _ (lv_sub hl [2, 3, 4, 1, 0] rfl)
end
