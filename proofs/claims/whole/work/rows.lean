section
-- ===== PART A: goes FIRST, ahead of the names: the tables' words, and 'selects' of the private methods out of them =====
/-- a private method of a class that the tables say can be made, by its rows of tables_1 -/
def lw_okq (q : MethodName × Nat) : Prop := (q.1.cls ≠ "java/lang/invoke/MethodHandle" ∧ q.1.cls ≠ "java/lang/invoke/VarHandle") ∧ Cond.instantiable q.1.cls q.2 ∈ tables_1 ∧ Cond.privateMethod q.1 ∈ tables_1 ∧ Cond.instanceMethod q.1 ∈ tables_1
theorem lw_p0 : lw_okq (⟨"RootShapes", "equationOf", "(I)LRootShapes$Equation;"⟩, 6) := ⟨⟨by decide +kernel, by decide +kernel⟩, List.mem_of_getElem? (i := 11) (by decide +kernel), List.mem_of_getElem? (i := 180) (by decide +kernel), List.mem_of_getElem? (i := 181) (by decide +kernel)⟩
theorem lw_p1 : lw_okq (⟨"RootShapes", "forgetFound", "()V"⟩, 6) := ⟨⟨by decide +kernel, by decide +kernel⟩, List.mem_of_getElem? (i := 11) (by decide +kernel), List.mem_of_getElem? (i := 194) (by decide +kernel), List.mem_of_getElem? (i := 195) (by decide +kernel)⟩
theorem lw_p2 : lw_okq (⟨"RootShapes", "drawFigure", "(I)Z"⟩, 6) := ⟨⟨by decide +kernel, by decide +kernel⟩, List.mem_of_getElem? (i := 11) (by decide +kernel), List.mem_of_getElem? (i := 223) (by decide +kernel), List.mem_of_getElem? (i := 224) (by decide +kernel)⟩
theorem lw_p3 : lw_okq (⟨"RootShapes", "anyEmpty", "()Z"⟩, 6) := ⟨⟨by decide +kernel, by decide +kernel⟩, List.mem_of_getElem? (i := 11) (by decide +kernel), List.mem_of_getElem? (i := 227) (by decide +kernel), List.mem_of_getElem? (i := 228) (by decide +kernel)⟩
theorem lw_p4 : lw_okq (⟨"RootShapes$Figure", "put", "(II)V"⟩, 6) := ⟨⟨by decide +kernel, by decide +kernel⟩, List.mem_of_getElem? (i := 62) (by decide +kernel), List.mem_of_getElem? (i := 235) (by decide +kernel), List.mem_of_getElem? (i := 236) (by decide +kernel)⟩
theorem lw_p5 : lw_okq (⟨"RootShapes$Figure", "wrap", "()V"⟩, 6) := ⟨⟨by decide +kernel, by decide +kernel⟩, List.mem_of_getElem? (i := 62) (by decide +kernel), List.mem_of_getElem? (i := 239) (by decide +kernel), List.mem_of_getElem? (i := 240) (by decide +kernel)⟩
theorem lw_p6 : lw_okq (⟨"RootShapes$Figure", "firstPoint", "()I"⟩, 6) := ⟨⟨by decide +kernel, by decide +kernel⟩, List.mem_of_getElem? (i := 62) (by decide +kernel), List.mem_of_getElem? (i := 243) (by decide +kernel), List.mem_of_getElem? (i := 244) (by decide +kernel)⟩
theorem lw_p7 : lw_okq (⟨"RootShapes$Figure", "nextCorner", "(I)I"⟩, 6) := ⟨⟨by decide +kernel, by decide +kernel⟩, List.mem_of_getElem? (i := 62) (by decide +kernel), List.mem_of_getElem? (i := 247) (by decide +kernel), List.mem_of_getElem? (i := 248) (by decide +kernel)⟩
theorem lw_p8 : lw_okq (⟨"RootShapes$Figure", "same", "(II)Z"⟩, 6) := ⟨⟨by decide +kernel, by decide +kernel⟩, List.mem_of_getElem? (i := 62) (by decide +kernel), List.mem_of_getElem? (i := 251) (by decide +kernel), List.mem_of_getElem? (i := 252) (by decide +kernel)⟩
theorem lw_p9 : lw_okq (⟨"RootShapes$Figure", "sideOf", "(III)I"⟩, 6) := ⟨⟨by decide +kernel, by decide +kernel⟩, List.mem_of_getElem? (i := 62) (by decide +kernel), List.mem_of_getElem? (i := 255) (by decide +kernel), List.mem_of_getElem? (i := 256) (by decide +kernel)⟩
theorem lw_p10 : lw_okq (⟨"RootShapes$Figure", "far", "(II)I"⟩, 6) := ⟨⟨by decide +kernel, by decide +kernel⟩, List.mem_of_getElem? (i := 62) (by decide +kernel), List.mem_of_getElem? (i := 259) (by decide +kernel), List.mem_of_getElem? (i := 260) (by decide +kernel)⟩
theorem lw_p11 : lw_okq (⟨"RootShapes$Figure", "after", "(I)I"⟩, 6) := ⟨⟨by decide +kernel, by decide +kernel⟩, List.mem_of_getElem? (i := 62) (by decide +kernel), List.mem_of_getElem? (i := 274) (by decide +kernel), List.mem_of_getElem? (i := 275) (by decide +kernel)⟩
theorem lw_p12 : lw_okq (⟨"RootShapes", "areaOf", "(I)I"⟩, 6) := ⟨⟨by decide +kernel, by decide +kernel⟩, List.mem_of_getElem? (i := 11) (by decide +kernel), List.mem_of_getElem? (i := 300) (by decide +kernel), List.mem_of_getElem? (i := 301) (by decide +kernel)⟩
theorem lw_p13 : lw_okq (⟨"RootShapes$Subdivision", "findWith", "(LRootShapes$Equation;LRootShapes$Equation;II)V"⟩, 7) := ⟨⟨by decide +kernel, by decide +kernel⟩, List.mem_of_getElem? (i := 90) (by decide +kernel), List.mem_of_getElem? (i := 316) (by decide +kernel), List.mem_of_getElem? (i := 317) (by decide +kernel)⟩
theorem lw_p14 : lw_okq (⟨"RootShapes$Subdivision", "tilt", "(LRootShapes$Equation;LRootShapes$Equation;IIII)Z"⟩, 7) := ⟨⟨by decide +kernel, by decide +kernel⟩, List.mem_of_getElem? (i := 90) (by decide +kernel), List.mem_of_getElem? (i := 320) (by decide +kernel), List.mem_of_getElem? (i := 321) (by decide +kernel)⟩
theorem lw_p15 : lw_okq (⟨"RootShapes$Subdivision", "alikeLowest", "(LRootShapes$Equation;I)I"⟩, 7) := ⟨⟨by decide +kernel, by decide +kernel⟩, List.mem_of_getElem? (i := 90) (by decide +kernel), List.mem_of_getElem? (i := 327) (by decide +kernel), List.mem_of_getElem? (i := 328) (by decide +kernel)⟩
def lw_privs_1 : List (MethodName × Nat) := [(⟨"RootShapes", "equationOf", "(I)LRootShapes$Equation;"⟩, 6), (⟨"RootShapes", "forgetFound", "()V"⟩, 6), (⟨"RootShapes", "drawFigure", "(I)Z"⟩, 6), (⟨"RootShapes", "anyEmpty", "()Z"⟩, 6), (⟨"RootShapes$Figure", "put", "(II)V"⟩, 6), (⟨"RootShapes$Figure", "wrap", "()V"⟩, 6), (⟨"RootShapes$Figure", "firstPoint", "()I"⟩, 6), (⟨"RootShapes$Figure", "nextCorner", "(I)I"⟩, 6), (⟨"RootShapes$Figure", "same", "(II)Z"⟩, 6), (⟨"RootShapes$Figure", "sideOf", "(III)I"⟩, 6), (⟨"RootShapes$Figure", "far", "(II)I"⟩, 6), (⟨"RootShapes$Figure", "after", "(I)I"⟩, 6), (⟨"RootShapes", "areaOf", "(I)I"⟩, 6), (⟨"RootShapes$Subdivision", "findWith", "(LRootShapes$Equation;LRootShapes$Equation;II)V"⟩, 7), (⟨"RootShapes$Subdivision", "tilt", "(LRootShapes$Equation;LRootShapes$Equation;IIII)Z"⟩, 7), (⟨"RootShapes$Subdivision", "alikeLowest", "(LRootShapes$Equation;I)I"⟩, 7)]
theorem lw_r1 : ∀ q ∈ lw_privs_1, lw_okq q := List.forall_mem_cons.mpr ⟨lw_p0, List.forall_mem_cons.mpr ⟨lw_p1, List.forall_mem_cons.mpr ⟨lw_p2, List.forall_mem_cons.mpr ⟨lw_p3, List.forall_mem_cons.mpr ⟨lw_p4, List.forall_mem_cons.mpr ⟨lw_p5, List.forall_mem_cons.mpr ⟨lw_p6, List.forall_mem_cons.mpr ⟨lw_p7, List.forall_mem_cons.mpr ⟨lw_p8, List.forall_mem_cons.mpr ⟨lw_p9, List.forall_mem_cons.mpr ⟨lw_p10, List.forall_mem_cons.mpr ⟨lw_p11, List.forall_mem_cons.mpr ⟨lw_p12, List.forall_mem_cons.mpr ⟨lw_p13, List.forall_mem_cons.mpr ⟨lw_p14, List.forall_mem_cons.mpr ⟨lw_p15, fun _ h => absurd h List.not_mem_nil⟩⟩⟩⟩⟩⟩⟩⟩⟩⟩⟩⟩⟩⟩⟩⟩
theorem lw_p16 : lw_okq (⟨"RootShapes$Subdivision", "levelOf", "(LRootShapes$Equation;I)I"⟩, 7) := ⟨⟨by decide +kernel, by decide +kernel⟩, List.mem_of_getElem? (i := 90) (by decide +kernel), List.mem_of_getElem? (i := 331) (by decide +kernel), List.mem_of_getElem? (i := 332) (by decide +kernel)⟩
theorem lw_p17 : lw_okq (⟨"RootShapes$Subdivision", "noteIfLowest", "(III)V"⟩, 7) := ⟨⟨by decide +kernel, by decide +kernel⟩, List.mem_of_getElem? (i := 90) (by decide +kernel), List.mem_of_getElem? (i := 335) (by decide +kernel), List.mem_of_getElem? (i := 336) (by decide +kernel)⟩
theorem lw_p18 : lw_okq (⟨"RootShapes$Fronts", "layAlong", "(LRootShapes$Equation;III[J)V"⟩, 2) := ⟨⟨by decide +kernel, by decide +kernel⟩, List.mem_of_getElem? (i := 121) (by decide +kernel), List.mem_of_getElem? (i := 387) (by decide +kernel), List.mem_of_getElem? (i := 388) (by decide +kernel)⟩
theorem lw_p19 : lw_okq (⟨"RootShapes$Fronts", "shareRootBy", "(J)Z"⟩, 2) := ⟨⟨by decide +kernel, by decide +kernel⟩, List.mem_of_getElem? (i := 121) (by decide +kernel), List.mem_of_getElem? (i := 395) (by decide +kernel), List.mem_of_getElem? (i := 396) (by decide +kernel)⟩
theorem lw_p20 : lw_okq (⟨"RootShapes$Fronts", "degreeOf", "([J)I"⟩, 2) := ⟨⟨by decide +kernel, by decide +kernel⟩, List.mem_of_getElem? (i := 121) (by decide +kernel), List.mem_of_getElem? (i := 399) (by decide +kernel), List.mem_of_getElem? (i := 400) (by decide +kernel)⟩
theorem lw_p21 : lw_okq (⟨"RootShapes$Fronts", "lower", "([JI[JIJ)V"⟩, 2) := ⟨⟨by decide +kernel, by decide +kernel⟩, List.mem_of_getElem? (i := 121) (by decide +kernel), List.mem_of_getElem? (i := 403) (by decide +kernel), List.mem_of_getElem? (i := 404) (by decide +kernel)⟩
theorem lw_p22 : lw_okq (⟨"RootShapes", "losesSomewhere", "()Z"⟩, 6) := ⟨⟨by decide +kernel, by decide +kernel⟩, List.mem_of_getElem? (i := 11) (by decide +kernel), List.mem_of_getElem? (i := 414) (by decide +kernel), List.mem_of_getElem? (i := 415) (by decide +kernel)⟩
theorem lw_p23 : lw_okq (⟨"RootShapes", "realAnswers", "()I"⟩, 6) := ⟨⟨by decide +kernel, by decide +kernel⟩, List.mem_of_getElem? (i := 11) (by decide +kernel), List.mem_of_getElem? (i := 424) (by decide +kernel), List.mem_of_getElem? (i := 425) (by decide +kernel)⟩
theorem lw_p24 : lw_okq (⟨"RootShapes$Equation", "isMinus", "(IZZ)Z"⟩, 5) := ⟨⟨by decide +kernel, by decide +kernel⟩, List.mem_of_getElem? (i := 19) (by decide +kernel), List.mem_of_getElem? (i := 432) (by decide +kernel), List.mem_of_getElem? (i := 433) (by decide +kernel)⟩
theorem lw_p25 : lw_okq (⟨"RootShapes$Solutions", "fillPowers", "(I)V"⟩, 4) := ⟨⟨by decide +kernel, by decide +kernel⟩, List.mem_of_getElem? (i := 135) (by decide +kernel), List.mem_of_getElem? (i := 450) (by decide +kernel), List.mem_of_getElem? (i := 451) (by decide +kernel)⟩
theorem lw_p26 : lw_okq (⟨"RootShapes$Solutions", "isNought", "(LRootShapes$Equation;III)Z"⟩, 4) := ⟨⟨by decide +kernel, by decide +kernel⟩, List.mem_of_getElem? (i := 135) (by decide +kernel), List.mem_of_getElem? (i := 454) (by decide +kernel), List.mem_of_getElem? (i := 455) (by decide +kernel)⟩
theorem lw_p27 : lw_okq (⟨"RootShapesModel", "isTerm", "(II)Z"⟩, 22) := ⟨⟨by decide +kernel, by decide +kernel⟩, List.mem_of_getElem? (i := 466) (by decide +kernel), List.mem_of_getElem? (i := 556) (by decide +kernel), List.mem_of_getElem? (i := 557) (by decide +kernel)⟩
theorem lw_p28 : lw_okq (⟨"RootShapesModel", "isThere", "(I)Z"⟩, 22) := ⟨⟨by decide +kernel, by decide +kernel⟩, List.mem_of_getElem? (i := 466) (by decide +kernel), List.mem_of_getElem? (i := 574) (by decide +kernel), List.mem_of_getElem? (i := 575) (by decide +kernel)⟩
theorem lw_p29 : lw_okq (⟨"RootShapesModel", "areaOf", "(I)I"⟩, 22) := ⟨⟨by decide +kernel, by decide +kernel⟩, List.mem_of_getElem? (i := 466) (by decide +kernel), List.mem_of_getElem? (i := 578) (by decide +kernel), List.mem_of_getElem? (i := 579) (by decide +kernel)⟩
theorem lw_p30 : lw_okq (⟨"RootShapesModel", "goRound", "(I)V"⟩, 22) := ⟨⟨by decide +kernel, by decide +kernel⟩, List.mem_of_getElem? (i := 466) (by decide +kernel), List.mem_of_getElem? (i := 582) (by decide +kernel), List.mem_of_getElem? (i := 583) (by decide +kernel)⟩
theorem lw_p31 : lw_okq (⟨"RootShapesModel", "gather", "(I)V"⟩, 22) := ⟨⟨by decide +kernel, by decide +kernel⟩, List.mem_of_getElem? (i := 466) (by decide +kernel), List.mem_of_getElem? (i := 586) (by decide +kernel), List.mem_of_getElem? (i := 587) (by decide +kernel)⟩
def lw_privs_2 : List (MethodName × Nat) := [(⟨"RootShapes$Subdivision", "levelOf", "(LRootShapes$Equation;I)I"⟩, 7), (⟨"RootShapes$Subdivision", "noteIfLowest", "(III)V"⟩, 7), (⟨"RootShapes$Fronts", "layAlong", "(LRootShapes$Equation;III[J)V"⟩, 2), (⟨"RootShapes$Fronts", "shareRootBy", "(J)Z"⟩, 2), (⟨"RootShapes$Fronts", "degreeOf", "([J)I"⟩, 2), (⟨"RootShapes$Fronts", "lower", "([JI[JIJ)V"⟩, 2), (⟨"RootShapes", "losesSomewhere", "()Z"⟩, 6), (⟨"RootShapes", "realAnswers", "()I"⟩, 6), (⟨"RootShapes$Equation", "isMinus", "(IZZ)Z"⟩, 5), (⟨"RootShapes$Solutions", "fillPowers", "(I)V"⟩, 4), (⟨"RootShapes$Solutions", "isNought", "(LRootShapes$Equation;III)Z"⟩, 4), (⟨"RootShapesModel", "isTerm", "(II)Z"⟩, 22), (⟨"RootShapesModel", "isThere", "(I)Z"⟩, 22), (⟨"RootShapesModel", "areaOf", "(I)I"⟩, 22), (⟨"RootShapesModel", "goRound", "(I)V"⟩, 22), (⟨"RootShapesModel", "gather", "(I)V"⟩, 22)]
theorem lw_r2 : ∀ q ∈ lw_privs_2, lw_okq q := List.forall_mem_cons.mpr ⟨lw_p16, List.forall_mem_cons.mpr ⟨lw_p17, List.forall_mem_cons.mpr ⟨lw_p18, List.forall_mem_cons.mpr ⟨lw_p19, List.forall_mem_cons.mpr ⟨lw_p20, List.forall_mem_cons.mpr ⟨lw_p21, List.forall_mem_cons.mpr ⟨lw_p22, List.forall_mem_cons.mpr ⟨lw_p23, List.forall_mem_cons.mpr ⟨lw_p24, List.forall_mem_cons.mpr ⟨lw_p25, List.forall_mem_cons.mpr ⟨lw_p26, List.forall_mem_cons.mpr ⟨lw_p27, List.forall_mem_cons.mpr ⟨lw_p28, List.forall_mem_cons.mpr ⟨lw_p29, List.forall_mem_cons.mpr ⟨lw_p30, List.forall_mem_cons.mpr ⟨lw_p31, fun _ h => absurd h List.not_mem_nil⟩⟩⟩⟩⟩⟩⟩⟩⟩⟩⟩⟩⟩⟩⟩⟩
theorem lw_p32 : lw_okq (⟨"RootShapesModel", "isSame", "(II)Z"⟩, 22) := ⟨⟨by decide +kernel, by decide +kernel⟩, List.mem_of_getElem? (i := 466) (by decide +kernel), List.mem_of_getElem? (i := 590) (by decide +kernel), List.mem_of_getElem? (i := 591) (by decide +kernel)⟩
theorem lw_p33 : lw_okq (⟨"RootShapesModel", "isOuter", "(III)Z"⟩, 22) := ⟨⟨by decide +kernel, by decide +kernel⟩, List.mem_of_getElem? (i := 466) (by decide +kernel), List.mem_of_getElem? (i := 594) (by decide +kernel), List.mem_of_getElem? (i := 595) (by decide +kernel)⟩
theorem lw_p34 : lw_okq (⟨"RootShapesModel", "rimOf", "(I)I"⟩, 22) := ⟨⟨by decide +kernel, by decide +kernel⟩, List.mem_of_getElem? (i := 466) (by decide +kernel), List.mem_of_getElem? (i := 598) (by decide +kernel), List.mem_of_getElem? (i := 599) (by decide +kernel)⟩
theorem lw_p35 : lw_okq (⟨"RootShapesModel", "goThrough", "(I)I"⟩, 22) := ⟨⟨by decide +kernel, by decide +kernel⟩, List.mem_of_getElem? (i := 466) (by decide +kernel), List.mem_of_getElem? (i := 625) (by decide +kernel), List.mem_of_getElem? (i := 626) (by decide +kernel)⟩
theorem lw_p36 : lw_okq (⟨"RootShapesModel", "isCell", "(IIII)Z"⟩, 22) := ⟨⟨by decide +kernel, by decide +kernel⟩, List.mem_of_getElem? (i := 466) (by decide +kernel), List.mem_of_getElem? (i := 629) (by decide +kernel), List.mem_of_getElem? (i := 630) (by decide +kernel)⟩
theorem lw_p37 : lw_okq (⟨"RootShapesModel", "isLowest", "(III)Z"⟩, 22) := ⟨⟨by decide +kernel, by decide +kernel⟩, List.mem_of_getElem? (i := 466) (by decide +kernel), List.mem_of_getElem? (i := 633) (by decide +kernel), List.mem_of_getElem? (i := 634) (by decide +kernel)⟩
theorem lw_p38 : lw_okq (⟨"RootShapesModel", "height", "(I)I"⟩, 22) := ⟨⟨by decide +kernel, by decide +kernel⟩, List.mem_of_getElem? (i := 466) (by decide +kernel), List.mem_of_getElem? (i := 637) (by decide +kernel), List.mem_of_getElem? (i := 638) (by decide +kernel)⟩
theorem lw_p39 : lw_okq (⟨"RootShapesModel", "faceOf", "(III)I"⟩, 22) := ⟨⟨by decide +kernel, by decide +kernel⟩, List.mem_of_getElem? (i := 466) (by decide +kernel), List.mem_of_getElem? (i := 657) (by decide +kernel), List.mem_of_getElem? (i := 658) (by decide +kernel)⟩
theorem lw_p40 : lw_okq (⟨"RootShapesModel", "loses", "(II)Z"⟩, 22) := ⟨⟨by decide +kernel, by decide +kernel⟩, List.mem_of_getElem? (i := 466) (by decide +kernel), List.mem_of_getElem? (i := 665) (by decide +kernel), List.mem_of_getElem? (i := 666) (by decide +kernel)⟩
theorem lw_p41 : lw_okq (⟨"RootShapesModel", "meet", "(IIJ)Z"⟩, 22) := ⟨⟨by decide +kernel, by decide +kernel⟩, List.mem_of_getElem? (i := 466) (by decide +kernel), List.mem_of_getElem? (i := 670) (by decide +kernel), List.mem_of_getElem? (i := 671) (by decide +kernel)⟩
theorem lw_p42 : lw_okq (⟨"RootShapesModel", "lay", "(IIIJ)Z"⟩, 22) := ⟨⟨by decide +kernel, by decide +kernel⟩, List.mem_of_getElem? (i := 466) (by decide +kernel), List.mem_of_getElem? (i := 674) (by decide +kernel), List.mem_of_getElem? (i := 675) (by decide +kernel)⟩
theorem lw_p43 : lw_okq (⟨"RootShapesModel", "stepOf", "(III)I"⟩, 22) := ⟨⟨by decide +kernel, by decide +kernel⟩, List.mem_of_getElem? (i := 466) (by decide +kernel), List.mem_of_getElem? (i := 678) (by decide +kernel), List.mem_of_getElem? (i := 679) (by decide +kernel)⟩
theorem lw_p44 : lw_okq (⟨"RootShapesModel", "reduce", "(IIJ)V"⟩, 22) := ⟨⟨by decide +kernel, by decide +kernel⟩, List.mem_of_getElem? (i := 466) (by decide +kernel), List.mem_of_getElem? (i := 685) (by decide +kernel), List.mem_of_getElem? (i := 686) (by decide +kernel)⟩
theorem lw_p45 : lw_okq (⟨"RootShapesModel", "areUnlike", "(II)Z"⟩, 22) := ⟨⟨by decide +kernel, by decide +kernel⟩, List.mem_of_getElem? (i := 466) (by decide +kernel), List.mem_of_getElem? (i := 702) (by decide +kernel), List.mem_of_getElem? (i := 703) (by decide +kernel)⟩
theorem lw_p46 : lw_okq (⟨"RootShapesModel", "answers", "(II)I"⟩, 22) := ⟨⟨by decide +kernel, by decide +kernel⟩, List.mem_of_getElem? (i := 466) (by decide +kernel), List.mem_of_getElem? (i := 714) (by decide +kernel), List.mem_of_getElem? (i := 715) (by decide +kernel)⟩
theorem lw_p47 : lw_okq (⟨"RootShapesModel", "isNought", "(IIII)Z"⟩, 22) := ⟨⟨by decide +kernel, by decide +kernel⟩, List.mem_of_getElem? (i := 466) (by decide +kernel), List.mem_of_getElem? (i := 718) (by decide +kernel), List.mem_of_getElem? (i := 719) (by decide +kernel)⟩
def lw_privs_3 : List (MethodName × Nat) := [(⟨"RootShapesModel", "isSame", "(II)Z"⟩, 22), (⟨"RootShapesModel", "isOuter", "(III)Z"⟩, 22), (⟨"RootShapesModel", "rimOf", "(I)I"⟩, 22), (⟨"RootShapesModel", "goThrough", "(I)I"⟩, 22), (⟨"RootShapesModel", "isCell", "(IIII)Z"⟩, 22), (⟨"RootShapesModel", "isLowest", "(III)Z"⟩, 22), (⟨"RootShapesModel", "height", "(I)I"⟩, 22), (⟨"RootShapesModel", "faceOf", "(III)I"⟩, 22), (⟨"RootShapesModel", "loses", "(II)Z"⟩, 22), (⟨"RootShapesModel", "meet", "(IIJ)Z"⟩, 22), (⟨"RootShapesModel", "lay", "(IIIJ)Z"⟩, 22), (⟨"RootShapesModel", "stepOf", "(III)I"⟩, 22), (⟨"RootShapesModel", "reduce", "(IIJ)V"⟩, 22), (⟨"RootShapesModel", "areUnlike", "(II)Z"⟩, 22), (⟨"RootShapesModel", "answers", "(II)I"⟩, 22), (⟨"RootShapesModel", "isNought", "(IIII)Z"⟩, 22)]
theorem lw_r3 : ∀ q ∈ lw_privs_3, lw_okq q := List.forall_mem_cons.mpr ⟨lw_p32, List.forall_mem_cons.mpr ⟨lw_p33, List.forall_mem_cons.mpr ⟨lw_p34, List.forall_mem_cons.mpr ⟨lw_p35, List.forall_mem_cons.mpr ⟨lw_p36, List.forall_mem_cons.mpr ⟨lw_p37, List.forall_mem_cons.mpr ⟨lw_p38, List.forall_mem_cons.mpr ⟨lw_p39, List.forall_mem_cons.mpr ⟨lw_p40, List.forall_mem_cons.mpr ⟨lw_p41, List.forall_mem_cons.mpr ⟨lw_p42, List.forall_mem_cons.mpr ⟨lw_p43, List.forall_mem_cons.mpr ⟨lw_p44, List.forall_mem_cons.mpr ⟨lw_p45, List.forall_mem_cons.mpr ⟨lw_p46, List.forall_mem_cons.mpr ⟨lw_p47, fun _ h => absurd h List.not_mem_nil⟩⟩⟩⟩⟩⟩⟩⟩⟩⟩⟩⟩⟩⟩⟩⟩
def lw_privs : List (MethodName × Nat) := lw_privs_1 ++ (lw_privs_2 ++ (lw_privs_3))
def lw_tbl : List Cond := k2_sels lw_privs ++ tables_1
theorem lw_privs_ok : ∀ q ∈ lw_privs, lw_okq q := by
  show ∀ q ∈ lw_privs_1 ++ (lw_privs_2 ++ (lw_privs_3)), lw_okq q
  exact List.forall_mem_append.mpr ⟨lw_r1, List.forall_mem_append.mpr ⟨lw_r2, lw_r3⟩⟩
-- ===== end of PART A; then your names; then what follows =====
end
section

/-! ===== BEGIN printed: names, fields, word lists, decode rows ===== -/
def RX0 : String := "RootShapes$Equation"
def TX0 : u_T := fun k => match k with
  | 0 => ("RootShapes$Equation", "i", "[I", true)
  | 1 => ("RootShapes$Equation", "j", "[I", true)
  | 2 => ("RootShapes$Equation", "c", "[I", true)
  | 3 => ("RootShapes$Equation", "height", "[I", true)
  | _ => ("RootShapes$Equation", "size", "I", false)
def tyX0 : Nat → FieldType := fun k => match k with
  | 0 => .array .int
  | 1 => .array .int
  | 2 => .array .int
  | 3 => .array .int
  | _ => .int
abbrev wsX00 : List Cond := u_ws RX0 TX0 5
theorem nmX0 : ∀ a, a < 5 → ∀ b, b < 5 → a ≠ b → (TX0 a).2.1 ≠ (TX0 b).2.1 := by decide +kernel
theorem tyX0_ok : ∀ k, k < 5 → parseFieldDescriptor (TX0 k).2.2.1 = some (tyX0 k) := by decide +kernel
abbrev cX0_init : ByteArray := prog_2_method_1_code
def yX0_init : MethodName := ⟨RX0, "<init>", "()V"⟩
abbrev cX0_has : ByteArray := prog_2_method_2_code
def yX0_has : MethodName := ⟨RX0, "has", "(I)Z"⟩
abbrev cX0_holds : ByteArray := prog_2_method_3_code
def yX0_holds : MethodName := ⟨RX0, "holds", "(II)Z"⟩
abbrev cX0_add : ByteArray := prog_2_method_4_code
def yX0_add : MethodName := ⟨RX0, "add", "(III)I"⟩
abbrev cX0_signsDiffer : ByteArray := prog_2_method_5_code
def yX0_signsDiffer : MethodName := ⟨RX0, "signsDiffer", "(ZZ)Z"⟩
abbrev cX0_isMinus : ByteArray := prog_2_method_6_code
def yX0_isMinus : MethodName := ⟨RX0, "isMinus", "(IZZ)Z"⟩
def RX1 : String := "RootShapes$Figure"
def TX1 : u_T := fun k => match k with
  | 0 => ("RootShapes$Figure", "cornerI", "[I", true)
  | 1 => ("RootShapes$Figure", "cornerJ", "[I", true)
  | 2 => ("RootShapes$Figure", "corners", "I", false)
  | 3 => ("RootShapes$Figure", "pointI", "[I", true)
  | 4 => ("RootShapes$Figure", "pointJ", "[I", true)
  | _ => ("RootShapes$Figure", "points", "I", false)
def tyX1 : Nat → FieldType := fun k => match k with
  | 0 => .array .int
  | 1 => .array .int
  | 2 => .int
  | 3 => .array .int
  | 4 => .array .int
  | _ => .int
abbrev wsX10 : List Cond := u_ws RX1 TX1 6
theorem nmX1 : ∀ a, a < 6 → ∀ b, b < 6 → a ≠ b → (TX1 a).2.1 ≠ (TX1 b).2.1 := by decide +kernel
theorem tyX1_ok : ∀ k, k < 6 → parseFieldDescriptor (TX1 k).2.2.1 = some (tyX1 k) := by decide +kernel
abbrev cX1_init : ByteArray := prog_3_method_1_code
def yX1_init : MethodName := ⟨RX1, "<init>", "()V"⟩
abbrev cX1_drawOne : ByteArray := prog_3_method_2_code
def yX1_drawOne : MethodName := ⟨RX1, "drawOne", "(LRootShapes$Equation;)V"⟩
abbrev cX1_drawSum : ByteArray := prog_3_method_3_code
def yX1_drawSum : MethodName := ⟨RX1, "drawSum", "(LRootShapes$Equation;LRootShapes$Equation;)V"⟩
abbrev cX1_area : ByteArray := prog_3_method_4_code
def yX1_area : MethodName := ⟨RX1, "area", "()I"⟩
abbrev cX1_rim : ByteArray := prog_3_method_5_code
def yX1_rim : MethodName := ⟨RX1, "rim", "()I"⟩
abbrev cX1_inner : ByteArray := prog_3_method_6_code
def yX1_inner : MethodName := ⟨RX1, "inner", "()I"⟩
abbrev cX1_after : ByteArray := prog_3_method_7_code
def yX1_after : MethodName := ⟨RX1, "after", "(I)I"⟩
abbrev cX1_put : ByteArray := prog_3_method_8_code
def yX1_put : MethodName := ⟨RX1, "put", "(II)V"⟩
abbrev cX1_wrap : ByteArray := prog_3_method_9_code
def yX1_wrap : MethodName := ⟨RX1, "wrap", "()V"⟩
abbrev cX1_firstPoint : ByteArray := prog_3_method_10_code
def yX1_firstPoint : MethodName := ⟨RX1, "firstPoint", "()I"⟩
abbrev cX1_nextCorner : ByteArray := prog_3_method_11_code
def yX1_nextCorner : MethodName := ⟨RX1, "nextCorner", "(I)I"⟩
abbrev cX1_same : ByteArray := prog_3_method_12_code
def yX1_same : MethodName := ⟨RX1, "same", "(II)Z"⟩
abbrev cX1_sideOf : ByteArray := prog_3_method_13_code
def yX1_sideOf : MethodName := ⟨RX1, "sideOf", "(III)I"⟩
abbrev cX1_far : ByteArray := prog_3_method_14_code
def yX1_far : MethodName := ⟨RX1, "far", "(II)I"⟩
def RX2 : String := "RootShapes$Fronts"
def TX2 : u_T := fun k => match k with
  | 0 => ("RootShapes$Fronts", "one", "[J", true)
  | _ => ("RootShapes$Fronts", "other", "[J", true)
def tyX2 : Nat → FieldType := fun k => match k with
  | 0 => .array .long
  | _ => .array .long
abbrev wsX20 : List Cond := u_ws RX2 TX2 2
theorem nmX2 : ∀ a, a < 2 → ∀ b, b < 2 → a ≠ b → (TX2 a).2.1 ≠ (TX2 b).2.1 := by decide +kernel
theorem tyX2_ok : ∀ k, k < 2 → parseFieldDescriptor (TX2 k).2.2.1 = some (tyX2 k) := by decide +kernel
abbrev cX2_init : ByteArray := prog_4_method_1_code
def yX2_init : MethodName := ⟨RX2, "<init>", "()V"⟩
abbrev cX2_bitsOf : ByteArray := prog_4_method_2_code
def yX2_bitsOf : MethodName := ⟨RX2, "bitsOf", "(LRootShapes$Equation;II)I"⟩
abbrev cX2_shareRoot : ByteArray := prog_4_method_3_code
def yX2_shareRoot : MethodName := ⟨RX2, "shareRoot", "(LRootShapes$Equation;LRootShapes$Equation;II)Z"⟩
abbrev cX2_layAlong : ByteArray := prog_4_method_4_code
def yX2_layAlong : MethodName := ⟨RX2, "layAlong", "(LRootShapes$Equation;III[J)V"⟩
abbrev cX2_shareRootBy : ByteArray := prog_4_method_5_code
def yX2_shareRootBy : MethodName := ⟨RX2, "shareRootBy", "(J)Z"⟩
abbrev cX2_degreeOf : ByteArray := prog_4_method_6_code
def yX2_degreeOf : MethodName := ⟨RX2, "degreeOf", "([J)I"⟩
abbrev cX2_lower : ByteArray := prog_4_method_7_code
def yX2_lower : MethodName := ⟨RX2, "lower", "([JI[JIJ)V"⟩
def RX3 : String := "RootShapes$Solutions"
def TX3 : u_T := fun k => match k with
  | 0 => ("RootShapes$Solutions", "found", "[I", true)
  | 1 => ("RootShapes$Solutions", "count", "I", false)
  | 2 => ("RootShapes$Solutions", "modulus", "I", false)
  | _ => ("RootShapes$Solutions", "powers", "[I", true)
def tyX3 : Nat → FieldType := fun k => match k with
  | 0 => .array .int
  | 1 => .int
  | 2 => .int
  | _ => .array .int
abbrev wsX30 : List Cond := u_ws RX3 TX3 4
theorem nmX3 : ∀ a, a < 4 → ∀ b, b < 4 → a ≠ b → (TX3 a).2.1 ≠ (TX3 b).2.1 := by decide +kernel
theorem tyX3_ok : ∀ k, k < 4 → parseFieldDescriptor (TX3 k).2.2.1 = some (tyX3 k) := by decide +kernel
abbrev cX3_init : ByteArray := prog_5_method_1_code
def yX3_init : MethodName := ⟨RX3, "<init>", "()V"⟩
abbrev cX3_find : ByteArray := prog_5_method_2_code
def yX3_find : MethodName := ⟨RX3, "find", "(LRootShapes$Equation;LRootShapes$Equation;I)V"⟩
abbrev cX3_fillPowers : ByteArray := prog_5_method_3_code
def yX3_fillPowers : MethodName := ⟨RX3, "fillPowers", "(I)V"⟩
abbrev cX3_isNought : ByteArray := prog_5_method_4_code
def yX3_isNought : MethodName := ⟨RX3, "isNought", "(LRootShapes$Equation;III)Z"⟩
def RX4 : String := "RootShapes$Subdivision"
def TX4 : u_T := fun k => match k with
  | 0 => ("RootShapes$Subdivision", "count", "I", false)
  | 1 => ("RootShapes$Subdivision", "crowded", "Z", false)
  | 2 => ("RootShapes$Subdivision", "known", "Z", false)
  | 3 => ("RootShapes$Subdivision", "found", "[I", true)
  | 4 => ("RootShapes$Subdivision", "scale", "I", false)
  | 5 => ("RootShapes$Subdivision", "scaledU", "I", false)
  | _ => ("RootShapes$Subdivision", "scaledV", "I", false)
def tyX4 : Nat → FieldType := fun k => match k with
  | 0 => .int
  | 1 => .boolean
  | 2 => .boolean
  | 3 => .array .int
  | 4 => .int
  | 5 => .int
  | _ => .int
abbrev wsX40 : List Cond := u_ws RX4 TX4 7
theorem nmX4 : ∀ a, a < 7 → ∀ b, b < 7 → a ≠ b → (TX4 a).2.1 ≠ (TX4 b).2.1 := by decide +kernel
theorem tyX4_ok : ∀ k, k < 7 → parseFieldDescriptor (TX4 k).2.2.1 = some (tyX4 k) := by decide +kernel
abbrev cX4_init : ByteArray := prog_6_method_1_code
def yX4_init : MethodName := ⟨RX4, "<init>", "()V"⟩
abbrev cX4_find : ByteArray := prog_6_method_2_code
def yX4_find : MethodName := ⟨RX4, "find", "(LRootShapes$Equation;LRootShapes$Equation;)V"⟩
abbrev cX4_memberOf : ByteArray := prog_6_method_3_code
def yX4_memberOf : MethodName := ⟨RX4, "memberOf", "(II)I"⟩
abbrev cX4_sizeOf : ByteArray := prog_6_method_4_code
def yX4_sizeOf : MethodName := ⟨RX4, "sizeOf", "(LRootShapes$Equation;LRootShapes$Equation;I)I"⟩
abbrev cX4_findWith : ByteArray := prog_6_method_5_code
def yX4_findWith : MethodName := ⟨RX4, "findWith", "(LRootShapes$Equation;LRootShapes$Equation;II)V"⟩
abbrev cX4_noteIfLowest : ByteArray := prog_6_method_6_code
def yX4_noteIfLowest : MethodName := ⟨RX4, "noteIfLowest", "(III)V"⟩
abbrev cX4_tilt : ByteArray := prog_6_method_7_code
def yX4_tilt : MethodName := ⟨RX4, "tilt", "(LRootShapes$Equation;LRootShapes$Equation;IIII)Z"⟩
abbrev cX4_alikeLowest : ByteArray := prog_6_method_8_code
def yX4_alikeLowest : MethodName := ⟨RX4, "alikeLowest", "(LRootShapes$Equation;I)I"⟩
abbrev cX4_levelOf : ByteArray := prog_6_method_9_code
def yX4_levelOf : MethodName := ⟨RX4, "levelOf", "(LRootShapes$Equation;I)I"⟩
def RX5 : String := "RootShapes"
def TX5 : u_T := fun k => match k with
  | 0 => ("RootShapes", "first", "LRootShapes$Equation;", true)
  | 1 => ("RootShapes", "second", "LRootShapes$Equation;", true)
  | 2 => ("RootShapes", "figure", "LRootShapes$Figure;", true)
  | 3 => ("RootShapes", "subdivision", "LRootShapes$Subdivision;", true)
  | 4 => ("RootShapes", "fronts", "LRootShapes$Fronts;", true)
  | _ => ("RootShapes", "solutions", "LRootShapes$Solutions;", true)
def tyX5 : Nat → FieldType := fun k => match k with
  | 0 => .object "RootShapes$Equation"
  | 1 => .object "RootShapes$Equation"
  | 2 => .object "RootShapes$Figure"
  | 3 => .object "RootShapes$Subdivision"
  | 4 => .object "RootShapes$Fronts"
  | _ => .object "RootShapes$Solutions"
abbrev wsX50 : List Cond := u_ws RX5 TX5 6
theorem nmX5 : ∀ a, a < 6 → ∀ b, b < 6 → a ≠ b → (TX5 a).2.1 ≠ (TX5 b).2.1 := by decide +kernel
theorem tyX5_ok : ∀ k, k < 6 → parseFieldDescriptor (TX5 k).2.2.1 = some (tyX5 k) := by decide +kernel
abbrev cX5_init : ByteArray := prog_1_method_1_code
def yX5_init : MethodName := ⟨RX5, "<init>", "()V"⟩
abbrev cX5_term : ByteArray := prog_1_method_2_code
def yX5_term : MethodName := ⟨RX5, "term", "(IIII)I"⟩
abbrev cX5_about : ByteArray := prog_1_method_3_code
def yX5_about : MethodName := ⟨RX5, "about", "(III)I"⟩
abbrev cX5_change : ByteArray := prog_1_method_4_code
def yX5_change : MethodName := ⟨RX5, "change", "(III)I"⟩
abbrev cX5_clear : ByteArray := prog_1_method_5_code
def yX5_clear : MethodName := ⟨RX5, "clear", "(I)I"⟩
abbrev cX5_shape : ByteArray := prog_1_method_6_code
def yX5_shape : MethodName := ⟨RX5, "shape", "(II)I"⟩
abbrev cX5_corner : ByteArray := prog_1_method_7_code
def yX5_corner : MethodName := ⟨RX5, "corner", "(II)I"⟩
abbrev cX5_mixed : ByteArray := prog_1_method_8_code
def yX5_mixed : MethodName := ⟨RX5, "mixed", "()I"⟩
abbrev cX5_lift : ByteArray := prog_1_method_9_code
def yX5_lift : MethodName := ⟨RX5, "lift", "(III)I"⟩
abbrev cX5_cells : ByteArray := prog_1_method_10_code
def yX5_cells : MethodName := ⟨RX5, "cells", "()I"⟩
abbrev cX5_cell : ByteArray := prog_1_method_11_code
def yX5_cell : MethodName := ⟨RX5, "cell", "(II)I"⟩
abbrev cX5_fine : ByteArray := prog_1_method_12_code
def yX5_fine : MethodName := ⟨RX5, "fine", "()I"⟩
abbrev cX5_face : ByteArray := prog_1_method_13_code
def yX5_face : MethodName := ⟨RX5, "face", "(III)I"⟩
abbrev cX5_lose : ByteArray := prog_1_method_14_code
def yX5_lose : MethodName := ⟨RX5, "lose", "(II)I"⟩
abbrev cX5_keep : ByteArray := prog_1_method_15_code
def yX5_keep : MethodName := ⟨RX5, "keep", "()I"⟩
abbrev cX5_two : ByteArray := prog_1_method_16_code
def yX5_two : MethodName := ⟨RX5, "two", "(I)I"⟩
abbrev cX5_round : ByteArray := prog_1_method_17_code
def yX5_round : MethodName := ⟨RX5, "round", "(I)I"⟩
abbrev cX5_answer : ByteArray := prog_1_method_18_code
def yX5_answer : MethodName := ⟨RX5, "answer", "(II)I"⟩
abbrev cX5_told : ByteArray := prog_1_method_19_code
def yX5_told : MethodName := ⟨RX5, "told", "(I)I"⟩
abbrev cX5_equationOf : ByteArray := prog_1_method_20_code
def yX5_equationOf : MethodName := ⟨RX5, "equationOf", "(I)LRootShapes$Equation;"⟩
abbrev cX5_anyEmpty : ByteArray := prog_1_method_21_code
def yX5_anyEmpty : MethodName := ⟨RX5, "anyEmpty", "()Z"⟩
abbrev cX5_forgetFound : ByteArray := prog_1_method_22_code
def yX5_forgetFound : MethodName := ⟨RX5, "forgetFound", "()V"⟩
abbrev cX5_drawFigure : ByteArray := prog_1_method_23_code
def yX5_drawFigure : MethodName := ⟨RX5, "drawFigure", "(I)Z"⟩
abbrev cX5_areaOf : ByteArray := prog_1_method_24_code
def yX5_areaOf : MethodName := ⟨RX5, "areaOf", "(I)I"⟩
abbrev cX5_losesSomewhere : ByteArray := prog_1_method_25_code
def yX5_losesSomewhere : MethodName := ⟨RX5, "losesSomewhere", "()Z"⟩
abbrev cX5_realAnswers : ByteArray := prog_1_method_26_code
def yX5_realAnswers : MethodName := ⟨RX5, "realAnswers", "()I"⟩
abbrev cX5_within : ByteArray := prog_1_method_27_code
def yX5_within : MethodName := ⟨RX5, "within", "(III)Z"⟩
abbrev cX5_isFactor : ByteArray := prog_1_method_28_code
def yX5_isFactor : MethodName := ⟨RX5, "isFactor", "(I)Z"⟩
abbrev cX5_isAim : ByteArray := prog_1_method_29_code
def yX5_isAim : MethodName := ⟨RX5, "isAim", "(II)Z"⟩
abbrev cX5_isRoundPrime : ByteArray := prog_1_method_30_code
def yX5_isRoundPrime : MethodName := ⟨RX5, "isRoundPrime", "(I)Z"⟩
abbrev cX5_commonPart : ByteArray := prog_1_method_31_code
def yX5_commonPart : MethodName := ⟨RX5, "commonPart", "(II)I"⟩
abbrev cX5_across : ByteArray := prog_1_method_32_code
def yX5_across : MethodName := ⟨RX5, "across", "(LRootShapes$Equation;IILRootShapes$Equation;II)I"⟩
def RX6 : String := "RootShapesModel"
def TX6 : u_T := fun k => match k with
  | 0 => ("RootShapesModel", "termI", "[I", true)
  | 1 => ("RootShapesModel", "termJ", "[I", true)
  | 2 => ("RootShapesModel", "termC", "[I", true)
  | 3 => ("RootShapesModel", "lifts", "[I", true)
  | 4 => ("RootShapesModel", "many", "[I", true)
  | 5 => ("RootShapesModel", "pointX", "[I", true)
  | 6 => ("RootShapesModel", "pointY", "[I", true)
  | 7 => ("RootShapesModel", "points", "I", false)
  | 8 => ("RootShapesModel", "cornerX", "[I", true)
  | 9 => ("RootShapesModel", "cornerY", "[I", true)
  | 10 => ("RootShapesModel", "corners", "I", false)
  | 11 => ("RootShapesModel", "turn", "I", false)
  | 12 => ("RootShapesModel", "upperU", "I", false)
  | 13 => ("RootShapesModel", "upperV", "I", false)
  | 14 => ("RootShapesModel", "isFine", "Z", false)
  | 15 => ("RootShapesModel", "cellA", "I", false)
  | 16 => ("RootShapesModel", "cellB", "I", false)
  | 17 => ("RootShapesModel", "cellC", "I", false)
  | 18 => ("RootShapesModel", "cellD", "I", false)
  | 19 => ("RootShapesModel", "allFine", "Z", false)
  | 20 => ("RootShapesModel", "poly", "[J", true)
  | _ => ("RootShapesModel", "degree", "[I", true)
def tyX6 : Nat → FieldType := fun k => match k with
  | 0 => .array .int
  | 1 => .array .int
  | 2 => .array .int
  | 3 => .array .int
  | 4 => .array .int
  | 5 => .array .int
  | 6 => .array .int
  | 7 => .int
  | 8 => .array .int
  | 9 => .array .int
  | 10 => .int
  | 11 => .int
  | 12 => .int
  | 13 => .int
  | 14 => .boolean
  | 15 => .int
  | 16 => .int
  | 17 => .int
  | 18 => .int
  | 19 => .boolean
  | 20 => .array .long
  | _ => .array .int
abbrev wsX60 : List Cond := u_ws RX6 TX6 22
theorem nmX6 : ∀ a, a < 22 → ∀ b, b < 22 → a ≠ b → (TX6 a).2.1 ≠ (TX6 b).2.1 := by decide +kernel
theorem tyX6_ok : ∀ k, k < 22 → parseFieldDescriptor (TX6 k).2.2.1 = some (tyX6 k) := by decide +kernel
abbrev cX6_init : ByteArray := prog_8_method_1_code
def yX6_init : MethodName := ⟨RX6, "<init>", "()V"⟩
abbrev cX6_in : ByteArray := prog_8_method_3_code
def yX6_in : MethodName := ⟨RX6, "in", "(JJJ)Z"⟩
abbrev cX6_size : ByteArray := prog_8_method_4_code
def yX6_size : MethodName := ⟨RX6, "size", "(I)I"⟩
abbrev cX6_common : ByteArray := prog_8_method_5_code
def yX6_common : MethodName := ⟨RX6, "common", "(II)I"⟩
abbrev cX6_isEquation : ByteArray := prog_8_method_6_code
def yX6_isEquation : MethodName := ⟨RX6, "isEquation", "(I)Z"⟩
abbrev cX6_isTerm : ByteArray := prog_8_method_7_code
def yX6_isTerm : MethodName := ⟨RX6, "isTerm", "(II)Z"⟩
abbrev cX6_term : ByteArray := prog_8_method_8_code
def yX6_term : MethodName := ⟨RX6, "term", "(IIII)I"⟩
abbrev cX6_about : ByteArray := prog_8_method_9_code
def yX6_about : MethodName := ⟨RX6, "about", "(III)I"⟩
abbrev cX6_change : ByteArray := prog_8_method_10_code
def yX6_change : MethodName := ⟨RX6, "change", "(III)I"⟩
abbrev cX6_clear : ByteArray := prog_8_method_11_code
def yX6_clear : MethodName := ⟨RX6, "clear", "(I)I"⟩
abbrev cX6_isThere : ByteArray := prog_8_method_12_code
def yX6_isThere : MethodName := ⟨RX6, "isThere", "(I)Z"⟩
abbrev cX6_gather : ByteArray := prog_8_method_13_code
def yX6_gather : MethodName := ⟨RX6, "gather", "(I)V"⟩
abbrev cX6_isOuter : ByteArray := prog_8_method_14_code
def yX6_isOuter : MethodName := ⟨RX6, "isOuter", "(III)Z"⟩
abbrev cX6_isSame : ByteArray := prog_8_method_15_code
def yX6_isSame : MethodName := ⟨RX6, "isSame", "(II)Z"⟩
abbrev cX6_goRound : ByteArray := prog_8_method_16_code
def yX6_goRound : MethodName := ⟨RX6, "goRound", "(I)V"⟩
abbrev cX6_areaOf : ByteArray := prog_8_method_17_code
def yX6_areaOf : MethodName := ⟨RX6, "areaOf", "(I)I"⟩
abbrev cX6_rimOf : ByteArray := prog_8_method_18_code
def yX6_rimOf : MethodName := ⟨RX6, "rimOf", "(I)I"⟩
abbrev cX6_shape : ByteArray := prog_8_method_19_code
def yX6_shape : MethodName := ⟨RX6, "shape", "(II)I"⟩
abbrev cX6_corner : ByteArray := prog_8_method_20_code
def yX6_corner : MethodName := ⟨RX6, "corner", "(II)I"⟩
abbrev cX6_mixed : ByteArray := prog_8_method_21_code
def yX6_mixed : MethodName := ⟨RX6, "mixed", "()I"⟩
abbrev cX6_lift : ByteArray := prog_8_method_22_code
def yX6_lift : MethodName := ⟨RX6, "lift", "(III)I"⟩
abbrev cX6_height : ByteArray := prog_8_method_23_code
def yX6_height : MethodName := ⟨RX6, "height", "(I)I"⟩
abbrev cX6_isLowest : ByteArray := prog_8_method_24_code
def yX6_isLowest : MethodName := ⟨RX6, "isLowest", "(III)Z"⟩
abbrev cX6_isCell : ByteArray := prog_8_method_25_code
def yX6_isCell : MethodName := ⟨RX6, "isCell", "(IIII)Z"⟩
abbrev cX6_goThrough : ByteArray := prog_8_method_26_code
def yX6_goThrough : MethodName := ⟨RX6, "goThrough", "(I)I"⟩
abbrev cX6_cells : ByteArray := prog_8_method_27_code
def yX6_cells : MethodName := ⟨RX6, "cells", "()I"⟩
abbrev cX6_cell : ByteArray := prog_8_method_28_code
def yX6_cell : MethodName := ⟨RX6, "cell", "(II)I"⟩
abbrev cX6_fine : ByteArray := prog_8_method_29_code
def yX6_fine : MethodName := ⟨RX6, "fine", "()I"⟩
abbrev cX6_faceOf : ByteArray := prog_8_method_30_code
def yX6_faceOf : MethodName := ⟨RX6, "faceOf", "(III)I"⟩
abbrev cX6_isWay : ByteArray := prog_8_method_31_code
def yX6_isWay : MethodName := ⟨RX6, "isWay", "(II)Z"⟩
abbrev cX6_face : ByteArray := prog_8_method_32_code
def yX6_face : MethodName := ⟨RX6, "face", "(III)I"⟩
abbrev cX6_lay : ByteArray := prog_8_method_33_code
def yX6_lay : MethodName := ⟨RX6, "lay", "(IIIJ)Z"⟩
abbrev cX6_stepOf : ByteArray := prog_8_method_34_code
def yX6_stepOf : MethodName := ⟨RX6, "stepOf", "(III)I"⟩
abbrev cX6_floorOf : ByteArray := prog_8_method_35_code
def yX6_floorOf : MethodName := ⟨RX6, "floorOf", "(II)I"⟩
abbrev cX6_power : ByteArray := prog_8_method_36_code
def yX6_power : MethodName := ⟨RX6, "power", "(JJJ)J"⟩
abbrev cX6_reduce : ByteArray := prog_8_method_37_code
def yX6_reduce : MethodName := ⟨RX6, "reduce", "(IIJ)V"⟩
abbrev cX6_meet : ByteArray := prog_8_method_38_code
def yX6_meet : MethodName := ⟨RX6, "meet", "(IIJ)Z"⟩
abbrev cX6_loses : ByteArray := prog_8_method_39_code
def yX6_loses : MethodName := ⟨RX6, "loses", "(II)Z"⟩
abbrev cX6_lose : ByteArray := prog_8_method_40_code
def yX6_lose : MethodName := ⟨RX6, "lose", "(II)I"⟩
abbrev cX6_keep : ByteArray := prog_8_method_41_code
def yX6_keep : MethodName := ⟨RX6, "keep", "()I"⟩
abbrev cX6_areUnlike : ByteArray := prog_8_method_42_code
def yX6_areUnlike : MethodName := ⟨RX6, "areUnlike", "(II)Z"⟩
abbrev cX6_two : ByteArray := prog_8_method_43_code
def yX6_two : MethodName := ⟨RX6, "two", "(I)I"⟩
abbrev cX6_isPrime : ByteArray := prog_8_method_44_code
def yX6_isPrime : MethodName := ⟨RX6, "isPrime", "(I)Z"⟩
abbrev cX6_isNought : ByteArray := prog_8_method_45_code
def yX6_isNought : MethodName := ⟨RX6, "isNought", "(IIII)Z"⟩
abbrev cX6_answers : ByteArray := prog_8_method_46_code
def yX6_answers : MethodName := ⟨RX6, "answers", "(II)I"⟩
abbrev cX6_round : ByteArray := prog_8_method_47_code
def yX6_round : MethodName := ⟨RX6, "round", "(I)I"⟩
abbrev cX6_answer : ByteArray := prog_8_method_48_code
def yX6_answer : MethodName := ⟨RX6, "answer", "(II)I"⟩
abbrev cX6_told : ByteArray := prog_8_method_49_code
def yX6_told : MethodName := ⟨RX6, "told", "(I)I"⟩
def RJ6 : String := "java/lang/Integer"
def TJ6 : u_T := fun k => match k with
  | _ => ("", "", "", false)
def tyJ6 : Nat → FieldType := fun k => match k with
  | _ => .int
abbrev wsJ60 : List Cond := u_ws RJ6 TJ6 0
theorem nmJ6 : ∀ a, a < 0 → ∀ b, b < 0 → a ≠ b → (TJ6 a).2.1 ≠ (TJ6 b).2.1 := by decide +kernel
theorem tyJ6_ok : ∀ k, k < 0 → parseFieldDescriptor (TJ6 k).2.2.1 = some (tyJ6 k) := by decide +kernel
abbrev cJ6_bitCount_0f7a4 : ByteArray := prog_9_method_49_code
def yJ6_bitCount_0f7a4 : MethodName := ⟨RJ6, "bitCount", "(I)I"⟩
def RJ9 : String := "java/lang/Math"
def TJ9 : u_T := fun k => match k with
  | _ => ("", "", "", false)
def tyJ9 : Nat → FieldType := fun k => match k with
  | _ => .int
abbrev wsJ90 : List Cond := u_ws RJ9 TJ9 0
theorem nmJ9 : ∀ a, a < 0 → ∀ b, b < 0 → a ≠ b → (TJ9 a).2.1 ≠ (TJ9 b).2.1 := by decide +kernel
theorem tyJ9_ok : ∀ k, k < 0 → parseFieldDescriptor (TJ9 k).2.2.1 = some (tyJ9 k) := by decide +kernel
abbrev cJ9_abs_0f7a4 : ByteArray := prog_10_method_59_code
def yJ9_abs_0f7a4 : MethodName := ⟨RJ9, "abs", "(I)I"⟩
abbrev cJ9_max_7cf53 : ByteArray := prog_10_method_65_code
def yJ9_max_7cf53 : MethodName := ⟨RJ9, "max", "(II)I"⟩
abbrev cJ9_min_7cf53 : ByteArray := prog_10_method_69_code
def yJ9_min_7cf53 : MethodName := ⟨RJ9, "min", "(II)I"⟩
def RL : String := "RootShapesLaw"
abbrev cL_law : ByteArray := code
def yL_law : MethodName := ⟨RL, "law", "([I)Z"⟩
abbrev vwCl : List vw_C := [(RX0, TX0, 5), (RX1, TX1, 6), (RX2, TX2, 2), (RX3, TX3, 4), (RX4, TX4, 7), (RX5, TX5, 6), (RX6, TX6, 22)]
end
section
theorem dX0_init_0 : decode cX0_init 0 = .ok (.aload_n 0, 1) := by decide +kernel
theorem dX0_init_1 : decode cX0_init 1 = .ok (.invokespecial 3, 3) := by decide +kernel
theorem dX0_init_4 : decode cX0_init 4 = .ok (.aload_n 0, 1) := by decide +kernel
theorem dX0_init_5 : decode cX0_init 5 = .ok (.bipush 8, 2) := by decide +kernel
theorem dX0_init_7 : decode cX0_init 7 = .ok (.newarray .int, 2) := by decide +kernel
theorem dX0_init_9 : decode cX0_init 9 = .ok (.putfield 9, 3) := by decide +kernel
theorem dX0_init_12 : decode cX0_init 12 = .ok (.aload_n 0, 1) := by decide +kernel
theorem dX0_init_13 : decode cX0_init 13 = .ok (.bipush 8, 2) := by decide +kernel
theorem dX0_init_15 : decode cX0_init 15 = .ok (.newarray .int, 2) := by decide +kernel
theorem dX0_init_17 : decode cX0_init 17 = .ok (.putfield 15, 3) := by decide +kernel
theorem dX0_init_20 : decode cX0_init 20 = .ok (.aload_n 0, 1) := by decide +kernel
theorem dX0_init_21 : decode cX0_init 21 = .ok (.bipush 8, 2) := by decide +kernel
theorem dX0_init_23 : decode cX0_init 23 = .ok (.newarray .int, 2) := by decide +kernel
theorem dX0_init_25 : decode cX0_init 25 = .ok (.putfield 18, 3) := by decide +kernel
theorem dX0_init_28 : decode cX0_init 28 = .ok (.aload_n 0, 1) := by decide +kernel
theorem dX0_init_29 : decode cX0_init 29 = .ok (.bipush 8, 2) := by decide +kernel
theorem dX0_init_31 : decode cX0_init 31 = .ok (.newarray .int, 2) := by decide +kernel
theorem dX0_init_33 : decode cX0_init 33 = .ok (.putfield 21, 3) := by decide +kernel
theorem dX0_init_36 : decode cX0_init 36 = .ok (.aload_n 0, 1) := by decide +kernel
theorem dX0_init_37 : decode cX0_init 37 = .ok (.iconst 0, 1) := by decide +kernel
theorem dX0_init_38 : decode cX0_init 38 = .ok (.putfield 24, 3) := by decide +kernel
theorem dX0_init_41 : decode cX0_init 41 = .ok (.return_, 1) := by decide +kernel
theorem dX0_has_0 : decode cX0_has 0 = .ok (.iload_n 1, 1) := by decide +kernel
theorem dX0_has_1 : decode cX0_has 1 = .ok (.iconst 0, 1) := by decide +kernel
theorem dX0_has_2 : decode cX0_has 2 = .ok (.aload_n 0, 1) := by decide +kernel
theorem dX0_has_3 : decode cX0_has 3 = .ok (.getfield 24, 3) := by decide +kernel
theorem dX0_has_6 : decode cX0_has 6 = .ok (.iconst 1, 1) := by decide +kernel
theorem dX0_has_7 : decode cX0_has 7 = .ok (.isub, 1) := by decide +kernel
theorem dX0_has_8 : decode cX0_has 8 = .ok (.invokestatic 28, 3) := by decide +kernel
theorem dX0_has_11 : decode cX0_has 11 = .ok (.ireturn, 1) := by decide +kernel
theorem dX0_holds_0 : decode cX0_holds 0 = .ok (.iconst 0, 1) := by decide +kernel
theorem dX0_holds_1 : decode cX0_holds 1 = .ok (.istore_n 3, 1) := by decide +kernel
theorem dX0_holds_2 : decode cX0_holds 2 = .ok (.iload_n 3, 1) := by decide +kernel
theorem dX0_holds_3 : decode cX0_holds 3 = .ok (.aload_n 0, 1) := by decide +kernel
theorem dX0_holds_4 : decode cX0_holds 4 = .ok (.getfield 24, 3) := by decide +kernel
theorem dX0_holds_7 : decode cX0_holds 7 = .ok (.if_icmp .ge 31, 3) := by decide +kernel
theorem dX0_holds_10 : decode cX0_holds 10 = .ok (.aload_n 0, 1) := by decide +kernel
theorem dX0_holds_11 : decode cX0_holds 11 = .ok (.getfield 9, 3) := by decide +kernel
theorem dX0_holds_14 : decode cX0_holds 14 = .ok (.iload_n 3, 1) := by decide +kernel
theorem dX0_holds_15 : decode cX0_holds 15 = .ok (.iaload, 1) := by decide +kernel
theorem dX0_holds_16 : decode cX0_holds 16 = .ok (.iload_n 1, 1) := by decide +kernel
theorem dX0_holds_17 : decode cX0_holds 17 = .ok (.if_icmp .ne 15, 3) := by decide +kernel
theorem dX0_holds_20 : decode cX0_holds 20 = .ok (.aload_n 0, 1) := by decide +kernel
theorem dX0_holds_21 : decode cX0_holds 21 = .ok (.getfield 15, 3) := by decide +kernel
theorem dX0_holds_24 : decode cX0_holds 24 = .ok (.iload_n 3, 1) := by decide +kernel
theorem dX0_holds_25 : decode cX0_holds 25 = .ok (.iaload, 1) := by decide +kernel
theorem dX0_holds_26 : decode cX0_holds 26 = .ok (.iload_n 2, 1) := by decide +kernel
theorem dX0_holds_27 : decode cX0_holds 27 = .ok (.if_icmp .ne 5, 3) := by decide +kernel
theorem dX0_holds_30 : decode cX0_holds 30 = .ok (.iconst 1, 1) := by decide +kernel
theorem dX0_holds_31 : decode cX0_holds 31 = .ok (.ireturn, 1) := by decide +kernel
theorem dX0_holds_32 : decode cX0_holds 32 = .ok (.iinc 3 1, 3) := by decide +kernel
theorem dX0_holds_35 : decode cX0_holds 35 = .ok (.goto (-33), 3) := by decide +kernel
theorem dX0_holds_38 : decode cX0_holds 38 = .ok (.iconst 0, 1) := by decide +kernel
theorem dX0_holds_39 : decode cX0_holds 39 = .ok (.ireturn, 1) := by decide +kernel
theorem dX0_add_0 : decode cX0_add 0 = .ok (.aload_n 0, 1) := by decide +kernel
theorem dX0_add_1 : decode cX0_add 1 = .ok (.getfield 24, 3) := by decide +kernel
theorem dX0_add_4 : decode cX0_add 4 = .ok (.istore 4, 2) := by decide +kernel
theorem dX0_add_6 : decode cX0_add 6 = .ok (.iload 4, 2) := by decide +kernel
theorem dX0_add_8 : decode cX0_add 8 = .ok (.bipush 8, 2) := by decide +kernel
theorem dX0_add_10 : decode cX0_add 10 = .ok (.if_icmp .lt 6, 3) := by decide +kernel
theorem dX0_add_13 : decode cX0_add 13 = .ok (.bipush (-4), 2) := by decide +kernel
theorem dX0_add_15 : decode cX0_add 15 = .ok (.ireturn, 1) := by decide +kernel
theorem dX0_add_16 : decode cX0_add 16 = .ok (.aload_n 0, 1) := by decide +kernel
theorem dX0_add_17 : decode cX0_add 17 = .ok (.getfield 9, 3) := by decide +kernel
theorem dX0_add_20 : decode cX0_add 20 = .ok (.iload 4, 2) := by decide +kernel
theorem dX0_add_22 : decode cX0_add 22 = .ok (.iload_n 1, 1) := by decide +kernel
theorem dX0_add_23 : decode cX0_add 23 = .ok (.iastore, 1) := by decide +kernel
theorem dX0_add_24 : decode cX0_add 24 = .ok (.aload_n 0, 1) := by decide +kernel
theorem dX0_add_25 : decode cX0_add 25 = .ok (.getfield 15, 3) := by decide +kernel
theorem dX0_add_28 : decode cX0_add 28 = .ok (.iload 4, 2) := by decide +kernel
theorem dX0_add_30 : decode cX0_add 30 = .ok (.iload_n 2, 1) := by decide +kernel
theorem dX0_add_31 : decode cX0_add 31 = .ok (.iastore, 1) := by decide +kernel
theorem dX0_add_32 : decode cX0_add 32 = .ok (.aload_n 0, 1) := by decide +kernel
theorem dX0_add_33 : decode cX0_add 33 = .ok (.getfield 18, 3) := by decide +kernel
theorem dX0_add_36 : decode cX0_add 36 = .ok (.iload 4, 2) := by decide +kernel
theorem dX0_add_38 : decode cX0_add 38 = .ok (.iload_n 3, 1) := by decide +kernel
theorem dX0_add_39 : decode cX0_add 39 = .ok (.iastore, 1) := by decide +kernel
theorem dX0_add_40 : decode cX0_add 40 = .ok (.aload_n 0, 1) := by decide +kernel
theorem dX0_add_41 : decode cX0_add 41 = .ok (.getfield 21, 3) := by decide +kernel
theorem dX0_add_44 : decode cX0_add 44 = .ok (.iload 4, 2) := by decide +kernel
theorem dX0_add_46 : decode cX0_add 46 = .ok (.iconst 0, 1) := by decide +kernel
theorem dX0_add_47 : decode cX0_add 47 = .ok (.iastore, 1) := by decide +kernel
theorem dX0_add_48 : decode cX0_add 48 = .ok (.aload_n 0, 1) := by decide +kernel
theorem dX0_add_49 : decode cX0_add 49 = .ok (.dup, 1) := by decide +kernel
theorem dX0_add_50 : decode cX0_add 50 = .ok (.getfield 24, 3) := by decide +kernel
theorem dX0_add_53 : decode cX0_add 53 = .ok (.iconst 1, 1) := by decide +kernel
theorem dX0_add_54 : decode cX0_add 54 = .ok (.iadd, 1) := by decide +kernel
theorem dX0_add_55 : decode cX0_add 55 = .ok (.putfield 24, 3) := by decide +kernel
theorem dX0_add_58 : decode cX0_add 58 = .ok (.iload 4, 2) := by decide +kernel
theorem dX0_add_60 : decode cX0_add 60 = .ok (.ireturn, 1) := by decide +kernel
theorem dX0_signsDiffer_0 : decode cX0_signsDiffer 0 = .ok (.aload_n 0, 1) := by decide +kernel
theorem dX0_signsDiffer_1 : decode cX0_signsDiffer 1 = .ok (.iconst 0, 1) := by decide +kernel
theorem dX0_signsDiffer_2 : decode cX0_signsDiffer 2 = .ok (.iload_n 1, 1) := by decide +kernel
theorem dX0_signsDiffer_3 : decode cX0_signsDiffer 3 = .ok (.iload_n 2, 1) := by decide +kernel
theorem dX0_signsDiffer_4 : decode cX0_signsDiffer 4 = .ok (.invokevirtual 32, 3) := by decide +kernel
theorem dX0_signsDiffer_7 : decode cX0_signsDiffer 7 = .ok (.aload_n 0, 1) := by decide +kernel
theorem dX0_signsDiffer_8 : decode cX0_signsDiffer 8 = .ok (.iconst 1, 1) := by decide +kernel
theorem dX0_signsDiffer_9 : decode cX0_signsDiffer 9 = .ok (.iload_n 1, 1) := by decide +kernel
theorem dX0_signsDiffer_10 : decode cX0_signsDiffer 10 = .ok (.iload_n 2, 1) := by decide +kernel
theorem dX0_signsDiffer_11 : decode cX0_signsDiffer 11 = .ok (.invokevirtual 32, 3) := by decide +kernel
theorem dX0_signsDiffer_14 : decode cX0_signsDiffer 14 = .ok (.if_icmp .eq 7, 3) := by decide +kernel
theorem dX0_signsDiffer_17 : decode cX0_signsDiffer 17 = .ok (.iconst 1, 1) := by decide +kernel
theorem dX0_signsDiffer_18 : decode cX0_signsDiffer 18 = .ok (.goto 4, 3) := by decide +kernel
theorem dX0_signsDiffer_21 : decode cX0_signsDiffer 21 = .ok (.iconst 0, 1) := by decide +kernel
theorem dX0_signsDiffer_22 : decode cX0_signsDiffer 22 = .ok (.ireturn, 1) := by decide +kernel
theorem dX0_isMinus_0 : decode cX0_isMinus 0 = .ok (.aload_n 0, 1) := by decide +kernel
theorem dX0_isMinus_1 : decode cX0_isMinus 1 = .ok (.getfield 18, 3) := by decide +kernel
theorem dX0_isMinus_4 : decode cX0_isMinus 4 = .ok (.iload_n 1, 1) := by decide +kernel
theorem dX0_isMinus_5 : decode cX0_isMinus 5 = .ok (.iaload, 1) := by decide +kernel
theorem dX0_isMinus_6 : decode cX0_isMinus 6 = .ok (.ifCond .ge 7, 3) := by decide +kernel
theorem dX0_isMinus_9 : decode cX0_isMinus 9 = .ok (.iconst 1, 1) := by decide +kernel
theorem dX0_isMinus_10 : decode cX0_isMinus 10 = .ok (.goto 4, 3) := by decide +kernel
theorem dX0_isMinus_13 : decode cX0_isMinus 13 = .ok (.iconst 0, 1) := by decide +kernel
theorem dX0_isMinus_14 : decode cX0_isMinus 14 = .ok (.istore 4, 2) := by decide +kernel
theorem dX0_isMinus_16 : decode cX0_isMinus 16 = .ok (.iload_n 2, 1) := by decide +kernel
theorem dX0_isMinus_17 : decode cX0_isMinus 17 = .ok (.ifCond .eq 26, 3) := by decide +kernel
theorem dX0_isMinus_20 : decode cX0_isMinus 20 = .ok (.aload_n 0, 1) := by decide +kernel
theorem dX0_isMinus_21 : decode cX0_isMinus 21 = .ok (.getfield 9, 3) := by decide +kernel
theorem dX0_isMinus_24 : decode cX0_isMinus 24 = .ok (.iload_n 1, 1) := by decide +kernel
theorem dX0_isMinus_25 : decode cX0_isMinus 25 = .ok (.iaload, 1) := by decide +kernel
theorem dX0_isMinus_26 : decode cX0_isMinus 26 = .ok (.iconst 2, 1) := by decide +kernel
theorem dX0_isMinus_27 : decode cX0_isMinus 27 = .ok (.irem, 1) := by decide +kernel
theorem dX0_isMinus_28 : decode cX0_isMinus 28 = .ok (.ifCond .eq 15, 3) := by decide +kernel
theorem dX0_isMinus_31 : decode cX0_isMinus 31 = .ok (.iload 4, 2) := by decide +kernel
theorem dX0_isMinus_33 : decode cX0_isMinus 33 = .ok (.ifCond .ne 7, 3) := by decide +kernel
theorem dX0_isMinus_36 : decode cX0_isMinus 36 = .ok (.iconst 1, 1) := by decide +kernel
theorem dX0_isMinus_37 : decode cX0_isMinus 37 = .ok (.goto 4, 3) := by decide +kernel
theorem dX0_isMinus_40 : decode cX0_isMinus 40 = .ok (.iconst 0, 1) := by decide +kernel
theorem dX0_isMinus_41 : decode cX0_isMinus 41 = .ok (.istore 4, 2) := by decide +kernel
theorem dX0_isMinus_43 : decode cX0_isMinus 43 = .ok (.iload_n 3, 1) := by decide +kernel
theorem dX0_isMinus_44 : decode cX0_isMinus 44 = .ok (.ifCond .eq 26, 3) := by decide +kernel
theorem dX0_isMinus_47 : decode cX0_isMinus 47 = .ok (.aload_n 0, 1) := by decide +kernel
theorem dX0_isMinus_48 : decode cX0_isMinus 48 = .ok (.getfield 15, 3) := by decide +kernel
theorem dX0_isMinus_51 : decode cX0_isMinus 51 = .ok (.iload_n 1, 1) := by decide +kernel
theorem dX0_isMinus_52 : decode cX0_isMinus 52 = .ok (.iaload, 1) := by decide +kernel
theorem dX0_isMinus_53 : decode cX0_isMinus 53 = .ok (.iconst 2, 1) := by decide +kernel
theorem dX0_isMinus_54 : decode cX0_isMinus 54 = .ok (.irem, 1) := by decide +kernel
theorem dX0_isMinus_55 : decode cX0_isMinus 55 = .ok (.ifCond .eq 15, 3) := by decide +kernel
theorem dX0_isMinus_58 : decode cX0_isMinus 58 = .ok (.iload 4, 2) := by decide +kernel
theorem dX0_isMinus_60 : decode cX0_isMinus 60 = .ok (.ifCond .ne 7, 3) := by decide +kernel
theorem dX0_isMinus_63 : decode cX0_isMinus 63 = .ok (.iconst 1, 1) := by decide +kernel
theorem dX0_isMinus_64 : decode cX0_isMinus 64 = .ok (.goto 4, 3) := by decide +kernel
theorem dX0_isMinus_67 : decode cX0_isMinus 67 = .ok (.iconst 0, 1) := by decide +kernel
theorem dX0_isMinus_68 : decode cX0_isMinus 68 = .ok (.istore 4, 2) := by decide +kernel
theorem dX0_isMinus_70 : decode cX0_isMinus 70 = .ok (.iload 4, 2) := by decide +kernel
theorem dX0_isMinus_72 : decode cX0_isMinus 72 = .ok (.ireturn, 1) := by decide +kernel
theorem dX1_init_0 : decode cX1_init 0 = .ok (.aload_n 0, 1) := by decide +kernel
theorem dX1_init_1 : decode cX1_init 1 = .ok (.invokespecial 3, 3) := by decide +kernel
theorem dX1_init_4 : decode cX1_init 4 = .ok (.aload_n 0, 1) := by decide +kernel
theorem dX1_init_5 : decode cX1_init 5 = .ok (.bipush 64, 2) := by decide +kernel
theorem dX1_init_7 : decode cX1_init 7 = .ok (.newarray .int, 2) := by decide +kernel
theorem dX1_init_9 : decode cX1_init 9 = .ok (.putfield 11, 3) := by decide +kernel
theorem dX1_init_12 : decode cX1_init 12 = .ok (.aload_n 0, 1) := by decide +kernel
theorem dX1_init_13 : decode cX1_init 13 = .ok (.bipush 64, 2) := by decide +kernel
theorem dX1_init_15 : decode cX1_init 15 = .ok (.newarray .int, 2) := by decide +kernel
theorem dX1_init_17 : decode cX1_init 17 = .ok (.putfield 15, 3) := by decide +kernel
theorem dX1_init_20 : decode cX1_init 20 = .ok (.aload_n 0, 1) := by decide +kernel
theorem dX1_init_21 : decode cX1_init 21 = .ok (.iconst 0, 1) := by decide +kernel
theorem dX1_init_22 : decode cX1_init 22 = .ok (.putfield 18, 3) := by decide +kernel
theorem dX1_init_25 : decode cX1_init 25 = .ok (.aload_n 0, 1) := by decide +kernel
theorem dX1_init_26 : decode cX1_init 26 = .ok (.bipush 64, 2) := by decide +kernel
theorem dX1_init_28 : decode cX1_init 28 = .ok (.newarray .int, 2) := by decide +kernel
theorem dX1_init_30 : decode cX1_init 30 = .ok (.putfield 22, 3) := by decide +kernel
theorem dX1_init_33 : decode cX1_init 33 = .ok (.aload_n 0, 1) := by decide +kernel
theorem dX1_init_34 : decode cX1_init 34 = .ok (.bipush 64, 2) := by decide +kernel
theorem dX1_init_36 : decode cX1_init 36 = .ok (.newarray .int, 2) := by decide +kernel
theorem dX1_init_38 : decode cX1_init 38 = .ok (.putfield 25, 3) := by decide +kernel
theorem dX1_init_41 : decode cX1_init 41 = .ok (.aload_n 0, 1) := by decide +kernel
theorem dX1_init_42 : decode cX1_init 42 = .ok (.iconst 0, 1) := by decide +kernel
theorem dX1_init_43 : decode cX1_init 43 = .ok (.putfield 28, 3) := by decide +kernel
theorem dX1_init_46 : decode cX1_init 46 = .ok (.return_, 1) := by decide +kernel
theorem dX1_drawOne_0 : decode cX1_drawOne 0 = .ok (.aload_n 0, 1) := by decide +kernel
theorem dX1_drawOne_1 : decode cX1_drawOne 1 = .ok (.iconst 0, 1) := by decide +kernel
theorem dX1_drawOne_2 : decode cX1_drawOne 2 = .ok (.putfield 28, 3) := by decide +kernel
theorem dX1_drawOne_5 : decode cX1_drawOne 5 = .ok (.iconst 0, 1) := by decide +kernel
theorem dX1_drawOne_6 : decode cX1_drawOne 6 = .ok (.istore_n 2, 1) := by decide +kernel
theorem dX1_drawOne_7 : decode cX1_drawOne 7 = .ok (.iload_n 2, 1) := by decide +kernel
theorem dX1_drawOne_8 : decode cX1_drawOne 8 = .ok (.aload_n 1, 1) := by decide +kernel
theorem dX1_drawOne_9 : decode cX1_drawOne 9 = .ok (.getfield 31, 3) := by decide +kernel
theorem dX1_drawOne_12 : decode cX1_drawOne 12 = .ok (.if_icmp .ge 25, 3) := by decide +kernel
theorem dX1_drawOne_15 : decode cX1_drawOne 15 = .ok (.aload_n 0, 1) := by decide +kernel
theorem dX1_drawOne_16 : decode cX1_drawOne 16 = .ok (.aload_n 1, 1) := by decide +kernel
theorem dX1_drawOne_17 : decode cX1_drawOne 17 = .ok (.getfield 36, 3) := by decide +kernel
theorem dX1_drawOne_20 : decode cX1_drawOne 20 = .ok (.iload_n 2, 1) := by decide +kernel
theorem dX1_drawOne_21 : decode cX1_drawOne 21 = .ok (.iaload, 1) := by decide +kernel
theorem dX1_drawOne_22 : decode cX1_drawOne 22 = .ok (.aload_n 1, 1) := by decide +kernel
theorem dX1_drawOne_23 : decode cX1_drawOne 23 = .ok (.getfield 39, 3) := by decide +kernel
theorem dX1_drawOne_26 : decode cX1_drawOne 26 = .ok (.iload_n 2, 1) := by decide +kernel
theorem dX1_drawOne_27 : decode cX1_drawOne 27 = .ok (.iaload, 1) := by decide +kernel
theorem dX1_drawOne_28 : decode cX1_drawOne 28 = .ok (.invokevirtual 42, 3) := by decide +kernel
theorem dX1_drawOne_31 : decode cX1_drawOne 31 = .ok (.iinc 2 1, 3) := by decide +kernel
theorem dX1_drawOne_34 : decode cX1_drawOne 34 = .ok (.goto (-27), 3) := by decide +kernel
theorem dX1_drawOne_37 : decode cX1_drawOne 37 = .ok (.aload_n 0, 1) := by decide +kernel
theorem dX1_drawOne_38 : decode cX1_drawOne 38 = .ok (.invokevirtual 46, 3) := by decide +kernel
theorem dX1_drawOne_41 : decode cX1_drawOne 41 = .ok (.return_, 1) := by decide +kernel
theorem dX1_drawSum_0 : decode cX1_drawSum 0 = .ok (.aload_n 0, 1) := by decide +kernel
theorem dX1_drawSum_1 : decode cX1_drawSum 1 = .ok (.iconst 0, 1) := by decide +kernel
theorem dX1_drawSum_2 : decode cX1_drawSum 2 = .ok (.putfield 28, 3) := by decide +kernel
theorem dX1_drawSum_5 : decode cX1_drawSum 5 = .ok (.iconst 0, 1) := by decide +kernel
theorem dX1_drawSum_6 : decode cX1_drawSum 6 = .ok (.istore_n 3, 1) := by decide +kernel
theorem dX1_drawSum_7 : decode cX1_drawSum 7 = .ok (.iload_n 3, 1) := by decide +kernel
theorem dX1_drawSum_8 : decode cX1_drawSum 8 = .ok (.aload_n 1, 1) := by decide +kernel
theorem dX1_drawSum_9 : decode cX1_drawSum 9 = .ok (.getfield 31, 3) := by decide +kernel
theorem dX1_drawSum_12 : decode cX1_drawSum 12 = .ok (.if_icmp .ge 59, 3) := by decide +kernel
theorem dX1_drawSum_15 : decode cX1_drawSum 15 = .ok (.iconst 0, 1) := by decide +kernel
theorem dX1_drawSum_16 : decode cX1_drawSum 16 = .ok (.istore 4, 2) := by decide +kernel
theorem dX1_drawSum_18 : decode cX1_drawSum 18 = .ok (.iload 4, 2) := by decide +kernel
theorem dX1_drawSum_20 : decode cX1_drawSum 20 = .ok (.aload_n 2, 1) := by decide +kernel
theorem dX1_drawSum_21 : decode cX1_drawSum 21 = .ok (.getfield 31, 3) := by decide +kernel
theorem dX1_drawSum_24 : decode cX1_drawSum 24 = .ok (.if_icmp .ge 41, 3) := by decide +kernel
theorem dX1_drawSum_27 : decode cX1_drawSum 27 = .ok (.aload_n 0, 1) := by decide +kernel
theorem dX1_drawSum_28 : decode cX1_drawSum 28 = .ok (.aload_n 1, 1) := by decide +kernel
theorem dX1_drawSum_29 : decode cX1_drawSum 29 = .ok (.getfield 36, 3) := by decide +kernel
theorem dX1_drawSum_32 : decode cX1_drawSum 32 = .ok (.iload_n 3, 1) := by decide +kernel
theorem dX1_drawSum_33 : decode cX1_drawSum 33 = .ok (.iaload, 1) := by decide +kernel
theorem dX1_drawSum_34 : decode cX1_drawSum 34 = .ok (.aload_n 2, 1) := by decide +kernel
theorem dX1_drawSum_35 : decode cX1_drawSum 35 = .ok (.getfield 36, 3) := by decide +kernel
theorem dX1_drawSum_38 : decode cX1_drawSum 38 = .ok (.iload 4, 2) := by decide +kernel
theorem dX1_drawSum_40 : decode cX1_drawSum 40 = .ok (.iaload, 1) := by decide +kernel
theorem dX1_drawSum_41 : decode cX1_drawSum 41 = .ok (.iadd, 1) := by decide +kernel
theorem dX1_drawSum_42 : decode cX1_drawSum 42 = .ok (.aload_n 1, 1) := by decide +kernel
theorem dX1_drawSum_43 : decode cX1_drawSum 43 = .ok (.getfield 39, 3) := by decide +kernel
theorem dX1_drawSum_46 : decode cX1_drawSum 46 = .ok (.iload_n 3, 1) := by decide +kernel
theorem dX1_drawSum_47 : decode cX1_drawSum 47 = .ok (.iaload, 1) := by decide +kernel
theorem dX1_drawSum_48 : decode cX1_drawSum 48 = .ok (.aload_n 2, 1) := by decide +kernel
theorem dX1_drawSum_49 : decode cX1_drawSum 49 = .ok (.getfield 39, 3) := by decide +kernel
theorem dX1_drawSum_52 : decode cX1_drawSum 52 = .ok (.iload 4, 2) := by decide +kernel
theorem dX1_drawSum_54 : decode cX1_drawSum 54 = .ok (.iaload, 1) := by decide +kernel
theorem dX1_drawSum_55 : decode cX1_drawSum 55 = .ok (.iadd, 1) := by decide +kernel
theorem dX1_drawSum_56 : decode cX1_drawSum 56 = .ok (.invokevirtual 42, 3) := by decide +kernel
theorem dX1_drawSum_59 : decode cX1_drawSum 59 = .ok (.iinc 4 1, 3) := by decide +kernel
theorem dX1_drawSum_62 : decode cX1_drawSum 62 = .ok (.goto (-44), 3) := by decide +kernel
theorem dX1_drawSum_65 : decode cX1_drawSum 65 = .ok (.iinc 3 1, 3) := by decide +kernel
theorem dX1_drawSum_68 : decode cX1_drawSum 68 = .ok (.goto (-61), 3) := by decide +kernel
theorem dX1_drawSum_71 : decode cX1_drawSum 71 = .ok (.aload_n 0, 1) := by decide +kernel
theorem dX1_drawSum_72 : decode cX1_drawSum 72 = .ok (.invokevirtual 46, 3) := by decide +kernel
theorem dX1_drawSum_75 : decode cX1_drawSum 75 = .ok (.return_, 1) := by decide +kernel
theorem dX1_area_0 : decode cX1_area 0 = .ok (.iconst 0, 1) := by decide +kernel
theorem dX1_area_1 : decode cX1_area 1 = .ok (.istore_n 1, 1) := by decide +kernel
theorem dX1_area_2 : decode cX1_area 2 = .ok (.iconst 0, 1) := by decide +kernel
theorem dX1_area_3 : decode cX1_area 3 = .ok (.istore_n 2, 1) := by decide +kernel
theorem dX1_area_4 : decode cX1_area 4 = .ok (.iload_n 2, 1) := by decide +kernel
theorem dX1_area_5 : decode cX1_area 5 = .ok (.aload_n 0, 1) := by decide +kernel
theorem dX1_area_6 : decode cX1_area 6 = .ok (.getfield 18, 3) := by decide +kernel
theorem dX1_area_9 : decode cX1_area 9 = .ok (.if_icmp .ge 45, 3) := by decide +kernel
theorem dX1_area_12 : decode cX1_area 12 = .ok (.aload_n 0, 1) := by decide +kernel
theorem dX1_area_13 : decode cX1_area 13 = .ok (.iload_n 2, 1) := by decide +kernel
theorem dX1_area_14 : decode cX1_area 14 = .ok (.invokevirtual 49, 3) := by decide +kernel
theorem dX1_area_17 : decode cX1_area 17 = .ok (.istore_n 3, 1) := by decide +kernel
theorem dX1_area_18 : decode cX1_area 18 = .ok (.iload_n 1, 1) := by decide +kernel
theorem dX1_area_19 : decode cX1_area 19 = .ok (.aload_n 0, 1) := by decide +kernel
theorem dX1_area_20 : decode cX1_area 20 = .ok (.getfield 11, 3) := by decide +kernel
theorem dX1_area_23 : decode cX1_area 23 = .ok (.iload_n 2, 1) := by decide +kernel
theorem dX1_area_24 : decode cX1_area 24 = .ok (.iaload, 1) := by decide +kernel
theorem dX1_area_25 : decode cX1_area 25 = .ok (.aload_n 0, 1) := by decide +kernel
theorem dX1_area_26 : decode cX1_area 26 = .ok (.getfield 15, 3) := by decide +kernel
theorem dX1_area_29 : decode cX1_area 29 = .ok (.iload_n 3, 1) := by decide +kernel
theorem dX1_area_30 : decode cX1_area 30 = .ok (.iaload, 1) := by decide +kernel
theorem dX1_area_31 : decode cX1_area 31 = .ok (.imul, 1) := by decide +kernel
theorem dX1_area_32 : decode cX1_area 32 = .ok (.aload_n 0, 1) := by decide +kernel
theorem dX1_area_33 : decode cX1_area 33 = .ok (.getfield 15, 3) := by decide +kernel
theorem dX1_area_36 : decode cX1_area 36 = .ok (.iload_n 2, 1) := by decide +kernel
theorem dX1_area_37 : decode cX1_area 37 = .ok (.iaload, 1) := by decide +kernel
theorem dX1_area_38 : decode cX1_area 38 = .ok (.aload_n 0, 1) := by decide +kernel
theorem dX1_area_39 : decode cX1_area 39 = .ok (.getfield 11, 3) := by decide +kernel
theorem dX1_area_42 : decode cX1_area 42 = .ok (.iload_n 3, 1) := by decide +kernel
theorem dX1_area_43 : decode cX1_area 43 = .ok (.iaload, 1) := by decide +kernel
theorem dX1_area_44 : decode cX1_area 44 = .ok (.imul, 1) := by decide +kernel
theorem dX1_area_45 : decode cX1_area 45 = .ok (.isub, 1) := by decide +kernel
theorem dX1_area_46 : decode cX1_area 46 = .ok (.iadd, 1) := by decide +kernel
theorem dX1_area_47 : decode cX1_area 47 = .ok (.istore_n 1, 1) := by decide +kernel
theorem dX1_area_48 : decode cX1_area 48 = .ok (.iinc 2 1, 3) := by decide +kernel
theorem dX1_area_51 : decode cX1_area 51 = .ok (.goto (-47), 3) := by decide +kernel
theorem dX1_area_54 : decode cX1_area 54 = .ok (.iload_n 1, 1) := by decide +kernel
theorem dX1_area_55 : decode cX1_area 55 = .ok (.ireturn, 1) := by decide +kernel
theorem dX1_rim_0 : decode cX1_rim 0 = .ok (.aload_n 0, 1) := by decide +kernel
theorem dX1_rim_1 : decode cX1_rim 1 = .ok (.getfield 18, 3) := by decide +kernel
theorem dX1_rim_4 : decode cX1_rim 4 = .ok (.iconst 2, 1) := by decide +kernel
theorem dX1_rim_5 : decode cX1_rim 5 = .ok (.if_icmp .ge 8, 3) := by decide +kernel
theorem dX1_rim_8 : decode cX1_rim 8 = .ok (.aload_n 0, 1) := by decide +kernel
theorem dX1_rim_9 : decode cX1_rim 9 = .ok (.getfield 18, 3) := by decide +kernel
theorem dX1_rim_12 : decode cX1_rim 12 = .ok (.ireturn, 1) := by decide +kernel
theorem dX1_rim_13 : decode cX1_rim 13 = .ok (.iconst 0, 1) := by decide +kernel
theorem dX1_rim_14 : decode cX1_rim 14 = .ok (.istore_n 1, 1) := by decide +kernel
theorem dX1_rim_15 : decode cX1_rim 15 = .ok (.iconst 0, 1) := by decide +kernel
theorem dX1_rim_16 : decode cX1_rim 16 = .ok (.istore_n 2, 1) := by decide +kernel
theorem dX1_rim_17 : decode cX1_rim 17 = .ok (.iload_n 2, 1) := by decide +kernel
theorem dX1_rim_18 : decode cX1_rim 18 = .ok (.aload_n 0, 1) := by decide +kernel
theorem dX1_rim_19 : decode cX1_rim 19 = .ok (.getfield 18, 3) := by decide +kernel
theorem dX1_rim_22 : decode cX1_rim 22 = .ok (.if_icmp .ge 47, 3) := by decide +kernel
theorem dX1_rim_25 : decode cX1_rim 25 = .ok (.aload_n 0, 1) := by decide +kernel
theorem dX1_rim_26 : decode cX1_rim 26 = .ok (.iload_n 2, 1) := by decide +kernel
theorem dX1_rim_27 : decode cX1_rim 27 = .ok (.invokevirtual 49, 3) := by decide +kernel
theorem dX1_rim_30 : decode cX1_rim 30 = .ok (.istore_n 3, 1) := by decide +kernel
theorem dX1_rim_31 : decode cX1_rim 31 = .ok (.iload_n 1, 1) := by decide +kernel
theorem dX1_rim_32 : decode cX1_rim 32 = .ok (.aload_n 0, 1) := by decide +kernel
theorem dX1_rim_33 : decode cX1_rim 33 = .ok (.getfield 11, 3) := by decide +kernel
theorem dX1_rim_36 : decode cX1_rim 36 = .ok (.iload_n 3, 1) := by decide +kernel
theorem dX1_rim_37 : decode cX1_rim 37 = .ok (.iaload, 1) := by decide +kernel
theorem dX1_rim_38 : decode cX1_rim 38 = .ok (.aload_n 0, 1) := by decide +kernel
theorem dX1_rim_39 : decode cX1_rim 39 = .ok (.getfield 11, 3) := by decide +kernel
theorem dX1_rim_42 : decode cX1_rim 42 = .ok (.iload_n 2, 1) := by decide +kernel
theorem dX1_rim_43 : decode cX1_rim 43 = .ok (.iaload, 1) := by decide +kernel
theorem dX1_rim_44 : decode cX1_rim 44 = .ok (.isub, 1) := by decide +kernel
theorem dX1_rim_45 : decode cX1_rim 45 = .ok (.aload_n 0, 1) := by decide +kernel
theorem dX1_rim_46 : decode cX1_rim 46 = .ok (.getfield 15, 3) := by decide +kernel
theorem dX1_rim_49 : decode cX1_rim 49 = .ok (.iload_n 3, 1) := by decide +kernel
theorem dX1_rim_50 : decode cX1_rim 50 = .ok (.iaload, 1) := by decide +kernel
theorem dX1_rim_51 : decode cX1_rim 51 = .ok (.aload_n 0, 1) := by decide +kernel
theorem dX1_rim_52 : decode cX1_rim 52 = .ok (.getfield 15, 3) := by decide +kernel
theorem dX1_rim_55 : decode cX1_rim 55 = .ok (.iload_n 2, 1) := by decide +kernel
theorem dX1_rim_56 : decode cX1_rim 56 = .ok (.iaload, 1) := by decide +kernel
theorem dX1_rim_57 : decode cX1_rim 57 = .ok (.isub, 1) := by decide +kernel
theorem dX1_rim_58 : decode cX1_rim 58 = .ok (.invokestatic 53, 3) := by decide +kernel
theorem dX1_rim_61 : decode cX1_rim 61 = .ok (.iadd, 1) := by decide +kernel
theorem dX1_rim_62 : decode cX1_rim 62 = .ok (.istore_n 1, 1) := by decide +kernel
theorem dX1_rim_63 : decode cX1_rim 63 = .ok (.iinc 2 1, 3) := by decide +kernel
theorem dX1_rim_66 : decode cX1_rim 66 = .ok (.goto (-49), 3) := by decide +kernel
theorem dX1_rim_69 : decode cX1_rim 69 = .ok (.aload_n 0, 1) := by decide +kernel
theorem dX1_rim_70 : decode cX1_rim 70 = .ok (.getfield 18, 3) := by decide +kernel
theorem dX1_rim_73 : decode cX1_rim 73 = .ok (.iconst 2, 1) := by decide +kernel
theorem dX1_rim_74 : decode cX1_rim 74 = .ok (.if_icmp .ne 11, 3) := by decide +kernel
theorem dX1_rim_77 : decode cX1_rim 77 = .ok (.iload_n 1, 1) := by decide +kernel
theorem dX1_rim_78 : decode cX1_rim 78 = .ok (.iconst 2, 1) := by decide +kernel
theorem dX1_rim_79 : decode cX1_rim 79 = .ok (.idiv, 1) := by decide +kernel
theorem dX1_rim_80 : decode cX1_rim 80 = .ok (.iconst 1, 1) := by decide +kernel
theorem dX1_rim_81 : decode cX1_rim 81 = .ok (.iadd, 1) := by decide +kernel
theorem dX1_rim_82 : decode cX1_rim 82 = .ok (.goto 4, 3) := by decide +kernel
theorem dX1_rim_85 : decode cX1_rim 85 = .ok (.iload_n 1, 1) := by decide +kernel
theorem dX1_rim_86 : decode cX1_rim 86 = .ok (.ireturn, 1) := by decide +kernel
theorem dX1_inner_0 : decode cX1_inner 0 = .ok (.aload_n 0, 1) := by decide +kernel
theorem dX1_inner_1 : decode cX1_inner 1 = .ok (.getfield 18, 3) := by decide +kernel
theorem dX1_inner_4 : decode cX1_inner 4 = .ok (.iconst 3, 1) := by decide +kernel
theorem dX1_inner_5 : decode cX1_inner 5 = .ok (.if_icmp .ge 7, 3) := by decide +kernel
theorem dX1_inner_8 : decode cX1_inner 8 = .ok (.iconst 0, 1) := by decide +kernel
theorem dX1_inner_9 : decode cX1_inner 9 = .ok (.goto 16, 3) := by decide +kernel
theorem dX1_inner_12 : decode cX1_inner 12 = .ok (.aload_n 0, 1) := by decide +kernel
theorem dX1_inner_13 : decode cX1_inner 13 = .ok (.invokevirtual 57, 3) := by decide +kernel
theorem dX1_inner_16 : decode cX1_inner 16 = .ok (.aload_n 0, 1) := by decide +kernel
theorem dX1_inner_17 : decode cX1_inner 17 = .ok (.invokevirtual 61, 3) := by decide +kernel
theorem dX1_inner_20 : decode cX1_inner 20 = .ok (.isub, 1) := by decide +kernel
theorem dX1_inner_21 : decode cX1_inner 21 = .ok (.iconst 2, 1) := by decide +kernel
theorem dX1_inner_22 : decode cX1_inner 22 = .ok (.iadd, 1) := by decide +kernel
theorem dX1_inner_23 : decode cX1_inner 23 = .ok (.iconst 2, 1) := by decide +kernel
theorem dX1_inner_24 : decode cX1_inner 24 = .ok (.idiv, 1) := by decide +kernel
theorem dX1_inner_25 : decode cX1_inner 25 = .ok (.ireturn, 1) := by decide +kernel
theorem dX1_after_0 : decode cX1_after 0 = .ok (.iload_n 1, 1) := by decide +kernel
theorem dX1_after_1 : decode cX1_after 1 = .ok (.iconst 1, 1) := by decide +kernel
theorem dX1_after_2 : decode cX1_after 2 = .ok (.iadd, 1) := by decide +kernel
theorem dX1_after_3 : decode cX1_after 3 = .ok (.aload_n 0, 1) := by decide +kernel
theorem dX1_after_4 : decode cX1_after 4 = .ok (.getfield 18, 3) := by decide +kernel
theorem dX1_after_7 : decode cX1_after 7 = .ok (.if_icmp .ge 9, 3) := by decide +kernel
theorem dX1_after_10 : decode cX1_after 10 = .ok (.iload_n 1, 1) := by decide +kernel
theorem dX1_after_11 : decode cX1_after 11 = .ok (.iconst 1, 1) := by decide +kernel
theorem dX1_after_12 : decode cX1_after 12 = .ok (.iadd, 1) := by decide +kernel
theorem dX1_after_13 : decode cX1_after 13 = .ok (.goto 4, 3) := by decide +kernel
theorem dX1_after_16 : decode cX1_after 16 = .ok (.iconst 0, 1) := by decide +kernel
theorem dX1_after_17 : decode cX1_after 17 = .ok (.ireturn, 1) := by decide +kernel
theorem dX1_put_0 : decode cX1_put 0 = .ok (.aload_n 0, 1) := by decide +kernel
theorem dX1_put_1 : decode cX1_put 1 = .ok (.getfield 28, 3) := by decide +kernel
theorem dX1_put_4 : decode cX1_put 4 = .ok (.bipush 64, 2) := by decide +kernel
theorem dX1_put_6 : decode cX1_put 6 = .ok (.if_icmp .ge 33, 3) := by decide +kernel
theorem dX1_put_9 : decode cX1_put 9 = .ok (.aload_n 0, 1) := by decide +kernel
theorem dX1_put_10 : decode cX1_put 10 = .ok (.getfield 22, 3) := by decide +kernel
theorem dX1_put_13 : decode cX1_put 13 = .ok (.aload_n 0, 1) := by decide +kernel
theorem dX1_put_14 : decode cX1_put 14 = .ok (.getfield 28, 3) := by decide +kernel
theorem dX1_put_17 : decode cX1_put 17 = .ok (.iload_n 1, 1) := by decide +kernel
theorem dX1_put_18 : decode cX1_put 18 = .ok (.iastore, 1) := by decide +kernel
theorem dX1_put_19 : decode cX1_put 19 = .ok (.aload_n 0, 1) := by decide +kernel
theorem dX1_put_20 : decode cX1_put 20 = .ok (.getfield 25, 3) := by decide +kernel
theorem dX1_put_23 : decode cX1_put 23 = .ok (.aload_n 0, 1) := by decide +kernel
theorem dX1_put_24 : decode cX1_put 24 = .ok (.getfield 28, 3) := by decide +kernel
theorem dX1_put_27 : decode cX1_put 27 = .ok (.iload_n 2, 1) := by decide +kernel
theorem dX1_put_28 : decode cX1_put 28 = .ok (.iastore, 1) := by decide +kernel
theorem dX1_put_29 : decode cX1_put 29 = .ok (.aload_n 0, 1) := by decide +kernel
theorem dX1_put_30 : decode cX1_put 30 = .ok (.dup, 1) := by decide +kernel
theorem dX1_put_31 : decode cX1_put 31 = .ok (.getfield 28, 3) := by decide +kernel
theorem dX1_put_34 : decode cX1_put 34 = .ok (.iconst 1, 1) := by decide +kernel
theorem dX1_put_35 : decode cX1_put 35 = .ok (.iadd, 1) := by decide +kernel
theorem dX1_put_36 : decode cX1_put 36 = .ok (.putfield 28, 3) := by decide +kernel
theorem dX1_put_39 : decode cX1_put 39 = .ok (.return_, 1) := by decide +kernel
theorem dX1_wrap_0 : decode cX1_wrap 0 = .ok (.aload_n 0, 1) := by decide +kernel
theorem dX1_wrap_1 : decode cX1_wrap 1 = .ok (.iconst 0, 1) := by decide +kernel
theorem dX1_wrap_2 : decode cX1_wrap 2 = .ok (.putfield 18, 3) := by decide +kernel
theorem dX1_wrap_5 : decode cX1_wrap 5 = .ok (.aload_n 0, 1) := by decide +kernel
theorem dX1_wrap_6 : decode cX1_wrap 6 = .ok (.invokevirtual 64, 3) := by decide +kernel
theorem dX1_wrap_9 : decode cX1_wrap 9 = .ok (.istore_n 1, 1) := by decide +kernel
theorem dX1_wrap_10 : decode cX1_wrap 10 = .ok (.iload_n 1, 1) := by decide +kernel
theorem dX1_wrap_11 : decode cX1_wrap 11 = .ok (.istore_n 2, 1) := by decide +kernel
theorem dX1_wrap_12 : decode cX1_wrap 12 = .ok (.iconst 0, 1) := by decide +kernel
theorem dX1_wrap_13 : decode cX1_wrap 13 = .ok (.istore_n 3, 1) := by decide +kernel
theorem dX1_wrap_14 : decode cX1_wrap 14 = .ok (.iload_n 3, 1) := by decide +kernel
theorem dX1_wrap_15 : decode cX1_wrap 15 = .ok (.aload_n 0, 1) := by decide +kernel
theorem dX1_wrap_16 : decode cX1_wrap 16 = .ok (.getfield 28, 3) := by decide +kernel
theorem dX1_wrap_19 : decode cX1_wrap 19 = .ok (.if_icmp .ge 65, 3) := by decide +kernel
theorem dX1_wrap_22 : decode cX1_wrap 22 = .ok (.aload_n 0, 1) := by decide +kernel
theorem dX1_wrap_23 : decode cX1_wrap 23 = .ok (.getfield 11, 3) := by decide +kernel
theorem dX1_wrap_26 : decode cX1_wrap 26 = .ok (.aload_n 0, 1) := by decide +kernel
theorem dX1_wrap_27 : decode cX1_wrap 27 = .ok (.getfield 18, 3) := by decide +kernel
theorem dX1_wrap_30 : decode cX1_wrap 30 = .ok (.aload_n 0, 1) := by decide +kernel
theorem dX1_wrap_31 : decode cX1_wrap 31 = .ok (.getfield 22, 3) := by decide +kernel
theorem dX1_wrap_34 : decode cX1_wrap 34 = .ok (.iload_n 2, 1) := by decide +kernel
theorem dX1_wrap_35 : decode cX1_wrap 35 = .ok (.iaload, 1) := by decide +kernel
theorem dX1_wrap_36 : decode cX1_wrap 36 = .ok (.iastore, 1) := by decide +kernel
theorem dX1_wrap_37 : decode cX1_wrap 37 = .ok (.aload_n 0, 1) := by decide +kernel
theorem dX1_wrap_38 : decode cX1_wrap 38 = .ok (.getfield 15, 3) := by decide +kernel
theorem dX1_wrap_41 : decode cX1_wrap 41 = .ok (.aload_n 0, 1) := by decide +kernel
theorem dX1_wrap_42 : decode cX1_wrap 42 = .ok (.getfield 18, 3) := by decide +kernel
theorem dX1_wrap_45 : decode cX1_wrap 45 = .ok (.aload_n 0, 1) := by decide +kernel
theorem dX1_wrap_46 : decode cX1_wrap 46 = .ok (.getfield 25, 3) := by decide +kernel
theorem dX1_wrap_49 : decode cX1_wrap 49 = .ok (.iload_n 2, 1) := by decide +kernel
theorem dX1_wrap_50 : decode cX1_wrap 50 = .ok (.iaload, 1) := by decide +kernel
theorem dX1_wrap_51 : decode cX1_wrap 51 = .ok (.iastore, 1) := by decide +kernel
theorem dX1_wrap_52 : decode cX1_wrap 52 = .ok (.aload_n 0, 1) := by decide +kernel
theorem dX1_wrap_53 : decode cX1_wrap 53 = .ok (.dup, 1) := by decide +kernel
theorem dX1_wrap_54 : decode cX1_wrap 54 = .ok (.getfield 18, 3) := by decide +kernel
theorem dX1_wrap_57 : decode cX1_wrap 57 = .ok (.iconst 1, 1) := by decide +kernel
theorem dX1_wrap_58 : decode cX1_wrap 58 = .ok (.iadd, 1) := by decide +kernel
theorem dX1_wrap_59 : decode cX1_wrap 59 = .ok (.putfield 18, 3) := by decide +kernel
theorem dX1_wrap_62 : decode cX1_wrap 62 = .ok (.aload_n 0, 1) := by decide +kernel
theorem dX1_wrap_63 : decode cX1_wrap 63 = .ok (.iload_n 2, 1) := by decide +kernel
theorem dX1_wrap_64 : decode cX1_wrap 64 = .ok (.invokevirtual 67, 3) := by decide +kernel
theorem dX1_wrap_67 : decode cX1_wrap 67 = .ok (.istore_n 2, 1) := by decide +kernel
theorem dX1_wrap_68 : decode cX1_wrap 68 = .ok (.aload_n 0, 1) := by decide +kernel
theorem dX1_wrap_69 : decode cX1_wrap 69 = .ok (.iload_n 2, 1) := by decide +kernel
theorem dX1_wrap_70 : decode cX1_wrap 70 = .ok (.iload_n 1, 1) := by decide +kernel
theorem dX1_wrap_71 : decode cX1_wrap 71 = .ok (.invokevirtual 70, 3) := by decide +kernel
theorem dX1_wrap_74 : decode cX1_wrap 74 = .ok (.ifCond .eq 4, 3) := by decide +kernel
theorem dX1_wrap_77 : decode cX1_wrap 77 = .ok (.return_, 1) := by decide +kernel
theorem dX1_wrap_78 : decode cX1_wrap 78 = .ok (.iinc 3 1, 3) := by decide +kernel
theorem dX1_wrap_81 : decode cX1_wrap 81 = .ok (.goto (-67), 3) := by decide +kernel
theorem dX1_wrap_84 : decode cX1_wrap 84 = .ok (.return_, 1) := by decide +kernel
theorem dX1_firstPoint_0 : decode cX1_firstPoint 0 = .ok (.iconst 0, 1) := by decide +kernel
theorem dX1_firstPoint_1 : decode cX1_firstPoint 1 = .ok (.istore_n 1, 1) := by decide +kernel
theorem dX1_firstPoint_2 : decode cX1_firstPoint 2 = .ok (.iconst 1, 1) := by decide +kernel
theorem dX1_firstPoint_3 : decode cX1_firstPoint 3 = .ok (.istore_n 2, 1) := by decide +kernel
theorem dX1_firstPoint_4 : decode cX1_firstPoint 4 = .ok (.iload_n 2, 1) := by decide +kernel
theorem dX1_firstPoint_5 : decode cX1_firstPoint 5 = .ok (.aload_n 0, 1) := by decide +kernel
theorem dX1_firstPoint_6 : decode cX1_firstPoint 6 = .ok (.getfield 28, 3) := by decide +kernel
theorem dX1_firstPoint_9 : decode cX1_firstPoint 9 = .ok (.if_icmp .ge 66, 3) := by decide +kernel
theorem dX1_firstPoint_12 : decode cX1_firstPoint 12 = .ok (.aload_n 0, 1) := by decide +kernel
theorem dX1_firstPoint_13 : decode cX1_firstPoint 13 = .ok (.getfield 22, 3) := by decide +kernel
theorem dX1_firstPoint_16 : decode cX1_firstPoint 16 = .ok (.iload_n 2, 1) := by decide +kernel
theorem dX1_firstPoint_17 : decode cX1_firstPoint 17 = .ok (.iaload, 1) := by decide +kernel
theorem dX1_firstPoint_18 : decode cX1_firstPoint 18 = .ok (.aload_n 0, 1) := by decide +kernel
theorem dX1_firstPoint_19 : decode cX1_firstPoint 19 = .ok (.getfield 22, 3) := by decide +kernel
theorem dX1_firstPoint_22 : decode cX1_firstPoint 22 = .ok (.iload_n 1, 1) := by decide +kernel
theorem dX1_firstPoint_23 : decode cX1_firstPoint 23 = .ok (.iaload, 1) := by decide +kernel
theorem dX1_firstPoint_24 : decode cX1_firstPoint 24 = .ok (.if_icmp .ne 7, 3) := by decide +kernel
theorem dX1_firstPoint_27 : decode cX1_firstPoint 27 = .ok (.iconst 1, 1) := by decide +kernel
theorem dX1_firstPoint_28 : decode cX1_firstPoint 28 = .ok (.goto 4, 3) := by decide +kernel
theorem dX1_firstPoint_31 : decode cX1_firstPoint 31 = .ok (.iconst 0, 1) := by decide +kernel
theorem dX1_firstPoint_32 : decode cX1_firstPoint 32 = .ok (.istore_n 3, 1) := by decide +kernel
theorem dX1_firstPoint_33 : decode cX1_firstPoint 33 = .ok (.aload_n 0, 1) := by decide +kernel
theorem dX1_firstPoint_34 : decode cX1_firstPoint 34 = .ok (.getfield 22, 3) := by decide +kernel
theorem dX1_firstPoint_37 : decode cX1_firstPoint 37 = .ok (.iload_n 2, 1) := by decide +kernel
theorem dX1_firstPoint_38 : decode cX1_firstPoint 38 = .ok (.iaload, 1) := by decide +kernel
theorem dX1_firstPoint_39 : decode cX1_firstPoint 39 = .ok (.aload_n 0, 1) := by decide +kernel
theorem dX1_firstPoint_40 : decode cX1_firstPoint 40 = .ok (.getfield 22, 3) := by decide +kernel
theorem dX1_firstPoint_43 : decode cX1_firstPoint 43 = .ok (.iload_n 1, 1) := by decide +kernel
theorem dX1_firstPoint_44 : decode cX1_firstPoint 44 = .ok (.iaload, 1) := by decide +kernel
theorem dX1_firstPoint_45 : decode cX1_firstPoint 45 = .ok (.if_icmp .lt 22, 3) := by decide +kernel
theorem dX1_firstPoint_48 : decode cX1_firstPoint 48 = .ok (.iload_n 3, 1) := by decide +kernel
theorem dX1_firstPoint_49 : decode cX1_firstPoint 49 = .ok (.ifCond .eq 20, 3) := by decide +kernel
theorem dX1_firstPoint_52 : decode cX1_firstPoint 52 = .ok (.aload_n 0, 1) := by decide +kernel
theorem dX1_firstPoint_53 : decode cX1_firstPoint 53 = .ok (.getfield 25, 3) := by decide +kernel
theorem dX1_firstPoint_56 : decode cX1_firstPoint 56 = .ok (.iload_n 2, 1) := by decide +kernel
theorem dX1_firstPoint_57 : decode cX1_firstPoint 57 = .ok (.iaload, 1) := by decide +kernel
theorem dX1_firstPoint_58 : decode cX1_firstPoint 58 = .ok (.aload_n 0, 1) := by decide +kernel
theorem dX1_firstPoint_59 : decode cX1_firstPoint 59 = .ok (.getfield 25, 3) := by decide +kernel
theorem dX1_firstPoint_62 : decode cX1_firstPoint 62 = .ok (.iload_n 1, 1) := by decide +kernel
theorem dX1_firstPoint_63 : decode cX1_firstPoint 63 = .ok (.iaload, 1) := by decide +kernel
theorem dX1_firstPoint_64 : decode cX1_firstPoint 64 = .ok (.if_icmp .ge 5, 3) := by decide +kernel
theorem dX1_firstPoint_67 : decode cX1_firstPoint 67 = .ok (.iload_n 2, 1) := by decide +kernel
theorem dX1_firstPoint_68 : decode cX1_firstPoint 68 = .ok (.istore_n 1, 1) := by decide +kernel
theorem dX1_firstPoint_69 : decode cX1_firstPoint 69 = .ok (.iinc 2 1, 3) := by decide +kernel
theorem dX1_firstPoint_72 : decode cX1_firstPoint 72 = .ok (.goto (-68), 3) := by decide +kernel
theorem dX1_firstPoint_75 : decode cX1_firstPoint 75 = .ok (.iload_n 1, 1) := by decide +kernel
theorem dX1_firstPoint_76 : decode cX1_firstPoint 76 = .ok (.ireturn, 1) := by decide +kernel
theorem dX1_nextCorner_0 : decode cX1_nextCorner 0 = .ok (.iload_n 1, 1) := by decide +kernel
theorem dX1_nextCorner_1 : decode cX1_nextCorner 1 = .ok (.istore_n 2, 1) := by decide +kernel
theorem dX1_nextCorner_2 : decode cX1_nextCorner 2 = .ok (.iconst 0, 1) := by decide +kernel
theorem dX1_nextCorner_3 : decode cX1_nextCorner 3 = .ok (.istore_n 3, 1) := by decide +kernel
theorem dX1_nextCorner_4 : decode cX1_nextCorner 4 = .ok (.iload_n 3, 1) := by decide +kernel
theorem dX1_nextCorner_5 : decode cX1_nextCorner 5 = .ok (.aload_n 0, 1) := by decide +kernel
theorem dX1_nextCorner_6 : decode cX1_nextCorner 6 = .ok (.getfield 28, 3) := by decide +kernel
theorem dX1_nextCorner_9 : decode cX1_nextCorner 9 = .ok (.if_icmp .ge 66, 3) := by decide +kernel
theorem dX1_nextCorner_12 : decode cX1_nextCorner 12 = .ok (.aload_n 0, 1) := by decide +kernel
theorem dX1_nextCorner_13 : decode cX1_nextCorner 13 = .ok (.iload_n 3, 1) := by decide +kernel
theorem dX1_nextCorner_14 : decode cX1_nextCorner 14 = .ok (.iload_n 1, 1) := by decide +kernel
theorem dX1_nextCorner_15 : decode cX1_nextCorner 15 = .ok (.invokevirtual 70, 3) := by decide +kernel
theorem dX1_nextCorner_18 : decode cX1_nextCorner 18 = .ok (.ifCond .eq 6, 3) := by decide +kernel
theorem dX1_nextCorner_21 : decode cX1_nextCorner 21 = .ok (.goto 48, 3) := by decide +kernel
theorem dX1_nextCorner_24 : decode cX1_nextCorner 24 = .ok (.aload_n 0, 1) := by decide +kernel
theorem dX1_nextCorner_25 : decode cX1_nextCorner 25 = .ok (.iload_n 1, 1) := by decide +kernel
theorem dX1_nextCorner_26 : decode cX1_nextCorner 26 = .ok (.iload_n 2, 1) := by decide +kernel
theorem dX1_nextCorner_27 : decode cX1_nextCorner 27 = .ok (.iload_n 3, 1) := by decide +kernel
theorem dX1_nextCorner_28 : decode cX1_nextCorner 28 = .ok (.invokevirtual 74, 3) := by decide +kernel
theorem dX1_nextCorner_31 : decode cX1_nextCorner 31 = .ok (.istore 4, 2) := by decide +kernel
theorem dX1_nextCorner_33 : decode cX1_nextCorner 33 = .ok (.aload_n 0, 1) := by decide +kernel
theorem dX1_nextCorner_34 : decode cX1_nextCorner 34 = .ok (.iload_n 2, 1) := by decide +kernel
theorem dX1_nextCorner_35 : decode cX1_nextCorner 35 = .ok (.iload_n 1, 1) := by decide +kernel
theorem dX1_nextCorner_36 : decode cX1_nextCorner 36 = .ok (.invokevirtual 70, 3) := by decide +kernel
theorem dX1_nextCorner_39 : decode cX1_nextCorner 39 = .ok (.ifCond .ne 28, 3) := by decide +kernel
theorem dX1_nextCorner_42 : decode cX1_nextCorner 42 = .ok (.iload 4, 2) := by decide +kernel
theorem dX1_nextCorner_44 : decode cX1_nextCorner 44 = .ok (.ifCond .lt 23, 3) := by decide +kernel
theorem dX1_nextCorner_47 : decode cX1_nextCorner 47 = .ok (.iload 4, 2) := by decide +kernel
theorem dX1_nextCorner_49 : decode cX1_nextCorner 49 = .ok (.ifCond .ne 20, 3) := by decide +kernel
theorem dX1_nextCorner_52 : decode cX1_nextCorner 52 = .ok (.aload_n 0, 1) := by decide +kernel
theorem dX1_nextCorner_53 : decode cX1_nextCorner 53 = .ok (.iload_n 1, 1) := by decide +kernel
theorem dX1_nextCorner_54 : decode cX1_nextCorner 54 = .ok (.iload_n 3, 1) := by decide +kernel
theorem dX1_nextCorner_55 : decode cX1_nextCorner 55 = .ok (.invokevirtual 78, 3) := by decide +kernel
theorem dX1_nextCorner_58 : decode cX1_nextCorner 58 = .ok (.aload_n 0, 1) := by decide +kernel
theorem dX1_nextCorner_59 : decode cX1_nextCorner 59 = .ok (.iload_n 1, 1) := by decide +kernel
theorem dX1_nextCorner_60 : decode cX1_nextCorner 60 = .ok (.iload_n 2, 1) := by decide +kernel
theorem dX1_nextCorner_61 : decode cX1_nextCorner 61 = .ok (.invokevirtual 78, 3) := by decide +kernel
theorem dX1_nextCorner_64 : decode cX1_nextCorner 64 = .ok (.if_icmp .le 5, 3) := by decide +kernel
theorem dX1_nextCorner_67 : decode cX1_nextCorner 67 = .ok (.iload_n 3, 1) := by decide +kernel
theorem dX1_nextCorner_68 : decode cX1_nextCorner 68 = .ok (.istore_n 2, 1) := by decide +kernel
theorem dX1_nextCorner_69 : decode cX1_nextCorner 69 = .ok (.iinc 3 1, 3) := by decide +kernel
theorem dX1_nextCorner_72 : decode cX1_nextCorner 72 = .ok (.goto (-68), 3) := by decide +kernel
theorem dX1_nextCorner_75 : decode cX1_nextCorner 75 = .ok (.iload_n 2, 1) := by decide +kernel
theorem dX1_nextCorner_76 : decode cX1_nextCorner 76 = .ok (.ireturn, 1) := by decide +kernel
theorem dX1_same_0 : decode cX1_same 0 = .ok (.aload_n 0, 1) := by decide +kernel
theorem dX1_same_1 : decode cX1_same 1 = .ok (.getfield 22, 3) := by decide +kernel
theorem dX1_same_4 : decode cX1_same 4 = .ok (.iload_n 1, 1) := by decide +kernel
theorem dX1_same_5 : decode cX1_same 5 = .ok (.iaload, 1) := by decide +kernel
theorem dX1_same_6 : decode cX1_same 6 = .ok (.aload_n 0, 1) := by decide +kernel
theorem dX1_same_7 : decode cX1_same 7 = .ok (.getfield 22, 3) := by decide +kernel
theorem dX1_same_10 : decode cX1_same 10 = .ok (.iload_n 2, 1) := by decide +kernel
theorem dX1_same_11 : decode cX1_same 11 = .ok (.iaload, 1) := by decide +kernel
theorem dX1_same_12 : decode cX1_same 12 = .ok (.if_icmp .ne 22, 3) := by decide +kernel
theorem dX1_same_15 : decode cX1_same 15 = .ok (.aload_n 0, 1) := by decide +kernel
theorem dX1_same_16 : decode cX1_same 16 = .ok (.getfield 25, 3) := by decide +kernel
theorem dX1_same_19 : decode cX1_same 19 = .ok (.iload_n 1, 1) := by decide +kernel
theorem dX1_same_20 : decode cX1_same 20 = .ok (.iaload, 1) := by decide +kernel
theorem dX1_same_21 : decode cX1_same 21 = .ok (.aload_n 0, 1) := by decide +kernel
theorem dX1_same_22 : decode cX1_same 22 = .ok (.getfield 25, 3) := by decide +kernel
theorem dX1_same_25 : decode cX1_same 25 = .ok (.iload_n 2, 1) := by decide +kernel
theorem dX1_same_26 : decode cX1_same 26 = .ok (.iaload, 1) := by decide +kernel
theorem dX1_same_27 : decode cX1_same 27 = .ok (.if_icmp .ne 7, 3) := by decide +kernel
theorem dX1_same_30 : decode cX1_same 30 = .ok (.iconst 1, 1) := by decide +kernel
theorem dX1_same_31 : decode cX1_same 31 = .ok (.goto 4, 3) := by decide +kernel
theorem dX1_same_34 : decode cX1_same 34 = .ok (.iconst 0, 1) := by decide +kernel
theorem dX1_same_35 : decode cX1_same 35 = .ok (.ireturn, 1) := by decide +kernel
theorem dX1_sideOf_0 : decode cX1_sideOf 0 = .ok (.aload_n 0, 1) := by decide +kernel
theorem dX1_sideOf_1 : decode cX1_sideOf 1 = .ok (.getfield 22, 3) := by decide +kernel
theorem dX1_sideOf_4 : decode cX1_sideOf 4 = .ok (.iload_n 2, 1) := by decide +kernel
theorem dX1_sideOf_5 : decode cX1_sideOf 5 = .ok (.iaload, 1) := by decide +kernel
theorem dX1_sideOf_6 : decode cX1_sideOf 6 = .ok (.aload_n 0, 1) := by decide +kernel
theorem dX1_sideOf_7 : decode cX1_sideOf 7 = .ok (.getfield 22, 3) := by decide +kernel
theorem dX1_sideOf_10 : decode cX1_sideOf 10 = .ok (.iload_n 1, 1) := by decide +kernel
theorem dX1_sideOf_11 : decode cX1_sideOf 11 = .ok (.iaload, 1) := by decide +kernel
theorem dX1_sideOf_12 : decode cX1_sideOf 12 = .ok (.isub, 1) := by decide +kernel
theorem dX1_sideOf_13 : decode cX1_sideOf 13 = .ok (.aload_n 0, 1) := by decide +kernel
theorem dX1_sideOf_14 : decode cX1_sideOf 14 = .ok (.getfield 25, 3) := by decide +kernel
theorem dX1_sideOf_17 : decode cX1_sideOf 17 = .ok (.iload_n 3, 1) := by decide +kernel
theorem dX1_sideOf_18 : decode cX1_sideOf 18 = .ok (.iaload, 1) := by decide +kernel
theorem dX1_sideOf_19 : decode cX1_sideOf 19 = .ok (.aload_n 0, 1) := by decide +kernel
theorem dX1_sideOf_20 : decode cX1_sideOf 20 = .ok (.getfield 25, 3) := by decide +kernel
theorem dX1_sideOf_23 : decode cX1_sideOf 23 = .ok (.iload_n 1, 1) := by decide +kernel
theorem dX1_sideOf_24 : decode cX1_sideOf 24 = .ok (.iaload, 1) := by decide +kernel
theorem dX1_sideOf_25 : decode cX1_sideOf 25 = .ok (.isub, 1) := by decide +kernel
theorem dX1_sideOf_26 : decode cX1_sideOf 26 = .ok (.imul, 1) := by decide +kernel
theorem dX1_sideOf_27 : decode cX1_sideOf 27 = .ok (.aload_n 0, 1) := by decide +kernel
theorem dX1_sideOf_28 : decode cX1_sideOf 28 = .ok (.getfield 25, 3) := by decide +kernel
theorem dX1_sideOf_31 : decode cX1_sideOf 31 = .ok (.iload_n 2, 1) := by decide +kernel
theorem dX1_sideOf_32 : decode cX1_sideOf 32 = .ok (.iaload, 1) := by decide +kernel
theorem dX1_sideOf_33 : decode cX1_sideOf 33 = .ok (.aload_n 0, 1) := by decide +kernel
theorem dX1_sideOf_34 : decode cX1_sideOf 34 = .ok (.getfield 25, 3) := by decide +kernel
theorem dX1_sideOf_37 : decode cX1_sideOf 37 = .ok (.iload_n 1, 1) := by decide +kernel
theorem dX1_sideOf_38 : decode cX1_sideOf 38 = .ok (.iaload, 1) := by decide +kernel
theorem dX1_sideOf_39 : decode cX1_sideOf 39 = .ok (.isub, 1) := by decide +kernel
theorem dX1_sideOf_40 : decode cX1_sideOf 40 = .ok (.aload_n 0, 1) := by decide +kernel
theorem dX1_sideOf_41 : decode cX1_sideOf 41 = .ok (.getfield 22, 3) := by decide +kernel
theorem dX1_sideOf_44 : decode cX1_sideOf 44 = .ok (.iload_n 3, 1) := by decide +kernel
theorem dX1_sideOf_45 : decode cX1_sideOf 45 = .ok (.iaload, 1) := by decide +kernel
theorem dX1_sideOf_46 : decode cX1_sideOf 46 = .ok (.aload_n 0, 1) := by decide +kernel
theorem dX1_sideOf_47 : decode cX1_sideOf 47 = .ok (.getfield 22, 3) := by decide +kernel
theorem dX1_sideOf_50 : decode cX1_sideOf 50 = .ok (.iload_n 1, 1) := by decide +kernel
theorem dX1_sideOf_51 : decode cX1_sideOf 51 = .ok (.iaload, 1) := by decide +kernel
theorem dX1_sideOf_52 : decode cX1_sideOf 52 = .ok (.isub, 1) := by decide +kernel
theorem dX1_sideOf_53 : decode cX1_sideOf 53 = .ok (.imul, 1) := by decide +kernel
theorem dX1_sideOf_54 : decode cX1_sideOf 54 = .ok (.isub, 1) := by decide +kernel
theorem dX1_sideOf_55 : decode cX1_sideOf 55 = .ok (.ireturn, 1) := by decide +kernel
theorem dX1_far_0 : decode cX1_far 0 = .ok (.aload_n 0, 1) := by decide +kernel
theorem dX1_far_1 : decode cX1_far 1 = .ok (.getfield 22, 3) := by decide +kernel
theorem dX1_far_4 : decode cX1_far 4 = .ok (.iload_n 2, 1) := by decide +kernel
theorem dX1_far_5 : decode cX1_far 5 = .ok (.iaload, 1) := by decide +kernel
theorem dX1_far_6 : decode cX1_far 6 = .ok (.aload_n 0, 1) := by decide +kernel
theorem dX1_far_7 : decode cX1_far 7 = .ok (.getfield 22, 3) := by decide +kernel
theorem dX1_far_10 : decode cX1_far 10 = .ok (.iload_n 1, 1) := by decide +kernel
theorem dX1_far_11 : decode cX1_far 11 = .ok (.iaload, 1) := by decide +kernel
theorem dX1_far_12 : decode cX1_far 12 = .ok (.isub, 1) := by decide +kernel
theorem dX1_far_13 : decode cX1_far 13 = .ok (.invokestatic 81, 3) := by decide +kernel
theorem dX1_far_16 : decode cX1_far 16 = .ok (.aload_n 0, 1) := by decide +kernel
theorem dX1_far_17 : decode cX1_far 17 = .ok (.getfield 25, 3) := by decide +kernel
theorem dX1_far_20 : decode cX1_far 20 = .ok (.iload_n 2, 1) := by decide +kernel
theorem dX1_far_21 : decode cX1_far 21 = .ok (.iaload, 1) := by decide +kernel
theorem dX1_far_22 : decode cX1_far 22 = .ok (.aload_n 0, 1) := by decide +kernel
theorem dX1_far_23 : decode cX1_far 23 = .ok (.getfield 25, 3) := by decide +kernel
theorem dX1_far_26 : decode cX1_far 26 = .ok (.iload_n 1, 1) := by decide +kernel
theorem dX1_far_27 : decode cX1_far 27 = .ok (.iaload, 1) := by decide +kernel
theorem dX1_far_28 : decode cX1_far 28 = .ok (.isub, 1) := by decide +kernel
theorem dX1_far_29 : decode cX1_far 29 = .ok (.invokestatic 81, 3) := by decide +kernel
theorem dX1_far_32 : decode cX1_far 32 = .ok (.iadd, 1) := by decide +kernel
theorem dX1_far_33 : decode cX1_far 33 = .ok (.ireturn, 1) := by decide +kernel
end
section
/-! memory as the proof sees it: whole numbers by cell and place; what can fall is an Option -/
abbrev Mem : Type := (Nat → Nat → Int32) × (Nat → Nat → Int64)
def setI (M : Mem) (c k : Nat) (v : Int32) : Mem := (fun c' => if c' = c then upd (M.1 c') k v else M.1 c', M.2)
def setL (M : Mem) (c k : Nat) (v : Int64) : Mem := (M.1, fun c' => if c' = c then vp_updL (M.2 c') k v else M.2 c')
def ldI (M : Mem) (c n : Nat) (i : Int32) : Option Int32 := if i < 0 ∨ n ≤ i.toNatClampNeg then none else some (M.1 c i.toNatClampNeg)
def ldL (M : Mem) (c n : Nat) (i : Int32) : Option Int64 := if i < 0 ∨ n ≤ i.toNatClampNeg then none else some (M.2 c i.toNatClampNeg)
def stI (M : Mem) (c n : Nat) (i v : Int32) : Option Mem := if i < 0 ∨ n ≤ i.toNatClampNeg then none else some (setI M c i.toNatClampNeg v)
def stL (M : Mem) (c n : Nat) (i : Int32) (v : Int64) : Option Mem := if i < 0 ∨ n ≤ i.toNatClampNeg then none else some (setL M c i.toNatClampNeg v)
def stZ (M : Mem) (c k : Nat) (v : Int32) : Option Mem := if v = 0 ∨ v = 1 then some (setI M c k v) else none
def dvI (x y : Int32) : Option Int32 := if y = 0 then none else some (x / y)
def rmI (x y : Int32) : Option Int32 := if y = 0 then none else some (x - x / y * y)
def dvL (x y : Int64) : Option Int64 := if y = 0 then none else some (x / y)
def rmL (x y : Int64) : Option Int64 := if y = 0 then none else some (x - x / y * y)
def okZ (v : Int32) : Option Int32 := if v = 0 ∨ v = 1 then some v else none
def okZM (v : Int32) (M : Mem) : Option (Int32 × Mem) := if v = 0 ∨ v = 1 then some (v, M) else none
def lp {K : Type} (bot : K) (step : K → K) : Nat → K
  | 0 => bot
  | n + 1 => step (lp bot step n)
def prP (k : Nat) : Int64 := if k = 0 then 1000000007 else if k = 1 then 1000000009 else 998244353
def prR (k : Nat) : Int32 := if k = 0 then 2 else if k = 1 then 3 else if k = 2 then 5 else if k = 3 then 7 else if k = 4 then 11 else if k = 5 then 13 else if k = 6 then 17 else if k = 7 then 19 else if k = 8 then 23 else if k = 9 then 29 else 31
def ldP (i : Int32) : Option Int64 := if i < 0 ∨ 3 ≤ i.toNatClampNeg then none else some (prP i.toNatClampNeg)
def ldR (i : Int32) : Option Int32 := if i < 0 ∨ 11 ≤ i.toNatClampNeg then none else some (prR i.toNatClampNeg)
theorem rs_bind {α β : Type} {x : Option α} {k : α → Option β} {o : β} (h : x.bind k = some o) : ∃ v, x = some v ∧ k v = some o := by
  cases x with
  | none => cases h
  | some v => exact ⟨v, rfl, h⟩
/-! the words that every method takes along -/
def gwT : List Cond := lw_tbl.filter goodWord
theorem rs_gw {w : Cond} (i : Nat) (h : lw_tbl[i]? = some w) (hg : goodWord w = true) : w ∈ gwT := List.mem_filter.mpr ⟨List.mem_of_getElem? h, hg⟩
theorem rs_good {y : MethodName} {b : ByteArray} {n : Nat} {r : Option FieldType} (h : Cond.code y b n r ∈ gwT) : GoodIn gwT (Cond.code y b n r :: gwT) := by
  intro w hw
  have h1 : w ∈ gwT := by
    rcases List.mem_cons.mp hw with e | e
    · rw [e]; exact h
    · exact e
  exact ⟨h1, good_of_word (List.mem_filter.mp h1).2⟩
def nestL : List (String × Nat × MethodName × String) := [("RootShapes", 9, ⟨"RootShapes$Equation", "<init>", "()V"⟩, "RootShapes"), ("RootShapes", 21, ⟨"RootShapes$Figure", "<init>", "()V"⟩, "RootShapes"), ("RootShapes", 28, ⟨"RootShapes$Subdivision", "<init>", "()V"⟩, "RootShapes"), ("RootShapes", 35, ⟨"RootShapes$Fronts", "<init>", "()V"⟩, "RootShapes"), ("RootShapes", 42, ⟨"RootShapes$Solutions", "<init>", "()V"⟩, "RootShapes"), ("RootShapes$Equation", 28, ⟨"RootShapes", "within", "(III)Z"⟩, "RootShapes"), ("RootShapes$Figure", 53, ⟨"RootShapes", "commonPart", "(II)I"⟩, "RootShapes"), ("RootShapes$Subdivision", 48, ⟨"RootShapes", "across", "(LRootShapes$Equation;IILRootShapes$Equation;II)I"⟩, "RootShapes"), ("RootShapes$Fronts", 38, ⟨"RootShapes", "commonPart", "(II)I"⟩, "RootShapes"), ("RootShapes$Fronts", 62, ⟨"RootShapes", "within", "(III)Z"⟩, "RootShapes"), ("RootShapes$Solutions", 25, ⟨"RootShapes", "within", "(III)Z"⟩, "RootShapes")]
def fP (k : Nat) : Value := .long (prP k)
def fR (k : Nat) : Value := .int (prR k)
def qK (D : va_G) (cI cJ : ClassId) (tP tR : Nat) (A : Nat → Prop) (ws : Mem → va_W) (U : State) : Prop :=
  va_K D vwCl [(cI, .int), (cJ, .long)] U ∧ (∀ q ∈ nestL, va_Nw (.methodLinkNest q.1 q.2.1 q.2.2.1 q.2.2.2) U) ∧
  (va_Z "RootShapes$Fronts" "PRIMES" "[J" (.ref tP) A U U.heap ∧ va_T .long tP 3 fP A U U.heap) ∧
  (va_Z "RootShapes" "ROUND_PRIMES" "[I" (.ref tR) A U U.heap ∧ va_T .int tR 11 fR A U U.heap) ∧ ∀ M : Mem, va_D A (ws M)
theorem qK.calling {D : va_G} {cI cJ : ClassId} {tP tR : Nat} {A : Nat → Prop} {ws : Mem → va_W} {U : State} (h : qK D cI cJ tP tR A ws U) (g : JFrame) (mk : MethodId) (a : Array Value) : qK D cI cJ tP tR A ws (U.calling g mk a) := by
  obtain ⟨h1, h2, ⟨h3, h4⟩, ⟨h5, h6⟩, h7⟩ := h
  exact ⟨va_K.moved (u := U) (U := U.calling g mk a) (Vm.Alike.refl U.vm) h1, fun q hq => va_Nw.same (u := U) (U := U.calling g mk a) rfl rfl (h2 q hq),
    ⟨va_Z.moved (u := U) (U := U.calling g mk a) (Vm.Alike.refl U.vm) h3, va_T.moved (u := U) (U := U.calling g mk a) (Vm.Alike.refl U.vm) h4⟩,
    ⟨va_Z.moved (u := U) (U := U.calling g mk a) (Vm.Alike.refl U.vm) h5, va_T.moved (u := U) (U := U.calling g mk a) (Vm.Alike.refl U.vm) h6⟩, h7⟩
theorem qK.next {D : va_G} {cI cJ : ClassId} {tP tR : Nat} {A : Nat → Prop} {ws : Mem → va_W} {s U : State} {H : Heap} {locs : List Loc} (h : qK D cI cJ tP tR A ws s) (hS : va_S A s.heap H locs) (hU : U.heap = H) (hW : s.WarmedH U.vm) : qK D cI cJ tP tR A ws U := by
  obtain ⟨h1, h2, ⟨h3, h4⟩, ⟨h5, h6⟩, h7⟩ := h
  subst hU
  exact ⟨va_K.moved hW.alike h1, fun q hq => va_Nw.warmM hW (h2 q hq), ⟨(va_Z.moved hW.alike h3).kept hS.2.1, (va_T.moved hW.alike h4).kept hS.2.1⟩, ⟨(va_Z.moved hW.alike h5).kept hS.2.1, (va_T.moved hW.alike h6).kept hS.2.1⟩, h7⟩
def qC (p : Program) (s : State) (m : MethodId) (args : Array Value) (c : Code) (D : va_G) (cI cJ : ClassId) (tP tR : Nat) (A : Nat → Prop) (ws : Mem → va_W) (cc : ByteArray) (nL : Nat) (own : String) : Prop :=
  p.tables.exec = Jvm.exec ∧ c.code = cc ∧ c.maxLocals = nL ∧ s.vm.findClass own = some m.cls ∧ (∀ w ∈ gwT, w.before args s = true) ∧ qK D cI cJ tP tR A ws s
def qIA (ws : Mem → va_W) (ad : Nat → Nat) (cI : ClassId) (cl n : Nat) : Prop := ∀ M : Mem, (ws M)[cl]? = some (ad cl, .inl (cI, n, .inl (M.1 cl))) ∧ ∀ (k : Nat) (v : Int32), (ws M).set cl (ad cl, .inl (cI, n, .inl (upd (M.1 cl) k v))) = ws (setI M cl k v)
def qLA (ws : Mem → va_W) (ad : Nat → Nat) (cJ : ClassId) (cl n : Nat) : Prop := ∀ M : Mem, (ws M)[cl]? = some (ad cl, .inl (cJ, n, .inr (.inl (M.2 cl)))) ∧ ∀ (k : Nat) (v : Int64), (ws M).set cl (ad cl, .inl (cJ, n, .inr (.inl (vp_updL (M.2 cl) k v)))) = ws (setL M cl k v)
abbrev qMet (l : Launch) (D : va_G) (cI cJ : ClassId) (tP tR : Nat) (A : Nat → Prop) (ws : Mem → va_W) (y : MethodName) (cy : ByteArray) (ly : Nat) (ry : Option FieldType) (rm : Room) (vs : List Value) (M : Mem) (Qc : Array Value → State → Outcome → State → Prop) : Prop :=
  Met l y (Cond.code y cy ly ry :: gwT) rm (va_Pc vs (fun U => qK D cI cJ tP tR A ws U ∧ va_P D vwCl (ws M) U.heap)) Qc 0 0 A
abbrev qQi (D : va_G) (A : Nat → Prop) (ws : Mem → va_W) (r : Int32) (M : Mem) : Array Value → State → Outcome → State → Prop := va_Qi (fun (r' : Int32) (_ : Unit) => r' = r) (fun _ t => va_P D vwCl (ws M) t.heap) A
abbrev qQl (D : va_G) (A : Nat → Prop) (ws : Mem → va_W) (r : Int64) (M : Mem) : Array Value → State → Outcome → State → Prop := va_Ql (fun (r' : Int64) (_ : Unit) => r' = r) (fun _ t => va_P D vwCl (ws M) t.heap) A
abbrev qQv (D : va_G) (A : Nat → Prop) (ws : Mem → va_W) (M : Mem) : Array Value → State → Outcome → State → Prop := va_Qv (fun (_ : Unit) => True) (fun _ t => va_P D vwCl (ws M) t.heap) A
abbrev qQr (D : va_G) (A : Nat → Prop) (ws : Mem → va_W) (r : Option Nat) (M : Mem) : Array Value → State → Outcome → State → Prop := va_Qq (fun (r' : Option Nat) (_ : Unit) => r' = r) (fun _ t => va_P D vwCl (ws M) t.heap) A
/-- a method of ours that can be called on an object: its words -/
def qMV (y : MethodName) (cy : ByteArray) (ly : Nat) (ry : Option FieldType) (n : Nat) : Prop :=
  Cond.code y cy ly ry ∈ gwT ∧ Cond.instanceMethod y ∈ gwT ∧ Cond.selects y.cls y y ∈ gwT ∧ Cond.initialized y.cls ∈ gwT ∧ (y.cls ≠ "java/lang/invoke/MethodHandle" ∧ y.cls ≠ "java/lang/invoke/VarHandle" ∧ (parseMethodDescriptor y.desc).map (fun d => d.parameters.length) = some n)
def qMS (y : MethodName) (cy : ByteArray) (ly : Nat) (ry : Option FieldType) (n : Nat) : Prop :=
  Cond.code y cy ly ry ∈ gwT ∧ Cond.static y ∈ gwT ∧ Cond.initialized y.cls ∈ gwT ∧ (y.cls ≠ "java/lang/invoke/MethodHandle" ∧ y.cls ≠ "java/lang/invoke/VarHandle" ∧ (parseMethodDescriptor y.desc).map (fun d => d.parameters.length) = some n)
def qR (rm R : Room) (ly : Nat) : Prop := rm.cells = 0 ∧ rm.slots = 0 ∧ rm.frames + 1 ≤ R.frames ∧ 8 + (ly + 11) + rm.locals ≤ R.locals
section QR
variable {p : Program} {l : Launch} {e : Env} {R : Room} {s : State} {m : MethodId} {args : Array Value} {below : List Frame} {meth : Method} {c : Code} {H : Heap} {locs : List Loc} {Q : State → Prop}
variable {cc : ByteArray} {pc nL : Nat} {own : String} {ls : Array Slot} {rest : List Value} {D : va_G} {cI cJ : ClassId} {tP tR : Nat} {A : Nat → Prop} {ws : Mem → va_W} {ad : Nat → Nat} {M : Mem}
theorem rs_iald {β : Type} (C : qC p s m args c D cI cJ tP tR A ws cc nL own) (hP : va_P D vwCl (ws M) H) {cl n : Nat} (ha : qIA ws ad cI cl n) {i : Int32} {k : Int32 → Option β} {o : β} (hdg : decode cc pc = .ok (.iaload, 1)) (h : (ldI M cl n i).bind k = some o)
    (kk : ∀ v : Int32, k v = some o → W p l e R s m args below meth c H locs 0 0 Q (F0 m (pc + 1) ls (.int v :: rest))) : W p l e R s m args below meth c H locs 0 0 Q (F0 m pc ls (.int i :: .ref (ad cl) :: rest)) := by
  obtain ⟨hx, hb, -, -, -, hK, -⟩ := C
  unfold ldI at h
  by_cases hi : i < 0 ∨ n ≤ i.toNatClampNeg
  · rw [if_pos hi] at h; cases h
  · rw [if_neg hi] at h
    exact va_iald hx hb hK hP cl 0 (ha M).1 rfl hi hdg (kk _ h)
theorem rs_lald {β : Type} (C : qC p s m args c D cI cJ tP tR A ws cc nL own) (hP : va_P D vwCl (ws M) H) {cl n : Nat} (ha : qLA ws ad cJ cl n) {i : Int32} {k : Int64 → Option β} {o : β} (hdg : decode cc pc = .ok (.laload, 1)) (h : (ldL M cl n i).bind k = some o)
    (kk : ∀ v : Int64, k v = some o → W p l e R s m args below meth c H locs 0 0 Q (F0 m (pc + 1) ls (.long v :: rest))) : W p l e R s m args below meth c H locs 0 0 Q (F0 m pc ls (.int i :: .ref (ad cl) :: rest)) := by
  obtain ⟨hx, hb, -, -, -, hK, -⟩ := C
  unfold ldL at h
  by_cases hi : i < 0 ∨ n ≤ i.toNatClampNeg
  · rw [if_pos hi] at h; cases h
  · rw [if_neg hi] at h
    exact va_lald hx hb hK hP cl 1 (ha M).1 rfl hi hdg (kk _ h)
theorem rs_iast {β : Type} (C : qC p s m args c D cI cJ tP tR A ws cc nL own) (hP : va_P D vwCl (ws M) H) (hS : va_S A s.heap H locs) {cl n : Nat} (ha : qIA ws ad cI cl n) {i x : Int32} {k : Mem → Option β} {o : β} (hdg : decode cc pc = .ok (.iastore, 1)) (h : (stI M cl n i x).bind k = some o)
    (kk : ∀ M' : Mem, k M' = some o → ∀ (H : Heap) (locs : List Loc), va_P D vwCl (ws M') H → va_S A s.heap H locs → W p l e R s m args below meth c H locs 0 0 Q (F0 m (pc + 1) ls rest)) : W p l e R s m args below meth c H locs 0 0 Q (F0 m pc ls (.int x :: .int i :: .ref (ad cl) :: rest)) := by
  obtain ⟨hx, hb, -, -, -, hK, -, -, -, hD⟩ := C
  unfold stI at h
  by_cases hi : i < 0 ∨ n ≤ i.toNatClampNeg
  · rw [if_pos hi] at h; cases h
  · rw [if_neg hi] at h
    exact va_iast hx hb hK hP (hD M) hS cl 0 (ha M).1 rfl hi hdg (fun H1 locs1 h1 _ h3 => kk _ h H1 locs1 (by rw [← (ha M).2]; exact h1) h3)
theorem rs_last {β : Type} (C : qC p s m args c D cI cJ tP tR A ws cc nL own) (hP : va_P D vwCl (ws M) H) (hS : va_S A s.heap H locs) {cl n : Nat} (ha : qLA ws ad cJ cl n) {i : Int32} {x : Int64} {k : Mem → Option β} {o : β} (hdg : decode cc pc = .ok (.lastore, 1)) (h : (stL M cl n i x).bind k = some o)
    (kk : ∀ M' : Mem, k M' = some o → ∀ (H : Heap) (locs : List Loc), va_P D vwCl (ws M') H → va_S A s.heap H locs → W p l e R s m args below meth c H locs 0 0 Q (F0 m (pc + 1) ls rest)) : W p l e R s m args below meth c H locs 0 0 Q (F0 m pc ls (.long x :: .int i :: .ref (ad cl) :: rest)) := by
  obtain ⟨hx, hb, -, -, -, hK, -, -, -, hD⟩ := C
  unfold stL at h
  by_cases hi : i < 0 ∨ n ≤ i.toNatClampNeg
  · rw [if_pos hi] at h; cases h
  · rw [if_neg hi] at h
    exact va_last hx hb hK hP (hD M) hS cl 1 (ha M).1 rfl hi hdg (fun H1 locs1 h1 _ h3 => kk _ h H1 locs1 (by rw [← (ha M).2]; exact h1) h3)
theorem rs_alenI (C : qC p s m args c D cI cJ tP tR A ws cc nL own) (hP : va_P D vwCl (ws M) H) {cl n : Nat} (ha : qIA ws ad cI cl n) {v : Int32} (hv : Int32.ofNat n = v) (hdg : decode cc pc = .ok (.arraylength, 1))
    (kk : W p l e R s m args below meth c H locs 0 0 Q (F0 m (pc + 1) ls (.int v :: rest))) : W p l e R s m args below meth c H locs 0 0 Q (F0 m pc ls (.ref (ad cl) :: rest)) := by
  obtain ⟨hx, hb, -, -, -, hK, -⟩ := C
  exact va_alen hx hb hK hP cl 0 (ha M).1 rfl hv hdg kk
theorem rs_alenL (C : qC p s m args c D cI cJ tP tR A ws cc nL own) (hP : va_P D vwCl (ws M) H) {cl n : Nat} (ha : qLA ws ad cJ cl n) {v : Int32} (hv : Int32.ofNat n = v) (hdg : decode cc pc = .ok (.arraylength, 1))
    (kk : W p l e R s m args below meth c H locs 0 0 Q (F0 m (pc + 1) ls (.int v :: rest))) : W p l e R s m args below meth c H locs 0 0 Q (F0 m pc ls (.ref (ad cl) :: rest)) := by
  obtain ⟨hx, hb, -, -, -, hK, -⟩ := C
  exact va_alen hx hb hK hP cl 1 (ha M).1 rfl hv hdg kk
theorem rs_idiv {β : Type} (C : qC p s m args c D cI cJ tP tR A ws cc nL own) {x y : Int32} {k : Int32 → Option β} {o : β} (hdg : decode cc pc = .ok (.idiv, 1)) (h : (dvI x y).bind k = some o)
    (kk : ∀ v : Int32, k v = some o → W p l e R s m args below meth c H locs 0 0 Q (F0 m (pc + 1) ls (.int v :: rest))) : W p l e R s m args below meth c H locs 0 0 Q (F0 m pc ls (.int y :: .int x :: rest)) := by
  unfold dvI at h
  by_cases hi : y = 0
  · rw [if_pos hi] at h; cases h
  · rw [if_neg hi] at h
    exact lv_idiv C.1 C.2.1 hdg hi (kk _ h)
theorem rs_irem {β : Type} (C : qC p s m args c D cI cJ tP tR A ws cc nL own) {x y : Int32} {k : Int32 → Option β} {o : β} (hdg : decode cc pc = .ok (.irem, 1)) (h : (rmI x y).bind k = some o)
    (kk : ∀ v : Int32, k v = some o → W p l e R s m args below meth c H locs 0 0 Q (F0 m (pc + 1) ls (.int v :: rest))) : W p l e R s m args below meth c H locs 0 0 Q (F0 m pc ls (.int y :: .int x :: rest)) := by
  unfold rmI at h
  by_cases hi : y = 0
  · rw [if_pos hi] at h; cases h
  · rw [if_neg hi] at h
    exact lv_irem C.1 C.2.1 hdg hi (kk _ h)
theorem rs_ldiv {β : Type} (C : qC p s m args c D cI cJ tP tR A ws cc nL own) {x y : Int64} {k : Int64 → Option β} {o : β} (hdg : decode cc pc = .ok (.ldiv, 1)) (h : (dvL x y).bind k = some o)
    (kk : ∀ v : Int64, k v = some o → W p l e R s m args below meth c H locs 0 0 Q (F0 m (pc + 1) ls (.long v :: rest))) : W p l e R s m args below meth c H locs 0 0 Q (F0 m pc ls (.long y :: .long x :: rest)) := by
  unfold dvL at h
  by_cases hi : y = 0
  · rw [if_pos hi] at h; cases h
  · rw [if_neg hi] at h
    exact lv_ldiv C.1 C.2.1 hdg hi (kk _ h)
theorem rs_lrem {β : Type} (C : qC p s m args c D cI cJ tP tR A ws cc nL own) {x y : Int64} {k : Int64 → Option β} {o : β} (hdg : decode cc pc = .ok (.lrem, 1)) (h : (rmL x y).bind k = some o)
    (kk : ∀ v : Int64, k v = some o → W p l e R s m args below meth c H locs 0 0 Q (F0 m (pc + 1) ls (.long v :: rest))) : W p l e R s m args below meth c H locs 0 0 Q (F0 m pc ls (.long y :: .long x :: rest)) := by
  unfold rmL at h
  by_cases hi : y = 0
  · rw [if_pos hi] at h; cases h
  · rw [if_neg hi] at h
    exact lv_lrem C.1 C.2.1 hdg hi (kk _ h)
theorem rs_lcmp (C : qC p s m args c D cI cJ tP tR A ws cc nL own) {x y : Int64} (hdg : decode cc pc = .ok (.lcmp, 1))
    (kk : ∀ v : Int32, ((v < 0 ↔ x < y) ∧ (v = 0 ↔ x = y) ∧ (0 < v ↔ y < x)) → W p l e R s m args below meth c H locs 0 0 Q (F0 m (pc + 1) ls (.int v :: rest))) : W p l e R s m args below meth c H locs 0 0 Q (F0 m pc ls (.long y :: .long x :: rest)) := by
  refine W.lcmp C.1 C.2.1 hdg (kk _ ?_)
  unfold lg_cmp
  by_cases h1 : y < x
  · have h2 : ¬ x < y := lg_lt_not h1
    have h3 : ¬ x = y := fun h => h2 (h ▸ h1)
    simp [h1, h2, h3]
  · by_cases h2 : x = y
    · subst h2
      simp
    · have h3 : x < y := by
        simp only [Int64.lt_iff_toInt_lt] at *
        have : x.toInt ≠ y.toInt := fun h => h2 (Int64.toInt_inj.mp h)
        omega
      simp [h1, h2, h3]

def qRec (ws : Mem → va_W) (ad : Nat → Nat) (M : Mem) (b : Nat) (cls : String) : Prop := ∃ (ci : Nat) (fs : List Value) (T : u_T) (N : Nat), vwCl[ci]? = some (cls, T, N) ∧ (ws M)[b]? = some (ad b, .inr (ci, fs))
theorem rs_blind {vs : List Value} : FrameBlind (va_Pc vs (fun U => qK D cI cJ tP tR A ws U ∧ va_P D vwCl (ws M) U.heap)) := fun a U g mk q => ⟨q.1, q.2.1.calling g mk a, q.2.2⟩
theorem rs_runV {y : MethodName} {cy : ByteArray} {ly n b index : Nat} {ry : Option FieldType} {rm : Room} {As st0 : List Value} {Qc : Array Value → State → Outcome → State → Prop} (C : qC p s m args c D cI cJ tP tR A ws cc nL own) (hP : va_P D vwCl (ws M) H) (hS : va_S A s.heap H locs) (hM : qMet l D cI cJ tP tR A ws y cy ly ry rm (.ref (ad b) :: As) M Qc) (hy : qMV y cy ly ry n) (hlink : Cond.methodLink own index y ∈ gwT) (hrec : qRec ws ad M b y.cls) (hn : As.length = n) (hR : qR rm R ly) (hst : st0 = As.reverse ++ .ref (ad b) :: rest) (hls : ls.size = nL) (hW : (rest.map fun v => v.category).sum ≤ 8) (hdg : decode cc pc = .ok (.invokevirtual index, 3)) :
    va_Run p l e R s m args below meth c H locs 0 0 0 0 (F0 m pc ls st0) rest (Qc (Value.ref (ad b) :: As).toArray) A := by
  obtain ⟨hx, hb, hml, hown, hts, hK⟩ := C
  obtain ⟨ci, fs, T, N, hci, he⟩ := hrec
  have cw : CallW R s args own y.cls index y cy ly ry (Cond.code y cy ly ry :: gwT) rm 0 0 n := ⟨callB_of n hts (rs_good hy.1) rfl hR.1 hR.2.1 (hts _ hy.2.2.2.1) (hts _ hlink) hy.2.2.2.2 ⟨hR.2.2.1, hR.2.2.2⟩, hts _ hy.2.1, hts _ hy.2.2.1⟩
  exact va_runV ⟨hx, hb, hml, hown, hts⟩ hM cw ⟨rs_blind, va_recv hK.1 hP hci he, fun U hU hW => ⟨rfl, hK.next hS hU hW, by rw [hU]; exact hP⟩⟩ rfl hn hls hst (lv_room hW) hdg ⟨Nat.zero_le _, Nat.zero_le _⟩
theorem rs_runS {y : MethodName} {cy : ByteArray} {ly n index : Nat} {ry : Option FieldType} {rm : Room} {As st0 : List Value} {Qc : Array Value → State → Outcome → State → Prop} (C : qC p s m args c D cI cJ tP tR A ws cc nL own) (hP : va_P D vwCl (ws M) H) (hS : va_S A s.heap H locs) (hM : qMet l D cI cJ tP tR A ws y cy ly ry rm As M Qc) (hy : qMS y cy ly ry n) (hlink : Cond.methodLink own index y ∈ gwT) (hn : As.length = n) (hR : qR rm R ly) (hst : st0 = As.reverse ++ rest) (hls : ls.size = nL) (hW : (rest.map fun v => v.category).sum ≤ 8) (hdg : decode cc pc = .ok (.invokestatic index, 3)) :
    va_Run p l e R s m args below meth c H locs 0 0 0 0 (F0 m pc ls st0) rest (Qc As.toArray) A := by
  obtain ⟨hx, hb, hml, hown, hts, hK⟩ := C
  have cw : CallB R s args own index y cy ly ry (Cond.code y cy ly ry :: gwT) rm 0 0 n ∧ (Cond.static y).before args s = true := ⟨callB_of n hts (rs_good hy.1) rfl hR.1 hR.2.1 (hts _ hy.2.2.1) (hts _ hlink) hy.2.2.2 ⟨hR.2.2.1, hR.2.2.2⟩, hts _ hy.2.1⟩
  exact va_runS ⟨hx, hb, hml, hown, hts⟩ hM cw ⟨rs_blind, fun U hU hW => ⟨rfl, hK.next hS hU hW, by rw [hU]; exact hP⟩⟩ rfl hn hls hst (lv_room hW) hdg ⟨Nat.zero_le _, Nat.zero_le _⟩
theorem rs_runN {y : MethodName} {host : String} {cy : ByteArray} {ly n index : Nat} {ry : Option FieldType} {rm : Room} {As st0 : List Value} {Qc : Array Value → State → Outcome → State → Prop} (C : qC p s m args c D cI cJ tP tR A ws cc nL own) (hP : va_P D vwCl (ws M) H) (hS : va_S A s.heap H locs) (hM : qMet l D cI cJ tP tR A ws y cy ly ry rm As M Qc) (hy : qMS y cy ly ry n) (hlink : (own, index, y, host) ∈ nestL) (hn : As.length = n) (hR : qR rm R ly) (hst : st0 = As.reverse ++ rest) (hls : ls.size = nL) (hW : (rest.map fun v => v.category).sum ≤ 8) (hdg : decode cc pc = .ok (.invokestatic index, 3)) :
    va_Run p l e R s m args below meth c H locs 0 0 0 0 (F0 m pc ls st0) rest (Qc As.toArray) A := by
  obtain ⟨hx, hb, hml, hown, hts, hK⟩ := C
  have cw := va_cnB (R := R) (s := s) (args := args) (own := own) (host := host) (index := index) (mc := 0) (ms := 0) n hts (rs_good hy.1) rfl hR.1 hR.2.1 (hK.2.1 _ hlink) (hts _ hy.2.2.1) hy.2.2.2 ⟨hR.2.2.1, hR.2.2.2⟩
  exact va_runSN ⟨hx, hb, hml, hown, hts⟩ hM ⟨cw, hts _ hy.2.1, trivial⟩ ⟨rs_blind, fun U hU hW => ⟨rfl, hK.next hS hU hW, by rw [hU]; exact hP⟩⟩ rfl hn hls hst (lv_room hW) hdg ⟨Nat.zero_le _, Nat.zero_le _⟩
theorem rs_goI {a : Array Value} {st0 : List Value} {r : Int32} {M' : Mem} (hr : va_Run p l e R s m args below meth c H locs 0 0 0 0 (F0 m pc ls st0) rest (qQi D A ws r M' a) A) (hS : va_S A s.heap H locs)
    (kk : ∀ (H : Heap) (locs : List Loc), va_P D vwCl (ws M') H → va_S A s.heap H locs → W p l e R s m args below meth c H locs 0 0 Q (F0 m (pc + 3) ls (.int r :: rest))) : W p l e R s m args below meth c H locs 0 0 Q (F0 m pc ls st0) := by
  refine va_calli hr hS (fun q _ h => h) (fun q h => h) (fun r' u t H1 locs1 ht hvm hp hB hz hk hS1 => ?_)
  subst hp
  rw [ht] at hB
  exact kk H1 locs1 hB hS1
theorem rs_goL {a : Array Value} {st0 : List Value} {r : Int64} {M' : Mem} (hr : va_Run p l e R s m args below meth c H locs 0 0 0 0 (F0 m pc ls st0) rest (qQl D A ws r M' a) A) (hS : va_S A s.heap H locs)
    (kk : ∀ (H : Heap) (locs : List Loc), va_P D vwCl (ws M') H → va_S A s.heap H locs → W p l e R s m args below meth c H locs 0 0 Q (F0 m (pc + 3) ls (.long r :: rest))) : W p l e R s m args below meth c H locs 0 0 Q (F0 m pc ls st0) := by
  refine va_calll hr hS (fun q _ h => h) (fun q h => h) (fun r' u t H1 locs1 ht hvm hp hB hz hk hS1 => ?_)
  subst hp
  rw [ht] at hB
  exact kk H1 locs1 hB hS1
theorem rs_goV {a : Array Value} {st0 : List Value} {M' : Mem} (hr : va_Run p l e R s m args below meth c H locs 0 0 0 0 (F0 m pc ls st0) rest (qQv D A ws M' a) A) (hS : va_S A s.heap H locs)
    (kk : ∀ (H : Heap) (locs : List Loc), va_P D vwCl (ws M') H → va_S A s.heap H locs → W p l e R s m args below meth c H locs 0 0 Q (F0 m (pc + 3) ls rest)) : W p l e R s m args below meth c H locs 0 0 Q (F0 m pc ls st0) := by
  refine va_callv hr hS (fun q _ h => h) (fun q h => h) (fun u t H1 locs1 ht hvm hp hB hz hk hS1 => ?_)
  rw [ht] at hB
  exact kk H1 locs1 hB hS1
theorem rs_goR {a : Array Value} {st0 : List Value} {r : Option Nat} {M' : Mem} (hr : va_Run p l e R s m args below meth c H locs 0 0 0 0 (F0 m pc ls st0) rest (qQr D A ws r M' a) A) (hS : va_S A s.heap H locs)
    (kk : ∀ (H : Heap) (locs : List Loc), va_P D vwCl (ws M') H → va_S A s.heap H locs → W p l e R s m args below meth c H locs 0 0 Q (F0 m (pc + 3) ls (va_rf r :: rest))) : W p l e R s m args below meth c H locs 0 0 Q (F0 m pc ls st0) := by
  refine va_callq hr hS (fun q _ h => h) (fun q h => h) (fun r' u t H1 locs1 ht hvm hp hB hz hk hS1 => ?_)
  subst hp
  rw [ht] at hB
  exact kk H1 locs1 hB hS1
theorem rs_abs (C : qC p s m args c D cI cJ tP tR A ws cc nL own) {index : Nat} (hw : Cond.static Lib.Math.abs.name ∈ gwT ∧ Cond.initialized "java/lang/Math" ∈ gwT ∧ Cond.code Lib.Math.abs.name Lib.Math.abs.code 1 (some .int) ∈ gwT) (hlink : Cond.methodLink own index Lib.Math.abs.name ∈ gwT) (hls : ls.size = nL) (hR : 1 ≤ R.frames ∧ (rest.map fun v => v.category).sum + 13 ≤ R.locals) {x : Int32} (hdg : decode cc pc = .ok (.invokestatic index, 3))
    (kk : W p l e R s m args below meth c H locs 0 0 Q (F0 m (pc + 3) ls (.int (if 0 ≤ x then x else 0 - x) :: rest))) : W p l e R s m args below meth c H locs 0 0 Q (F0 m pc ls (.int x :: rest)) := by
  obtain ⟨hx, hb, hml, hown, hts, hK⟩ := C
  exact va_mabs hx hb (hml.trans hls.symm) hown (hts _ hlink) (hts _ hw.1) (hts _ hw.2.1) (hts _ hw.2.2) hR.1 hR.2 (Nat.zero_le _) (Nat.zero_le _) hdg kk
theorem rs_max (C : qC p s m args c D cI cJ tP tR A ws cc nL own) {index : Nat} (hw : Cond.static Lib.Math.max.name ∈ gwT ∧ Cond.initialized "java/lang/Math" ∈ gwT ∧ Cond.code Lib.Math.max.name Lib.Math.max.code 2 (some .int) ∈ gwT) (hlink : Cond.methodLink own index Lib.Math.max.name ∈ gwT) (hls : ls.size = nL) (hR : 1 ≤ R.frames ∧ (rest.map fun v => v.category).sum + 13 ≤ R.locals) {x y : Int32} (hdg : decode cc pc = .ok (.invokestatic index, 3))
    (kk : W p l e R s m args below meth c H locs 0 0 Q (F0 m (pc + 3) ls (.int (if x < y then y else x) :: rest))) : W p l e R s m args below meth c H locs 0 0 Q (F0 m pc ls (.int y :: .int x :: rest)) := by
  obtain ⟨hx, hb, hml, hown, hts, hK⟩ := C
  exact va_mmax hx hb (hml.trans hls.symm) hown (hts _ hlink) (hts _ hw.1) (hts _ hw.2.1) (hts _ hw.2.2) hR.1 hR.2 (Nat.zero_le _) (Nat.zero_le _) hdg kk
theorem rs_min (C : qC p s m args c D cI cJ tP tR A ws cc nL own) {index : Nat} (hw : Cond.static Lib.Math.min.name ∈ gwT ∧ Cond.initialized "java/lang/Math" ∈ gwT ∧ Cond.code Lib.Math.min.name Lib.Math.min.code 2 (some .int) ∈ gwT) (hlink : Cond.methodLink own index Lib.Math.min.name ∈ gwT) (hls : ls.size = nL) (hR : 1 ≤ R.frames ∧ (rest.map fun v => v.category).sum + 13 ≤ R.locals) {x y : Int32} (hdg : decode cc pc = .ok (.invokestatic index, 3))
    (kk : W p l e R s m args below meth c H locs 0 0 Q (F0 m (pc + 3) ls (.int (if y < x then y else x) :: rest))) : W p l e R s m args below meth c H locs 0 0 Q (F0 m pc ls (.int y :: .int x :: rest)) := by
  obtain ⟨hx, hb, hml, hown, hts, hK⟩ := C
  exact va_mmin hx hb (hml.trans hls.symm) hown (hts _ hlink) (hts _ hw.1) (hts _ hw.2.1) (hts _ hw.2.2) hR.1 hR.2 (Nat.zero_le _) (Nat.zero_le _) hdg kk
theorem rs_ldc (C : qC p s m args c D cI cJ tP tR A ws cc nL own) {index : Nat} {v : Int32} (hw : Cond.constant own index v ∈ gwT) (hdg : decode cc pc = .ok (.ldc index, 2)) (k : W p l e R s m args below meth c H locs 0 0 Q (F0 m (pc + 2) ls (.int v :: rest))) : W p l e R s m args below meth c H locs 0 0 Q (F0 m pc ls rest) := by
  obtain ⟨hx, hb, hml, hown, hts, hK⟩ := C
  exact lv_ldc hx hb hown (hts _ hw) hdg k
theorem rs_ldcw (C : qC p s m args c D cI cJ tP tR A ws cc nL own) {index : Nat} {v : Int32} (hw : Cond.constant own index v ∈ gwT) (hdg : decode cc pc = .ok (.ldc_w index, 3)) (k : W p l e R s m args below meth c H locs 0 0 Q (F0 m (pc + 3) ls (.int v :: rest))) : W p l e R s m args below meth c H locs 0 0 Q (F0 m pc ls rest) := by
  obtain ⟨hx, hb, hml, hown, hts, hK⟩ := C
  exact lv_ldcw hx hb hown (hts _ hw) hdg k
theorem rs_ldc2 (C : qC p s m args c D cI cJ tP tR A ws cc nL own) {index : Nat} {v : Int64} (hw : Cond.constantLong own index v ∈ gwT) (hdg : decode cc pc = .ok (.ldc2_w index, 3)) (k : W p l e R s m args below meth c H locs 0 0 Q (F0 m (pc + 3) ls (.long v :: rest))) : W p l e R s m args below meth c H locs 0 0 Q (F0 m pc ls rest) := by
  obtain ⟨hx, hb, hml, hown, hts, hK⟩ := C
  exact lv_ldc2 hx hb hown (hts _ hw) hdg k
theorem rs_getP (C : qC p s m args c D cI cJ tP tR A ws cc nL own) (hS : va_S A s.heap H locs) {index : Nat} (hlink : Cond.fieldLink own index "RootShapes$Fronts" "PRIMES" "[J" ∈ gwT) (hdg : decode cc pc = .ok (.getstatic index, 3))
    (kk : W p l e R s m args below meth c H locs 0 0 Q (F0 m (pc + 3) ls (.ref tP :: rest))) : W p l e R s m args below meth c H locs 0 0 Q (F0 m pc ls rest) := by
  obtain ⟨hx, hb, hml, hown, hts, hK⟩ := C
  exact va_gets hx hb hK.2.2.1.1 hS hown (hts _ hlink) (fun _ h => h) hdg kk
theorem rs_getR (C : qC p s m args c D cI cJ tP tR A ws cc nL own) (hS : va_S A s.heap H locs) {index : Nat} (hlink : Cond.fieldLink own index "RootShapes" "ROUND_PRIMES" "[I" ∈ gwT) (hdg : decode cc pc = .ok (.getstatic index, 3))
    (kk : W p l e R s m args below meth c H locs 0 0 Q (F0 m (pc + 3) ls (.ref tR :: rest))) : W p l e R s m args below meth c H locs 0 0 Q (F0 m pc ls rest) := by
  obtain ⟨hx, hb, hml, hown, hts, hK⟩ := C
  exact va_gets hx hb hK.2.2.2.1.1 hS hown (hts _ hlink) (fun _ h => h) hdg kk
theorem rs_lenP (C : qC p s m args c D cI cJ tP tR A ws cc nL own) (hS : va_S A s.heap H locs) (hdg : decode cc pc = .ok (.arraylength, 1)) (kk : W p l e R s m args below meth c H locs 0 0 Q (F0 m (pc + 1) ls (.int 3 :: rest))) : W p l e R s m args below meth c H locs 0 0 Q (F0 m pc ls (.ref tP :: rest)) := by
  obtain ⟨hx, hb, hml, hown, hts, hK⟩ := C
  exact va_tlen hx hb hK.2.2.1.2 hS rfl hdg kk
theorem rs_lenR (C : qC p s m args c D cI cJ tP tR A ws cc nL own) (hS : va_S A s.heap H locs) (hdg : decode cc pc = .ok (.arraylength, 1)) (kk : W p l e R s m args below meth c H locs 0 0 Q (F0 m (pc + 1) ls (.int 11 :: rest))) : W p l e R s m args below meth c H locs 0 0 Q (F0 m pc ls (.ref tR :: rest)) := by
  obtain ⟨hx, hb, hml, hown, hts, hK⟩ := C
  exact va_tlen hx hb hK.2.2.2.1.2 hS rfl hdg kk
theorem rs_ldP {β : Type} (C : qC p s m args c D cI cJ tP tR A ws cc nL own) (hS : va_S A s.heap H locs) {i : Int32} {k : Int64 → Option β} {o : β} (hdg : decode cc pc = .ok (.laload, 1)) (h : (ldP i).bind k = some o) (kk : ∀ v : Int64, k v = some o → W p l e R s m args below meth c H locs 0 0 Q (F0 m (pc + 1) ls (.long v :: rest))) : W p l e R s m args below meth c H locs 0 0 Q (F0 m pc ls (.int i :: .ref tP :: rest)) := by
  obtain ⟨hx, hb, hml, hown, hts, hK⟩ := C
  unfold ldP at h
  by_cases hi : i < 0 ∨ 3 ≤ i.toNatClampNeg
  · rw [if_pos hi] at h; cases h
  · rw [if_neg hi] at h
    exact va_tl hx hb hK.2.2.1.2 hS hi rfl hdg (kk _ h)
theorem rs_ldR {β : Type} (C : qC p s m args c D cI cJ tP tR A ws cc nL own) (hS : va_S A s.heap H locs) {i : Int32} {k : Int32 → Option β} {o : β} (hdg : decode cc pc = .ok (.iaload, 1)) (h : (ldR i).bind k = some o) (kk : ∀ v : Int32, k v = some o → W p l e R s m args below meth c H locs 0 0 Q (F0 m (pc + 1) ls (.int v :: rest))) : W p l e R s m args below meth c H locs 0 0 Q (F0 m pc ls (.int i :: .ref tR :: rest)) := by
  obtain ⟨hx, hb, hml, hown, hts, hK⟩ := C
  unfold ldR at h
  by_cases hi : i < 0 ∨ 11 ≤ i.toNatClampNeg
  · rw [if_pos hi] at h; cases h
  · rw [if_neg hi] at h
    exact va_ti hx hb hK.2.2.2.1.2 hS hi rfl hdg (kk _ h)
theorem rs_tabDef (C : qC p s m args c D cI cJ tP tR A ws cc nL own) {dflt hi : Int} {offs : Array Int} {len tgt : Nat} {x : Int32} (hdg : decode cc pc = .ok (.tableswitch dflt 0 hi offs, len)) (h : ¬ (0 ≤ x.toInt ∧ x.toInt ≤ hi)) (ht : (pc : Int) + dflt = (tgt : Int))
    (k : W p l e R s m args below meth c H locs 0 0 Q (F0 m tgt ls rest)) : W p l e R s m args below meth c H locs 0 0 Q (F0 m pc ls (.int x :: rest)) :=
  lv_tableOut C.1 C.2.1 hdg (by omega) ht k
end QR
theorem rs_enterI {l : Launch} {D : va_G} {cI cJ : ClassId} {tP tR : Nat} {A : Nat → Prop} {ws : Mem → va_W} {y : MethodName} {cy : ByteArray} {ly : Nat} {rm : Room} {vs : List Value} {M M' : Mem} {r : Int32} {own : String} (hy : plainName y.cls = true ∧ y.cls = own ∧ (lg_sl vs).length ≤ ly)
    (body : ∀ (p : Program) (e : Env) (s : State) (m : MethodId) (args : Array Value) (below : List Frame) (meth : Method) (c : Code) (Q : State → Prop), qC p s m args c D cI cJ tP tR A ws cy ly own → (∀ (H : Heap) (locs : List Loc) (pc : Nat) (ls : Array Slot), va_P D vwCl (ws M') H → va_S A s.heap H locs → decode cy pc = .ok (.ireturn, 1) → W p l e rm s m args below meth c H locs 0 0 Q (F0 m pc ls [.int r])) → ∀ (H : Heap) (locs : List Loc) (ls : Array Slot), va_P D vwCl (ws M) H → va_S A s.heap H locs → lv_has ls ly (lv_args 0 vs) → W p l e rm s m args below meth c H locs 0 0 Q (F0 m 0 ls [])) :
    qMet l D cI cJ tP tR A ws y cy ly (some .int) rm vs M (qQi D A ws r M') := by
  obtain ⟨hy1, hy2, hlen⟩ := hy
  refine Met.ofW (cc := cy) (maxL := ly) (ret := some .int) hy1 rfl ?_
  intro p e s m args below meth c s₁ B hml hv
  obtain ⟨rfl, hK, hP⟩ := hv
  have hl := lv_entry vs (n := ly) hlen
  rw [lg_entry_eq]
  have hts := atoms_spec (ws := Cond.code y cy ly (some .int) :: gwT) B.pre
  refine body p e s m _ below meth c _ ⟨B.exec, B.bytes, hml, by rw [← hy2]; exact findClass_of_methodNamed B.named, fun w hw => hts w (List.mem_cons_of_mem _ hw), hK⟩ ?_ s.heap [] _ hP va_S.rf hl
  intro H locs pc ls hP hS hd
  exact W.iret B.exec B.bytes B.returns (fun t ht hW => ⟨⟨r, (), rfl, rfl, by show va_P D vwCl (ws M') t.heap; rw [ht]; exact hP⟩, hS.F ht⟩) hS.2.2 hd (hlocks := B.notSynchronized)
theorem rs_enterZ {l : Launch} {D : va_G} {cI cJ : ClassId} {tP tR : Nat} {A : Nat → Prop} {ws : Mem → va_W} {y : MethodName} {cy : ByteArray} {ly : Nat} {rm : Room} {vs : List Value} {M M' : Mem} {r : Int32} {own : String} (hy : plainName y.cls = true ∧ y.cls = own ∧ (lg_sl vs).length ≤ ly)
    (body : ∀ (p : Program) (e : Env) (s : State) (m : MethodId) (args : Array Value) (below : List Frame) (meth : Method) (c : Code) (Q : State → Prop), qC p s m args c D cI cJ tP tR A ws cy ly own → (∀ (H : Heap) (locs : List Loc) (pc : Nat) (ls : Array Slot), (r = 0 ∨ r = 1) → va_P D vwCl (ws M') H → va_S A s.heap H locs → decode cy pc = .ok (.ireturn, 1) → W p l e rm s m args below meth c H locs 0 0 Q (F0 m pc ls [.int r])) → ∀ (H : Heap) (locs : List Loc) (ls : Array Slot), va_P D vwCl (ws M) H → va_S A s.heap H locs → lv_has ls ly (lv_args 0 vs) → W p l e rm s m args below meth c H locs 0 0 Q (F0 m 0 ls [])) :
    qMet l D cI cJ tP tR A ws y cy ly (some .boolean) rm vs M (qQi D A ws r M') := by
  obtain ⟨hy1, hy2, hlen⟩ := hy
  refine Met.ofW (cc := cy) (maxL := ly) (ret := some .boolean) hy1 rfl ?_
  intro p e s m args below meth c s₁ B hml hv
  obtain ⟨rfl, hK, hP⟩ := hv
  have hl := lv_entry vs (n := ly) hlen
  rw [lg_entry_eq]
  have hts := atoms_spec (ws := Cond.code y cy ly (some .boolean) :: gwT) B.pre
  refine body p e s m _ below meth c _ ⟨B.exec, B.bytes, hml, by rw [← hy2]; exact findClass_of_methodNamed B.named, fun w hw => hts w (List.mem_cons_of_mem _ hw), hK⟩ ?_ s.heap [] _ hP va_S.rf hl
  intro H locs pc ls hr hP hS hd
  exact W.zret (ty := .boolean) B.exec B.bytes B.returns (by rcases hr with h | h <;> rw [h] <;> rfl) (fun t ht hW => ⟨⟨r, (), rfl, rfl, by show va_P D vwCl (ws M') t.heap; rw [ht]; exact hP⟩, hS.F ht⟩) hS.2.2 hd (hlocks := B.notSynchronized)
theorem rs_enterL {l : Launch} {D : va_G} {cI cJ : ClassId} {tP tR : Nat} {A : Nat → Prop} {ws : Mem → va_W} {y : MethodName} {cy : ByteArray} {ly : Nat} {rm : Room} {vs : List Value} {M M' : Mem} {r : Int64} {own : String} (hy : plainName y.cls = true ∧ y.cls = own ∧ (lg_sl vs).length ≤ ly)
    (body : ∀ (p : Program) (e : Env) (s : State) (m : MethodId) (args : Array Value) (below : List Frame) (meth : Method) (c : Code) (Q : State → Prop), qC p s m args c D cI cJ tP tR A ws cy ly own → (∀ (H : Heap) (locs : List Loc) (pc : Nat) (ls : Array Slot), va_P D vwCl (ws M') H → va_S A s.heap H locs → decode cy pc = .ok (.lreturn, 1) → W p l e rm s m args below meth c H locs 0 0 Q (F0 m pc ls [.long r])) → ∀ (H : Heap) (locs : List Loc) (ls : Array Slot), va_P D vwCl (ws M) H → va_S A s.heap H locs → lv_has ls ly (lv_args 0 vs) → W p l e rm s m args below meth c H locs 0 0 Q (F0 m 0 ls [])) :
    qMet l D cI cJ tP tR A ws y cy ly (some .long) rm vs M (qQl D A ws r M') := by
  obtain ⟨hy1, hy2, hlen⟩ := hy
  refine Met.ofW (cc := cy) (maxL := ly) (ret := some .long) hy1 rfl ?_
  intro p e s m args below meth c s₁ B hml hv
  obtain ⟨rfl, hK, hP⟩ := hv
  have hl := lv_entry vs (n := ly) hlen
  rw [lg_entry_eq]
  have hts := atoms_spec (ws := Cond.code y cy ly (some .long) :: gwT) B.pre
  refine body p e s m _ below meth c _ ⟨B.exec, B.bytes, hml, by rw [← hy2]; exact findClass_of_methodNamed B.named, fun w hw => hts w (List.mem_cons_of_mem _ hw), hK⟩ ?_ s.heap [] _ hP va_S.rf hl
  intro H locs pc ls hP hS hd
  exact W.lret B.exec B.bytes B.returns (fun t ht hW => ⟨⟨r, (), rfl, rfl, by show va_P D vwCl (ws M') t.heap; rw [ht]; exact hP⟩, hS.F ht⟩) hS.2.2 hd (hlocks := B.notSynchronized)
theorem rs_enterV {l : Launch} {D : va_G} {cI cJ : ClassId} {tP tR : Nat} {A : Nat → Prop} {ws : Mem → va_W} {y : MethodName} {cy : ByteArray} {ly : Nat} {rm : Room} {vs : List Value} {M M' : Mem} {own : String} (hy : plainName y.cls = true ∧ y.cls = own ∧ (lg_sl vs).length ≤ ly)
    (body : ∀ (p : Program) (e : Env) (s : State) (m : MethodId) (args : Array Value) (below : List Frame) (meth : Method) (c : Code) (Q : State → Prop), qC p s m args c D cI cJ tP tR A ws cy ly own → (∀ (H : Heap) (locs : List Loc) (pc : Nat) (ls : Array Slot), va_P D vwCl (ws M') H → va_S A s.heap H locs → decode cy pc = .ok (.return_, 1) → W p l e rm s m args below meth c H locs 0 0 Q (F0 m pc ls [])) → ∀ (H : Heap) (locs : List Loc) (ls : Array Slot), va_P D vwCl (ws M) H → va_S A s.heap H locs → lv_has ls ly (lv_args 0 vs) → W p l e rm s m args below meth c H locs 0 0 Q (F0 m 0 ls [])) :
    qMet l D cI cJ tP tR A ws y cy ly none rm vs M (qQv D A ws M') := by
  obtain ⟨hy1, hy2, hlen⟩ := hy
  refine Met.ofW (cc := cy) (maxL := ly) (ret := none) hy1 rfl ?_
  intro p e s m args below meth c s₁ B hml hv
  obtain ⟨rfl, hK, hP⟩ := hv
  have hl := lv_entry vs (n := ly) hlen
  rw [lg_entry_eq]
  have hts := atoms_spec (ws := Cond.code y cy ly none :: gwT) B.pre
  refine body p e s m _ below meth c _ ⟨B.exec, B.bytes, hml, by rw [← hy2]; exact findClass_of_methodNamed B.named, fun w hw => hts w (List.mem_cons_of_mem _ hw), hK⟩ ?_ s.heap [] _ hP va_S.rf hl
  intro H locs pc ls hP hS hd
  exact W.vret B.exec B.bytes B.returns (fun t ht hW => ⟨⟨(), rfl, trivial, by show va_P D vwCl (ws M') t.heap; rw [ht]; exact hP⟩, hS.F ht⟩) hS.2.2 hd (hlocks := B.notSynchronized)
theorem rs_enterR {l : Launch} {D : va_G} {cI cJ : ClassId} {tP tR : Nat} {A : Nat → Prop} {ws : Mem → va_W} {y : MethodName} {cy : ByteArray} {ly : Nat} {rm : Room} {vs : List Value} {M M' : Mem} {r : Option Nat} {cn own : String} (hy : plainName y.cls = true ∧ y.cls = own ∧ (lg_sl vs).length ≤ ly)
    (body : ∀ (p : Program) (e : Env) (s : State) (m : MethodId) (args : Array Value) (below : List Frame) (meth : Method) (c : Code) (Q : State → Prop), qC p s m args c D cI cJ tP tR A ws cy ly own → (∀ (H : Heap) (locs : List Loc) (pc : Nat) (ls : Array Slot), va_P D vwCl (ws M') H → va_S A s.heap H locs → decode cy pc = .ok (.areturn, 1) → W p l e rm s m args below meth c H locs 0 0 Q (F0 m pc ls [va_rf r])) → ∀ (H : Heap) (locs : List Loc) (ls : Array Slot), va_P D vwCl (ws M) H → va_S A s.heap H locs → lv_has ls ly (lv_args 0 vs) → W p l e rm s m args below meth c H locs 0 0 Q (F0 m 0 ls [])) :
    qMet l D cI cJ tP tR A ws y cy ly (some (.object cn)) rm vs M (qQr D A ws r M') := by
  obtain ⟨hy1, hy2, hlen⟩ := hy
  refine Met.ofW (cc := cy) (maxL := ly) (ret := some (.object cn)) hy1 rfl ?_
  intro p e s m args below meth c s₁ B hml hv
  obtain ⟨rfl, hK, hP⟩ := hv
  have hl := lv_entry vs (n := ly) hlen
  rw [lg_entry_eq]
  have hts := atoms_spec (ws := Cond.code y cy ly (some (.object cn)) :: gwT) B.pre
  refine body p e s m _ below meth c _ ⟨B.exec, B.bytes, hml, by rw [← hy2]; exact findClass_of_methodNamed B.named, fun w hw => hts w (List.mem_cons_of_mem _ hw), hK⟩ ?_ s.heap [] _ hP va_S.rf hl
  intro H locs pc ls hP hS hd
  exact W.aret B.exec B.bytes B.returns (Or.inl ⟨_, rfl⟩) (va_rf_or r) (fun t ht hW => ⟨⟨r, (), rfl, rfl, by show va_P D vwCl (ws M') t.heap; rw [ht]; exact hP⟩, hS.F ht⟩) hS.2.2 hd (hlocks := B.notSynchronized)
end
