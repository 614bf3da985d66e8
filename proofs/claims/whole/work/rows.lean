section
-- ===== PART A: goes FIRST, ahead of the names: the tables' words, and 'selects' of the private methods out of them =====
/-- a private method of a class that the tables say can be made, by its rows of tables_1 -/
def lw_okq (q : MethodName × Nat) : Prop := (q.1.cls ≠ "java/lang/invoke/MethodHandle" ∧ q.1.cls ≠ "java/lang/invoke/VarHandle") ∧ Cond.instantiable q.1.cls q.2 ∈ tables_1 ∧ Cond.privateMethod q.1 ∈ tables_1 ∧ Cond.instanceMethod q.1 ∈ tables_1
theorem lw_p0 : lw_okq (⟨"OrderTrees", "drawAll", "()V"⟩, 15) := ⟨⟨by decide +kernel, by decide +kernel⟩, List.mem_of_getElem? (i := 9) (by decide +kernel), List.mem_of_getElem? (i := 86) (by decide +kernel), List.mem_of_getElem? (i := 87) (by decide +kernel)⟩
theorem lw_p1 : lw_okq (⟨"OrderTrees$Tree", "clear", "()V"⟩, 15) := ⟨⟨by decide +kernel, by decide +kernel⟩, List.mem_of_getElem? (i := 34) (by decide +kernel), List.mem_of_getElem? (i := 94) (by decide +kernel), List.mem_of_getElem? (i := 95) (by decide +kernel)⟩
theorem lw_p2 : lw_okq (⟨"OrderTrees$Tree", "add", "(II)V"⟩, 15) := ⟨⟨by decide +kernel, by decide +kernel⟩, List.mem_of_getElem? (i := 34) (by decide +kernel), List.mem_of_getElem? (i := 98) (by decide +kernel), List.mem_of_getElem? (i := 99) (by decide +kernel)⟩
theorem lw_p3 : lw_okq (⟨"OrderTrees", "takeGroup", "(I)V"⟩, 15) := ⟨⟨by decide +kernel, by decide +kernel⟩, List.mem_of_getElem? (i := 9) (by decide +kernel), List.mem_of_getElem? (i := 102) (by decide +kernel), List.mem_of_getElem? (i := 103) (by decide +kernel)⟩
theorem lw_p4 : lw_okq (⟨"OrderTrees$Tree", "order", "(I)V"⟩, 15) := ⟨⟨by decide +kernel, by decide +kernel⟩, List.mem_of_getElem? (i := 34) (by decide +kernel), List.mem_of_getElem? (i := 113) (by decide +kernel), List.mem_of_getElem? (i := 114) (by decide +kernel)⟩
theorem lw_p5 : lw_okq (⟨"OrderTrees$Tree", "part", "(II)I"⟩, 15) := ⟨⟨by decide +kernel, by decide +kernel⟩, List.mem_of_getElem? (i := 34) (by decide +kernel), List.mem_of_getElem? (i := 117) (by decide +kernel), List.mem_of_getElem? (i := 118) (by decide +kernel)⟩
theorem lw_p6 : lw_okq (⟨"OrderTrees$Tree", "least", "(I)I"⟩, 15) := ⟨⟨by decide +kernel, by decide +kernel⟩, List.mem_of_getElem? (i := 34) (by decide +kernel), List.mem_of_getElem? (i := 121) (by decide +kernel), List.mem_of_getElem? (i := 122) (by decide +kernel)⟩
theorem lw_p7 : lw_okq (⟨"OrderTrees$Tree", "setPart", "(III)V"⟩, 15) := ⟨⟨by decide +kernel, by decide +kernel⟩, List.mem_of_getElem? (i := 34) (by decide +kernel), List.mem_of_getElem? (i := 128) (by decide +kernel), List.mem_of_getElem? (i := 129) (by decide +kernel)⟩
theorem lw_p8 : lw_okq (⟨"OrderTrees$Tree", "lowestWith", "(I)I"⟩, 15) := ⟨⟨by decide +kernel, by decide +kernel⟩, List.mem_of_getElem? (i := 34) (by decide +kernel), List.mem_of_getElem? (i := 142) (by decide +kernel), List.mem_of_getElem? (i := 143) (by decide +kernel)⟩
theorem lw_p9 : lw_okq (⟨"OrderTrees$Tree", "stateOf", "(II)I"⟩, 15) := ⟨⟨by decide +kernel, by decide +kernel⟩, List.mem_of_getElem? (i := 34) (by decide +kernel), List.mem_of_getElem? (i := 146) (by decide +kernel), List.mem_of_getElem? (i := 147) (by decide +kernel)⟩
theorem lw_p10 : lw_okq (⟨"OrderTrees$Tree", "reduceFree", "(II)Z"⟩, 15) := ⟨⟨by decide +kernel, by decide +kernel⟩, List.mem_of_getElem? (i := 34) (by decide +kernel), List.mem_of_getElem? (i := 150) (by decide +kernel), List.mem_of_getElem? (i := 151) (by decide +kernel)⟩
theorem lw_p11 : lw_okq (⟨"OrderTrees$Tree", "partIn", "(IIII)I"⟩, 15) := ⟨⟨by decide +kernel, by decide +kernel⟩, List.mem_of_getElem? (i := 34) (by decide +kernel), List.mem_of_getElem? (i := 154) (by decide +kernel), List.mem_of_getElem? (i := 155) (by decide +kernel)⟩
theorem lw_p12 : lw_okq (⟨"OrderTrees$Tree", "splitToLine", "(IIZ)Z"⟩, 15) := ⟨⟨by decide +kernel, by decide +kernel⟩, List.mem_of_getElem? (i := 34) (by decide +kernel), List.mem_of_getElem? (i := 158) (by decide +kernel), List.mem_of_getElem? (i := 159) (by decide +kernel)⟩
theorem lw_p13 : lw_okq (⟨"OrderTrees$Tree", "bundle", "(III)I"⟩, 15) := ⟨⟨by decide +kernel, by decide +kernel⟩, List.mem_of_getElem? (i := 34) (by decide +kernel), List.mem_of_getElem? (i := 162) (by decide +kernel), List.mem_of_getElem? (i := 163) (by decide +kernel)⟩
theorem lw_p14 : lw_okq (⟨"OrderTrees$Tree", "unusedNode", "()I"⟩, 15) := ⟨⟨by decide +kernel, by decide +kernel⟩, List.mem_of_getElem? (i := 34) (by decide +kernel), List.mem_of_getElem? (i := 166) (by decide +kernel), List.mem_of_getElem? (i := 167) (by decide +kernel)⟩
theorem lw_p15 : lw_okq (⟨"OrderTrees$Tree", "append", "(I)V"⟩, 15) := ⟨⟨by decide +kernel, by decide +kernel⟩, List.mem_of_getElem? (i := 34) (by decide +kernel), List.mem_of_getElem? (i := 170) (by decide +kernel), List.mem_of_getElem? (i := 171) (by decide +kernel)⟩
def lw_privs_1 : List (MethodName × Nat) := [(⟨"OrderTrees", "drawAll", "()V"⟩, 15), (⟨"OrderTrees$Tree", "clear", "()V"⟩, 15), (⟨"OrderTrees$Tree", "add", "(II)V"⟩, 15), (⟨"OrderTrees", "takeGroup", "(I)V"⟩, 15), (⟨"OrderTrees$Tree", "order", "(I)V"⟩, 15), (⟨"OrderTrees$Tree", "part", "(II)I"⟩, 15), (⟨"OrderTrees$Tree", "least", "(I)I"⟩, 15), (⟨"OrderTrees$Tree", "setPart", "(III)V"⟩, 15), (⟨"OrderTrees$Tree", "lowestWith", "(I)I"⟩, 15), (⟨"OrderTrees$Tree", "stateOf", "(II)I"⟩, 15), (⟨"OrderTrees$Tree", "reduceFree", "(II)Z"⟩, 15), (⟨"OrderTrees$Tree", "partIn", "(IIII)I"⟩, 15), (⟨"OrderTrees$Tree", "splitToLine", "(IIZ)Z"⟩, 15), (⟨"OrderTrees$Tree", "bundle", "(III)I"⟩, 15), (⟨"OrderTrees$Tree", "unusedNode", "()I"⟩, 15), (⟨"OrderTrees$Tree", "append", "(I)V"⟩, 15)]
theorem lw_r1 : ∀ q ∈ lw_privs_1, lw_okq q := List.forall_mem_cons.mpr ⟨lw_p0, List.forall_mem_cons.mpr ⟨lw_p1, List.forall_mem_cons.mpr ⟨lw_p2, List.forall_mem_cons.mpr ⟨lw_p3, List.forall_mem_cons.mpr ⟨lw_p4, List.forall_mem_cons.mpr ⟨lw_p5, List.forall_mem_cons.mpr ⟨lw_p6, List.forall_mem_cons.mpr ⟨lw_p7, List.forall_mem_cons.mpr ⟨lw_p8, List.forall_mem_cons.mpr ⟨lw_p9, List.forall_mem_cons.mpr ⟨lw_p10, List.forall_mem_cons.mpr ⟨lw_p11, List.forall_mem_cons.mpr ⟨lw_p12, List.forall_mem_cons.mpr ⟨lw_p13, List.forall_mem_cons.mpr ⟨lw_p14, List.forall_mem_cons.mpr ⟨lw_p15, fun _ h => absurd h List.not_mem_nil⟩⟩⟩⟩⟩⟩⟩⟩⟩⟩⟩⟩⟩⟩⟩⟩
theorem lw_p16 : lw_okq (⟨"OrderTrees$Tree", "hold", "(I)V"⟩, 15) := ⟨⟨by decide +kernel, by decide +kernel⟩, List.mem_of_getElem? (i := 34) (by decide +kernel), List.mem_of_getElem? (i := 174) (by decide +kernel), List.mem_of_getElem? (i := 175) (by decide +kernel)⟩
theorem lw_p17 : lw_okq (⟨"OrderTrees$Tree", "splitTurning", "(II)Z"⟩, 15) := ⟨⟨by decide +kernel, by decide +kernel⟩, List.mem_of_getElem? (i := 34) (by decide +kernel), List.mem_of_getElem? (i := 178) (by decide +kernel), List.mem_of_getElem? (i := 179) (by decide +kernel)⟩
theorem lw_p18 : lw_okq (⟨"OrderTrees$Tree", "markSplit", "(I)V"⟩, 15) := ⟨⟨by decide +kernel, by decide +kernel⟩, List.mem_of_getElem? (i := 34) (by decide +kernel), List.mem_of_getElem? (i := 182) (by decide +kernel), List.mem_of_getElem? (i := 183) (by decide +kernel)⟩
theorem lw_p19 : lw_okq (⟨"OrderTrees$Tree", "keepEmpty", "(II)V"⟩, 15) := ⟨⟨by decide +kernel, by decide +kernel⟩, List.mem_of_getElem? (i := 34) (by decide +kernel), List.mem_of_getElem? (i := 186) (by decide +kernel), List.mem_of_getElem? (i := 187) (by decide +kernel)⟩
theorem lw_p20 : lw_okq (⟨"OrderTrees$Tree", "fillFromLine", "(I)V"⟩, 15) := ⟨⟨by decide +kernel, by decide +kernel⟩, List.mem_of_getElem? (i := 34) (by decide +kernel), List.mem_of_getElem? (i := 190) (by decide +kernel), List.mem_of_getElem? (i := 191) (by decide +kernel)⟩
theorem lw_p21 : lw_okq (⟨"OrderTrees$Tree", "reduceTurning", "(II)Z"⟩, 15) := ⟨⟨by decide +kernel, by decide +kernel⟩, List.mem_of_getElem? (i := 34) (by decide +kernel), List.mem_of_getElem? (i := 194) (by decide +kernel), List.mem_of_getElem? (i := 195) (by decide +kernel)⟩
theorem lw_p22 : lw_okq (⟨"OrderTrees$Tree", "giveBackSplit", "()V"⟩, 15) := ⟨⟨by decide +kernel, by decide +kernel⟩, List.mem_of_getElem? (i := 34) (by decide +kernel), List.mem_of_getElem? (i := 198) (by decide +kernel), List.mem_of_getElem? (i := 199) (by decide +kernel)⟩
theorem lw_p23 : lw_okq (⟨"OrderTrees", "isGroup", "(I)Z"⟩, 15) := ⟨⟨by decide +kernel, by decide +kernel⟩, List.mem_of_getElem? (i := 9) (by decide +kernel), List.mem_of_getElem? (i := 271) (by decide +kernel), List.mem_of_getElem? (i := 272) (by decide +kernel)⟩
theorem lw_p24 : lw_okq (⟨"OrderTrees", "isTaken", "(I)Z"⟩, 15) := ⟨⟨by decide +kernel, by decide +kernel⟩, List.mem_of_getElem? (i := 9) (by decide +kernel), List.mem_of_getElem? (i := 275) (by decide +kernel), List.mem_of_getElem? (i := 276) (by decide +kernel)⟩
theorem lw_p25 : lw_okq (⟨"OrderTrees", "found", "(I)I"⟩, 15) := ⟨⟨by decide +kernel, by decide +kernel⟩, List.mem_of_getElem? (i := 9) (by decide +kernel), List.mem_of_getElem? (i := 299) (by decide +kernel), List.mem_of_getElem? (i := 300) (by decide +kernel)⟩
theorem lw_p26 : lw_okq (⟨"OrderTrees$Tree", "ways", "(I)I"⟩, 15) := ⟨⟨by decide +kernel, by decide +kernel⟩, List.mem_of_getElem? (i := 34) (by decide +kernel), List.mem_of_getElem? (i := 320) (by decide +kernel), List.mem_of_getElem? (i := 321) (by decide +kernel)⟩
theorem lw_p27 : lw_okq (⟨"OrderTrees$Tree", "layParts", "(II)V"⟩, 15) := ⟨⟨by decide +kernel, by decide +kernel⟩, List.mem_of_getElem? (i := 34) (by decide +kernel), List.mem_of_getElem? (i := 368) (by decide +kernel), List.mem_of_getElem? (i := 369) (by decide +kernel)⟩
theorem lw_p28 : lw_okq (⟨"OrderTrees", "isSetOfThings", "(I)Z"⟩, 15) := ⟨⟨by decide +kernel, by decide +kernel⟩, List.mem_of_getElem? (i := 9) (by decide +kernel), List.mem_of_getElem? (i := 379) (by decide +kernel), List.mem_of_getElem? (i := 380) (by decide +kernel)⟩
theorem lw_p29 : lw_okq (⟨"OrderTrees", "isThing", "(I)Z"⟩, 15) := ⟨⟨by decide +kernel, by decide +kernel⟩, List.mem_of_getElem? (i := 9) (by decide +kernel), List.mem_of_getElem? (i := 391) (by decide +kernel), List.mem_of_getElem? (i := 392) (by decide +kernel)⟩
theorem lw_p30 : lw_okq (⟨"OrderTrees$Tree", "besideIn", "(IIZ)I"⟩, 15) := ⟨⟨by decide +kernel, by decide +kernel⟩, List.mem_of_getElem? (i := 34) (by decide +kernel), List.mem_of_getElem? (i := 399) (by decide +kernel), List.mem_of_getElem? (i := 400) (by decide +kernel)⟩
theorem lw_p31 : lw_okq (⟨"OrderTrees$Tree", "betweenIn", "(IIIZ)I"⟩, 15) := ⟨⟨by decide +kernel, by decide +kernel⟩, List.mem_of_getElem? (i := 34) (by decide +kernel), List.mem_of_getElem? (i := 406) (by decide +kernel), List.mem_of_getElem? (i := 407) (by decide +kernel)⟩
def lw_privs_2 : List (MethodName × Nat) := [(⟨"OrderTrees$Tree", "hold", "(I)V"⟩, 15), (⟨"OrderTrees$Tree", "splitTurning", "(II)Z"⟩, 15), (⟨"OrderTrees$Tree", "markSplit", "(I)V"⟩, 15), (⟨"OrderTrees$Tree", "keepEmpty", "(II)V"⟩, 15), (⟨"OrderTrees$Tree", "fillFromLine", "(I)V"⟩, 15), (⟨"OrderTrees$Tree", "reduceTurning", "(II)Z"⟩, 15), (⟨"OrderTrees$Tree", "giveBackSplit", "()V"⟩, 15), (⟨"OrderTrees", "isGroup", "(I)Z"⟩, 15), (⟨"OrderTrees", "isTaken", "(I)Z"⟩, 15), (⟨"OrderTrees", "found", "(I)I"⟩, 15), (⟨"OrderTrees$Tree", "ways", "(I)I"⟩, 15), (⟨"OrderTrees$Tree", "layParts", "(II)V"⟩, 15), (⟨"OrderTrees", "isSetOfThings", "(I)Z"⟩, 15), (⟨"OrderTrees", "isThing", "(I)Z"⟩, 15), (⟨"OrderTrees$Tree", "besideIn", "(IIZ)I"⟩, 15), (⟨"OrderTrees$Tree", "betweenIn", "(IIIZ)I"⟩, 15)]
theorem lw_r2 : ∀ q ∈ lw_privs_2, lw_okq q := List.forall_mem_cons.mpr ⟨lw_p16, List.forall_mem_cons.mpr ⟨lw_p17, List.forall_mem_cons.mpr ⟨lw_p18, List.forall_mem_cons.mpr ⟨lw_p19, List.forall_mem_cons.mpr ⟨lw_p20, List.forall_mem_cons.mpr ⟨lw_p21, List.forall_mem_cons.mpr ⟨lw_p22, List.forall_mem_cons.mpr ⟨lw_p23, List.forall_mem_cons.mpr ⟨lw_p24, List.forall_mem_cons.mpr ⟨lw_p25, List.forall_mem_cons.mpr ⟨lw_p26, List.forall_mem_cons.mpr ⟨lw_p27, List.forall_mem_cons.mpr ⟨lw_p28, List.forall_mem_cons.mpr ⟨lw_p29, List.forall_mem_cons.mpr ⟨lw_p30, List.forall_mem_cons.mpr ⟨lw_p31, fun _ h => absurd h List.not_mem_nil⟩⟩⟩⟩⟩⟩⟩⟩⟩⟩⟩⟩⟩⟩⟩⟩
theorem lw_p32 : lw_okq (⟨"OrderTrees", "findPlaces", "()V"⟩, 15) := ⟨⟨by decide +kernel, by decide +kernel⟩, List.mem_of_getElem? (i := 9) (by decide +kernel), List.mem_of_getElem? (i := 435) (by decide +kernel), List.mem_of_getElem? (i := 436) (by decide +kernel)⟩
theorem lw_p33 : lw_okq (⟨"OrderTrees", "isSideBySide", "(I)Z"⟩, 15) := ⟨⟨by decide +kernel, by decide +kernel⟩, List.mem_of_getElem? (i := 9) (by decide +kernel), List.mem_of_getElem? (i := 439) (by decide +kernel), List.mem_of_getElem? (i := 440) (by decide +kernel)⟩
theorem lw_p34 : lw_okq (⟨"OrderTrees$Tree", "wayOf", "(I[I)I"⟩, 15) := ⟨⟨by decide +kernel, by decide +kernel⟩, List.mem_of_getElem? (i := 34) (by decide +kernel), List.mem_of_getElem? (i := 454) (by decide +kernel), List.mem_of_getElem? (i := 455) (by decide +kernel)⟩
theorem lw_p35 : lw_okq (⟨"OrderTrees$Tree", "leastThing", "(I)I"⟩, 15) := ⟨⟨by decide +kernel, by decide +kernel⟩, List.mem_of_getElem? (i := 34) (by decide +kernel), List.mem_of_getElem? (i := 458) (by decide +kernel), List.mem_of_getElem? (i := 459) (by decide +kernel)⟩
theorem lw_p36 : lw_okq (⟨"OrderTrees", "findingOf", "(III)I"⟩, 15) := ⟨⟨by decide +kernel, by decide +kernel⟩, List.mem_of_getElem? (i := 9) (by decide +kernel), List.mem_of_getElem? (i := 485) (by decide +kernel), List.mem_of_getElem? (i := 486) (by decide +kernel)⟩
theorem lw_p37 : lw_okq (⟨"OrderTreesModel", "adds", "(I)I"⟩, 30) := ⟨⟨by decide +kernel, by decide +kernel⟩, List.mem_of_getElem? (i := 550) (by decide +kernel), List.mem_of_getElem? (i := 659) (by decide +kernel), List.mem_of_getElem? (i := 660) (by decide +kernel)⟩
theorem lw_p38 : lw_okq (⟨"OrderTreesModel", "takenNow", "()I"⟩, 30) := ⟨⟨by decide +kernel, by decide +kernel⟩, List.mem_of_getElem? (i := 550) (by decide +kernel), List.mem_of_getElem? (i := 669) (by decide +kernel), List.mem_of_getElem? (i := 670) (by decide +kernel)⟩
theorem lw_p39 : lw_okq (⟨"OrderTreesModel", "rowsBy", "(II)I"⟩, 30) := ⟨⟨by decide +kernel, by decide +kernel⟩, List.mem_of_getElem? (i := 550) (by decide +kernel), List.mem_of_getElem? (i := 673) (by decide +kernel), List.mem_of_getElem? (i := 674) (by decide +kernel)⟩
theorem lw_p40 : lw_okq (⟨"OrderTreesModel", "all", "()I"⟩, 30) := ⟨⟨by decide +kernel, by decide +kernel⟩, List.mem_of_getElem? (i := 550) (by decide +kernel), List.mem_of_getElem? (i := 677) (by decide +kernel), List.mem_of_getElem? (i := 678) (by decide +kernel)⟩
theorem lw_p41 : lw_okq (⟨"OrderTreesModel", "nexts", "(III)I"⟩, 30) := ⟨⟨by decide +kernel, by decide +kernel⟩, List.mem_of_getElem? (i := 550) (by decide +kernel), List.mem_of_getElem? (i := 681) (by decide +kernel), List.mem_of_getElem? (i := 682) (by decide +kernel)⟩
theorem lw_p42 : lw_okq (⟨"OrderTreesModel", "meets", "(I)I"⟩, 30) := ⟨⟨by decide +kernel, by decide +kernel⟩, List.mem_of_getElem? (i := 550) (by decide +kernel), List.mem_of_getElem? (i := 696) (by decide +kernel), List.mem_of_getElem? (i := 697) (by decide +kernel)⟩
theorem lw_p43 : lw_okq (⟨"OrderTreesModel", "isGroup", "(I)Z"⟩, 30) := ⟨⟨by decide +kernel, by decide +kernel⟩, List.mem_of_getElem? (i := 550) (by decide +kernel), List.mem_of_getElem? (i := 704) (by decide +kernel), List.mem_of_getElem? (i := 705) (by decide +kernel)⟩
theorem lw_p44 : lw_okq (⟨"OrderTreesModel", "reasonOf", "(I)I"⟩, 30) := ⟨⟨by decide +kernel, by decide +kernel⟩, List.mem_of_getElem? (i := 550) (by decide +kernel), List.mem_of_getElem? (i := 712) (by decide +kernel), List.mem_of_getElem? (i := 713) (by decide +kernel)⟩
theorem lw_p45 : lw_okq (⟨"OrderTreesModel", "manyNow", "()I"⟩, 30) := ⟨⟨by decide +kernel, by decide +kernel⟩, List.mem_of_getElem? (i := 550) (by decide +kernel), List.mem_of_getElem? (i := 720) (by decide +kernel), List.mem_of_getElem? (i := 721) (by decide +kernel)⟩
theorem lw_p46 : lw_okq (⟨"OrderTreesModel", "treeOf", "(I)I"⟩, 30) := ⟨⟨by decide +kernel, by decide +kernel⟩, List.mem_of_getElem? (i := 550) (by decide +kernel), List.mem_of_getElem? (i := 728) (by decide +kernel), List.mem_of_getElem? (i := 729) (by decide +kernel)⟩
theorem lw_p47 : lw_okq (⟨"OrderTreesModel", "findsTree", "()V"⟩, 30) := ⟨⟨by decide +kernel, by decide +kernel⟩, List.mem_of_getElem? (i := 550) (by decide +kernel), List.mem_of_getElem? (i := 732) (by decide +kernel), List.mem_of_getElem? (i := 733) (by decide +kernel)⟩
def lw_privs_3 : List (MethodName × Nat) := [(⟨"OrderTrees", "findPlaces", "()V"⟩, 15), (⟨"OrderTrees", "isSideBySide", "(I)Z"⟩, 15), (⟨"OrderTrees$Tree", "wayOf", "(I[I)I"⟩, 15), (⟨"OrderTrees$Tree", "leastThing", "(I)I"⟩, 15), (⟨"OrderTrees", "findingOf", "(III)I"⟩, 15), (⟨"OrderTreesModel", "adds", "(I)I"⟩, 30), (⟨"OrderTreesModel", "takenNow", "()I"⟩, 30), (⟨"OrderTreesModel", "rowsBy", "(II)I"⟩, 30), (⟨"OrderTreesModel", "all", "()I"⟩, 30), (⟨"OrderTreesModel", "nexts", "(III)I"⟩, 30), (⟨"OrderTreesModel", "meets", "(I)I"⟩, 30), (⟨"OrderTreesModel", "isGroup", "(I)Z"⟩, 30), (⟨"OrderTreesModel", "reasonOf", "(I)I"⟩, 30), (⟨"OrderTreesModel", "manyNow", "()I"⟩, 30), (⟨"OrderTreesModel", "treeOf", "(I)I"⟩, 30), (⟨"OrderTreesModel", "findsTree", "()V"⟩, 30)]
theorem lw_r3 : ∀ q ∈ lw_privs_3, lw_okq q := List.forall_mem_cons.mpr ⟨lw_p32, List.forall_mem_cons.mpr ⟨lw_p33, List.forall_mem_cons.mpr ⟨lw_p34, List.forall_mem_cons.mpr ⟨lw_p35, List.forall_mem_cons.mpr ⟨lw_p36, List.forall_mem_cons.mpr ⟨lw_p37, List.forall_mem_cons.mpr ⟨lw_p38, List.forall_mem_cons.mpr ⟨lw_p39, List.forall_mem_cons.mpr ⟨lw_p40, List.forall_mem_cons.mpr ⟨lw_p41, List.forall_mem_cons.mpr ⟨lw_p42, List.forall_mem_cons.mpr ⟨lw_p43, List.forall_mem_cons.mpr ⟨lw_p44, List.forall_mem_cons.mpr ⟨lw_p45, List.forall_mem_cons.mpr ⟨lw_p46, List.forall_mem_cons.mpr ⟨lw_p47, fun _ h => absurd h List.not_mem_nil⟩⟩⟩⟩⟩⟩⟩⟩⟩⟩⟩⟩⟩⟩⟩⟩
theorem lw_p48 : lw_okq (⟨"OrderTreesModel", "findsStrong", "()V"⟩, 30) := ⟨⟨by decide +kernel, by decide +kernel⟩, List.mem_of_getElem? (i := 550) (by decide +kernel), List.mem_of_getElem? (i := 736) (by decide +kernel), List.mem_of_getElem? (i := 737) (by decide +kernel)⟩
theorem lw_p49 : lw_okq (⟨"OrderTreesModel", "findsGo", "()V"⟩, 30) := ⟨⟨by decide +kernel, by decide +kernel⟩, List.mem_of_getElem? (i := 550) (by decide +kernel), List.mem_of_getElem? (i := 740) (by decide +kernel), List.mem_of_getElem? (i := 741) (by decide +kernel)⟩
theorem lw_p50 : lw_okq (⟨"OrderTreesModel", "isSure", "(I)Z"⟩, 30) := ⟨⟨by decide +kernel, by decide +kernel⟩, List.mem_of_getElem? (i := 550) (by decide +kernel), List.mem_of_getElem? (i := 744) (by decide +kernel), List.mem_of_getElem? (i := 745) (by decide +kernel)⟩
theorem lw_p51 : lw_okq (⟨"OrderTreesModel", "shows", "(I)V"⟩, 30) := ⟨⟨by decide +kernel, by decide +kernel⟩, List.mem_of_getElem? (i := 550) (by decide +kernel), List.mem_of_getElem? (i := 751) (by decide +kernel), List.mem_of_getElem? (i := 752) (by decide +kernel)⟩
theorem lw_p52 : lw_okq (⟨"OrderTreesModel", "findsParts", "(I)V"⟩, 30) := ⟨⟨by decide +kernel, by decide +kernel⟩, List.mem_of_getElem? (i := 550) (by decide +kernel), List.mem_of_getElem? (i := 758) (by decide +kernel), List.mem_of_getElem? (i := 759) (by decide +kernel)⟩
theorem lw_p53 : lw_okq (⟨"OrderTreesModel", "partWith", "(II)I"⟩, 30) := ⟨⟨by decide +kernel, by decide +kernel⟩, List.mem_of_getElem? (i := 550) (by decide +kernel), List.mem_of_getElem? (i := 762) (by decide +kernel), List.mem_of_getElem? (i := 763) (by decide +kernel)⟩
theorem lw_p54 : lw_okq (⟨"OrderTreesModel", "turnsRight", "(I)V"⟩, 30) := ⟨⟨by decide +kernel, by decide +kernel⟩, List.mem_of_getElem? (i := 550) (by decide +kernel), List.mem_of_getElem? (i := 766) (by decide +kernel), List.mem_of_getElem? (i := 767) (by decide +kernel)⟩
theorem lw_p55 : lw_okq (⟨"OrderTreesModel", "areBeside", "(II)Z"⟩, 30) := ⟨⟨by decide +kernel, by decide +kernel⟩, List.mem_of_getElem? (i := 550) (by decide +kernel), List.mem_of_getElem? (i := 770) (by decide +kernel), List.mem_of_getElem? (i := 771) (by decide +kernel)⟩
theorem lw_p56 : lw_okq (⟨"OrderTreesModel", "swaps", "(II)V"⟩, 30) := ⟨⟨by decide +kernel, by decide +kernel⟩, List.mem_of_getElem? (i := 550) (by decide +kernel), List.mem_of_getElem? (i := 774) (by decide +kernel), List.mem_of_getElem? (i := 775) (by decide +kernel)⟩
theorem lw_p57 : lw_okq (⟨"OrderTreesModel", "nodeFor", "(II)I"⟩, 30) := ⟨⟨by decide +kernel, by decide +kernel⟩, List.mem_of_getElem? (i := 550) (by decide +kernel), List.mem_of_getElem? (i := 782) (by decide +kernel), List.mem_of_getElem? (i := 783) (by decide +kernel)⟩
theorem lw_p58 : lw_okq (⟨"OrderTreesModel", "rowOf", "(II)I"⟩, 30) := ⟨⟨by decide +kernel, by decide +kernel⟩, List.mem_of_getElem? (i := 550) (by decide +kernel), List.mem_of_getElem? (i := 791) (by decide +kernel), List.mem_of_getElem? (i := 792) (by decide +kernel)⟩
theorem lw_p59 : lw_okq (⟨"OrderTreesModel", "findsRow", "(I)V"⟩, 30) := ⟨⟨by decide +kernel, by decide +kernel⟩, List.mem_of_getElem? (i := 550) (by decide +kernel), List.mem_of_getElem? (i := 795) (by decide +kernel), List.mem_of_getElem? (i := 796) (by decide +kernel)⟩
theorem lw_p60 : lw_okq (⟨"OrderTreesModel", "waysAt", "(I)I"⟩, 30) := ⟨⟨by decide +kernel, by decide +kernel⟩, List.mem_of_getElem? (i := 550) (by decide +kernel), List.mem_of_getElem? (i := 799) (by decide +kernel), List.mem_of_getElem? (i := 800) (by decide +kernel)⟩
theorem lw_p61 : lw_okq (⟨"OrderTreesModel", "nodeOf", "(I)I"⟩, 30) := ⟨⟨by decide +kernel, by decide +kernel⟩, List.mem_of_getElem? (i := 550) (by decide +kernel), List.mem_of_getElem? (i := 806) (by decide +kernel), List.mem_of_getElem? (i := 807) (by decide +kernel)⟩
theorem lw_p62 : lw_okq (⟨"OrderTreesModel", "orders", "(I)V"⟩, 30) := ⟨⟨by decide +kernel, by decide +kernel⟩, List.mem_of_getElem? (i := 550) (by decide +kernel), List.mem_of_getElem? (i := 810) (by decide +kernel), List.mem_of_getElem? (i := 811) (by decide +kernel)⟩
theorem lw_p63 : lw_okq (⟨"OrderTreesModel", "isSet", "(I)Z"⟩, 30) := ⟨⟨by decide +kernel, by decide +kernel⟩, List.mem_of_getElem? (i := 550) (by decide +kernel), List.mem_of_getElem? (i := 818) (by decide +kernel), List.mem_of_getElem? (i := 819) (by decide +kernel)⟩
def lw_privs_4 : List (MethodName × Nat) := [(⟨"OrderTreesModel", "findsStrong", "()V"⟩, 30), (⟨"OrderTreesModel", "findsGo", "()V"⟩, 30), (⟨"OrderTreesModel", "isSure", "(I)Z"⟩, 30), (⟨"OrderTreesModel", "shows", "(I)V"⟩, 30), (⟨"OrderTreesModel", "findsParts", "(I)V"⟩, 30), (⟨"OrderTreesModel", "partWith", "(II)I"⟩, 30), (⟨"OrderTreesModel", "turnsRight", "(I)V"⟩, 30), (⟨"OrderTreesModel", "areBeside", "(II)Z"⟩, 30), (⟨"OrderTreesModel", "swaps", "(II)V"⟩, 30), (⟨"OrderTreesModel", "nodeFor", "(II)I"⟩, 30), (⟨"OrderTreesModel", "rowOf", "(II)I"⟩, 30), (⟨"OrderTreesModel", "findsRow", "(I)V"⟩, 30), (⟨"OrderTreesModel", "waysAt", "(I)I"⟩, 30), (⟨"OrderTreesModel", "nodeOf", "(I)I"⟩, 30), (⟨"OrderTreesModel", "orders", "(I)V"⟩, 30), (⟨"OrderTreesModel", "isSet", "(I)Z"⟩, 30)]
theorem lw_r4 : ∀ q ∈ lw_privs_4, lw_okq q := List.forall_mem_cons.mpr ⟨lw_p48, List.forall_mem_cons.mpr ⟨lw_p49, List.forall_mem_cons.mpr ⟨lw_p50, List.forall_mem_cons.mpr ⟨lw_p51, List.forall_mem_cons.mpr ⟨lw_p52, List.forall_mem_cons.mpr ⟨lw_p53, List.forall_mem_cons.mpr ⟨lw_p54, List.forall_mem_cons.mpr ⟨lw_p55, List.forall_mem_cons.mpr ⟨lw_p56, List.forall_mem_cons.mpr ⟨lw_p57, List.forall_mem_cons.mpr ⟨lw_p58, List.forall_mem_cons.mpr ⟨lw_p59, List.forall_mem_cons.mpr ⟨lw_p60, List.forall_mem_cons.mpr ⟨lw_p61, List.forall_mem_cons.mpr ⟨lw_p62, List.forall_mem_cons.mpr ⟨lw_p63, fun _ h => absurd h List.not_mem_nil⟩⟩⟩⟩⟩⟩⟩⟩⟩⟩⟩⟩⟩⟩⟩⟩
theorem lw_p64 : lw_okq (⟨"OrderTreesModel", "mustOf", "(I)I"⟩, 30) := ⟨⟨by decide +kernel, by decide +kernel⟩, List.mem_of_getElem? (i := 550) (by decide +kernel), List.mem_of_getElem? (i := 826) (by decide +kernel), List.mem_of_getElem? (i := 827) (by decide +kernel)⟩
theorem lw_p65 : lw_okq (⟨"OrderTreesModel", "isThing", "(I)Z"⟩, 30) := ⟨⟨by decide +kernel, by decide +kernel⟩, List.mem_of_getElem? (i := 550) (by decide +kernel), List.mem_of_getElem? (i := 834) (by decide +kernel), List.mem_of_getElem? (i := 835) (by decide +kernel)⟩
theorem lw_p66 : lw_okq (⟨"OrderTreesModel", "apartOf", "(III)I"⟩, 30) := ⟨⟨by decide +kernel, by decide +kernel⟩, List.mem_of_getElem? (i := 550) (by decide +kernel), List.mem_of_getElem? (i := 838) (by decide +kernel), List.mem_of_getElem? (i := 839) (by decide +kernel)⟩
theorem lw_p67 : lw_okq (⟨"OrderTreesModel", "spansFrom", "(II)V"⟩, 30) := ⟨⟨by decide +kernel, by decide +kernel⟩, List.mem_of_getElem? (i := 550) (by decide +kernel), List.mem_of_getElem? (i := 842) (by decide +kernel), List.mem_of_getElem? (i := 843) (by decide +kernel)⟩
theorem lw_p68 : lw_okq (⟨"OrderTreesModel", "spareOf", "()I"⟩, 30) := ⟨⟨by decide +kernel, by decide +kernel⟩, List.mem_of_getElem? (i := 550) (by decide +kernel), List.mem_of_getElem? (i := 850) (by decide +kernel), List.mem_of_getElem? (i := 851) (by decide +kernel)⟩
theorem lw_p69 : lw_okq (⟨"OrderTreesModel", "faultOf", "()I"⟩, 30) := ⟨⟨by decide +kernel, by decide +kernel⟩, List.mem_of_getElem? (i := 550) (by decide +kernel), List.mem_of_getElem? (i := 870) (by decide +kernel), List.mem_of_getElem? (i := 871) (by decide +kernel)⟩
theorem lw_p70 : lw_okq (⟨"OrderTreesModel", "isRow", "()Z"⟩, 30) := ⟨⟨by decide +kernel, by decide +kernel⟩, List.mem_of_getElem? (i := 550) (by decide +kernel), List.mem_of_getElem? (i := 878) (by decide +kernel), List.mem_of_getElem? (i := 879) (by decide +kernel)⟩
theorem lw_p71 : lw_okq (⟨"OrderTreesModel", "missesOf", "()I"⟩, 30) := ⟨⟨by decide +kernel, by decide +kernel⟩, List.mem_of_getElem? (i := 550) (by decide +kernel), List.mem_of_getElem? (i := 882) (by decide +kernel), List.mem_of_getElem? (i := 883) (by decide +kernel)⟩
theorem lw_p72 : lw_okq (⟨"OrderTreesModel", "isHad", "(I)Z"⟩, 30) := ⟨⟨by decide +kernel, by decide +kernel⟩, List.mem_of_getElem? (i := 550) (by decide +kernel), List.mem_of_getElem? (i := 886) (by decide +kernel), List.mem_of_getElem? (i := 887) (by decide +kernel)⟩
theorem lw_p73 : lw_okq (⟨"OrderTreesModel", "numberOf", "()I"⟩, 30) := ⟨⟨by decide +kernel, by decide +kernel⟩, List.mem_of_getElem? (i := 550) (by decide +kernel), List.mem_of_getElem? (i := 894) (by decide +kernel), List.mem_of_getElem? (i := 895) (by decide +kernel)⟩
theorem lw_p74 : lw_okq (⟨"OrderTreesModel", "wayTold", "(I)I"⟩, 30) := ⟨⟨by decide +kernel, by decide +kernel⟩, List.mem_of_getElem? (i := 550) (by decide +kernel), List.mem_of_getElem? (i := 898) (by decide +kernel), List.mem_of_getElem? (i := 899) (by decide +kernel)⟩
theorem lw_p75 : lw_okq (⟨"OrderTreesModel", "placeOf", "(I)I"⟩, 30) := ⟨⟨by decide +kernel, by decide +kernel⟩, List.mem_of_getElem? (i := 550) (by decide +kernel), List.mem_of_getElem? (i := 902) (by decide +kernel), List.mem_of_getElem? (i := 903) (by decide +kernel)⟩
theorem lw_p76 : lw_okq (⟨"OrderTreesModel", "lacks", "(III)I"⟩, 30) := ⟨⟨by decide +kernel, by decide +kernel⟩, List.mem_of_getElem? (i := 550) (by decide +kernel), List.mem_of_getElem? (i := 918) (by decide +kernel), List.mem_of_getElem? (i := 919) (by decide +kernel)⟩
theorem lw_p77 : lw_okq (⟨"OrderTreesModel", "keep", "(III)V"⟩, 30) := ⟨⟨by decide +kernel, by decide +kernel⟩, List.mem_of_getElem? (i := 550) (by decide +kernel), List.mem_of_getElem? (i := 922) (by decide +kernel), List.mem_of_getElem? (i := 923) (by decide +kernel)⟩
theorem lw_p78 : lw_okq (⟨"OrderTreesModel", "takenMany", "()I"⟩, 30) := ⟨⟨by decide +kernel, by decide +kernel⟩, List.mem_of_getElem? (i := 550) (by decide +kernel), List.mem_of_getElem? (i := 943) (by decide +kernel), List.mem_of_getElem? (i := 944) (by decide +kernel)⟩
theorem lw_p79 : lw_okq (⟨"OrderTreesModel", "nodesOf", "(Z)I"⟩, 30) := ⟨⟨by decide +kernel, by decide +kernel⟩, List.mem_of_getElem? (i := 550) (by decide +kernel), List.mem_of_getElem? (i := 947) (by decide +kernel), List.mem_of_getElem? (i := 948) (by decide +kernel)⟩
def lw_privs_5 : List (MethodName × Nat) := [(⟨"OrderTreesModel", "mustOf", "(I)I"⟩, 30), (⟨"OrderTreesModel", "isThing", "(I)Z"⟩, 30), (⟨"OrderTreesModel", "apartOf", "(III)I"⟩, 30), (⟨"OrderTreesModel", "spansFrom", "(II)V"⟩, 30), (⟨"OrderTreesModel", "spareOf", "()I"⟩, 30), (⟨"OrderTreesModel", "faultOf", "()I"⟩, 30), (⟨"OrderTreesModel", "isRow", "()Z"⟩, 30), (⟨"OrderTreesModel", "missesOf", "()I"⟩, 30), (⟨"OrderTreesModel", "isHad", "(I)Z"⟩, 30), (⟨"OrderTreesModel", "numberOf", "()I"⟩, 30), (⟨"OrderTreesModel", "wayTold", "(I)I"⟩, 30), (⟨"OrderTreesModel", "placeOf", "(I)I"⟩, 30), (⟨"OrderTreesModel", "lacks", "(III)I"⟩, 30), (⟨"OrderTreesModel", "keep", "(III)V"⟩, 30), (⟨"OrderTreesModel", "takenMany", "()I"⟩, 30), (⟨"OrderTreesModel", "nodesOf", "(Z)I"⟩, 30)]
theorem lw_r5 : ∀ q ∈ lw_privs_5, lw_okq q := List.forall_mem_cons.mpr ⟨lw_p64, List.forall_mem_cons.mpr ⟨lw_p65, List.forall_mem_cons.mpr ⟨lw_p66, List.forall_mem_cons.mpr ⟨lw_p67, List.forall_mem_cons.mpr ⟨lw_p68, List.forall_mem_cons.mpr ⟨lw_p69, List.forall_mem_cons.mpr ⟨lw_p70, List.forall_mem_cons.mpr ⟨lw_p71, List.forall_mem_cons.mpr ⟨lw_p72, List.forall_mem_cons.mpr ⟨lw_p73, List.forall_mem_cons.mpr ⟨lw_p74, List.forall_mem_cons.mpr ⟨lw_p75, List.forall_mem_cons.mpr ⟨lw_p76, List.forall_mem_cons.mpr ⟨lw_p77, List.forall_mem_cons.mpr ⟨lw_p78, List.forall_mem_cons.mpr ⟨lw_p79, fun _ h => absurd h List.not_mem_nil⟩⟩⟩⟩⟩⟩⟩⟩⟩⟩⟩⟩⟩⟩⟩⟩
theorem lw_p80 : lw_okq (⟨"OrderTreesModel", "rowDigest", "(JI)J"⟩, 30) := ⟨⟨by decide +kernel, by decide +kernel⟩, List.mem_of_getElem? (i := 550) (by decide +kernel), List.mem_of_getElem? (i := 960) (by decide +kernel), List.mem_of_getElem? (i := 961) (by decide +kernel)⟩
theorem lw_p81 : lw_okq (⟨"OrderTreesModel", "setDigest", "(JI)J"⟩, 30) := ⟨⟨by decide +kernel, by decide +kernel⟩, List.mem_of_getElem? (i := 550) (by decide +kernel), List.mem_of_getElem? (i := 964) (by decide +kernel), List.mem_of_getElem? (i := 965) (by decide +kernel)⟩
def lw_privs_6 : List (MethodName × Nat) := [(⟨"OrderTreesModel", "rowDigest", "(JI)J"⟩, 30), (⟨"OrderTreesModel", "setDigest", "(JI)J"⟩, 30)]
theorem lw_r6 : ∀ q ∈ lw_privs_6, lw_okq q := List.forall_mem_cons.mpr ⟨lw_p80, List.forall_mem_cons.mpr ⟨lw_p81, fun _ h => absurd h List.not_mem_nil⟩⟩
def lw_privs : List (MethodName × Nat) := lw_privs_1 ++ (lw_privs_2 ++ (lw_privs_3 ++ (lw_privs_4 ++ (lw_privs_5 ++ (lw_privs_6)))))
def lw_tbl : List Cond := k2_sels lw_privs ++ tables_1
theorem lw_privs_ok : ∀ q ∈ lw_privs, lw_okq q := by
  show ∀ q ∈ lw_privs_1 ++ (lw_privs_2 ++ (lw_privs_3 ++ (lw_privs_4 ++ (lw_privs_5 ++ (lw_privs_6))))), lw_okq q
  exact List.forall_mem_append.mpr ⟨lw_r1, List.forall_mem_append.mpr ⟨lw_r2, List.forall_mem_append.mpr ⟨lw_r3, List.forall_mem_append.mpr ⟨lw_r4, List.forall_mem_append.mpr ⟨lw_r5, lw_r6⟩⟩⟩⟩⟩
-- ===== end of PART A; then your names; then what follows =====
end
section
def R_S : String := "OrderTrees$Sheets"
def F_S : u_T := fun k => match k with
  | 0 => ("OrderTrees$Sheets", "forms", "[I", true)
  | 1 => ("OrderTrees$Sheets", "sizes", "[I", true)
  | _ => ("OrderTrees$Sheets", "items", "[I", true)
def ty_S : Nat → FieldType := fun k => match k with
  | 0 => .array .int
  | 1 => .array .int
  | _ => .array .int
theorem n_S : ∀ a, a < 3 → ∀ b, b < 3 → a ≠ b → (F_S a).2.1 ≠ (F_S b).2.1 := by decide +kernel
theorem ty_S_ok : ∀ k, k < 3 → parseFieldDescriptor (F_S k).2.2.1 = some (ty_S k) := by decide +kernel
def R_T : String := "OrderTrees$Tree"
def F_T : u_T := fun k => match k with
  | 0 => ("OrderTrees$Tree", "kinds", "[I", true)
  | 1 => ("OrderTrees$Tree", "sets", "[I", true)
  | 2 => ("OrderTrees$Tree", "sizes", "[I", true)
  | 3 => ("OrderTrees$Tree", "parts", "[I", true)
  | 4 => ("OrderTrees$Tree", "root", "I", false)
  | 5 => ("OrderTrees$Tree", "nodes", "I", false)
  | 6 => ("OrderTrees$Tree", "line", "[I", true)
  | 7 => ("OrderTrees$Tree", "lineSize", "I", false)
  | 8 => ("OrderTrees$Tree", "held", "[I", true)
  | 9 => ("OrderTrees$Tree", "heldSize", "I", false)
  | 10 => ("OrderTrees$Tree", "split", "[I", true)
  | 11 => ("OrderTrees$Tree", "splitSize", "I", false)
  | 12 => ("OrderTrees$Tree", "starts", "[I", true)
  | 13 => ("OrderTrees$Tree", "lengths", "[I", true)
  | _ => ("OrderTrees$Tree", "chosen", "[I", true)
def ty_T : Nat → FieldType := fun k => match k with
  | 0 => .array .int
  | 1 => .array .int
  | 2 => .array .int
  | 3 => .array .int
  | 4 => .int
  | 5 => .int
  | 6 => .array .int
  | 7 => .int
  | 8 => .array .int
  | 9 => .int
  | 10 => .array .int
  | 11 => .int
  | 12 => .array .int
  | 13 => .array .int
  | _ => .array .int
theorem n_T : ∀ a, a < 15 → ∀ b, b < 15 → a ≠ b → (F_T a).2.1 ≠ (F_T b).2.1 := by decide +kernel
theorem ty_T_ok : ∀ k, k < 15 → parseFieldDescriptor (F_T k).2.2.1 = some (ty_T k) := by decide +kernel
def R_O : String := "OrderTrees"
def F_O : u_T := fun k => match k with
  | 0 => ("OrderTrees", "thingCount", "I", false)
  | 1 => ("OrderTrees", "groups", "[I", true)
  | 2 => ("OrderTrees", "groupCount", "I", false)
  | 3 => ("OrderTrees", "takenBits", "I", false)
  | 4 => ("OrderTrees", "told", "[I", true)
  | 5 => ("OrderTrees", "toldCount", "I", false)
  | 6 => ("OrderTrees", "latestFinding", "I", false)
  | 7 => ("OrderTrees", "sheets", "LOrderTrees$Sheets;", true)
  | 8 => ("OrderTrees", "shown", "LOrderTrees$Tree;", true)
  | 9 => ("OrderTrees", "text", "[I", true)
  | 10 => ("OrderTrees", "textSize", "I", false)
  | 11 => ("OrderTrees", "base", "LOrderTrees$Tree;", true)
  | 12 => ("OrderTrees", "trial", "LOrderTrees$Tree;", true)
  | 13 => ("OrderTrees", "rowThings", "[I", true)
  | _ => ("OrderTrees", "places", "[I", true)
def ty_O : Nat → FieldType := fun k => match k with
  | 0 => .int
  | 1 => .array .int
  | 2 => .int
  | 3 => .int
  | 4 => .array .int
  | 5 => .int
  | 6 => .int
  | 7 => .object "OrderTrees$Sheets"
  | 8 => .object "OrderTrees$Tree"
  | 9 => .array .int
  | 10 => .int
  | 11 => .object "OrderTrees$Tree"
  | 12 => .object "OrderTrees$Tree"
  | 13 => .array .int
  | _ => .array .int
theorem n_O : ∀ a, a < 15 → ∀ b, b < 15 → a ≠ b → (F_O a).2.1 ≠ (F_O b).2.1 := by decide +kernel
theorem ty_O_ok : ∀ k, k < 15 → parseFieldDescriptor (F_O k).2.2.1 = some (ty_O k) := by decide +kernel
def R_M : String := "OrderTreesModel"
def F_M : u_T := fun k => match k with
  | 0 => ("OrderTreesModel", "thingsTold", "I", false)
  | 1 => ("OrderTreesModel", "groups", "I", false)
  | 2 => ("OrderTreesModel", "groupSet", "[I", true)
  | 3 => ("OrderTreesModel", "ways", "[I", true)
  | 4 => ("OrderTreesModel", "go", "[I", true)
  | 5 => ("OrderTreesModel", "ends", "[I", true)
  | 6 => ("OrderTreesModel", "sure", "[I", true)
  | 7 => ("OrderTreesModel", "nodes", "I", false)
  | 8 => ("OrderTreesModel", "nodeSet", "[I", true)
  | 9 => ("OrderTreesModel", "nodeKind", "[I", true)
  | 10 => ("OrderTreesModel", "nodeParts", "[I", true)
  | 11 => ("OrderTreesModel", "partSet", "[I", true)
  | 12 => ("OrderTreesModel", "shownMany", "I", false)
  | 13 => ("OrderTreesModel", "shown", "[I", true)
  | 14 => ("OrderTreesModel", "isNode", "[I", true)
  | 15 => ("OrderTreesModel", "pile", "[I", true)
  | 16 => ("OrderTreesModel", "wayOf", "[I", true)
  | 17 => ("OrderTreesModel", "rowNow", "[I", true)
  | 18 => ("OrderTreesModel", "order", "[I", true)
  | 19 => ("OrderTreesModel", "since", "[I", true)
  | 20 => ("OrderTreesModel", "nearest", "I", false)
  | 21 => ("OrderTreesModel", "farthest", "I", false)
  | 22 => ("OrderTreesModel", "typed", "I", false)
  | 23 => ("OrderTreesModel", "text", "[I", true)
  | 24 => ("OrderTreesModel", "isThere", "[Z", true)
  | 25 => ("OrderTreesModel", "forms", "[I", true)
  | 26 => ("OrderTreesModel", "sizes", "[I", true)
  | 27 => ("OrderTreesModel", "items", "[I", true)
  | 28 => ("OrderTreesModel", "moved", "[I", true)
  | _ => ("OrderTreesModel", "finding", "I", false)
def ty_M : Nat → FieldType := fun k => match k with
  | 0 => .int
  | 1 => .int
  | 2 => .array .int
  | 3 => .array .int
  | 4 => .array .int
  | 5 => .array .int
  | 6 => .array .int
  | 7 => .int
  | 8 => .array .int
  | 9 => .array .int
  | 10 => .array .int
  | 11 => .array .int
  | 12 => .int
  | 13 => .array .int
  | 14 => .array .int
  | 15 => .array .int
  | 16 => .array .int
  | 17 => .array .int
  | 18 => .array .int
  | 19 => .array .int
  | 20 => .int
  | 21 => .int
  | 22 => .int
  | 23 => .array .int
  | 24 => .array .boolean
  | 25 => .array .int
  | 26 => .array .int
  | 27 => .array .int
  | 28 => .array .int
  | _ => .int
theorem n_M : ∀ a, a < 30 → ∀ b, b < 30 → a ≠ b → (F_M a).2.1 ≠ (F_M b).2.1 := by decide +kernel
theorem ty_M_ok : ∀ k, k < 30 → parseFieldDescriptor (F_M k).2.2.1 = some (ty_M k) := by decide +kernel
def R_J : String := "java/lang/Integer"
abbrev b_S_init : ByteArray := prog_2_method_1_code
def y_S_init : MethodName := ⟨R_S, "<init>", "()V"⟩
abbrev b_S_isLost : ByteArray := prog_2_method_2_code
def y_S_isLost : MethodName := ⟨R_S, "isLost", "(I)Z"⟩
abbrev b_S_formOf : ByteArray := prog_2_method_3_code
def y_S_formOf : MethodName := ⟨R_S, "formOf", "(I)I"⟩
abbrev b_S_sizeOf : ByteArray := prog_2_method_4_code
def y_S_sizeOf : MethodName := ⟨R_S, "sizeOf", "(I)I"⟩
abbrev b_S_lay : ByteArray := prog_2_method_5_code
def y_S_lay : MethodName := ⟨R_S, "lay", "(III)V"⟩
abbrev b_S_drop : ByteArray := prog_2_method_6_code
def y_S_drop : MethodName := ⟨R_S, "drop", "(I)V"⟩
abbrev b_S_hasItems : ByteArray := prog_2_method_7_code
def y_S_hasItems : MethodName := ⟨R_S, "hasItems", "(III)Z"⟩
abbrev b_S_item : ByteArray := prog_2_method_8_code
def y_S_item : MethodName := ⟨R_S, "item", "(II)I"⟩
abbrev b_S_setItem : ByteArray := prog_2_method_9_code
def y_S_setItem : MethodName := ⟨R_S, "setItem", "(III)V"⟩
abbrev b_S_move : ByteArray := prog_2_method_10_code
def y_S_move : MethodName := ⟨R_S, "move", "(IIIII)V"⟩
abbrev b_T_init : ByteArray := prog_3_method_1_code
def y_T_init : MethodName := ⟨R_T, "<init>", "()V"⟩
abbrev b_T_plant : ByteArray := prog_3_method_2_code
def y_T_plant : MethodName := ⟨R_T, "plant", "(I)V"⟩
abbrev b_T_draw : ByteArray := prog_3_method_3_code
def y_T_draw : MethodName := ⟨R_T, "draw", "(LOrderTrees$Tree;)V"⟩
abbrev b_T_place : ByteArray := prog_3_method_4_code
def y_T_place : MethodName := ⟨R_T, "place", "(LOrderTrees$Tree;ILOrderTrees$Tree;I)I"⟩
abbrev b_T_order : ByteArray := prog_3_method_5_code
def y_T_order : MethodName := ⟨R_T, "order", "(I)V"⟩
abbrev b_T_reduce : ByteArray := prog_3_method_6_code
def y_T_reduce : MethodName := ⟨R_T, "reduce", "(I)Z"⟩
abbrev b_T_lowestWith : ByteArray := prog_3_method_7_code
def y_T_lowestWith : MethodName := ⟨R_T, "lowestWith", "(I)I"⟩
abbrev b_T_reduceFree : ByteArray := prog_3_method_8_code
def y_T_reduceFree : MethodName := ⟨R_T, "reduceFree", "(II)Z"⟩
abbrev b_T_reduceTurning : ByteArray := prog_3_method_9_code
def y_T_reduceTurning : MethodName := ⟨R_T, "reduceTurning", "(II)Z"⟩
abbrev b_T_splitToLine : ByteArray := prog_3_method_10_code
def y_T_splitToLine : MethodName := ⟨R_T, "splitToLine", "(IIZ)Z"⟩
abbrev b_T_splitTurning : ByteArray := prog_3_method_11_code
def y_T_splitTurning : MethodName := ⟨R_T, "splitTurning", "(II)Z"⟩
abbrev b_T_bundle : ByteArray := prog_3_method_12_code
def y_T_bundle : MethodName := ⟨R_T, "bundle", "(III)I"⟩
abbrev b_T_keepEmpty : ByteArray := prog_3_method_13_code
def y_T_keepEmpty : MethodName := ⟨R_T, "keepEmpty", "(II)V"⟩
abbrev b_T_fillFromLine : ByteArray := prog_3_method_14_code
def y_T_fillFromLine : MethodName := ⟨R_T, "fillFromLine", "(I)V"⟩
abbrev b_T_markSplit : ByteArray := prog_3_method_15_code
def y_T_markSplit : MethodName := ⟨R_T, "markSplit", "(I)V"⟩
abbrev b_T_giveBackSplit : ByteArray := prog_3_method_16_code
def y_T_giveBackSplit : MethodName := ⟨R_T, "giveBackSplit", "()V"⟩
abbrev b_T_partIn : ByteArray := prog_3_method_17_code
def y_T_partIn : MethodName := ⟨R_T, "partIn", "(IIII)I"⟩
abbrev b_T_stateOf : ByteArray := prog_3_method_18_code
def y_T_stateOf : MethodName := ⟨R_T, "stateOf", "(II)I"⟩
abbrev b_T_nodeCount : ByteArray := prog_3_method_19_code
def y_T_nodeCount : MethodName := ⟨R_T, "nodeCount", "()I"⟩
abbrev b_T_isTurning : ByteArray := prog_3_method_20_code
def y_T_isTurning : MethodName := ⟨R_T, "isTurning", "(I)Z"⟩
abbrev b_T_partCount : ByteArray := prog_3_method_21_code
def y_T_partCount : MethodName := ⟨R_T, "partCount", "(I)I"⟩
abbrev b_T_thingsOf : ByteArray := prog_3_method_22_code
def y_T_thingsOf : MethodName := ⟨R_T, "thingsOf", "(I)I"⟩
abbrev b_T_turningCount : ByteArray := prog_3_method_23_code
def y_T_turningCount : MethodName := ⟨R_T, "turningCount", "()I"⟩
abbrev b_T_rowCount : ByteArray := prog_3_method_24_code
def y_T_rowCount : MethodName := ⟨R_T, "rowCount", "()J"⟩
abbrev b_T_show : ByteArray := prog_3_method_25_code
def y_T_show : MethodName := ⟨R_T, "show", "([I)I"⟩
abbrev b_T_layRow : ByteArray := prog_3_method_26_code
def y_T_layRow : MethodName := ⟨R_T, "layRow", "(I[I)V"⟩
abbrev b_T_layParts : ByteArray := prog_3_method_27_code
def y_T_layParts : MethodName := ⟨R_T, "layParts", "(II)V"⟩
abbrev b_T_nthBit : ByteArray := prog_3_method_28_code
def y_T_nthBit : MethodName := ⟨R_T, "nthBit", "(II)I"⟩
abbrev b_T_numberOf : ByteArray := prog_3_method_29_code
def y_T_numberOf : MethodName := ⟨R_T, "numberOf", "([I)I"⟩
abbrev b_T_wayOf : ByteArray := prog_3_method_30_code
def y_T_wayOf : MethodName := ⟨R_T, "wayOf", "(I[I)I"⟩
abbrev b_T_between : ByteArray := prog_3_method_31_code
def y_T_between : MethodName := ⟨R_T, "between", "(IIZ)I"⟩
abbrev b_T_besideIn : ByteArray := prog_3_method_32_code
def y_T_besideIn : MethodName := ⟨R_T, "besideIn", "(IIZ)I"⟩
abbrev b_T_betweenIn : ByteArray := prog_3_method_33_code
def y_T_betweenIn : MethodName := ⟨R_T, "betweenIn", "(IIIZ)I"⟩
abbrev b_T_clear : ByteArray := prog_3_method_34_code
def y_T_clear : MethodName := ⟨R_T, "clear", "()V"⟩
abbrev b_T_unusedNode : ByteArray := prog_3_method_35_code
def y_T_unusedNode : MethodName := ⟨R_T, "unusedNode", "()I"⟩
abbrev b_T_part : ByteArray := prog_3_method_36_code
def y_T_part : MethodName := ⟨R_T, "part", "(II)I"⟩
abbrev b_T_setPart : ByteArray := prog_3_method_37_code
def y_T_setPart : MethodName := ⟨R_T, "setPart", "(III)V"⟩
abbrev b_T_add : ByteArray := prog_3_method_38_code
def y_T_add : MethodName := ⟨R_T, "add", "(II)V"⟩
abbrev b_T_append : ByteArray := prog_3_method_39_code
def y_T_append : MethodName := ⟨R_T, "append", "(I)V"⟩
abbrev b_T_hold : ByteArray := prog_3_method_40_code
def y_T_hold : MethodName := ⟨R_T, "hold", "(I)V"⟩
abbrev b_T_ways : ByteArray := prog_3_method_41_code
def y_T_ways : MethodName := ⟨R_T, "ways", "(I)I"⟩
abbrev b_T_least : ByteArray := prog_3_method_42_code
def y_T_least : MethodName := ⟨R_T, "least", "(I)I"⟩
abbrev b_T_leastThing : ByteArray := prog_3_method_43_code
def y_T_leastThing : MethodName := ⟨R_T, "leastThing", "(I)I"⟩
abbrev b_T_setAt : ByteArray := prog_3_method_44_code
def y_T_setAt : MethodName := ⟨R_T, "setAt", "([III)V"⟩
abbrev b_T_turn : ByteArray := prog_3_method_45_code
def y_T_turn : MethodName := ⟨R_T, "turn", "([III)V"⟩
abbrev b_O_init : ByteArray := prog_1_method_1_code
def y_O_init : MethodName := ⟨R_O, "<init>", "()V"⟩
abbrev b_O_things : ByteArray := prog_1_method_2_code
def y_O_things : MethodName := ⟨R_O, "things", "(I)I"⟩
abbrev b_O_group : ByteArray := prog_1_method_3_code
def y_O_group : MethodName := ⟨R_O, "group", "(I)I"⟩
abbrev b_O_back : ByteArray := prog_1_method_4_code
def y_O_back : MethodName := ⟨R_O, "back", "()I"⟩
abbrev b_O_taken : ByteArray := prog_1_method_5_code
def y_O_taken : MethodName := ⟨R_O, "taken", "(I)I"⟩
abbrev b_O_reason : ByteArray := prog_1_method_6_code
def y_O_reason : MethodName := ⟨R_O, "reason", "(I)I"⟩
abbrev b_O_read : ByteArray := prog_1_method_7_code
def y_O_read : MethodName := ⟨R_O, "read", "(I)I"⟩
abbrev b_O_many : ByteArray := prog_1_method_8_code
def y_O_many : MethodName := ⟨R_O, "many", "()J"⟩
abbrev b_O_tree : ByteArray := prog_1_method_9_code
def y_O_tree : MethodName := ⟨R_O, "tree", "(I)I"⟩
abbrev b_O_node : ByteArray := prog_1_method_10_code
def y_O_node : MethodName := ⟨R_O, "node", "(II)I"⟩
abbrev b_O_row : ByteArray := prog_1_method_11_code
def y_O_row : MethodName := ⟨R_O, "row", "(II)I"⟩
abbrev b_O_may : ByteArray := prog_1_method_12_code
def y_O_may : MethodName := ⟨R_O, "may", "(I)I"⟩
abbrev b_O_must : ByteArray := prog_1_method_13_code
def y_O_must : MethodName := ⟨R_O, "must", "(I)I"⟩
abbrev b_O_apart : ByteArray := prog_1_method_14_code
def y_O_apart : MethodName := ⟨R_O, "apart", "(III)I"⟩
abbrev b_O_spare : ByteArray := prog_1_method_15_code
def y_O_spare : MethodName := ⟨R_O, "spare", "()I"⟩
abbrev b_O_type : ByteArray := prog_1_method_16_code
def y_O_type : MethodName := ⟨R_O, "type", "(I)I"⟩
abbrev b_O_wipe : ByteArray := prog_1_method_17_code
def y_O_wipe : MethodName := ⟨R_O, "wipe", "()I"⟩
abbrev b_O_undo : ByteArray := prog_1_method_18_code
def y_O_undo : MethodName := ⟨R_O, "undo", "()I"⟩
abbrev b_O_fault : ByteArray := prog_1_method_19_code
def y_O_fault : MethodName := ⟨R_O, "fault", "()I"⟩
abbrev b_O_misses : ByteArray := prog_1_method_20_code
def y_O_misses : MethodName := ⟨R_O, "misses", "()I"⟩
abbrev b_O_number : ByteArray := prog_1_method_21_code
def y_O_number : MethodName := ⟨R_O, "number", "()I"⟩
abbrev b_O_sheet : ByteArray := prog_1_method_22_code
def y_O_sheet : MethodName := ⟨R_O, "sheet", "(III)I"⟩
abbrev b_O_lose : ByteArray := prog_1_method_23_code
def y_O_lose : MethodName := ⟨R_O, "lose", "(I)I"⟩
abbrev b_O_put : ByteArray := prog_1_method_24_code
def y_O_put : MethodName := ⟨R_O, "put", "(IIII)I"⟩
abbrev b_O_get : ByteArray := prog_1_method_25_code
def y_O_get : MethodName := ⟨R_O, "get", "(III)I"⟩
abbrev b_O_copy : ByteArray := prog_1_method_26_code
def y_O_copy : MethodName := ⟨R_O, "copy", "(IIIII)I"⟩
abbrev b_O_write : ByteArray := prog_1_method_27_code
def y_O_write : MethodName := ⟨R_O, "write", "(II)I"⟩
abbrev b_O_count : ByteArray := prog_1_method_28_code
def y_O_count : MethodName := ⟨R_O, "count", "(I)I"⟩
abbrev b_O_digest : ByteArray := prog_1_method_29_code
def y_O_digest : MethodName := ⟨R_O, "digest", "()J"⟩
abbrev b_O_drawAll : ByteArray := prog_1_method_30_code
def y_O_drawAll : MethodName := ⟨R_O, "drawAll", "()V"⟩
abbrev b_O_takeGroup : ByteArray := prog_1_method_31_code
def y_O_takeGroup : MethodName := ⟨R_O, "takeGroup", "(I)V"⟩
abbrev b_O_findPlaces : ByteArray := prog_1_method_32_code
def y_O_findPlaces : MethodName := ⟨R_O, "findPlaces", "()V"⟩
abbrev b_O_isSideBySide : ByteArray := prog_1_method_33_code
def y_O_isSideBySide : MethodName := ⟨R_O, "isSideBySide", "(I)Z"⟩
abbrev b_O_findingOf : ByteArray := prog_1_method_34_code
def y_O_findingOf : MethodName := ⟨R_O, "findingOf", "(III)I"⟩
abbrev b_O_found : ByteArray := prog_1_method_35_code
def y_O_found : MethodName := ⟨R_O, "found", "(I)I"⟩
abbrev b_O_isTaken : ByteArray := prog_1_method_36_code
def y_O_isTaken : MethodName := ⟨R_O, "isTaken", "(I)Z"⟩
abbrev b_O_isGroup : ByteArray := prog_1_method_37_code
def y_O_isGroup : MethodName := ⟨R_O, "isGroup", "(I)Z"⟩
abbrev b_O_isThing : ByteArray := prog_1_method_38_code
def y_O_isThing : MethodName := ⟨R_O, "isThing", "(I)Z"⟩
abbrev b_O_isSetOfThings : ByteArray := prog_1_method_39_code
def y_O_isSetOfThings : MethodName := ⟨R_O, "isSetOfThings", "(I)Z"⟩
abbrev b_O_isSet : ByteArray := prog_1_method_40_code
def y_O_isSet : MethodName := ⟨R_O, "isSet", "(I)Z"⟩
abbrev b_O_isRowNumber : ByteArray := prog_1_method_41_code
def y_O_isRowNumber : MethodName := ⟨R_O, "isRowNumber", "(I)Z"⟩
abbrev b_O_isSheet : ByteArray := prog_1_method_42_code
def y_O_isSheet : MethodName := ⟨R_O, "isSheet", "(I)Z"⟩
abbrev b_O_isForm : ByteArray := prog_1_method_43_code
def y_O_isForm : MethodName := ⟨R_O, "isForm", "(I)Z"⟩
abbrev b_O_factorial : ByteArray := prog_1_method_44_code
def y_O_factorial : MethodName := ⟨R_O, "factorial", "(I)I"⟩
abbrev b_M_init : ByteArray := prog_5_method_1_code
def y_M_init : MethodName := ⟨R_M, "<init>", "()V"⟩
abbrev b_M_in : ByteArray := prog_5_method_3_code
def y_M_in : MethodName := ⟨R_M, "in", "(III)Z"⟩
abbrev b_M_isIn : ByteArray := prog_5_method_4_code
def y_M_isIn : MethodName := ⟨R_M, "isIn", "(II)Z"⟩
abbrev b_M_many : ByteArray := prog_5_method_5_code
def y_M_many : MethodName := ⟨R_M, "many", "(I)I"⟩
abbrev b_M_least : ByteArray := prog_5_method_6_code
def y_M_least : MethodName := ⟨R_M, "least", "(I)I"⟩
abbrev b_M_all : ByteArray := prog_5_method_7_code
def y_M_all : MethodName := ⟨R_M, "all", "()I"⟩
abbrev b_M_things : ByteArray := prog_5_method_8_code
def y_M_things : MethodName := ⟨R_M, "things", "(I)I"⟩
abbrev b_M_adds : ByteArray := prog_5_method_9_code
def y_M_adds : MethodName := ⟨R_M, "adds", "(I)I"⟩
abbrev b_M_group : ByteArray := prog_5_method_10_code
def y_M_group : MethodName := ⟨R_M, "group", "(I)I"⟩
abbrev b_M_back : ByteArray := prog_5_method_11_code
def y_M_back : MethodName := ⟨R_M, "back", "()I"⟩
abbrev b_M_read : ByteArray := prog_5_method_12_code
def y_M_read : MethodName := ⟨R_M, "read", "(I)I"⟩
abbrev b_M_nexts : ByteArray := prog_5_method_13_code
def y_M_nexts : MethodName := ⟨R_M, "nexts", "(III)I"⟩
abbrev b_M_rowsBy : ByteArray := prog_5_method_14_code
def y_M_rowsBy : MethodName := ⟨R_M, "rowsBy", "(II)I"⟩
abbrev b_M_takenNow : ByteArray := prog_5_method_15_code
def y_M_takenNow : MethodName := ⟨R_M, "takenNow", "()I"⟩
abbrev b_M_isGroup : ByteArray := prog_5_method_16_code
def y_M_isGroup : MethodName := ⟨R_M, "isGroup", "(I)Z"⟩
abbrev b_M_taken : ByteArray := prog_5_method_17_code
def y_M_taken : MethodName := ⟨R_M, "taken", "(I)I"⟩
abbrev b_M_reasonOf : ByteArray := prog_5_method_18_code
def y_M_reasonOf : MethodName := ⟨R_M, "reasonOf", "(I)I"⟩
abbrev b_M_reason : ByteArray := prog_5_method_19_code
def y_M_reason : MethodName := ⟨R_M, "reason", "(I)I"⟩
abbrev b_M_manyNow : ByteArray := prog_5_method_20_code
def y_M_manyNow : MethodName := ⟨R_M, "manyNow", "()I"⟩
abbrev b_M_many_ : ByteArray := prog_5_method_21_code
def y_M_many_ : MethodName := ⟨R_M, "many", "()J"⟩
abbrev b_M_findsGo : ByteArray := prog_5_method_22_code
def y_M_findsGo : MethodName := ⟨R_M, "findsGo", "()V"⟩
abbrev b_M_isSure : ByteArray := prog_5_method_23_code
def y_M_isSure : MethodName := ⟨R_M, "isSure", "(I)Z"⟩
abbrev b_M_areCrossing : ByteArray := prog_5_method_24_code
def y_M_areCrossing : MethodName := ⟨R_M, "areCrossing", "(II)Z"⟩
abbrev b_M_findsStrong : ByteArray := prog_5_method_25_code
def y_M_findsStrong : MethodName := ⟨R_M, "findsStrong", "()V"⟩
abbrev b_M_partWith : ByteArray := prog_5_method_26_code
def y_M_partWith : MethodName := ⟨R_M, "partWith", "(II)I"⟩
abbrev b_M_findsParts : ByteArray := prog_5_method_27_code
def y_M_findsParts : MethodName := ⟨R_M, "findsParts", "(I)V"⟩
abbrev b_M_areBeside : ByteArray := prog_5_method_28_code
def y_M_areBeside : MethodName := ⟨R_M, "areBeside", "(II)Z"⟩
abbrev b_M_turnsRight : ByteArray := prog_5_method_29_code
def y_M_turnsRight : MethodName := ⟨R_M, "turnsRight", "(I)V"⟩
abbrev b_M_swaps : ByteArray := prog_5_method_30_code
def y_M_swaps : MethodName := ⟨R_M, "swaps", "(II)V"⟩
abbrev b_M_nodeOf : ByteArray := prog_5_method_31_code
def y_M_nodeOf : MethodName := ⟨R_M, "nodeOf", "(I)I"⟩
abbrev b_M_shows : ByteArray := prog_5_method_32_code
def y_M_shows : MethodName := ⟨R_M, "shows", "(I)V"⟩
abbrev b_M_findsTree : ByteArray := prog_5_method_33_code
def y_M_findsTree : MethodName := ⟨R_M, "findsTree", "()V"⟩
abbrev b_M_treeOf : ByteArray := prog_5_method_34_code
def y_M_treeOf : MethodName := ⟨R_M, "treeOf", "(I)I"⟩
abbrev b_M_tree : ByteArray := prog_5_method_35_code
def y_M_tree : MethodName := ⟨R_M, "tree", "(I)I"⟩
abbrev b_M_nodeFor : ByteArray := prog_5_method_36_code
def y_M_nodeFor : MethodName := ⟨R_M, "nodeFor", "(II)I"⟩
abbrev b_M_node : ByteArray := prog_5_method_37_code
def y_M_node : MethodName := ⟨R_M, "node", "(II)I"⟩
abbrev b_M_factorial : ByteArray := prog_5_method_38_code
def y_M_factorial : MethodName := ⟨R_M, "factorial", "(I)I"⟩
abbrev b_M_waysAt : ByteArray := prog_5_method_39_code
def y_M_waysAt : MethodName := ⟨R_M, "waysAt", "(I)I"⟩
abbrev b_M_orders : ByteArray := prog_5_method_40_code
def y_M_orders : MethodName := ⟨R_M, "orders", "(I)V"⟩
abbrev b_M_findsRow : ByteArray := prog_5_method_41_code
def y_M_findsRow : MethodName := ⟨R_M, "findsRow", "(I)V"⟩
abbrev b_M_rowOf : ByteArray := prog_5_method_42_code
def y_M_rowOf : MethodName := ⟨R_M, "rowOf", "(II)I"⟩
abbrev b_M_row : ByteArray := prog_5_method_43_code
def y_M_row : MethodName := ⟨R_M, "row", "(II)I"⟩
abbrev b_M_isSet : ByteArray := prog_5_method_44_code
def y_M_isSet : MethodName := ⟨R_M, "isSet", "(I)Z"⟩
abbrev b_M_may : ByteArray := prog_5_method_45_code
def y_M_may : MethodName := ⟨R_M, "may", "(I)I"⟩
abbrev b_M_mustOf : ByteArray := prog_5_method_46_code
def y_M_mustOf : MethodName := ⟨R_M, "mustOf", "(I)I"⟩
abbrev b_M_must : ByteArray := prog_5_method_47_code
def y_M_must : MethodName := ⟨R_M, "must", "(I)I"⟩
abbrev b_M_spansFrom : ByteArray := prog_5_method_48_code
def y_M_spansFrom : MethodName := ⟨R_M, "spansFrom", "(II)V"⟩
abbrev b_M_apartOf : ByteArray := prog_5_method_49_code
def y_M_apartOf : MethodName := ⟨R_M, "apartOf", "(III)I"⟩
abbrev b_M_isThing : ByteArray := prog_5_method_50_code
def y_M_isThing : MethodName := ⟨R_M, "isThing", "(I)Z"⟩
abbrev b_M_apart : ByteArray := prog_5_method_51_code
def y_M_apart : MethodName := ⟨R_M, "apart", "(III)I"⟩
abbrev b_M_spareOf : ByteArray := prog_5_method_52_code
def y_M_spareOf : MethodName := ⟨R_M, "spareOf", "()I"⟩
abbrev b_M_spare : ByteArray := prog_5_method_53_code
def y_M_spare : MethodName := ⟨R_M, "spare", "()I"⟩
abbrev b_M_type : ByteArray := prog_5_method_54_code
def y_M_type : MethodName := ⟨R_M, "type", "(I)I"⟩
abbrev b_M_wipe : ByteArray := prog_5_method_55_code
def y_M_wipe : MethodName := ⟨R_M, "wipe", "()I"⟩
abbrev b_M_undo : ByteArray := prog_5_method_56_code
def y_M_undo : MethodName := ⟨R_M, "undo", "()I"⟩
abbrev b_M_faultOf : ByteArray := prog_5_method_57_code
def y_M_faultOf : MethodName := ⟨R_M, "faultOf", "()I"⟩
abbrev b_M_fault : ByteArray := prog_5_method_58_code
def y_M_fault : MethodName := ⟨R_M, "fault", "()I"⟩
abbrev b_M_isRow : ByteArray := prog_5_method_59_code
def y_M_isRow : MethodName := ⟨R_M, "isRow", "()Z"⟩
abbrev b_M_isHad : ByteArray := prog_5_method_60_code
def y_M_isHad : MethodName := ⟨R_M, "isHad", "(I)Z"⟩
abbrev b_M_missesOf : ByteArray := prog_5_method_61_code
def y_M_missesOf : MethodName := ⟨R_M, "missesOf", "()I"⟩
abbrev b_M_misses : ByteArray := prog_5_method_62_code
def y_M_misses : MethodName := ⟨R_M, "misses", "()I"⟩
abbrev b_M_placeOf : ByteArray := prog_5_method_63_code
def y_M_placeOf : MethodName := ⟨R_M, "placeOf", "(I)I"⟩
abbrev b_M_wayTold : ByteArray := prog_5_method_64_code
def y_M_wayTold : MethodName := ⟨R_M, "wayTold", "(I)I"⟩
abbrev b_M_numberOf : ByteArray := prog_5_method_65_code
def y_M_numberOf : MethodName := ⟨R_M, "numberOf", "()I"⟩
abbrev b_M_number : ByteArray := prog_5_method_66_code
def y_M_number : MethodName := ⟨R_M, "number", "()I"⟩
abbrev b_M_meets : ByteArray := prog_5_method_67_code
def y_M_meets : MethodName := ⟨R_M, "meets", "(I)I"⟩
abbrev b_M_isSheet : ByteArray := prog_5_method_68_code
def y_M_isSheet : MethodName := ⟨R_M, "isSheet", "(I)Z"⟩
abbrev b_M_sheet : ByteArray := prog_5_method_69_code
def y_M_sheet : MethodName := ⟨R_M, "sheet", "(III)I"⟩
abbrev b_M_lose : ByteArray := prog_5_method_70_code
def y_M_lose : MethodName := ⟨R_M, "lose", "(I)I"⟩
abbrev b_M_lacks : ByteArray := prog_5_method_71_code
def y_M_lacks : MethodName := ⟨R_M, "lacks", "(III)I"⟩
abbrev b_M_keep : ByteArray := prog_5_method_72_code
def y_M_keep : MethodName := ⟨R_M, "keep", "(III)V"⟩
abbrev b_M_put : ByteArray := prog_5_method_73_code
def y_M_put : MethodName := ⟨R_M, "put", "(IIII)I"⟩
abbrev b_M_get : ByteArray := prog_5_method_74_code
def y_M_get : MethodName := ⟨R_M, "get", "(III)I"⟩
abbrev b_M_copy : ByteArray := prog_5_method_75_code
def y_M_copy : MethodName := ⟨R_M, "copy", "(IIIII)I"⟩
abbrev b_M_write : ByteArray := prog_5_method_76_code
def y_M_write : MethodName := ⟨R_M, "write", "(II)I"⟩
abbrev b_M_takenMany : ByteArray := prog_5_method_77_code
def y_M_takenMany : MethodName := ⟨R_M, "takenMany", "()I"⟩
abbrev b_M_nodesOf : ByteArray := prog_5_method_78_code
def y_M_nodesOf : MethodName := ⟨R_M, "nodesOf", "(Z)I"⟩
abbrev b_M_count : ByteArray := prog_5_method_79_code
def y_M_count : MethodName := ⟨R_M, "count", "(I)I"⟩
abbrev b_M_rowDigest : ByteArray := prog_5_method_80_code
def y_M_rowDigest : MethodName := ⟨R_M, "rowDigest", "(JI)J"⟩
abbrev b_M_setDigest : ByteArray := prog_5_method_81_code
def y_M_setDigest : MethodName := ⟨R_M, "setDigest", "(JI)J"⟩
abbrev b_M_digest : ByteArray := prog_5_method_82_code
def y_M_digest : MethodName := ⟨R_M, "digest", "()J"⟩
abbrev b_J_bitCount : ByteArray := prog_6_method_49_code
def y_J_bitCount : MethodName := ⟨R_J, "bitCount", "(I)I"⟩
def Tg : List Cond := lw_tbl.filter goodWord
theorem tg_t {z : Cond} (i : Nat) (h : tables_1[i]? = some z) (g : goodWord z = true) : z ∈ Tg := List.mem_filter.mpr ⟨List.mem_append_right _ (List.mem_of_getElem? h), g⟩
theorem tg_s {z : Cond} (i : Nat) (h : (k2_sels lw_privs)[i]? = some z) (g : goodWord z = true) : z ∈ Tg := List.mem_filter.mpr ⟨List.mem_append_left _ (List.mem_of_getElem? h), g⟩
theorem q_0 : Cond.initialized "OrderTreesLaw" ∈ Tg := tg_t 0 (by decide +kernel) (by decide +kernel)
theorem q_1 : Cond.initialized R_O ∈ Tg := tg_t 1 (by decide +kernel) (by decide +kernel)
theorem q_2 : Cond.initialized R_S ∈ Tg := tg_t 2 (by decide +kernel) (by decide +kernel)
theorem q_3 : Cond.initialized R_T ∈ Tg := tg_t 3 (by decide +kernel) (by decide +kernel)
theorem q_4 : Cond.initialized R_J ∈ Tg := tg_t 4 (by decide +kernel) (by decide +kernel)
theorem q_5 : Cond.initialized R_M ∈ Tg := tg_t 5 (by decide +kernel) (by decide +kernel)
theorem q_6 : Cond.initialized "java/lang/Math" ∈ Tg := tg_t 6 (by decide +kernel) (by decide +kernel)
theorem q_7 : Cond.initialized "java/lang/System" ∈ Tg := tg_t 7 (by decide +kernel) (by decide +kernel)
theorem q_8 : Cond.classLink "OrderTreesLaw" 7 R_O ∈ Tg := tg_t 8 (by decide +kernel) (by decide +kernel)
theorem q_9 : Cond.instantiable R_O 15 ∈ Tg := tg_t 9 (by decide +kernel) (by decide +kernel)
theorem q_10 : Cond.methodLink "OrderTreesLaw" 9 y_O_init ∈ Tg := tg_t 10 (by decide +kernel) (by decide +kernel)
theorem q_11 : Cond.instanceMethod y_O_init ∈ Tg := tg_t 11 (by decide +kernel) (by decide +kernel)
theorem q_12 : Cond.code y_O_init b_O_init 1 none ∈ Tg := tg_t 12 (by decide +kernel) (by decide +kernel)
theorem q_13 : Cond.methodLink R_O 1 objectInit ∈ Tg := tg_t 13 (by decide +kernel) (by decide +kernel)
theorem q_14 : Cond.instanceMethod objectInit ∈ Tg := tg_t 14 (by decide +kernel) (by decide +kernel)
theorem q_15 : Cond.classLink R_O 32 R_S ∈ Tg := tg_t 16 (by decide +kernel) (by decide +kernel)
theorem q_16 : Cond.instantiable R_S 3 ∈ Tg := tg_t 17 (by decide +kernel) (by decide +kernel)
theorem q_17 : Cond.instanceMethod y_S_init ∈ Tg := tg_t 19 (by decide +kernel) (by decide +kernel)
theorem q_18 : Cond.code y_S_init b_S_init 1 none ∈ Tg := tg_t 20 (by decide +kernel) (by decide +kernel)
theorem q_19 : Cond.methodLink R_S 1 objectInit ∈ Tg := tg_t 21 (by decide +kernel) (by decide +kernel)
theorem q_20 : Cond.fieldLink R_S 9 "OrderTrees$Sheets" "forms" "[I" ∈ Tg := tg_t 22 (by decide +kernel) (by decide +kernel)
theorem q_21 : Cond.fieldLink R_S 13 "OrderTrees$Sheets" "sizes" "[I" ∈ Tg := tg_t 23 (by decide +kernel) (by decide +kernel)
theorem q_22 : Cond.fieldLink R_S 16 "OrderTrees$Sheets" "items" "[I" ∈ Tg := tg_t 24 (by decide +kernel) (by decide +kernel)
theorem q_23 : Cond.arrayClass .int ∈ Tg := tg_t 32 (by decide +kernel) (by decide +kernel)
theorem q_24 : Cond.classLink R_O 39 R_T ∈ Tg := tg_t 33 (by decide +kernel) (by decide +kernel)
theorem q_25 : Cond.instantiable R_T 15 ∈ Tg := tg_t 34 (by decide +kernel) (by decide +kernel)
theorem q_26 : Cond.methodLink R_O 41 y_T_init ∈ Tg := tg_t 35 (by decide +kernel) (by decide +kernel)
theorem q_27 : Cond.instanceMethod y_T_init ∈ Tg := tg_t 36 (by decide +kernel) (by decide +kernel)
theorem q_28 : Cond.code y_T_init b_T_init 2 none ∈ Tg := tg_t 37 (by decide +kernel) (by decide +kernel)
theorem q_29 : Cond.methodLink R_T 5 objectInit ∈ Tg := tg_t 38 (by decide +kernel) (by decide +kernel)
theorem q_30 : Cond.fieldLink R_T 11 "OrderTrees$Tree" "kinds" "[I" ∈ Tg := tg_t 39 (by decide +kernel) (by decide +kernel)
theorem q_31 : Cond.fieldLink R_T 15 "OrderTrees$Tree" "sets" "[I" ∈ Tg := tg_t 40 (by decide +kernel) (by decide +kernel)
theorem q_32 : Cond.fieldLink R_T 18 "OrderTrees$Tree" "sizes" "[I" ∈ Tg := tg_t 41 (by decide +kernel) (by decide +kernel)
theorem q_33 : Cond.fieldLink R_T 21 "OrderTrees$Tree" "parts" "[I" ∈ Tg := tg_t 42 (by decide +kernel) (by decide +kernel)
theorem q_34 : Cond.fieldLink R_T 24 "OrderTrees$Tree" "root" "I" ∈ Tg := tg_t 43 (by decide +kernel) (by decide +kernel)
theorem q_35 : Cond.fieldLink R_T 28 "OrderTrees$Tree" "nodes" "I" ∈ Tg := tg_t 44 (by decide +kernel) (by decide +kernel)
theorem q_36 : Cond.fieldLink R_T 31 "OrderTrees$Tree" "line" "[I" ∈ Tg := tg_t 45 (by decide +kernel) (by decide +kernel)
theorem q_37 : Cond.fieldLink R_T 34 "OrderTrees$Tree" "lineSize" "I" ∈ Tg := tg_t 46 (by decide +kernel) (by decide +kernel)
theorem q_38 : Cond.fieldLink R_T 37 "OrderTrees$Tree" "held" "[I" ∈ Tg := tg_t 47 (by decide +kernel) (by decide +kernel)
theorem q_39 : Cond.fieldLink R_T 40 "OrderTrees$Tree" "heldSize" "I" ∈ Tg := tg_t 48 (by decide +kernel) (by decide +kernel)
theorem q_40 : Cond.fieldLink R_T 43 "OrderTrees$Tree" "split" "[I" ∈ Tg := tg_t 49 (by decide +kernel) (by decide +kernel)
theorem q_41 : Cond.fieldLink R_T 46 "OrderTrees$Tree" "splitSize" "I" ∈ Tg := tg_t 50 (by decide +kernel) (by decide +kernel)
theorem q_42 : Cond.fieldLink R_T 49 "OrderTrees$Tree" "starts" "[I" ∈ Tg := tg_t 51 (by decide +kernel) (by decide +kernel)
theorem q_43 : Cond.fieldLink R_T 52 "OrderTrees$Tree" "lengths" "[I" ∈ Tg := tg_t 52 (by decide +kernel) (by decide +kernel)
theorem q_44 : Cond.fieldLink R_T 55 "OrderTrees$Tree" "chosen" "[I" ∈ Tg := tg_t 53 (by decide +kernel) (by decide +kernel)
theorem q_45 : Cond.methodLink R_O 64 y_O_drawAll ∈ Tg := tg_t 85 (by decide +kernel) (by decide +kernel)
theorem q_46 : Cond.instanceMethod y_O_drawAll ∈ Tg := tg_t 87 (by decide +kernel) (by decide +kernel)
theorem q_47 : Cond.code y_O_drawAll b_O_drawAll 2 none ∈ Tg := tg_t 88 (by decide +kernel) (by decide +kernel)
theorem q_48 : Cond.methodLink R_O 94 y_T_plant ∈ Tg := tg_t 89 (by decide +kernel) (by decide +kernel)
theorem q_49 : Cond.instanceMethod y_T_plant ∈ Tg := tg_t 90 (by decide +kernel) (by decide +kernel)
theorem q_50 : Cond.selects R_T y_T_plant y_T_plant ∈ Tg := tg_t 91 (by decide +kernel) (by decide +kernel)
theorem q_51 : Cond.code y_T_plant b_T_plant 3 none ∈ Tg := tg_t 92 (by decide +kernel) (by decide +kernel)
theorem q_52 : Cond.methodLink R_T 58 y_T_clear ∈ Tg := tg_t 93 (by decide +kernel) (by decide +kernel)
theorem q_53 : Cond.instanceMethod y_T_clear ∈ Tg := tg_t 95 (by decide +kernel) (by decide +kernel)
theorem q_54 : Cond.code y_T_clear b_T_clear 2 none ∈ Tg := tg_t 96 (by decide +kernel) (by decide +kernel)
theorem q_55 : Cond.methodLink R_T 61 y_T_add ∈ Tg := tg_t 97 (by decide +kernel) (by decide +kernel)
theorem q_56 : Cond.instanceMethod y_T_add ∈ Tg := tg_t 99 (by decide +kernel) (by decide +kernel)
theorem q_57 : Cond.code y_T_add b_T_add 3 none ∈ Tg := tg_t 100 (by decide +kernel) (by decide +kernel)
theorem q_58 : Cond.methodLink R_O 77 y_O_takeGroup ∈ Tg := tg_t 101 (by decide +kernel) (by decide +kernel)
theorem q_59 : Cond.instanceMethod y_O_takeGroup ∈ Tg := tg_t 103 (by decide +kernel) (by decide +kernel)
theorem q_60 : Cond.code y_O_takeGroup b_O_takeGroup 3 none ∈ Tg := tg_t 104 (by decide +kernel) (by decide +kernel)
theorem q_61 : Cond.methodLink R_O 100 y_T_draw ∈ Tg := tg_t 105 (by decide +kernel) (by decide +kernel)
theorem q_62 : Cond.instanceMethod y_T_draw ∈ Tg := tg_t 106 (by decide +kernel) (by decide +kernel)
theorem q_63 : Cond.selects R_T y_T_draw y_T_draw ∈ Tg := tg_t 107 (by decide +kernel) (by decide +kernel)
theorem q_64 : Cond.code y_T_draw b_T_draw 2 none ∈ Tg := tg_t 108 (by decide +kernel) (by decide +kernel)
theorem q_65 : Cond.methodLink R_T 65 y_T_place ∈ Tg := tg_t 109 (by decide +kernel) (by decide +kernel)
theorem q_66 : Cond.static y_T_place ∈ Tg := tg_t 110 (by decide +kernel) (by decide +kernel)
theorem q_67 : Cond.code y_T_place b_T_place 6 (some .int) ∈ Tg := tg_t 111 (by decide +kernel) (by decide +kernel)
theorem q_68 : Cond.methodLink R_T 69 y_T_order ∈ Tg := tg_t 112 (by decide +kernel) (by decide +kernel)
theorem q_69 : Cond.instanceMethod y_T_order ∈ Tg := tg_t 114 (by decide +kernel) (by decide +kernel)
theorem q_70 : Cond.code y_T_order b_T_order 6 none ∈ Tg := tg_t 115 (by decide +kernel) (by decide +kernel)
theorem q_71 : Cond.methodLink R_T 73 y_T_part ∈ Tg := tg_t 116 (by decide +kernel) (by decide +kernel)
theorem q_72 : Cond.instanceMethod y_T_part ∈ Tg := tg_t 118 (by decide +kernel) (by decide +kernel)
theorem q_73 : Cond.code y_T_part b_T_part 3 (some .int) ∈ Tg := tg_t 119 (by decide +kernel) (by decide +kernel)
theorem q_74 : Cond.methodLink R_T 77 y_T_least ∈ Tg := tg_t 120 (by decide +kernel) (by decide +kernel)
theorem q_75 : Cond.instanceMethod y_T_least ∈ Tg := tg_t 122 (by decide +kernel) (by decide +kernel)
theorem q_76 : Cond.code y_T_least b_T_least 2 (some .int) ∈ Tg := tg_t 123 (by decide +kernel) (by decide +kernel)
theorem q_77 : Cond.methodLink R_T 81 y_T_turn ∈ Tg := tg_t 124 (by decide +kernel) (by decide +kernel)
theorem q_78 : Cond.static y_T_turn ∈ Tg := tg_t 125 (by decide +kernel) (by decide +kernel)
theorem q_79 : Cond.code y_T_turn b_T_turn 6 none ∈ Tg := tg_t 126 (by decide +kernel) (by decide +kernel)
theorem q_80 : Cond.methodLink R_T 85 y_T_setPart ∈ Tg := tg_t 127 (by decide +kernel) (by decide +kernel)
theorem q_81 : Cond.instanceMethod y_T_setPart ∈ Tg := tg_t 129 (by decide +kernel) (by decide +kernel)
theorem q_82 : Cond.code y_T_setPart b_T_setPart 4 none ∈ Tg := tg_t 130 (by decide +kernel) (by decide +kernel)
theorem q_83 : Cond.methodLink R_O 97 y_T_reduce ∈ Tg := tg_t 131 (by decide +kernel) (by decide +kernel)
theorem q_84 : Cond.instanceMethod y_T_reduce ∈ Tg := tg_t 132 (by decide +kernel) (by decide +kernel)
theorem q_85 : Cond.selects R_T y_T_reduce y_T_reduce ∈ Tg := tg_t 133 (by decide +kernel) (by decide +kernel)
theorem q_86 : Cond.code y_T_reduce b_T_reduce 5 (some .boolean) ∈ Tg := tg_t 134 (by decide +kernel) (by decide +kernel)
theorem q_87 : Cond.methodLink R_T 89 y_J_bitCount ∈ Tg := tg_t 135 (by decide +kernel) (by decide +kernel)
theorem q_88 : Cond.static y_J_bitCount ∈ Tg := tg_t 136 (by decide +kernel) (by decide +kernel)
theorem q_89 : Cond.code y_J_bitCount b_J_bitCount 1 (some .int) ∈ Tg := tg_t 137 (by decide +kernel) (by decide +kernel)
theorem q_90 : Cond.constant R_J 265 (1431655765) ∈ Tg := tg_t 138 (by decide +kernel) (by decide +kernel)
theorem q_91 : Cond.constant R_J 266 (858993459) ∈ Tg := tg_t 139 (by decide +kernel) (by decide +kernel)
theorem q_92 : Cond.constant R_J 267 (252645135) ∈ Tg := tg_t 140 (by decide +kernel) (by decide +kernel)
theorem q_93 : Cond.methodLink R_T 94 y_T_lowestWith ∈ Tg := tg_t 141 (by decide +kernel) (by decide +kernel)
theorem q_94 : Cond.instanceMethod y_T_lowestWith ∈ Tg := tg_t 143 (by decide +kernel) (by decide +kernel)
theorem q_95 : Cond.code y_T_lowestWith b_T_lowestWith 6 (some .int) ∈ Tg := tg_t 144 (by decide +kernel) (by decide +kernel)
theorem q_96 : Cond.methodLink R_T 97 y_T_stateOf ∈ Tg := tg_t 145 (by decide +kernel) (by decide +kernel)
theorem q_97 : Cond.instanceMethod y_T_stateOf ∈ Tg := tg_t 147 (by decide +kernel) (by decide +kernel)
theorem q_98 : Cond.code y_T_stateOf b_T_stateOf 4 (some .int) ∈ Tg := tg_t 148 (by decide +kernel) (by decide +kernel)
theorem q_99 : Cond.methodLink R_T 100 y_T_reduceFree ∈ Tg := tg_t 149 (by decide +kernel) (by decide +kernel)
theorem q_100 : Cond.instanceMethod y_T_reduceFree ∈ Tg := tg_t 151 (by decide +kernel) (by decide +kernel)
theorem q_101 : Cond.code y_T_reduceFree b_T_reduceFree 6 (some .boolean) ∈ Tg := tg_t 152 (by decide +kernel) (by decide +kernel)
theorem q_102 : Cond.methodLink R_T 110 y_T_partIn ∈ Tg := tg_t 153 (by decide +kernel) (by decide +kernel)
theorem q_103 : Cond.instanceMethod y_T_partIn ∈ Tg := tg_t 155 (by decide +kernel) (by decide +kernel)
theorem q_104 : Cond.code y_T_partIn b_T_partIn 7 (some .int) ∈ Tg := tg_t 156 (by decide +kernel) (by decide +kernel)
theorem q_105 : Cond.methodLink R_T 114 y_T_splitToLine ∈ Tg := tg_t 157 (by decide +kernel) (by decide +kernel)
theorem q_106 : Cond.instanceMethod y_T_splitToLine ∈ Tg := tg_t 159 (by decide +kernel) (by decide +kernel)
theorem q_107 : Cond.code y_T_splitToLine b_T_splitToLine 8 (some .boolean) ∈ Tg := tg_t 160 (by decide +kernel) (by decide +kernel)
theorem q_108 : Cond.methodLink R_T 118 y_T_bundle ∈ Tg := tg_t 161 (by decide +kernel) (by decide +kernel)
theorem q_109 : Cond.instanceMethod y_T_bundle ∈ Tg := tg_t 163 (by decide +kernel) (by decide +kernel)
theorem q_110 : Cond.code y_T_bundle b_T_bundle 6 (some .int) ∈ Tg := tg_t 164 (by decide +kernel) (by decide +kernel)
theorem q_111 : Cond.methodLink R_T 131 y_T_unusedNode ∈ Tg := tg_t 165 (by decide +kernel) (by decide +kernel)
theorem q_112 : Cond.instanceMethod y_T_unusedNode ∈ Tg := tg_t 167 (by decide +kernel) (by decide +kernel)
theorem q_113 : Cond.code y_T_unusedNode b_T_unusedNode 2 (some .int) ∈ Tg := tg_t 168 (by decide +kernel) (by decide +kernel)
theorem q_114 : Cond.methodLink R_T 122 y_T_append ∈ Tg := tg_t 169 (by decide +kernel) (by decide +kernel)
theorem q_115 : Cond.instanceMethod y_T_append ∈ Tg := tg_t 171 (by decide +kernel) (by decide +kernel)
theorem q_116 : Cond.code y_T_append b_T_append 2 none ∈ Tg := tg_t 172 (by decide +kernel) (by decide +kernel)
theorem q_117 : Cond.methodLink R_T 135 y_T_hold ∈ Tg := tg_t 173 (by decide +kernel) (by decide +kernel)
theorem q_118 : Cond.instanceMethod y_T_hold ∈ Tg := tg_t 175 (by decide +kernel) (by decide +kernel)
theorem q_119 : Cond.code y_T_hold b_T_hold 2 none ∈ Tg := tg_t 176 (by decide +kernel) (by decide +kernel)
theorem q_120 : Cond.methodLink R_T 138 y_T_splitTurning ∈ Tg := tg_t 177 (by decide +kernel) (by decide +kernel)
theorem q_121 : Cond.instanceMethod y_T_splitTurning ∈ Tg := tg_t 179 (by decide +kernel) (by decide +kernel)
theorem q_122 : Cond.code y_T_splitTurning b_T_splitTurning 8 (some .boolean) ∈ Tg := tg_t 180 (by decide +kernel) (by decide +kernel)
theorem q_123 : Cond.methodLink R_T 141 y_T_markSplit ∈ Tg := tg_t 181 (by decide +kernel) (by decide +kernel)
theorem q_124 : Cond.instanceMethod y_T_markSplit ∈ Tg := tg_t 183 (by decide +kernel) (by decide +kernel)
theorem q_125 : Cond.code y_T_markSplit b_T_markSplit 2 none ∈ Tg := tg_t 184 (by decide +kernel) (by decide +kernel)
theorem q_126 : Cond.methodLink R_T 125 y_T_keepEmpty ∈ Tg := tg_t 185 (by decide +kernel) (by decide +kernel)
theorem q_127 : Cond.instanceMethod y_T_keepEmpty ∈ Tg := tg_t 187 (by decide +kernel) (by decide +kernel)
theorem q_128 : Cond.code y_T_keepEmpty b_T_keepEmpty 5 none ∈ Tg := tg_t 188 (by decide +kernel) (by decide +kernel)
theorem q_129 : Cond.methodLink R_T 128 y_T_fillFromLine ∈ Tg := tg_t 189 (by decide +kernel) (by decide +kernel)
theorem q_130 : Cond.instanceMethod y_T_fillFromLine ∈ Tg := tg_t 191 (by decide +kernel) (by decide +kernel)
theorem q_131 : Cond.code y_T_fillFromLine b_T_fillFromLine 3 none ∈ Tg := tg_t 192 (by decide +kernel) (by decide +kernel)
theorem q_132 : Cond.methodLink R_T 104 y_T_reduceTurning ∈ Tg := tg_t 193 (by decide +kernel) (by decide +kernel)
theorem q_133 : Cond.instanceMethod y_T_reduceTurning ∈ Tg := tg_t 195 (by decide +kernel) (by decide +kernel)
theorem q_134 : Cond.code y_T_reduceTurning b_T_reduceTurning 8 (some .boolean) ∈ Tg := tg_t 196 (by decide +kernel) (by decide +kernel)
theorem q_135 : Cond.methodLink R_T 107 y_T_giveBackSplit ∈ Tg := tg_t 197 (by decide +kernel) (by decide +kernel)
theorem q_136 : Cond.instanceMethod y_T_giveBackSplit ∈ Tg := tg_t 199 (by decide +kernel) (by decide +kernel)
theorem q_137 : Cond.code y_T_giveBackSplit b_T_giveBackSplit 2 none ∈ Tg := tg_t 200 (by decide +kernel) (by decide +kernel)
theorem q_138 : Cond.methodLink R_O 81 y_T_show ∈ Tg := tg_t 201 (by decide +kernel) (by decide +kernel)
theorem q_139 : Cond.instanceMethod y_T_show ∈ Tg := tg_t 202 (by decide +kernel) (by decide +kernel)
theorem q_140 : Cond.selects R_T y_T_show y_T_show ∈ Tg := tg_t 203 (by decide +kernel) (by decide +kernel)
theorem q_141 : Cond.code y_T_show b_T_show 6 (some .int) ∈ Tg := tg_t 204 (by decide +kernel) (by decide +kernel)
theorem q_142 : Cond.methodLink R_T 147 y_T_setAt ∈ Tg := tg_t 205 (by decide +kernel) (by decide +kernel)
theorem q_143 : Cond.static y_T_setAt ∈ Tg := tg_t 206 (by decide +kernel) (by decide +kernel)
theorem q_144 : Cond.code y_T_setAt b_T_setAt 3 none ∈ Tg := tg_t 207 (by decide +kernel) (by decide +kernel)
theorem q_145 : Cond.fieldLink R_O 9 "OrderTrees" "thingCount" "I" ∈ Tg := tg_t 208 (by decide +kernel) (by decide +kernel)
theorem q_146 : Cond.fieldLink R_O 13 "OrderTrees" "groups" "[I" ∈ Tg := tg_t 209 (by decide +kernel) (by decide +kernel)
theorem q_147 : Cond.fieldLink R_O 17 "OrderTrees" "groupCount" "I" ∈ Tg := tg_t 210 (by decide +kernel) (by decide +kernel)
theorem q_148 : Cond.fieldLink R_O 20 "OrderTrees" "takenBits" "I" ∈ Tg := tg_t 211 (by decide +kernel) (by decide +kernel)
theorem q_149 : Cond.fieldLink R_O 23 "OrderTrees" "told" "[I" ∈ Tg := tg_t 212 (by decide +kernel) (by decide +kernel)
theorem q_150 : Cond.fieldLink R_O 26 "OrderTrees" "toldCount" "I" ∈ Tg := tg_t 213 (by decide +kernel) (by decide +kernel)
theorem q_151 : Cond.fieldLink R_O 29 "OrderTrees" "latestFinding" "I" ∈ Tg := tg_t 214 (by decide +kernel) (by decide +kernel)
theorem q_152 : Cond.fieldLink R_O 35 "OrderTrees" "sheets" "LOrderTrees$Sheets;" ∈ Tg := tg_t 215 (by decide +kernel) (by decide +kernel)
theorem q_153 : Cond.fieldLink R_O 42 "OrderTrees" "shown" "LOrderTrees$Tree;" ∈ Tg := tg_t 216 (by decide +kernel) (by decide +kernel)
theorem q_154 : Cond.fieldLink R_O 46 "OrderTrees" "text" "[I" ∈ Tg := tg_t 217 (by decide +kernel) (by decide +kernel)
theorem q_155 : Cond.fieldLink R_O 49 "OrderTrees" "textSize" "I" ∈ Tg := tg_t 218 (by decide +kernel) (by decide +kernel)
theorem q_156 : Cond.fieldLink R_O 52 "OrderTrees" "base" "LOrderTrees$Tree;" ∈ Tg := tg_t 219 (by decide +kernel) (by decide +kernel)
theorem q_157 : Cond.fieldLink R_O 55 "OrderTrees" "trial" "LOrderTrees$Tree;" ∈ Tg := tg_t 220 (by decide +kernel) (by decide +kernel)
theorem q_158 : Cond.fieldLink R_O 58 "OrderTrees" "rowThings" "[I" ∈ Tg := tg_t 221 (by decide +kernel) (by decide +kernel)
theorem q_159 : Cond.fieldLink R_O 61 "OrderTrees" "places" "[I" ∈ Tg := tg_t 222 (by decide +kernel) (by decide +kernel)
theorem q_160 : Cond.methodLink "OrderTreesLaw" 13 y_O_things ∈ Tg := tg_t 254 (by decide +kernel) (by decide +kernel)
theorem q_161 : Cond.instanceMethod y_O_things ∈ Tg := tg_t 255 (by decide +kernel) (by decide +kernel)
theorem q_162 : Cond.selects R_O y_O_things y_O_things ∈ Tg := tg_t 256 (by decide +kernel) (by decide +kernel)
theorem q_163 : Cond.code y_O_things b_O_things 3 (some .int) ∈ Tg := tg_t 257 (by decide +kernel) (by decide +kernel)
theorem q_164 : Cond.methodLink "OrderTreesLaw" 18 y_O_group ∈ Tg := tg_t 258 (by decide +kernel) (by decide +kernel)
theorem q_165 : Cond.instanceMethod y_O_group ∈ Tg := tg_t 259 (by decide +kernel) (by decide +kernel)
theorem q_166 : Cond.selects R_O y_O_group y_O_group ∈ Tg := tg_t 260 (by decide +kernel) (by decide +kernel)
theorem q_167 : Cond.code y_O_group b_O_group 2 (some .int) ∈ Tg := tg_t 261 (by decide +kernel) (by decide +kernel)
theorem q_168 : Cond.methodLink R_O 67 y_O_isSet ∈ Tg := tg_t 262 (by decide +kernel) (by decide +kernel)
theorem q_169 : Cond.static y_O_isSet ∈ Tg := tg_t 263 (by decide +kernel) (by decide +kernel)
theorem q_170 : Cond.code y_O_isSet b_O_isSet 1 (some .boolean) ∈ Tg := tg_t 264 (by decide +kernel) (by decide +kernel)
theorem q_171 : Cond.methodLink R_O 71 y_J_bitCount ∈ Tg := tg_t 265 (by decide +kernel) (by decide +kernel)
theorem q_172 : Cond.methodLink R_O 85 y_O_taken ∈ Tg := tg_t 266 (by decide +kernel) (by decide +kernel)
theorem q_173 : Cond.instanceMethod y_O_taken ∈ Tg := tg_t 267 (by decide +kernel) (by decide +kernel)
theorem q_174 : Cond.selects R_O y_O_taken y_O_taken ∈ Tg := tg_t 268 (by decide +kernel) (by decide +kernel)
theorem q_175 : Cond.code y_O_taken b_O_taken 2 (some .int) ∈ Tg := tg_t 269 (by decide +kernel) (by decide +kernel)
theorem q_176 : Cond.methodLink R_O 88 y_O_isGroup ∈ Tg := tg_t 270 (by decide +kernel) (by decide +kernel)
theorem q_177 : Cond.instanceMethod y_O_isGroup ∈ Tg := tg_t 272 (by decide +kernel) (by decide +kernel)
theorem q_178 : Cond.code y_O_isGroup b_O_isGroup 2 (some .boolean) ∈ Tg := tg_t 273 (by decide +kernel) (by decide +kernel)
theorem q_179 : Cond.methodLink R_O 91 y_O_isTaken ∈ Tg := tg_t 274 (by decide +kernel) (by decide +kernel)
theorem q_180 : Cond.instanceMethod y_O_isTaken ∈ Tg := tg_t 276 (by decide +kernel) (by decide +kernel)
theorem q_181 : Cond.code y_O_isTaken b_O_isTaken 2 (some .boolean) ∈ Tg := tg_t 277 (by decide +kernel) (by decide +kernel)
theorem q_182 : Cond.methodLink "OrderTreesLaw" 22 y_O_back ∈ Tg := tg_t 278 (by decide +kernel) (by decide +kernel)
theorem q_183 : Cond.instanceMethod y_O_back ∈ Tg := tg_t 279 (by decide +kernel) (by decide +kernel)
theorem q_184 : Cond.selects R_O y_O_back y_O_back ∈ Tg := tg_t 280 (by decide +kernel) (by decide +kernel)
theorem q_185 : Cond.code y_O_back b_O_back 1 (some .int) ∈ Tg := tg_t 281 (by decide +kernel) (by decide +kernel)
theorem q_186 : Cond.methodLink "OrderTreesLaw" 27 y_O_taken ∈ Tg := tg_t 282 (by decide +kernel) (by decide +kernel)
theorem q_187 : Cond.methodLink "OrderTreesLaw" 31 y_O_reason ∈ Tg := tg_t 283 (by decide +kernel) (by decide +kernel)
theorem q_188 : Cond.instanceMethod y_O_reason ∈ Tg := tg_t 284 (by decide +kernel) (by decide +kernel)
theorem q_189 : Cond.selects R_O y_O_reason y_O_reason ∈ Tg := tg_t 285 (by decide +kernel) (by decide +kernel)
theorem q_190 : Cond.code y_O_reason b_O_reason 6 (some .int) ∈ Tg := tg_t 286 (by decide +kernel) (by decide +kernel)
theorem q_191 : Cond.methodLink "OrderTreesLaw" 35 y_O_read ∈ Tg := tg_t 287 (by decide +kernel) (by decide +kernel)
theorem q_192 : Cond.instanceMethod y_O_read ∈ Tg := tg_t 288 (by decide +kernel) (by decide +kernel)
theorem q_193 : Cond.selects R_O y_O_read y_O_read ∈ Tg := tg_t 289 (by decide +kernel) (by decide +kernel)
theorem q_194 : Cond.code y_O_read b_O_read 4 (some .int) ∈ Tg := tg_t 290 (by decide +kernel) (by decide +kernel)
theorem q_195 : Cond.methodLink R_O 104 y_O_isSheet ∈ Tg := tg_t 291 (by decide +kernel) (by decide +kernel)
theorem q_196 : Cond.static y_O_isSheet ∈ Tg := tg_t 292 (by decide +kernel) (by decide +kernel)
theorem q_197 : Cond.code y_O_isSheet b_O_isSheet 1 (some .boolean) ∈ Tg := tg_t 293 (by decide +kernel) (by decide +kernel)
theorem q_198 : Cond.methodLink R_O 107 y_S_isLost ∈ Tg := tg_t 294 (by decide +kernel) (by decide +kernel)
theorem q_199 : Cond.instanceMethod y_S_isLost ∈ Tg := tg_t 295 (by decide +kernel) (by decide +kernel)
theorem q_200 : Cond.selects R_S y_S_isLost y_S_isLost ∈ Tg := tg_t 296 (by decide +kernel) (by decide +kernel)
theorem q_201 : Cond.code y_S_isLost b_S_isLost 2 (some .boolean) ∈ Tg := tg_t 297 (by decide +kernel) (by decide +kernel)
theorem q_202 : Cond.methodLink R_O 110 y_O_found ∈ Tg := tg_t 298 (by decide +kernel) (by decide +kernel)
theorem q_203 : Cond.instanceMethod y_O_found ∈ Tg := tg_t 300 (by decide +kernel) (by decide +kernel)
theorem q_204 : Cond.code y_O_found b_O_found 2 (some .int) ∈ Tg := tg_t 301 (by decide +kernel) (by decide +kernel)
theorem q_205 : Cond.methodLink R_O 113 y_S_sizeOf ∈ Tg := tg_t 302 (by decide +kernel) (by decide +kernel)
theorem q_206 : Cond.instanceMethod y_S_sizeOf ∈ Tg := tg_t 303 (by decide +kernel) (by decide +kernel)
theorem q_207 : Cond.selects R_S y_S_sizeOf y_S_sizeOf ∈ Tg := tg_t 304 (by decide +kernel) (by decide +kernel)
theorem q_208 : Cond.code y_S_sizeOf b_S_sizeOf 2 (some .int) ∈ Tg := tg_t 305 (by decide +kernel) (by decide +kernel)
theorem q_209 : Cond.methodLink R_O 116 y_S_item ∈ Tg := tg_t 306 (by decide +kernel) (by decide +kernel)
theorem q_210 : Cond.instanceMethod y_S_item ∈ Tg := tg_t 307 (by decide +kernel) (by decide +kernel)
theorem q_211 : Cond.selects R_S y_S_item y_S_item ∈ Tg := tg_t 308 (by decide +kernel) (by decide +kernel)
theorem q_212 : Cond.code y_S_item b_S_item 3 (some .int) ∈ Tg := tg_t 309 (by decide +kernel) (by decide +kernel)
theorem q_213 : Cond.methodLink R_O 120 y_O_group ∈ Tg := tg_t 310 (by decide +kernel) (by decide +kernel)
theorem q_214 : Cond.methodLink "OrderTreesLaw" 39 y_O_many ∈ Tg := tg_t 311 (by decide +kernel) (by decide +kernel)
theorem q_215 : Cond.instanceMethod y_O_many ∈ Tg := tg_t 312 (by decide +kernel) (by decide +kernel)
theorem q_216 : Cond.selects R_O y_O_many y_O_many ∈ Tg := tg_t 313 (by decide +kernel) (by decide +kernel)
theorem q_217 : Cond.code y_O_many b_O_many 1 (some .long) ∈ Tg := tg_t 314 (by decide +kernel) (by decide +kernel)
theorem q_218 : Cond.methodLink R_O 123 y_T_rowCount ∈ Tg := tg_t 315 (by decide +kernel) (by decide +kernel)
theorem q_219 : Cond.instanceMethod y_T_rowCount ∈ Tg := tg_t 316 (by decide +kernel) (by decide +kernel)
theorem q_220 : Cond.selects R_T y_T_rowCount y_T_rowCount ∈ Tg := tg_t 317 (by decide +kernel) (by decide +kernel)
theorem q_221 : Cond.code y_T_rowCount b_T_rowCount 4 (some .long) ∈ Tg := tg_t 318 (by decide +kernel) (by decide +kernel)
theorem q_222 : Cond.methodLink R_T 144 y_T_ways ∈ Tg := tg_t 319 (by decide +kernel) (by decide +kernel)
theorem q_223 : Cond.instanceMethod y_T_ways ∈ Tg := tg_t 321 (by decide +kernel) (by decide +kernel)
theorem q_224 : Cond.code y_T_ways b_T_ways 2 (some .int) ∈ Tg := tg_t 322 (by decide +kernel) (by decide +kernel)
theorem q_225 : Cond.static y_O_factorial ∈ Tg := tg_t 324 (by decide +kernel) (by decide +kernel)
theorem q_226 : Cond.code y_O_factorial b_O_factorial 1 (some .int) ∈ Tg := tg_t 325 (by decide +kernel) (by decide +kernel)
theorem q_227 : Cond.fieldLink R_O 256 "OrderTrees" "FACTORIALS" "[I" ∈ Tg := tg_t 326 (by decide +kernel) (by decide +kernel)
theorem q_228 : Cond.methodLink "OrderTreesLaw" 44 y_O_tree ∈ Tg := tg_t 328 (by decide +kernel) (by decide +kernel)
theorem q_229 : Cond.instanceMethod y_O_tree ∈ Tg := tg_t 329 (by decide +kernel) (by decide +kernel)
theorem q_230 : Cond.selects R_O y_O_tree y_O_tree ∈ Tg := tg_t 330 (by decide +kernel) (by decide +kernel)
theorem q_231 : Cond.code y_O_tree b_O_tree 2 (some .int) ∈ Tg := tg_t 331 (by decide +kernel) (by decide +kernel)
theorem q_232 : Cond.methodLink "OrderTreesLaw" 48 y_O_node ∈ Tg := tg_t 332 (by decide +kernel) (by decide +kernel)
theorem q_233 : Cond.instanceMethod y_O_node ∈ Tg := tg_t 333 (by decide +kernel) (by decide +kernel)
theorem q_234 : Cond.selects R_O y_O_node y_O_node ∈ Tg := tg_t 334 (by decide +kernel) (by decide +kernel)
theorem q_235 : Cond.code y_O_node b_O_node 3 (some .int) ∈ Tg := tg_t 335 (by decide +kernel) (by decide +kernel)
theorem q_236 : Cond.methodLink R_O 127 y_T_nodeCount ∈ Tg := tg_t 336 (by decide +kernel) (by decide +kernel)
theorem q_237 : Cond.instanceMethod y_T_nodeCount ∈ Tg := tg_t 337 (by decide +kernel) (by decide +kernel)
theorem q_238 : Cond.selects R_T y_T_nodeCount y_T_nodeCount ∈ Tg := tg_t 338 (by decide +kernel) (by decide +kernel)
theorem q_239 : Cond.code y_T_nodeCount b_T_nodeCount 1 (some .int) ∈ Tg := tg_t 339 (by decide +kernel) (by decide +kernel)
theorem q_240 : Cond.methodLink R_O 131 y_T_isTurning ∈ Tg := tg_t 340 (by decide +kernel) (by decide +kernel)
theorem q_241 : Cond.instanceMethod y_T_isTurning ∈ Tg := tg_t 341 (by decide +kernel) (by decide +kernel)
theorem q_242 : Cond.selects R_T y_T_isTurning y_T_isTurning ∈ Tg := tg_t 342 (by decide +kernel) (by decide +kernel)
theorem q_243 : Cond.code y_T_isTurning b_T_isTurning 2 (some .boolean) ∈ Tg := tg_t 343 (by decide +kernel) (by decide +kernel)
theorem q_244 : Cond.methodLink R_O 134 y_T_partCount ∈ Tg := tg_t 344 (by decide +kernel) (by decide +kernel)
theorem q_245 : Cond.instanceMethod y_T_partCount ∈ Tg := tg_t 345 (by decide +kernel) (by decide +kernel)
theorem q_246 : Cond.selects R_T y_T_partCount y_T_partCount ∈ Tg := tg_t 346 (by decide +kernel) (by decide +kernel)
theorem q_247 : Cond.code y_T_partCount b_T_partCount 2 (some .int) ∈ Tg := tg_t 347 (by decide +kernel) (by decide +kernel)
theorem q_248 : Cond.methodLink R_O 137 y_T_thingsOf ∈ Tg := tg_t 348 (by decide +kernel) (by decide +kernel)
theorem q_249 : Cond.instanceMethod y_T_thingsOf ∈ Tg := tg_t 349 (by decide +kernel) (by decide +kernel)
theorem q_250 : Cond.selects R_T y_T_thingsOf y_T_thingsOf ∈ Tg := tg_t 350 (by decide +kernel) (by decide +kernel)
theorem q_251 : Cond.code y_T_thingsOf b_T_thingsOf 2 (some .int) ∈ Tg := tg_t 351 (by decide +kernel) (by decide +kernel)
theorem q_252 : Cond.methodLink "OrderTreesLaw" 53 y_O_row ∈ Tg := tg_t 352 (by decide +kernel) (by decide +kernel)
theorem q_253 : Cond.instanceMethod y_O_row ∈ Tg := tg_t 353 (by decide +kernel) (by decide +kernel)
theorem q_254 : Cond.selects R_O y_O_row y_O_row ∈ Tg := tg_t 354 (by decide +kernel) (by decide +kernel)
theorem q_255 : Cond.code y_O_row b_O_row 3 (some .int) ∈ Tg := tg_t 355 (by decide +kernel) (by decide +kernel)
theorem q_256 : Cond.methodLink R_O 140 y_O_isRowNumber ∈ Tg := tg_t 356 (by decide +kernel) (by decide +kernel)
theorem q_257 : Cond.static y_O_isRowNumber ∈ Tg := tg_t 357 (by decide +kernel) (by decide +kernel)
theorem q_258 : Cond.code y_O_isRowNumber b_O_isRowNumber 1 (some .boolean) ∈ Tg := tg_t 358 (by decide +kernel) (by decide +kernel)
theorem q_259 : Cond.constant R_O 255 (40320) ∈ Tg := tg_t 359 (by decide +kernel) (by decide +kernel)
theorem q_260 : Cond.methodLink R_O 143 y_T_layRow ∈ Tg := tg_t 360 (by decide +kernel) (by decide +kernel)
theorem q_261 : Cond.instanceMethod y_T_layRow ∈ Tg := tg_t 361 (by decide +kernel) (by decide +kernel)
theorem q_262 : Cond.selects R_T y_T_layRow y_T_layRow ∈ Tg := tg_t 362 (by decide +kernel) (by decide +kernel)
theorem q_263 : Cond.code y_T_layRow b_T_layRow 6 none ∈ Tg := tg_t 363 (by decide +kernel) (by decide +kernel)
theorem q_264 : Cond.methodLink R_T 150 Lib.Math.max.name ∈ Tg := tg_t 364 (by decide +kernel) (by decide +kernel)
theorem q_265 : Cond.static Lib.Math.max.name ∈ Tg := tg_t 365 (by decide +kernel) (by decide +kernel)
theorem q_266 : Cond.code Lib.Math.max.name Lib.Math.max.code 2 (some .int) ∈ Tg := tg_t 366 (by decide +kernel) (by decide +kernel)
theorem q_267 : Cond.methodLink R_T 155 y_T_layParts ∈ Tg := tg_t 367 (by decide +kernel) (by decide +kernel)
theorem q_268 : Cond.instanceMethod y_T_layParts ∈ Tg := tg_t 369 (by decide +kernel) (by decide +kernel)
theorem q_269 : Cond.code y_T_layParts b_T_layParts 10 none ∈ Tg := tg_t 370 (by decide +kernel) (by decide +kernel)
theorem q_270 : Cond.methodLink R_T 161 y_T_nthBit ∈ Tg := tg_t 371 (by decide +kernel) (by decide +kernel)
theorem q_271 : Cond.static y_T_nthBit ∈ Tg := tg_t 372 (by decide +kernel) (by decide +kernel)
theorem q_272 : Cond.code y_T_nthBit b_T_nthBit 4 (some .int) ∈ Tg := tg_t 373 (by decide +kernel) (by decide +kernel)
theorem q_273 : Cond.methodLink "OrderTreesLaw" 57 y_O_may ∈ Tg := tg_t 374 (by decide +kernel) (by decide +kernel)
theorem q_274 : Cond.instanceMethod y_O_may ∈ Tg := tg_t 375 (by decide +kernel) (by decide +kernel)
theorem q_275 : Cond.selects R_O y_O_may y_O_may ∈ Tg := tg_t 376 (by decide +kernel) (by decide +kernel)
theorem q_276 : Cond.code y_O_may b_O_may 2 (some .int) ∈ Tg := tg_t 377 (by decide +kernel) (by decide +kernel)
theorem q_277 : Cond.methodLink R_O 147 y_O_isSetOfThings ∈ Tg := tg_t 378 (by decide +kernel) (by decide +kernel)
theorem q_278 : Cond.instanceMethod y_O_isSetOfThings ∈ Tg := tg_t 380 (by decide +kernel) (by decide +kernel)
theorem q_279 : Cond.code y_O_isSetOfThings b_O_isSetOfThings 2 (some .boolean) ∈ Tg := tg_t 381 (by decide +kernel) (by decide +kernel)
theorem q_280 : Cond.methodLink "OrderTreesLaw" 61 y_O_must ∈ Tg := tg_t 382 (by decide +kernel) (by decide +kernel)
theorem q_281 : Cond.instanceMethod y_O_must ∈ Tg := tg_t 383 (by decide +kernel) (by decide +kernel)
theorem q_282 : Cond.selects R_O y_O_must y_O_must ∈ Tg := tg_t 384 (by decide +kernel) (by decide +kernel)
theorem q_283 : Cond.code y_O_must b_O_must 2 (some .int) ∈ Tg := tg_t 385 (by decide +kernel) (by decide +kernel)
theorem q_284 : Cond.methodLink "OrderTreesLaw" 65 y_O_apart ∈ Tg := tg_t 386 (by decide +kernel) (by decide +kernel)
theorem q_285 : Cond.instanceMethod y_O_apart ∈ Tg := tg_t 387 (by decide +kernel) (by decide +kernel)
theorem q_286 : Cond.selects R_O y_O_apart y_O_apart ∈ Tg := tg_t 388 (by decide +kernel) (by decide +kernel)
theorem q_287 : Cond.code y_O_apart b_O_apart 4 (some .int) ∈ Tg := tg_t 389 (by decide +kernel) (by decide +kernel)
theorem q_288 : Cond.methodLink R_O 150 y_O_isThing ∈ Tg := tg_t 390 (by decide +kernel) (by decide +kernel)
theorem q_289 : Cond.instanceMethod y_O_isThing ∈ Tg := tg_t 392 (by decide +kernel) (by decide +kernel)
theorem q_290 : Cond.code y_O_isThing b_O_isThing 2 (some .boolean) ∈ Tg := tg_t 393 (by decide +kernel) (by decide +kernel)
theorem q_291 : Cond.methodLink R_O 153 y_T_between ∈ Tg := tg_t 394 (by decide +kernel) (by decide +kernel)
theorem q_292 : Cond.instanceMethod y_T_between ∈ Tg := tg_t 395 (by decide +kernel) (by decide +kernel)
theorem q_293 : Cond.selects R_T y_T_between y_T_between ∈ Tg := tg_t 396 (by decide +kernel) (by decide +kernel)
theorem q_294 : Cond.code y_T_between b_T_between 9 (some .int) ∈ Tg := tg_t 397 (by decide +kernel) (by decide +kernel)
theorem q_295 : Cond.methodLink R_T 171 y_T_besideIn ∈ Tg := tg_t 398 (by decide +kernel) (by decide +kernel)
theorem q_296 : Cond.instanceMethod y_T_besideIn ∈ Tg := tg_t 400 (by decide +kernel) (by decide +kernel)
theorem q_297 : Cond.code y_T_besideIn b_T_besideIn 9 (some .int) ∈ Tg := tg_t 401 (by decide +kernel) (by decide +kernel)
theorem q_298 : Cond.methodLink R_T 179 Lib.Math.min.name ∈ Tg := tg_t 402 (by decide +kernel) (by decide +kernel)
theorem q_299 : Cond.static Lib.Math.min.name ∈ Tg := tg_t 403 (by decide +kernel) (by decide +kernel)
theorem q_300 : Cond.code Lib.Math.min.name Lib.Math.min.code 2 (some .int) ∈ Tg := tg_t 404 (by decide +kernel) (by decide +kernel)
theorem q_301 : Cond.methodLink R_T 175 y_T_betweenIn ∈ Tg := tg_t 405 (by decide +kernel) (by decide +kernel)
theorem q_302 : Cond.instanceMethod y_T_betweenIn ∈ Tg := tg_t 407 (by decide +kernel) (by decide +kernel)
theorem q_303 : Cond.code y_T_betweenIn b_T_betweenIn 10 (some .int) ∈ Tg := tg_t 408 (by decide +kernel) (by decide +kernel)
theorem q_304 : Cond.methodLink "OrderTreesLaw" 70 y_O_spare ∈ Tg := tg_t 409 (by decide +kernel) (by decide +kernel)
theorem q_305 : Cond.instanceMethod y_O_spare ∈ Tg := tg_t 410 (by decide +kernel) (by decide +kernel)
theorem q_306 : Cond.selects R_O y_O_spare y_O_spare ∈ Tg := tg_t 411 (by decide +kernel) (by decide +kernel)
theorem q_307 : Cond.code y_O_spare b_O_spare 6 (some .int) ∈ Tg := tg_t 412 (by decide +kernel) (by decide +kernel)
theorem q_308 : Cond.methodLink "OrderTreesLaw" 74 y_O_type ∈ Tg := tg_t 413 (by decide +kernel) (by decide +kernel)
theorem q_309 : Cond.instanceMethod y_O_type ∈ Tg := tg_t 414 (by decide +kernel) (by decide +kernel)
theorem q_310 : Cond.selects R_O y_O_type y_O_type ∈ Tg := tg_t 415 (by decide +kernel) (by decide +kernel)
theorem q_311 : Cond.code y_O_type b_O_type 2 (some .int) ∈ Tg := tg_t 416 (by decide +kernel) (by decide +kernel)
theorem q_312 : Cond.methodLink "OrderTreesLaw" 78 y_O_wipe ∈ Tg := tg_t 417 (by decide +kernel) (by decide +kernel)
theorem q_313 : Cond.instanceMethod y_O_wipe ∈ Tg := tg_t 418 (by decide +kernel) (by decide +kernel)
theorem q_314 : Cond.selects R_O y_O_wipe y_O_wipe ∈ Tg := tg_t 419 (by decide +kernel) (by decide +kernel)
theorem q_315 : Cond.code y_O_wipe b_O_wipe 2 (some .int) ∈ Tg := tg_t 420 (by decide +kernel) (by decide +kernel)
theorem q_316 : Cond.methodLink "OrderTreesLaw" 82 y_O_undo ∈ Tg := tg_t 421 (by decide +kernel) (by decide +kernel)
theorem q_317 : Cond.instanceMethod y_O_undo ∈ Tg := tg_t 422 (by decide +kernel) (by decide +kernel)
theorem q_318 : Cond.selects R_O y_O_undo y_O_undo ∈ Tg := tg_t 423 (by decide +kernel) (by decide +kernel)
theorem q_319 : Cond.code y_O_undo b_O_undo 1 (some .int) ∈ Tg := tg_t 424 (by decide +kernel) (by decide +kernel)
theorem q_320 : Cond.methodLink "OrderTreesLaw" 86 y_O_fault ∈ Tg := tg_t 425 (by decide +kernel) (by decide +kernel)
theorem q_321 : Cond.instanceMethod y_O_fault ∈ Tg := tg_t 426 (by decide +kernel) (by decide +kernel)
theorem q_322 : Cond.selects R_O y_O_fault y_O_fault ∈ Tg := tg_t 427 (by decide +kernel) (by decide +kernel)
theorem q_323 : Cond.code y_O_fault b_O_fault 4 (some .int) ∈ Tg := tg_t 428 (by decide +kernel) (by decide +kernel)
theorem q_324 : Cond.methodLink "OrderTreesLaw" 90 y_O_misses ∈ Tg := tg_t 429 (by decide +kernel) (by decide +kernel)
theorem q_325 : Cond.instanceMethod y_O_misses ∈ Tg := tg_t 430 (by decide +kernel) (by decide +kernel)
theorem q_326 : Cond.selects R_O y_O_misses y_O_misses ∈ Tg := tg_t 431 (by decide +kernel) (by decide +kernel)
theorem q_327 : Cond.code y_O_misses b_O_misses 3 (some .int) ∈ Tg := tg_t 432 (by decide +kernel) (by decide +kernel)
theorem q_328 : Cond.methodLink R_O 157 y_O_fault ∈ Tg := tg_t 433 (by decide +kernel) (by decide +kernel)
theorem q_329 : Cond.methodLink R_O 160 y_O_findPlaces ∈ Tg := tg_t 434 (by decide +kernel) (by decide +kernel)
theorem q_330 : Cond.instanceMethod y_O_findPlaces ∈ Tg := tg_t 436 (by decide +kernel) (by decide +kernel)
theorem q_331 : Cond.code y_O_findPlaces b_O_findPlaces 3 none ∈ Tg := tg_t 437 (by decide +kernel) (by decide +kernel)
theorem q_332 : Cond.methodLink R_O 163 y_O_isSideBySide ∈ Tg := tg_t 438 (by decide +kernel) (by decide +kernel)
theorem q_333 : Cond.instanceMethod y_O_isSideBySide ∈ Tg := tg_t 440 (by decide +kernel) (by decide +kernel)
theorem q_334 : Cond.code y_O_isSideBySide b_O_isSideBySide 6 (some .boolean) ∈ Tg := tg_t 441 (by decide +kernel) (by decide +kernel)
theorem q_335 : Cond.methodLink R_O 201 Lib.Math.min.name ∈ Tg := tg_t 442 (by decide +kernel) (by decide +kernel)
theorem q_336 : Cond.methodLink R_O 252 Lib.Math.max.name ∈ Tg := tg_t 443 (by decide +kernel) (by decide +kernel)
theorem q_337 : Cond.methodLink "OrderTreesLaw" 94 y_O_number ∈ Tg := tg_t 444 (by decide +kernel) (by decide +kernel)
theorem q_338 : Cond.instanceMethod y_O_number ∈ Tg := tg_t 445 (by decide +kernel) (by decide +kernel)
theorem q_339 : Cond.selects R_O y_O_number y_O_number ∈ Tg := tg_t 446 (by decide +kernel) (by decide +kernel)
theorem q_340 : Cond.code y_O_number b_O_number 2 (some .int) ∈ Tg := tg_t 447 (by decide +kernel) (by decide +kernel)
theorem q_341 : Cond.methodLink R_O 166 y_O_misses ∈ Tg := tg_t 448 (by decide +kernel) (by decide +kernel)
theorem q_342 : Cond.methodLink R_O 169 y_T_numberOf ∈ Tg := tg_t 449 (by decide +kernel) (by decide +kernel)
theorem q_343 : Cond.instanceMethod y_T_numberOf ∈ Tg := tg_t 450 (by decide +kernel) (by decide +kernel)
theorem q_344 : Cond.selects R_T y_T_numberOf y_T_numberOf ∈ Tg := tg_t 451 (by decide +kernel) (by decide +kernel)
theorem q_345 : Cond.code y_T_numberOf b_T_numberOf 4 (some .int) ∈ Tg := tg_t 452 (by decide +kernel) (by decide +kernel)
theorem q_346 : Cond.methodLink R_T 164 y_T_wayOf ∈ Tg := tg_t 453 (by decide +kernel) (by decide +kernel)
theorem q_347 : Cond.instanceMethod y_T_wayOf ∈ Tg := tg_t 455 (by decide +kernel) (by decide +kernel)
theorem q_348 : Cond.code y_T_wayOf b_T_wayOf 9 (some .int) ∈ Tg := tg_t 456 (by decide +kernel) (by decide +kernel)
theorem q_349 : Cond.methodLink R_T 168 y_T_leastThing ∈ Tg := tg_t 457 (by decide +kernel) (by decide +kernel)
theorem q_350 : Cond.instanceMethod y_T_leastThing ∈ Tg := tg_t 459 (by decide +kernel) (by decide +kernel)
theorem q_351 : Cond.code y_T_leastThing b_T_leastThing 2 (some .int) ∈ Tg := tg_t 460 (by decide +kernel) (by decide +kernel)
theorem q_352 : Cond.methodLink "OrderTreesLaw" 98 y_O_sheet ∈ Tg := tg_t 461 (by decide +kernel) (by decide +kernel)
theorem q_353 : Cond.instanceMethod y_O_sheet ∈ Tg := tg_t 462 (by decide +kernel) (by decide +kernel)
theorem q_354 : Cond.selects R_O y_O_sheet y_O_sheet ∈ Tg := tg_t 463 (by decide +kernel) (by decide +kernel)
theorem q_355 : Cond.code y_O_sheet b_O_sheet 4 (some .int) ∈ Tg := tg_t 464 (by decide +kernel) (by decide +kernel)
theorem q_356 : Cond.methodLink R_O 172 y_O_isForm ∈ Tg := tg_t 465 (by decide +kernel) (by decide +kernel)
theorem q_357 : Cond.static y_O_isForm ∈ Tg := tg_t 466 (by decide +kernel) (by decide +kernel)
theorem q_358 : Cond.code y_O_isForm b_O_isForm 1 (some .boolean) ∈ Tg := tg_t 467 (by decide +kernel) (by decide +kernel)
theorem q_359 : Cond.methodLink R_O 175 y_S_lay ∈ Tg := tg_t 468 (by decide +kernel) (by decide +kernel)
theorem q_360 : Cond.instanceMethod y_S_lay ∈ Tg := tg_t 469 (by decide +kernel) (by decide +kernel)
theorem q_361 : Cond.selects R_S y_S_lay y_S_lay ∈ Tg := tg_t 470 (by decide +kernel) (by decide +kernel)
theorem q_362 : Cond.code y_S_lay b_S_lay 5 none ∈ Tg := tg_t 471 (by decide +kernel) (by decide +kernel)
theorem q_363 : Cond.methodLink "OrderTreesLaw" 102 y_O_lose ∈ Tg := tg_t 472 (by decide +kernel) (by decide +kernel)
theorem q_364 : Cond.instanceMethod y_O_lose ∈ Tg := tg_t 473 (by decide +kernel) (by decide +kernel)
theorem q_365 : Cond.selects R_O y_O_lose y_O_lose ∈ Tg := tg_t 474 (by decide +kernel) (by decide +kernel)
theorem q_366 : Cond.code y_O_lose b_O_lose 3 (some .int) ∈ Tg := tg_t 475 (by decide +kernel) (by decide +kernel)
theorem q_367 : Cond.methodLink R_O 179 y_S_drop ∈ Tg := tg_t 476 (by decide +kernel) (by decide +kernel)
theorem q_368 : Cond.instanceMethod y_S_drop ∈ Tg := tg_t 477 (by decide +kernel) (by decide +kernel)
theorem q_369 : Cond.selects R_S y_S_drop y_S_drop ∈ Tg := tg_t 478 (by decide +kernel) (by decide +kernel)
theorem q_370 : Cond.code y_S_drop b_S_drop 2 none ∈ Tg := tg_t 479 (by decide +kernel) (by decide +kernel)
theorem q_371 : Cond.methodLink "OrderTreesLaw" 106 y_O_put ∈ Tg := tg_t 480 (by decide +kernel) (by decide +kernel)
theorem q_372 : Cond.instanceMethod y_O_put ∈ Tg := tg_t 481 (by decide +kernel) (by decide +kernel)
theorem q_373 : Cond.selects R_O y_O_put y_O_put ∈ Tg := tg_t 482 (by decide +kernel) (by decide +kernel)
theorem q_374 : Cond.code y_O_put b_O_put 6 (some .int) ∈ Tg := tg_t 483 (by decide +kernel) (by decide +kernel)
theorem q_375 : Cond.methodLink R_O 182 y_O_findingOf ∈ Tg := tg_t 484 (by decide +kernel) (by decide +kernel)
theorem q_376 : Cond.instanceMethod y_O_findingOf ∈ Tg := tg_t 486 (by decide +kernel) (by decide +kernel)
theorem q_377 : Cond.code y_O_findingOf b_O_findingOf 4 (some .int) ∈ Tg := tg_t 487 (by decide +kernel) (by decide +kernel)
theorem q_378 : Cond.methodLink R_O 190 y_S_formOf ∈ Tg := tg_t 488 (by decide +kernel) (by decide +kernel)
theorem q_379 : Cond.instanceMethod y_S_formOf ∈ Tg := tg_t 489 (by decide +kernel) (by decide +kernel)
theorem q_380 : Cond.selects R_S y_S_formOf y_S_formOf ∈ Tg := tg_t 490 (by decide +kernel) (by decide +kernel)
theorem q_381 : Cond.code y_S_formOf b_S_formOf 2 (some .int) ∈ Tg := tg_t 491 (by decide +kernel) (by decide +kernel)
theorem q_382 : Cond.methodLink R_O 186 y_S_setItem ∈ Tg := tg_t 492 (by decide +kernel) (by decide +kernel)
theorem q_383 : Cond.instanceMethod y_S_setItem ∈ Tg := tg_t 493 (by decide +kernel) (by decide +kernel)
theorem q_384 : Cond.selects R_S y_S_setItem y_S_setItem ∈ Tg := tg_t 494 (by decide +kernel) (by decide +kernel)
theorem q_385 : Cond.code y_S_setItem b_S_setItem 5 none ∈ Tg := tg_t 495 (by decide +kernel) (by decide +kernel)
theorem q_386 : Cond.methodLink "OrderTreesLaw" 111 y_O_get ∈ Tg := tg_t 496 (by decide +kernel) (by decide +kernel)
theorem q_387 : Cond.instanceMethod y_O_get ∈ Tg := tg_t 497 (by decide +kernel) (by decide +kernel)
theorem q_388 : Cond.selects R_O y_O_get y_O_get ∈ Tg := tg_t 498 (by decide +kernel) (by decide +kernel)
theorem q_389 : Cond.code y_O_get b_O_get 5 (some .int) ∈ Tg := tg_t 499 (by decide +kernel) (by decide +kernel)
theorem q_390 : Cond.constant R_O 189 (-2147483648) ∈ Tg := tg_t 500 (by decide +kernel) (by decide +kernel)
theorem q_391 : Cond.methodLink "OrderTreesLaw" 115 y_O_copy ∈ Tg := tg_t 501 (by decide +kernel) (by decide +kernel)
theorem q_392 : Cond.instanceMethod y_O_copy ∈ Tg := tg_t 502 (by decide +kernel) (by decide +kernel)
theorem q_393 : Cond.selects R_O y_O_copy y_O_copy ∈ Tg := tg_t 503 (by decide +kernel) (by decide +kernel)
theorem q_394 : Cond.code y_O_copy b_O_copy 6 (some .int) ∈ Tg := tg_t 504 (by decide +kernel) (by decide +kernel)
theorem q_395 : Cond.methodLink R_O 193 y_S_hasItems ∈ Tg := tg_t 505 (by decide +kernel) (by decide +kernel)
theorem q_396 : Cond.instanceMethod y_S_hasItems ∈ Tg := tg_t 506 (by decide +kernel) (by decide +kernel)
theorem q_397 : Cond.selects R_S y_S_hasItems y_S_hasItems ∈ Tg := tg_t 507 (by decide +kernel) (by decide +kernel)
theorem q_398 : Cond.code y_S_hasItems b_S_hasItems 4 (some .boolean) ∈ Tg := tg_t 508 (by decide +kernel) (by decide +kernel)
theorem q_399 : Cond.methodLink R_O 197 y_S_move ∈ Tg := tg_t 509 (by decide +kernel) (by decide +kernel)
theorem q_400 : Cond.instanceMethod y_S_move ∈ Tg := tg_t 510 (by decide +kernel) (by decide +kernel)
theorem q_401 : Cond.selects R_S y_S_move y_S_move ∈ Tg := tg_t 511 (by decide +kernel) (by decide +kernel)
theorem q_402 : Cond.code y_S_move b_S_move 6 none ∈ Tg := tg_t 512 (by decide +kernel) (by decide +kernel)
theorem q_403 : Cond.methodLink R_S 19 arraycopyName ∈ Tg := tg_t 513 (by decide +kernel) (by decide +kernel)
theorem q_404 : Cond.static arraycopyName ∈ Tg := tg_t 514 (by decide +kernel) (by decide +kernel)
theorem q_405 : Cond.native arraycopyName ∈ Tg := tg_t 515 (by decide +kernel) (by decide +kernel)
theorem q_406 : Cond.methodLink "OrderTreesLaw" 120 y_O_write ∈ Tg := tg_t 516 (by decide +kernel) (by decide +kernel)
theorem q_407 : Cond.instanceMethod y_O_write ∈ Tg := tg_t 517 (by decide +kernel) (by decide +kernel)
theorem q_408 : Cond.selects R_O y_O_write y_O_write ∈ Tg := tg_t 518 (by decide +kernel) (by decide +kernel)
theorem q_409 : Cond.code y_O_write b_O_write 5 (some .int) ∈ Tg := tg_t 519 (by decide +kernel) (by decide +kernel)
theorem q_410 : Cond.methodLink "OrderTreesLaw" 124 y_O_count ∈ Tg := tg_t 520 (by decide +kernel) (by decide +kernel)
theorem q_411 : Cond.instanceMethod y_O_count ∈ Tg := tg_t 521 (by decide +kernel) (by decide +kernel)
theorem q_412 : Cond.selects R_O y_O_count y_O_count ∈ Tg := tg_t 522 (by decide +kernel) (by decide +kernel)
theorem q_413 : Cond.code y_O_count b_O_count 2 (some .int) ∈ Tg := tg_t 523 (by decide +kernel) (by decide +kernel)
theorem q_414 : Cond.methodLink R_O 206 y_T_turningCount ∈ Tg := tg_t 524 (by decide +kernel) (by decide +kernel)
theorem q_415 : Cond.instanceMethod y_T_turningCount ∈ Tg := tg_t 525 (by decide +kernel) (by decide +kernel)
theorem q_416 : Cond.selects R_T y_T_turningCount y_T_turningCount ∈ Tg := tg_t 526 (by decide +kernel) (by decide +kernel)
theorem q_417 : Cond.code y_T_turningCount b_T_turningCount 3 (some .int) ∈ Tg := tg_t 527 (by decide +kernel) (by decide +kernel)
theorem q_418 : Cond.methodLink "OrderTreesLaw" 128 y_O_digest ∈ Tg := tg_t 528 (by decide +kernel) (by decide +kernel)
theorem q_419 : Cond.instanceMethod y_O_digest ∈ Tg := tg_t 529 (by decide +kernel) (by decide +kernel)
theorem q_420 : Cond.selects R_O y_O_digest y_O_digest ∈ Tg := tg_t 530 (by decide +kernel) (by decide +kernel)
theorem q_421 : Cond.code y_O_digest b_O_digest 8 (some .long) ∈ Tg := tg_t 531 (by decide +kernel) (by decide +kernel)
theorem q_422 : Cond.constantLong R_O 209 (17) ∈ Tg := tg_t 532 (by decide +kernel) (by decide +kernel)
theorem q_423 : Cond.constantLong R_O 211 (31) ∈ Tg := tg_t 533 (by decide +kernel) (by decide +kernel)
theorem q_424 : Cond.methodLink R_O 213 y_O_count ∈ Tg := tg_t 534 (by decide +kernel) (by decide +kernel)
theorem q_425 : Cond.methodLink R_O 216 y_O_reason ∈ Tg := tg_t 535 (by decide +kernel) (by decide +kernel)
theorem q_426 : Cond.methodLink R_O 219 y_O_many ∈ Tg := tg_t 536 (by decide +kernel) (by decide +kernel)
theorem q_427 : Cond.methodLink R_O 222 y_O_tree ∈ Tg := tg_t 537 (by decide +kernel) (by decide +kernel)
theorem q_428 : Cond.methodLink R_O 225 y_O_node ∈ Tg := tg_t 538 (by decide +kernel) (by decide +kernel)
theorem q_429 : Cond.fieldLink R_O 228 "OrderTrees" "DIGEST_ROWS" "[I" ∈ Tg := tg_t 539 (by decide +kernel) (by decide +kernel)
theorem q_430 : Cond.methodLink R_O 231 y_O_row ∈ Tg := tg_t 541 (by decide +kernel) (by decide +kernel)
theorem q_431 : Cond.fieldLink R_O 234 "OrderTrees" "DIGEST_SETS" "[I" ∈ Tg := tg_t 542 (by decide +kernel) (by decide +kernel)
theorem q_432 : Cond.methodLink R_O 237 y_O_may ∈ Tg := tg_t 544 (by decide +kernel) (by decide +kernel)
theorem q_433 : Cond.methodLink R_O 240 y_O_must ∈ Tg := tg_t 545 (by decide +kernel) (by decide +kernel)
theorem q_434 : Cond.methodLink R_O 243 y_O_apart ∈ Tg := tg_t 546 (by decide +kernel) (by decide +kernel)
theorem q_435 : Cond.methodLink R_O 246 y_O_spare ∈ Tg := tg_t 547 (by decide +kernel) (by decide +kernel)
theorem q_436 : Cond.methodLink R_O 249 y_O_number ∈ Tg := tg_t 548 (by decide +kernel) (by decide +kernel)
theorem q_437 : Cond.classLink "OrderTreesLaw" 10 R_M ∈ Tg := tg_t 549 (by decide +kernel) (by decide +kernel)
theorem q_438 : Cond.instantiable R_M 30 ∈ Tg := tg_t 550 (by decide +kernel) (by decide +kernel)
theorem q_439 : Cond.methodLink "OrderTreesLaw" 12 y_M_init ∈ Tg := tg_t 551 (by decide +kernel) (by decide +kernel)
theorem q_440 : Cond.instanceMethod y_M_init ∈ Tg := tg_t 552 (by decide +kernel) (by decide +kernel)
theorem q_441 : Cond.code y_M_init b_M_init 1 none ∈ Tg := tg_t 553 (by decide +kernel) (by decide +kernel)
theorem q_442 : Cond.methodLink R_M 1 objectInit ∈ Tg := tg_t 554 (by decide +kernel) (by decide +kernel)
theorem q_443 : Cond.fieldLink R_M 7 "OrderTreesModel" "thingsTold" "I" ∈ Tg := tg_t 555 (by decide +kernel) (by decide +kernel)
theorem q_444 : Cond.fieldLink R_M 93 "OrderTreesModel" "groups" "I" ∈ Tg := tg_t 556 (by decide +kernel) (by decide +kernel)
theorem q_445 : Cond.fieldLink R_M 13 "OrderTreesModel" "groupSet" "[I" ∈ Tg := tg_t 557 (by decide +kernel) (by decide +kernel)
theorem q_446 : Cond.fieldLink R_M 17 "OrderTreesModel" "ways" "[I" ∈ Tg := tg_t 558 (by decide +kernel) (by decide +kernel)
theorem q_447 : Cond.fieldLink R_M 20 "OrderTreesModel" "go" "[I" ∈ Tg := tg_t 559 (by decide +kernel) (by decide +kernel)
theorem q_448 : Cond.fieldLink R_M 23 "OrderTreesModel" "ends" "[I" ∈ Tg := tg_t 560 (by decide +kernel) (by decide +kernel)
theorem q_449 : Cond.fieldLink R_M 26 "OrderTreesModel" "sure" "[I" ∈ Tg := tg_t 561 (by decide +kernel) (by decide +kernel)
theorem q_450 : Cond.fieldLink R_M 156 "OrderTreesModel" "nodes" "I" ∈ Tg := tg_t 562 (by decide +kernel) (by decide +kernel)
theorem q_451 : Cond.fieldLink R_M 29 "OrderTreesModel" "nodeSet" "[I" ∈ Tg := tg_t 563 (by decide +kernel) (by decide +kernel)
theorem q_452 : Cond.fieldLink R_M 32 "OrderTreesModel" "nodeKind" "[I" ∈ Tg := tg_t 564 (by decide +kernel) (by decide +kernel)
theorem q_453 : Cond.fieldLink R_M 35 "OrderTreesModel" "nodeParts" "[I" ∈ Tg := tg_t 565 (by decide +kernel) (by decide +kernel)
theorem q_454 : Cond.fieldLink R_M 38 "OrderTreesModel" "partSet" "[I" ∈ Tg := tg_t 566 (by decide +kernel) (by decide +kernel)
theorem q_455 : Cond.fieldLink R_M 159 "OrderTreesModel" "shownMany" "I" ∈ Tg := tg_t 567 (by decide +kernel) (by decide +kernel)
theorem q_456 : Cond.fieldLink R_M 41 "OrderTreesModel" "shown" "[I" ∈ Tg := tg_t 568 (by decide +kernel) (by decide +kernel)
theorem q_457 : Cond.fieldLink R_M 44 "OrderTreesModel" "isNode" "[I" ∈ Tg := tg_t 569 (by decide +kernel) (by decide +kernel)
theorem q_458 : Cond.fieldLink R_M 47 "OrderTreesModel" "pile" "[I" ∈ Tg := tg_t 570 (by decide +kernel) (by decide +kernel)
theorem q_459 : Cond.fieldLink R_M 50 "OrderTreesModel" "wayOf" "[I" ∈ Tg := tg_t 571 (by decide +kernel) (by decide +kernel)
theorem q_460 : Cond.fieldLink R_M 53 "OrderTreesModel" "rowNow" "[I" ∈ Tg := tg_t 572 (by decide +kernel) (by decide +kernel)
theorem q_461 : Cond.fieldLink R_M 56 "OrderTreesModel" "order" "[I" ∈ Tg := tg_t 573 (by decide +kernel) (by decide +kernel)
theorem q_462 : Cond.fieldLink R_M 59 "OrderTreesModel" "since" "[I" ∈ Tg := tg_t 574 (by decide +kernel) (by decide +kernel)
theorem q_463 : Cond.fieldLink R_M 205 "OrderTreesModel" "nearest" "I" ∈ Tg := tg_t 575 (by decide +kernel) (by decide +kernel)
theorem q_464 : Cond.fieldLink R_M 208 "OrderTreesModel" "farthest" "I" ∈ Tg := tg_t 576 (by decide +kernel) (by decide +kernel)
theorem q_465 : Cond.fieldLink R_M 223 "OrderTreesModel" "typed" "I" ∈ Tg := tg_t 577 (by decide +kernel) (by decide +kernel)
theorem q_466 : Cond.fieldLink R_M 62 "OrderTreesModel" "text" "[I" ∈ Tg := tg_t 578 (by decide +kernel) (by decide +kernel)
theorem q_467 : Cond.fieldLink R_M 65 "OrderTreesModel" "isThere" "[Z" ∈ Tg := tg_t 579 (by decide +kernel) (by decide +kernel)
theorem q_468 : Cond.fieldLink R_M 69 "OrderTreesModel" "forms" "[I" ∈ Tg := tg_t 580 (by decide +kernel) (by decide +kernel)
theorem q_469 : Cond.fieldLink R_M 72 "OrderTreesModel" "sizes" "[I" ∈ Tg := tg_t 581 (by decide +kernel) (by decide +kernel)
theorem q_470 : Cond.fieldLink R_M 75 "OrderTreesModel" "items" "[I" ∈ Tg := tg_t 582 (by decide +kernel) (by decide +kernel)
theorem q_471 : Cond.fieldLink R_M 78 "OrderTreesModel" "moved" "[I" ∈ Tg := tg_t 583 (by decide +kernel) (by decide +kernel)
theorem q_472 : Cond.fieldLink R_M 248 "OrderTreesModel" "finding" "I" ∈ Tg := tg_t 584 (by decide +kernel) (by decide +kernel)
theorem q_473 : Cond.arrayClass .boolean ∈ Tg := tg_t 646 (by decide +kernel) (by decide +kernel)
theorem q_474 : Cond.methodLink "OrderTreesLaw" 17 y_M_things ∈ Tg := tg_t 647 (by decide +kernel) (by decide +kernel)
theorem q_475 : Cond.instanceMethod y_M_things ∈ Tg := tg_t 648 (by decide +kernel) (by decide +kernel)
theorem q_476 : Cond.selects R_M y_M_things y_M_things ∈ Tg := tg_t 649 (by decide +kernel) (by decide +kernel)
theorem q_477 : Cond.code y_M_things b_M_things 3 (some .int) ∈ Tg := tg_t 650 (by decide +kernel) (by decide +kernel)
theorem q_478 : Cond.methodLink R_M 85 y_M_in ∈ Tg := tg_t 651 (by decide +kernel) (by decide +kernel)
theorem q_479 : Cond.static y_M_in ∈ Tg := tg_t 652 (by decide +kernel) (by decide +kernel)
theorem q_480 : Cond.code y_M_in b_M_in 3 (some .boolean) ∈ Tg := tg_t 653 (by decide +kernel) (by decide +kernel)
theorem q_481 : Cond.methodLink "OrderTreesLaw" 21 y_M_group ∈ Tg := tg_t 654 (by decide +kernel) (by decide +kernel)
theorem q_482 : Cond.instanceMethod y_M_group ∈ Tg := tg_t 655 (by decide +kernel) (by decide +kernel)
theorem q_483 : Cond.selects R_M y_M_group y_M_group ∈ Tg := tg_t 656 (by decide +kernel) (by decide +kernel)
theorem q_484 : Cond.code y_M_group b_M_group 2 (some .int) ∈ Tg := tg_t 657 (by decide +kernel) (by decide +kernel)
theorem q_485 : Cond.methodLink R_M 100 y_M_adds ∈ Tg := tg_t 658 (by decide +kernel) (by decide +kernel)
theorem q_486 : Cond.instanceMethod y_M_adds ∈ Tg := tg_t 660 (by decide +kernel) (by decide +kernel)
theorem q_487 : Cond.code y_M_adds b_M_adds 2 (some .int) ∈ Tg := tg_t 661 (by decide +kernel) (by decide +kernel)
theorem q_488 : Cond.methodLink R_M 89 y_M_many ∈ Tg := tg_t 662 (by decide +kernel) (by decide +kernel)
theorem q_489 : Cond.static y_M_many ∈ Tg := tg_t 663 (by decide +kernel) (by decide +kernel)
theorem q_490 : Cond.code y_M_many b_M_many 3 (some .int) ∈ Tg := tg_t 664 (by decide +kernel) (by decide +kernel)
theorem q_491 : Cond.methodLink R_M 81 y_M_isIn ∈ Tg := tg_t 665 (by decide +kernel) (by decide +kernel)
theorem q_492 : Cond.static y_M_isIn ∈ Tg := tg_t 666 (by decide +kernel) (by decide +kernel)
theorem q_493 : Cond.code y_M_isIn b_M_isIn 2 (some .boolean) ∈ Tg := tg_t 667 (by decide +kernel) (by decide +kernel)
theorem q_494 : Cond.methodLink R_M 96 y_M_takenNow ∈ Tg := tg_t 668 (by decide +kernel) (by decide +kernel)
theorem q_495 : Cond.instanceMethod y_M_takenNow ∈ Tg := tg_t 670 (by decide +kernel) (by decide +kernel)
theorem q_496 : Cond.code y_M_takenNow b_M_takenNow 3 (some .int) ∈ Tg := tg_t 671 (by decide +kernel) (by decide +kernel)
theorem q_497 : Cond.methodLink R_M 117 y_M_rowsBy ∈ Tg := tg_t 672 (by decide +kernel) (by decide +kernel)
theorem q_498 : Cond.instanceMethod y_M_rowsBy ∈ Tg := tg_t 674 (by decide +kernel) (by decide +kernel)
theorem q_499 : Cond.code y_M_rowsBy b_M_rowsBy 6 (some .int) ∈ Tg := tg_t 675 (by decide +kernel) (by decide +kernel)
theorem q_500 : Cond.methodLink R_M 110 y_M_all ∈ Tg := tg_t 676 (by decide +kernel) (by decide +kernel)
theorem q_501 : Cond.instanceMethod y_M_all ∈ Tg := tg_t 678 (by decide +kernel) (by decide +kernel)
theorem q_502 : Cond.code y_M_all b_M_all 1 (some .int) ∈ Tg := tg_t 679 (by decide +kernel) (by decide +kernel)
theorem q_503 : Cond.methodLink R_M 113 y_M_nexts ∈ Tg := tg_t 680 (by decide +kernel) (by decide +kernel)
theorem q_504 : Cond.instanceMethod y_M_nexts ∈ Tg := tg_t 682 (by decide +kernel) (by decide +kernel)
theorem q_505 : Cond.code y_M_nexts b_M_nexts 9 (some .int) ∈ Tg := tg_t 683 (by decide +kernel) (by decide +kernel)
theorem q_506 : Cond.methodLink "OrderTreesLaw" 26 y_M_back ∈ Tg := tg_t 684 (by decide +kernel) (by decide +kernel)
theorem q_507 : Cond.instanceMethod y_M_back ∈ Tg := tg_t 685 (by decide +kernel) (by decide +kernel)
theorem q_508 : Cond.selects R_M y_M_back y_M_back ∈ Tg := tg_t 686 (by decide +kernel) (by decide +kernel)
theorem q_509 : Cond.code y_M_back b_M_back 1 (some .int) ∈ Tg := tg_t 687 (by decide +kernel) (by decide +kernel)
theorem q_510 : Cond.methodLink "OrderTreesLaw" 38 y_M_read ∈ Tg := tg_t 688 (by decide +kernel) (by decide +kernel)
theorem q_511 : Cond.instanceMethod y_M_read ∈ Tg := tg_t 689 (by decide +kernel) (by decide +kernel)
theorem q_512 : Cond.selects R_M y_M_read y_M_read ∈ Tg := tg_t 690 (by decide +kernel) (by decide +kernel)
theorem q_513 : Cond.code y_M_read b_M_read 3 (some .int) ∈ Tg := tg_t 691 (by decide +kernel) (by decide +kernel)
theorem q_514 : Cond.methodLink R_M 103 y_M_isSheet ∈ Tg := tg_t 692 (by decide +kernel) (by decide +kernel)
theorem q_515 : Cond.static y_M_isSheet ∈ Tg := tg_t 693 (by decide +kernel) (by decide +kernel)
theorem q_516 : Cond.code y_M_isSheet b_M_isSheet 1 (some .boolean) ∈ Tg := tg_t 694 (by decide +kernel) (by decide +kernel)
theorem q_517 : Cond.methodLink R_M 107 y_M_meets ∈ Tg := tg_t 695 (by decide +kernel) (by decide +kernel)
theorem q_518 : Cond.instanceMethod y_M_meets ∈ Tg := tg_t 697 (by decide +kernel) (by decide +kernel)
theorem q_519 : Cond.code y_M_meets b_M_meets 2 (some .int) ∈ Tg := tg_t 698 (by decide +kernel) (by decide +kernel)
theorem q_520 : Cond.methodLink "OrderTreesLaw" 30 y_M_taken ∈ Tg := tg_t 699 (by decide +kernel) (by decide +kernel)
theorem q_521 : Cond.instanceMethod y_M_taken ∈ Tg := tg_t 700 (by decide +kernel) (by decide +kernel)
theorem q_522 : Cond.selects R_M y_M_taken y_M_taken ∈ Tg := tg_t 701 (by decide +kernel) (by decide +kernel)
theorem q_523 : Cond.code y_M_taken b_M_taken 2 (some .int) ∈ Tg := tg_t 702 (by decide +kernel) (by decide +kernel)
theorem q_524 : Cond.methodLink R_M 121 y_M_isGroup ∈ Tg := tg_t 703 (by decide +kernel) (by decide +kernel)
theorem q_525 : Cond.instanceMethod y_M_isGroup ∈ Tg := tg_t 705 (by decide +kernel) (by decide +kernel)
theorem q_526 : Cond.code y_M_isGroup b_M_isGroup 2 (some .boolean) ∈ Tg := tg_t 706 (by decide +kernel) (by decide +kernel)
theorem q_527 : Cond.methodLink "OrderTreesLaw" 34 y_M_reason ∈ Tg := tg_t 707 (by decide +kernel) (by decide +kernel)
theorem q_528 : Cond.instanceMethod y_M_reason ∈ Tg := tg_t 708 (by decide +kernel) (by decide +kernel)
theorem q_529 : Cond.selects R_M y_M_reason y_M_reason ∈ Tg := tg_t 709 (by decide +kernel) (by decide +kernel)
theorem q_530 : Cond.code y_M_reason b_M_reason 2 (some .int) ∈ Tg := tg_t 710 (by decide +kernel) (by decide +kernel)
theorem q_531 : Cond.methodLink R_M 124 y_M_reasonOf ∈ Tg := tg_t 711 (by decide +kernel) (by decide +kernel)
theorem q_532 : Cond.instanceMethod y_M_reasonOf ∈ Tg := tg_t 713 (by decide +kernel) (by decide +kernel)
theorem q_533 : Cond.code y_M_reasonOf b_M_reasonOf 6 (some .int) ∈ Tg := tg_t 714 (by decide +kernel) (by decide +kernel)
theorem q_534 : Cond.methodLink "OrderTreesLaw" 43 y_M_many_ ∈ Tg := tg_t 715 (by decide +kernel) (by decide +kernel)
theorem q_535 : Cond.instanceMethod y_M_many_ ∈ Tg := tg_t 716 (by decide +kernel) (by decide +kernel)
theorem q_536 : Cond.selects R_M y_M_many_ y_M_many_ ∈ Tg := tg_t 717 (by decide +kernel) (by decide +kernel)
theorem q_537 : Cond.code y_M_many_ b_M_many_ 1 (some .long) ∈ Tg := tg_t 718 (by decide +kernel) (by decide +kernel)
theorem q_538 : Cond.methodLink R_M 127 y_M_manyNow ∈ Tg := tg_t 719 (by decide +kernel) (by decide +kernel)
theorem q_539 : Cond.instanceMethod y_M_manyNow ∈ Tg := tg_t 721 (by decide +kernel) (by decide +kernel)
theorem q_540 : Cond.code y_M_manyNow b_M_manyNow 1 (some .int) ∈ Tg := tg_t 722 (by decide +kernel) (by decide +kernel)
theorem q_541 : Cond.methodLink "OrderTreesLaw" 47 y_M_tree ∈ Tg := tg_t 723 (by decide +kernel) (by decide +kernel)
theorem q_542 : Cond.instanceMethod y_M_tree ∈ Tg := tg_t 724 (by decide +kernel) (by decide +kernel)
theorem q_543 : Cond.selects R_M y_M_tree y_M_tree ∈ Tg := tg_t 725 (by decide +kernel) (by decide +kernel)
theorem q_544 : Cond.code y_M_tree b_M_tree 2 (some .int) ∈ Tg := tg_t 726 (by decide +kernel) (by decide +kernel)
theorem q_545 : Cond.methodLink R_M 174 y_M_treeOf ∈ Tg := tg_t 727 (by decide +kernel) (by decide +kernel)
theorem q_546 : Cond.instanceMethod y_M_treeOf ∈ Tg := tg_t 729 (by decide +kernel) (by decide +kernel)
theorem q_547 : Cond.code y_M_treeOf b_M_treeOf 2 (some .int) ∈ Tg := tg_t 730 (by decide +kernel) (by decide +kernel)
theorem q_548 : Cond.methodLink R_M 171 y_M_findsTree ∈ Tg := tg_t 731 (by decide +kernel) (by decide +kernel)
theorem q_549 : Cond.instanceMethod y_M_findsTree ∈ Tg := tg_t 733 (by decide +kernel) (by decide +kernel)
theorem q_550 : Cond.code y_M_findsTree b_M_findsTree 5 none ∈ Tg := tg_t 734 (by decide +kernel) (by decide +kernel)
theorem q_551 : Cond.methodLink R_M 162 y_M_findsStrong ∈ Tg := tg_t 735 (by decide +kernel) (by decide +kernel)
theorem q_552 : Cond.instanceMethod y_M_findsStrong ∈ Tg := tg_t 737 (by decide +kernel) (by decide +kernel)
theorem q_553 : Cond.code y_M_findsStrong b_M_findsStrong 4 none ∈ Tg := tg_t 738 (by decide +kernel) (by decide +kernel)
theorem q_554 : Cond.methodLink R_M 130 y_M_findsGo ∈ Tg := tg_t 739 (by decide +kernel) (by decide +kernel)
theorem q_555 : Cond.instanceMethod y_M_findsGo ∈ Tg := tg_t 741 (by decide +kernel) (by decide +kernel)
theorem q_556 : Cond.code y_M_findsGo b_M_findsGo 5 none ∈ Tg := tg_t 742 (by decide +kernel) (by decide +kernel)
theorem q_557 : Cond.methodLink R_M 133 y_M_isSure ∈ Tg := tg_t 743 (by decide +kernel) (by decide +kernel)
theorem q_558 : Cond.instanceMethod y_M_isSure ∈ Tg := tg_t 745 (by decide +kernel) (by decide +kernel)
theorem q_559 : Cond.code y_M_isSure b_M_isSure 4 (some .boolean) ∈ Tg := tg_t 746 (by decide +kernel) (by decide +kernel)
theorem q_560 : Cond.methodLink R_M 136 y_M_areCrossing ∈ Tg := tg_t 747 (by decide +kernel) (by decide +kernel)
theorem q_561 : Cond.static y_M_areCrossing ∈ Tg := tg_t 748 (by decide +kernel) (by decide +kernel)
theorem q_562 : Cond.code y_M_areCrossing b_M_areCrossing 2 (some .boolean) ∈ Tg := tg_t 749 (by decide +kernel) (by decide +kernel)
theorem q_563 : Cond.methodLink R_M 165 y_M_shows ∈ Tg := tg_t 750 (by decide +kernel) (by decide +kernel)
theorem q_564 : Cond.instanceMethod y_M_shows ∈ Tg := tg_t 752 (by decide +kernel) (by decide +kernel)
theorem q_565 : Cond.code y_M_shows b_M_shows 2 none ∈ Tg := tg_t 753 (by decide +kernel) (by decide +kernel)
theorem q_566 : Cond.methodLink R_M 142 y_M_least ∈ Tg := tg_t 754 (by decide +kernel) (by decide +kernel)
theorem q_567 : Cond.static y_M_least ∈ Tg := tg_t 755 (by decide +kernel) (by decide +kernel)
theorem q_568 : Cond.code y_M_least b_M_least 2 (some .int) ∈ Tg := tg_t 756 (by decide +kernel) (by decide +kernel)
theorem q_569 : Cond.methodLink R_M 168 y_M_findsParts ∈ Tg := tg_t 757 (by decide +kernel) (by decide +kernel)
theorem q_570 : Cond.instanceMethod y_M_findsParts ∈ Tg := tg_t 759 (by decide +kernel) (by decide +kernel)
theorem q_571 : Cond.code y_M_findsParts b_M_findsParts 6 none ∈ Tg := tg_t 760 (by decide +kernel) (by decide +kernel)
theorem q_572 : Cond.methodLink R_M 139 y_M_partWith ∈ Tg := tg_t 761 (by decide +kernel) (by decide +kernel)
theorem q_573 : Cond.instanceMethod y_M_partWith ∈ Tg := tg_t 763 (by decide +kernel) (by decide +kernel)
theorem q_574 : Cond.code y_M_partWith b_M_partWith 6 (some .int) ∈ Tg := tg_t 764 (by decide +kernel) (by decide +kernel)
theorem q_575 : Cond.methodLink R_M 145 y_M_turnsRight ∈ Tg := tg_t 765 (by decide +kernel) (by decide +kernel)
theorem q_576 : Cond.instanceMethod y_M_turnsRight ∈ Tg := tg_t 767 (by decide +kernel) (by decide +kernel)
theorem q_577 : Cond.code y_M_turnsRight b_M_turnsRight 8 none ∈ Tg := tg_t 768 (by decide +kernel) (by decide +kernel)
theorem q_578 : Cond.methodLink R_M 149 y_M_areBeside ∈ Tg := tg_t 769 (by decide +kernel) (by decide +kernel)
theorem q_579 : Cond.instanceMethod y_M_areBeside ∈ Tg := tg_t 771 (by decide +kernel) (by decide +kernel)
theorem q_580 : Cond.code y_M_areBeside b_M_areBeside 3 (some .boolean) ∈ Tg := tg_t 772 (by decide +kernel) (by decide +kernel)
theorem q_581 : Cond.methodLink R_M 152 y_M_swaps ∈ Tg := tg_t 773 (by decide +kernel) (by decide +kernel)
theorem q_582 : Cond.instanceMethod y_M_swaps ∈ Tg := tg_t 775 (by decide +kernel) (by decide +kernel)
theorem q_583 : Cond.code y_M_swaps b_M_swaps 4 none ∈ Tg := tg_t 776 (by decide +kernel) (by decide +kernel)
theorem q_584 : Cond.methodLink "OrderTreesLaw" 52 y_M_node ∈ Tg := tg_t 777 (by decide +kernel) (by decide +kernel)
theorem q_585 : Cond.instanceMethod y_M_node ∈ Tg := tg_t 778 (by decide +kernel) (by decide +kernel)
theorem q_586 : Cond.selects R_M y_M_node y_M_node ∈ Tg := tg_t 779 (by decide +kernel) (by decide +kernel)
theorem q_587 : Cond.code y_M_node b_M_node 3 (some .int) ∈ Tg := tg_t 780 (by decide +kernel) (by decide +kernel)
theorem q_588 : Cond.methodLink R_M 177 y_M_nodeFor ∈ Tg := tg_t 781 (by decide +kernel) (by decide +kernel)
theorem q_589 : Cond.instanceMethod y_M_nodeFor ∈ Tg := tg_t 783 (by decide +kernel) (by decide +kernel)
theorem q_590 : Cond.code y_M_nodeFor b_M_nodeFor 3 (some .int) ∈ Tg := tg_t 784 (by decide +kernel) (by decide +kernel)
theorem q_591 : Cond.methodLink "OrderTreesLaw" 56 y_M_row ∈ Tg := tg_t 785 (by decide +kernel) (by decide +kernel)
theorem q_592 : Cond.instanceMethod y_M_row ∈ Tg := tg_t 786 (by decide +kernel) (by decide +kernel)
theorem q_593 : Cond.selects R_M y_M_row y_M_row ∈ Tg := tg_t 787 (by decide +kernel) (by decide +kernel)
theorem q_594 : Cond.code y_M_row b_M_row 3 (some .int) ∈ Tg := tg_t 788 (by decide +kernel) (by decide +kernel)
theorem q_595 : Cond.constant R_M 195 (40319) ∈ Tg := tg_t 789 (by decide +kernel) (by decide +kernel)
theorem q_596 : Cond.methodLink R_M 196 y_M_rowOf ∈ Tg := tg_t 790 (by decide +kernel) (by decide +kernel)
theorem q_597 : Cond.instanceMethod y_M_rowOf ∈ Tg := tg_t 792 (by decide +kernel) (by decide +kernel)
theorem q_598 : Cond.code y_M_rowOf b_M_rowOf 3 (some .int) ∈ Tg := tg_t 793 (by decide +kernel) (by decide +kernel)
theorem q_599 : Cond.methodLink R_M 192 y_M_findsRow ∈ Tg := tg_t 794 (by decide +kernel) (by decide +kernel)
theorem q_600 : Cond.instanceMethod y_M_findsRow ∈ Tg := tg_t 796 (by decide +kernel) (by decide +kernel)
theorem q_601 : Cond.code y_M_findsRow b_M_findsRow 8 none ∈ Tg := tg_t 797 (by decide +kernel) (by decide +kernel)
theorem q_602 : Cond.methodLink R_M 183 y_M_waysAt ∈ Tg := tg_t 798 (by decide +kernel) (by decide +kernel)
theorem q_603 : Cond.instanceMethod y_M_waysAt ∈ Tg := tg_t 800 (by decide +kernel) (by decide +kernel)
theorem q_604 : Cond.code y_M_waysAt b_M_waysAt 2 (some .int) ∈ Tg := tg_t 801 (by decide +kernel) (by decide +kernel)
theorem q_605 : Cond.methodLink R_M 180 y_M_factorial ∈ Tg := tg_t 802 (by decide +kernel) (by decide +kernel)
theorem q_606 : Cond.static y_M_factorial ∈ Tg := tg_t 803 (by decide +kernel) (by decide +kernel)
theorem q_607 : Cond.code y_M_factorial b_M_factorial 3 (some .int) ∈ Tg := tg_t 804 (by decide +kernel) (by decide +kernel)
theorem q_608 : Cond.methodLink R_M 186 y_M_nodeOf ∈ Tg := tg_t 805 (by decide +kernel) (by decide +kernel)
theorem q_609 : Cond.instanceMethod y_M_nodeOf ∈ Tg := tg_t 807 (by decide +kernel) (by decide +kernel)
theorem q_610 : Cond.code y_M_nodeOf b_M_nodeOf 4 (some .int) ∈ Tg := tg_t 808 (by decide +kernel) (by decide +kernel)
theorem q_611 : Cond.methodLink R_M 189 y_M_orders ∈ Tg := tg_t 809 (by decide +kernel) (by decide +kernel)
theorem q_612 : Cond.instanceMethod y_M_orders ∈ Tg := tg_t 811 (by decide +kernel) (by decide +kernel)
theorem q_613 : Cond.code y_M_orders b_M_orders 9 none ∈ Tg := tg_t 812 (by decide +kernel) (by decide +kernel)
theorem q_614 : Cond.methodLink "OrderTreesLaw" 60 y_M_may ∈ Tg := tg_t 813 (by decide +kernel) (by decide +kernel)
theorem q_615 : Cond.instanceMethod y_M_may ∈ Tg := tg_t 814 (by decide +kernel) (by decide +kernel)
theorem q_616 : Cond.selects R_M y_M_may y_M_may ∈ Tg := tg_t 815 (by decide +kernel) (by decide +kernel)
theorem q_617 : Cond.code y_M_may b_M_may 2 (some .int) ∈ Tg := tg_t 816 (by decide +kernel) (by decide +kernel)
theorem q_618 : Cond.methodLink R_M 199 y_M_isSet ∈ Tg := tg_t 817 (by decide +kernel) (by decide +kernel)
theorem q_619 : Cond.instanceMethod y_M_isSet ∈ Tg := tg_t 819 (by decide +kernel) (by decide +kernel)
theorem q_620 : Cond.code y_M_isSet b_M_isSet 2 (some .boolean) ∈ Tg := tg_t 820 (by decide +kernel) (by decide +kernel)
theorem q_621 : Cond.methodLink "OrderTreesLaw" 64 y_M_must ∈ Tg := tg_t 821 (by decide +kernel) (by decide +kernel)
theorem q_622 : Cond.instanceMethod y_M_must ∈ Tg := tg_t 822 (by decide +kernel) (by decide +kernel)
theorem q_623 : Cond.selects R_M y_M_must y_M_must ∈ Tg := tg_t 823 (by decide +kernel) (by decide +kernel)
theorem q_624 : Cond.code y_M_must b_M_must 2 (some .int) ∈ Tg := tg_t 824 (by decide +kernel) (by decide +kernel)
theorem q_625 : Cond.methodLink R_M 202 y_M_mustOf ∈ Tg := tg_t 825 (by decide +kernel) (by decide +kernel)
theorem q_626 : Cond.instanceMethod y_M_mustOf ∈ Tg := tg_t 827 (by decide +kernel) (by decide +kernel)
theorem q_627 : Cond.code y_M_mustOf b_M_mustOf 4 (some .int) ∈ Tg := tg_t 828 (by decide +kernel) (by decide +kernel)
theorem q_628 : Cond.methodLink "OrderTreesLaw" 69 y_M_apart ∈ Tg := tg_t 829 (by decide +kernel) (by decide +kernel)
theorem q_629 : Cond.instanceMethod y_M_apart ∈ Tg := tg_t 830 (by decide +kernel) (by decide +kernel)
theorem q_630 : Cond.selects R_M y_M_apart y_M_apart ∈ Tg := tg_t 831 (by decide +kernel) (by decide +kernel)
theorem q_631 : Cond.code y_M_apart b_M_apart 4 (some .int) ∈ Tg := tg_t 832 (by decide +kernel) (by decide +kernel)
theorem q_632 : Cond.methodLink R_M 214 y_M_isThing ∈ Tg := tg_t 833 (by decide +kernel) (by decide +kernel)
theorem q_633 : Cond.instanceMethod y_M_isThing ∈ Tg := tg_t 835 (by decide +kernel) (by decide +kernel)
theorem q_634 : Cond.code y_M_isThing b_M_isThing 2 (some .boolean) ∈ Tg := tg_t 836 (by decide +kernel) (by decide +kernel)
theorem q_635 : Cond.methodLink R_M 217 y_M_apartOf ∈ Tg := tg_t 837 (by decide +kernel) (by decide +kernel)
theorem q_636 : Cond.instanceMethod y_M_apartOf ∈ Tg := tg_t 839 (by decide +kernel) (by decide +kernel)
theorem q_637 : Cond.code y_M_apartOf b_M_apartOf 4 (some .int) ∈ Tg := tg_t 840 (by decide +kernel) (by decide +kernel)
theorem q_638 : Cond.methodLink R_M 211 y_M_spansFrom ∈ Tg := tg_t 841 (by decide +kernel) (by decide +kernel)
theorem q_639 : Cond.instanceMethod y_M_spansFrom ∈ Tg := tg_t 843 (by decide +kernel) (by decide +kernel)
theorem q_640 : Cond.code y_M_spansFrom b_M_spansFrom 7 none ∈ Tg := tg_t 844 (by decide +kernel) (by decide +kernel)
theorem q_641 : Cond.methodLink "OrderTreesLaw" 73 y_M_spare ∈ Tg := tg_t 845 (by decide +kernel) (by decide +kernel)
theorem q_642 : Cond.instanceMethod y_M_spare ∈ Tg := tg_t 846 (by decide +kernel) (by decide +kernel)
theorem q_643 : Cond.selects R_M y_M_spare y_M_spare ∈ Tg := tg_t 847 (by decide +kernel) (by decide +kernel)
theorem q_644 : Cond.code y_M_spare b_M_spare 1 (some .int) ∈ Tg := tg_t 848 (by decide +kernel) (by decide +kernel)
theorem q_645 : Cond.methodLink R_M 220 y_M_spareOf ∈ Tg := tg_t 849 (by decide +kernel) (by decide +kernel)
theorem q_646 : Cond.instanceMethod y_M_spareOf ∈ Tg := tg_t 851 (by decide +kernel) (by decide +kernel)
theorem q_647 : Cond.code y_M_spareOf b_M_spareOf 5 (some .int) ∈ Tg := tg_t 852 (by decide +kernel) (by decide +kernel)
theorem q_648 : Cond.methodLink "OrderTreesLaw" 77 y_M_type ∈ Tg := tg_t 853 (by decide +kernel) (by decide +kernel)
theorem q_649 : Cond.instanceMethod y_M_type ∈ Tg := tg_t 854 (by decide +kernel) (by decide +kernel)
theorem q_650 : Cond.selects R_M y_M_type y_M_type ∈ Tg := tg_t 855 (by decide +kernel) (by decide +kernel)
theorem q_651 : Cond.code y_M_type b_M_type 2 (some .int) ∈ Tg := tg_t 856 (by decide +kernel) (by decide +kernel)
theorem q_652 : Cond.methodLink "OrderTreesLaw" 81 y_M_wipe ∈ Tg := tg_t 857 (by decide +kernel) (by decide +kernel)
theorem q_653 : Cond.instanceMethod y_M_wipe ∈ Tg := tg_t 858 (by decide +kernel) (by decide +kernel)
theorem q_654 : Cond.selects R_M y_M_wipe y_M_wipe ∈ Tg := tg_t 859 (by decide +kernel) (by decide +kernel)
theorem q_655 : Cond.code y_M_wipe b_M_wipe 2 (some .int) ∈ Tg := tg_t 860 (by decide +kernel) (by decide +kernel)
theorem q_656 : Cond.methodLink "OrderTreesLaw" 85 y_M_undo ∈ Tg := tg_t 861 (by decide +kernel) (by decide +kernel)
theorem q_657 : Cond.instanceMethod y_M_undo ∈ Tg := tg_t 862 (by decide +kernel) (by decide +kernel)
theorem q_658 : Cond.selects R_M y_M_undo y_M_undo ∈ Tg := tg_t 863 (by decide +kernel) (by decide +kernel)
theorem q_659 : Cond.code y_M_undo b_M_undo 1 (some .int) ∈ Tg := tg_t 864 (by decide +kernel) (by decide +kernel)
theorem q_660 : Cond.methodLink "OrderTreesLaw" 89 y_M_fault ∈ Tg := tg_t 865 (by decide +kernel) (by decide +kernel)
theorem q_661 : Cond.instanceMethod y_M_fault ∈ Tg := tg_t 866 (by decide +kernel) (by decide +kernel)
theorem q_662 : Cond.selects R_M y_M_fault y_M_fault ∈ Tg := tg_t 867 (by decide +kernel) (by decide +kernel)
theorem q_663 : Cond.code y_M_fault b_M_fault 1 (some .int) ∈ Tg := tg_t 868 (by decide +kernel) (by decide +kernel)
theorem q_664 : Cond.methodLink R_M 226 y_M_faultOf ∈ Tg := tg_t 869 (by decide +kernel) (by decide +kernel)
theorem q_665 : Cond.instanceMethod y_M_faultOf ∈ Tg := tg_t 871 (by decide +kernel) (by decide +kernel)
theorem q_666 : Cond.code y_M_faultOf b_M_faultOf 4 (some .int) ∈ Tg := tg_t 872 (by decide +kernel) (by decide +kernel)
theorem q_667 : Cond.methodLink "OrderTreesLaw" 93 y_M_misses ∈ Tg := tg_t 873 (by decide +kernel) (by decide +kernel)
theorem q_668 : Cond.instanceMethod y_M_misses ∈ Tg := tg_t 874 (by decide +kernel) (by decide +kernel)
theorem q_669 : Cond.selects R_M y_M_misses y_M_misses ∈ Tg := tg_t 875 (by decide +kernel) (by decide +kernel)
theorem q_670 : Cond.code y_M_misses b_M_misses 1 (some .int) ∈ Tg := tg_t 876 (by decide +kernel) (by decide +kernel)
theorem q_671 : Cond.methodLink R_M 232 y_M_isRow ∈ Tg := tg_t 877 (by decide +kernel) (by decide +kernel)
theorem q_672 : Cond.instanceMethod y_M_isRow ∈ Tg := tg_t 879 (by decide +kernel) (by decide +kernel)
theorem q_673 : Cond.code y_M_isRow b_M_isRow 1 (some .boolean) ∈ Tg := tg_t 880 (by decide +kernel) (by decide +kernel)
theorem q_674 : Cond.methodLink R_M 236 y_M_missesOf ∈ Tg := tg_t 881 (by decide +kernel) (by decide +kernel)
theorem q_675 : Cond.instanceMethod y_M_missesOf ∈ Tg := tg_t 883 (by decide +kernel) (by decide +kernel)
theorem q_676 : Cond.code y_M_missesOf b_M_missesOf 3 (some .int) ∈ Tg := tg_t 884 (by decide +kernel) (by decide +kernel)
theorem q_677 : Cond.methodLink R_M 229 y_M_isHad ∈ Tg := tg_t 885 (by decide +kernel) (by decide +kernel)
theorem q_678 : Cond.instanceMethod y_M_isHad ∈ Tg := tg_t 887 (by decide +kernel) (by decide +kernel)
theorem q_679 : Cond.code y_M_isHad b_M_isHad 7 (some .boolean) ∈ Tg := tg_t 888 (by decide +kernel) (by decide +kernel)
theorem q_680 : Cond.methodLink "OrderTreesLaw" 97 y_M_number ∈ Tg := tg_t 889 (by decide +kernel) (by decide +kernel)
theorem q_681 : Cond.instanceMethod y_M_number ∈ Tg := tg_t 890 (by decide +kernel) (by decide +kernel)
theorem q_682 : Cond.selects R_M y_M_number y_M_number ∈ Tg := tg_t 891 (by decide +kernel) (by decide +kernel)
theorem q_683 : Cond.code y_M_number b_M_number 1 (some .int) ∈ Tg := tg_t 892 (by decide +kernel) (by decide +kernel)
theorem q_684 : Cond.methodLink R_M 245 y_M_numberOf ∈ Tg := tg_t 893 (by decide +kernel) (by decide +kernel)
theorem q_685 : Cond.instanceMethod y_M_numberOf ∈ Tg := tg_t 895 (by decide +kernel) (by decide +kernel)
theorem q_686 : Cond.code y_M_numberOf b_M_numberOf 3 (some .int) ∈ Tg := tg_t 896 (by decide +kernel) (by decide +kernel)
theorem q_687 : Cond.methodLink R_M 242 y_M_wayTold ∈ Tg := tg_t 897 (by decide +kernel) (by decide +kernel)
theorem q_688 : Cond.instanceMethod y_M_wayTold ∈ Tg := tg_t 899 (by decide +kernel) (by decide +kernel)
theorem q_689 : Cond.code y_M_wayTold b_M_wayTold 10 (some .int) ∈ Tg := tg_t 900 (by decide +kernel) (by decide +kernel)
theorem q_690 : Cond.methodLink R_M 239 y_M_placeOf ∈ Tg := tg_t 901 (by decide +kernel) (by decide +kernel)
theorem q_691 : Cond.instanceMethod y_M_placeOf ∈ Tg := tg_t 903 (by decide +kernel) (by decide +kernel)
theorem q_692 : Cond.code y_M_placeOf b_M_placeOf 3 (some .int) ∈ Tg := tg_t 904 (by decide +kernel) (by decide +kernel)
theorem q_693 : Cond.methodLink "OrderTreesLaw" 101 y_M_sheet ∈ Tg := tg_t 905 (by decide +kernel) (by decide +kernel)
theorem q_694 : Cond.instanceMethod y_M_sheet ∈ Tg := tg_t 906 (by decide +kernel) (by decide +kernel)
theorem q_695 : Cond.selects R_M y_M_sheet y_M_sheet ∈ Tg := tg_t 907 (by decide +kernel) (by decide +kernel)
theorem q_696 : Cond.code y_M_sheet b_M_sheet 5 (some .int) ∈ Tg := tg_t 908 (by decide +kernel) (by decide +kernel)
theorem q_697 : Cond.methodLink "OrderTreesLaw" 105 y_M_lose ∈ Tg := tg_t 909 (by decide +kernel) (by decide +kernel)
theorem q_698 : Cond.instanceMethod y_M_lose ∈ Tg := tg_t 910 (by decide +kernel) (by decide +kernel)
theorem q_699 : Cond.selects R_M y_M_lose y_M_lose ∈ Tg := tg_t 911 (by decide +kernel) (by decide +kernel)
theorem q_700 : Cond.code y_M_lose b_M_lose 2 (some .int) ∈ Tg := tg_t 912 (by decide +kernel) (by decide +kernel)
theorem q_701 : Cond.methodLink "OrderTreesLaw" 110 y_M_put ∈ Tg := tg_t 913 (by decide +kernel) (by decide +kernel)
theorem q_702 : Cond.instanceMethod y_M_put ∈ Tg := tg_t 914 (by decide +kernel) (by decide +kernel)
theorem q_703 : Cond.selects R_M y_M_put y_M_put ∈ Tg := tg_t 915 (by decide +kernel) (by decide +kernel)
theorem q_704 : Cond.code y_M_put b_M_put 6 (some .int) ∈ Tg := tg_t 916 (by decide +kernel) (by decide +kernel)
theorem q_705 : Cond.methodLink R_M 251 y_M_lacks ∈ Tg := tg_t 917 (by decide +kernel) (by decide +kernel)
theorem q_706 : Cond.instanceMethod y_M_lacks ∈ Tg := tg_t 919 (by decide +kernel) (by decide +kernel)
theorem q_707 : Cond.code y_M_lacks b_M_lacks 4 (some .int) ∈ Tg := tg_t 920 (by decide +kernel) (by decide +kernel)
theorem q_708 : Cond.methodLink R_M 254 y_M_keep ∈ Tg := tg_t 921 (by decide +kernel) (by decide +kernel)
theorem q_709 : Cond.instanceMethod y_M_keep ∈ Tg := tg_t 923 (by decide +kernel) (by decide +kernel)
theorem q_710 : Cond.code y_M_keep b_M_keep 4 none ∈ Tg := tg_t 924 (by decide +kernel) (by decide +kernel)
theorem q_711 : Cond.methodLink "OrderTreesLaw" 114 y_M_get ∈ Tg := tg_t 925 (by decide +kernel) (by decide +kernel)
theorem q_712 : Cond.instanceMethod y_M_get ∈ Tg := tg_t 926 (by decide +kernel) (by decide +kernel)
theorem q_713 : Cond.selects R_M y_M_get y_M_get ∈ Tg := tg_t 927 (by decide +kernel) (by decide +kernel)
theorem q_714 : Cond.code y_M_get b_M_get 5 (some .int) ∈ Tg := tg_t 928 (by decide +kernel) (by decide +kernel)
theorem q_715 : Cond.constant R_M 258 (-2147483648) ∈ Tg := tg_t 929 (by decide +kernel) (by decide +kernel)
theorem q_716 : Cond.methodLink "OrderTreesLaw" 119 y_M_copy ∈ Tg := tg_t 930 (by decide +kernel) (by decide +kernel)
theorem q_717 : Cond.instanceMethod y_M_copy ∈ Tg := tg_t 931 (by decide +kernel) (by decide +kernel)
theorem q_718 : Cond.selects R_M y_M_copy y_M_copy ∈ Tg := tg_t 932 (by decide +kernel) (by decide +kernel)
theorem q_719 : Cond.code y_M_copy b_M_copy 7 (some .int) ∈ Tg := tg_t 933 (by decide +kernel) (by decide +kernel)
theorem q_720 : Cond.methodLink "OrderTreesLaw" 123 y_M_write ∈ Tg := tg_t 934 (by decide +kernel) (by decide +kernel)
theorem q_721 : Cond.instanceMethod y_M_write ∈ Tg := tg_t 935 (by decide +kernel) (by decide +kernel)
theorem q_722 : Cond.selects R_M y_M_write y_M_write ∈ Tg := tg_t 936 (by decide +kernel) (by decide +kernel)
theorem q_723 : Cond.code y_M_write b_M_write 4 (some .int) ∈ Tg := tg_t 937 (by decide +kernel) (by decide +kernel)
theorem q_724 : Cond.methodLink "OrderTreesLaw" 127 y_M_count ∈ Tg := tg_t 938 (by decide +kernel) (by decide +kernel)
theorem q_725 : Cond.instanceMethod y_M_count ∈ Tg := tg_t 939 (by decide +kernel) (by decide +kernel)
theorem q_726 : Cond.selects R_M y_M_count y_M_count ∈ Tg := tg_t 940 (by decide +kernel) (by decide +kernel)
theorem q_727 : Cond.code y_M_count b_M_count 2 (some .int) ∈ Tg := tg_t 941 (by decide +kernel) (by decide +kernel)
theorem q_728 : Cond.methodLink R_M 259 y_M_takenMany ∈ Tg := tg_t 942 (by decide +kernel) (by decide +kernel)
theorem q_729 : Cond.instanceMethod y_M_takenMany ∈ Tg := tg_t 944 (by decide +kernel) (by decide +kernel)
theorem q_730 : Cond.code y_M_takenMany b_M_takenMany 4 (some .int) ∈ Tg := tg_t 945 (by decide +kernel) (by decide +kernel)
theorem q_731 : Cond.methodLink R_M 262 y_M_nodesOf ∈ Tg := tg_t 946 (by decide +kernel) (by decide +kernel)
theorem q_732 : Cond.instanceMethod y_M_nodesOf ∈ Tg := tg_t 948 (by decide +kernel) (by decide +kernel)
theorem q_733 : Cond.code y_M_nodesOf b_M_nodesOf 4 (some .int) ∈ Tg := tg_t 949 (by decide +kernel) (by decide +kernel)
theorem q_734 : Cond.methodLink "OrderTreesLaw" 131 y_M_digest ∈ Tg := tg_t 950 (by decide +kernel) (by decide +kernel)
theorem q_735 : Cond.instanceMethod y_M_digest ∈ Tg := tg_t 951 (by decide +kernel) (by decide +kernel)
theorem q_736 : Cond.selects R_M y_M_digest y_M_digest ∈ Tg := tg_t 952 (by decide +kernel) (by decide +kernel)
theorem q_737 : Cond.code y_M_digest b_M_digest 5 (some .long) ∈ Tg := tg_t 953 (by decide +kernel) (by decide +kernel)
theorem q_738 : Cond.constantLong R_M 274 (17) ∈ Tg := tg_t 954 (by decide +kernel) (by decide +kernel)
theorem q_739 : Cond.constantLong R_M 266 (31) ∈ Tg := tg_t 955 (by decide +kernel) (by decide +kernel)
theorem q_740 : Cond.methodLink R_M 276 y_M_count ∈ Tg := tg_t 956 (by decide +kernel) (by decide +kernel)
theorem q_741 : Cond.methodLink R_M 279 y_M_taken ∈ Tg := tg_t 957 (by decide +kernel) (by decide +kernel)
theorem q_742 : Cond.methodLink R_M 282 y_M_reason ∈ Tg := tg_t 958 (by decide +kernel) (by decide +kernel)
theorem q_743 : Cond.methodLink R_M 285 y_M_rowDigest ∈ Tg := tg_t 959 (by decide +kernel) (by decide +kernel)
theorem q_744 : Cond.instanceMethod y_M_rowDigest ∈ Tg := tg_t 961 (by decide +kernel) (by decide +kernel)
theorem q_745 : Cond.code y_M_rowDigest b_M_rowDigest 7 (some .long) ∈ Tg := tg_t 962 (by decide +kernel) (by decide +kernel)
theorem q_746 : Cond.methodLink R_M 289 y_M_setDigest ∈ Tg := tg_t 963 (by decide +kernel) (by decide +kernel)
theorem q_747 : Cond.instanceMethod y_M_setDigest ∈ Tg := tg_t 965 (by decide +kernel) (by decide +kernel)
theorem q_748 : Cond.code y_M_setDigest b_M_setDigest 6 (some .long) ∈ Tg := tg_t 966 (by decide +kernel) (by decide +kernel)
theorem q_749 : Cond.methodLink R_M 268 y_M_may ∈ Tg := tg_t 967 (by decide +kernel) (by decide +kernel)
theorem q_750 : Cond.methodLink R_M 271 y_M_must ∈ Tg := tg_t 968 (by decide +kernel) (by decide +kernel)
theorem q_751 : Cond.methodLink R_M 292 y_M_apart ∈ Tg := tg_t 969 (by decide +kernel) (by decide +kernel)
theorem q_752 : Cond.methodLink R_M 295 y_M_misses ∈ Tg := tg_t 970 (by decide +kernel) (by decide +kernel)
theorem q_753 : Cond.methodLink R_M 298 y_M_number ∈ Tg := tg_t 971 (by decide +kernel) (by decide +kernel)
theorem q_754 : Cond.selects R_O y_O_drawAll y_O_drawAll ∈ Tg := tg_s 0 (by decide +kernel) (by decide +kernel)
theorem q_755 : Cond.selects R_T y_T_clear y_T_clear ∈ Tg := tg_s 1 (by decide +kernel) (by decide +kernel)
theorem q_756 : Cond.selects R_T y_T_add y_T_add ∈ Tg := tg_s 2 (by decide +kernel) (by decide +kernel)
theorem q_757 : Cond.selects R_O y_O_takeGroup y_O_takeGroup ∈ Tg := tg_s 3 (by decide +kernel) (by decide +kernel)
theorem q_758 : Cond.selects R_T y_T_order y_T_order ∈ Tg := tg_s 4 (by decide +kernel) (by decide +kernel)
theorem q_759 : Cond.selects R_T y_T_part y_T_part ∈ Tg := tg_s 5 (by decide +kernel) (by decide +kernel)
theorem q_760 : Cond.selects R_T y_T_least y_T_least ∈ Tg := tg_s 6 (by decide +kernel) (by decide +kernel)
theorem q_761 : Cond.selects R_T y_T_setPart y_T_setPart ∈ Tg := tg_s 7 (by decide +kernel) (by decide +kernel)
theorem q_762 : Cond.selects R_T y_T_lowestWith y_T_lowestWith ∈ Tg := tg_s 8 (by decide +kernel) (by decide +kernel)
theorem q_763 : Cond.selects R_T y_T_stateOf y_T_stateOf ∈ Tg := tg_s 9 (by decide +kernel) (by decide +kernel)
theorem q_764 : Cond.selects R_T y_T_reduceFree y_T_reduceFree ∈ Tg := tg_s 10 (by decide +kernel) (by decide +kernel)
theorem q_765 : Cond.selects R_T y_T_partIn y_T_partIn ∈ Tg := tg_s 11 (by decide +kernel) (by decide +kernel)
theorem q_766 : Cond.selects R_T y_T_splitToLine y_T_splitToLine ∈ Tg := tg_s 12 (by decide +kernel) (by decide +kernel)
theorem q_767 : Cond.selects R_T y_T_bundle y_T_bundle ∈ Tg := tg_s 13 (by decide +kernel) (by decide +kernel)
theorem q_768 : Cond.selects R_T y_T_unusedNode y_T_unusedNode ∈ Tg := tg_s 14 (by decide +kernel) (by decide +kernel)
theorem q_769 : Cond.selects R_T y_T_append y_T_append ∈ Tg := tg_s 15 (by decide +kernel) (by decide +kernel)
theorem q_770 : Cond.selects R_T y_T_hold y_T_hold ∈ Tg := tg_s 16 (by decide +kernel) (by decide +kernel)
theorem q_771 : Cond.selects R_T y_T_splitTurning y_T_splitTurning ∈ Tg := tg_s 17 (by decide +kernel) (by decide +kernel)
theorem q_772 : Cond.selects R_T y_T_markSplit y_T_markSplit ∈ Tg := tg_s 18 (by decide +kernel) (by decide +kernel)
theorem q_773 : Cond.selects R_T y_T_keepEmpty y_T_keepEmpty ∈ Tg := tg_s 19 (by decide +kernel) (by decide +kernel)
theorem q_774 : Cond.selects R_T y_T_fillFromLine y_T_fillFromLine ∈ Tg := tg_s 20 (by decide +kernel) (by decide +kernel)
theorem q_775 : Cond.selects R_T y_T_reduceTurning y_T_reduceTurning ∈ Tg := tg_s 21 (by decide +kernel) (by decide +kernel)
theorem q_776 : Cond.selects R_T y_T_giveBackSplit y_T_giveBackSplit ∈ Tg := tg_s 22 (by decide +kernel) (by decide +kernel)
theorem q_777 : Cond.selects R_O y_O_isGroup y_O_isGroup ∈ Tg := tg_s 23 (by decide +kernel) (by decide +kernel)
theorem q_778 : Cond.selects R_O y_O_isTaken y_O_isTaken ∈ Tg := tg_s 24 (by decide +kernel) (by decide +kernel)
theorem q_779 : Cond.selects R_O y_O_found y_O_found ∈ Tg := tg_s 25 (by decide +kernel) (by decide +kernel)
theorem q_780 : Cond.selects R_T y_T_ways y_T_ways ∈ Tg := tg_s 26 (by decide +kernel) (by decide +kernel)
theorem q_781 : Cond.selects R_T y_T_layParts y_T_layParts ∈ Tg := tg_s 27 (by decide +kernel) (by decide +kernel)
theorem q_782 : Cond.selects R_O y_O_isSetOfThings y_O_isSetOfThings ∈ Tg := tg_s 28 (by decide +kernel) (by decide +kernel)
theorem q_783 : Cond.selects R_O y_O_isThing y_O_isThing ∈ Tg := tg_s 29 (by decide +kernel) (by decide +kernel)
theorem q_784 : Cond.selects R_T y_T_besideIn y_T_besideIn ∈ Tg := tg_s 30 (by decide +kernel) (by decide +kernel)
theorem q_785 : Cond.selects R_T y_T_betweenIn y_T_betweenIn ∈ Tg := tg_s 31 (by decide +kernel) (by decide +kernel)
theorem q_786 : Cond.selects R_O y_O_findPlaces y_O_findPlaces ∈ Tg := tg_s 32 (by decide +kernel) (by decide +kernel)
theorem q_787 : Cond.selects R_O y_O_isSideBySide y_O_isSideBySide ∈ Tg := tg_s 33 (by decide +kernel) (by decide +kernel)
theorem q_788 : Cond.selects R_T y_T_wayOf y_T_wayOf ∈ Tg := tg_s 34 (by decide +kernel) (by decide +kernel)
theorem q_789 : Cond.selects R_T y_T_leastThing y_T_leastThing ∈ Tg := tg_s 35 (by decide +kernel) (by decide +kernel)
theorem q_790 : Cond.selects R_O y_O_findingOf y_O_findingOf ∈ Tg := tg_s 36 (by decide +kernel) (by decide +kernel)
theorem q_791 : Cond.selects R_M y_M_adds y_M_adds ∈ Tg := tg_s 37 (by decide +kernel) (by decide +kernel)
theorem q_792 : Cond.selects R_M y_M_takenNow y_M_takenNow ∈ Tg := tg_s 38 (by decide +kernel) (by decide +kernel)
theorem q_793 : Cond.selects R_M y_M_rowsBy y_M_rowsBy ∈ Tg := tg_s 39 (by decide +kernel) (by decide +kernel)
theorem q_794 : Cond.selects R_M y_M_all y_M_all ∈ Tg := tg_s 40 (by decide +kernel) (by decide +kernel)
theorem q_795 : Cond.selects R_M y_M_nexts y_M_nexts ∈ Tg := tg_s 41 (by decide +kernel) (by decide +kernel)
theorem q_796 : Cond.selects R_M y_M_meets y_M_meets ∈ Tg := tg_s 42 (by decide +kernel) (by decide +kernel)
theorem q_797 : Cond.selects R_M y_M_isGroup y_M_isGroup ∈ Tg := tg_s 43 (by decide +kernel) (by decide +kernel)
theorem q_798 : Cond.selects R_M y_M_reasonOf y_M_reasonOf ∈ Tg := tg_s 44 (by decide +kernel) (by decide +kernel)
theorem q_799 : Cond.selects R_M y_M_manyNow y_M_manyNow ∈ Tg := tg_s 45 (by decide +kernel) (by decide +kernel)
theorem q_800 : Cond.selects R_M y_M_treeOf y_M_treeOf ∈ Tg := tg_s 46 (by decide +kernel) (by decide +kernel)
theorem q_801 : Cond.selects R_M y_M_findsTree y_M_findsTree ∈ Tg := tg_s 47 (by decide +kernel) (by decide +kernel)
theorem q_802 : Cond.selects R_M y_M_findsStrong y_M_findsStrong ∈ Tg := tg_s 48 (by decide +kernel) (by decide +kernel)
theorem q_803 : Cond.selects R_M y_M_findsGo y_M_findsGo ∈ Tg := tg_s 49 (by decide +kernel) (by decide +kernel)
theorem q_804 : Cond.selects R_M y_M_isSure y_M_isSure ∈ Tg := tg_s 50 (by decide +kernel) (by decide +kernel)
theorem q_805 : Cond.selects R_M y_M_shows y_M_shows ∈ Tg := tg_s 51 (by decide +kernel) (by decide +kernel)
theorem q_806 : Cond.selects R_M y_M_findsParts y_M_findsParts ∈ Tg := tg_s 52 (by decide +kernel) (by decide +kernel)
theorem q_807 : Cond.selects R_M y_M_partWith y_M_partWith ∈ Tg := tg_s 53 (by decide +kernel) (by decide +kernel)
theorem q_808 : Cond.selects R_M y_M_turnsRight y_M_turnsRight ∈ Tg := tg_s 54 (by decide +kernel) (by decide +kernel)
theorem q_809 : Cond.selects R_M y_M_areBeside y_M_areBeside ∈ Tg := tg_s 55 (by decide +kernel) (by decide +kernel)
theorem q_810 : Cond.selects R_M y_M_swaps y_M_swaps ∈ Tg := tg_s 56 (by decide +kernel) (by decide +kernel)
theorem q_811 : Cond.selects R_M y_M_nodeFor y_M_nodeFor ∈ Tg := tg_s 57 (by decide +kernel) (by decide +kernel)
theorem q_812 : Cond.selects R_M y_M_rowOf y_M_rowOf ∈ Tg := tg_s 58 (by decide +kernel) (by decide +kernel)
theorem q_813 : Cond.selects R_M y_M_findsRow y_M_findsRow ∈ Tg := tg_s 59 (by decide +kernel) (by decide +kernel)
theorem q_814 : Cond.selects R_M y_M_waysAt y_M_waysAt ∈ Tg := tg_s 60 (by decide +kernel) (by decide +kernel)
theorem q_815 : Cond.selects R_M y_M_nodeOf y_M_nodeOf ∈ Tg := tg_s 61 (by decide +kernel) (by decide +kernel)
theorem q_816 : Cond.selects R_M y_M_orders y_M_orders ∈ Tg := tg_s 62 (by decide +kernel) (by decide +kernel)
theorem q_817 : Cond.selects R_M y_M_isSet y_M_isSet ∈ Tg := tg_s 63 (by decide +kernel) (by decide +kernel)
theorem q_818 : Cond.selects R_M y_M_mustOf y_M_mustOf ∈ Tg := tg_s 64 (by decide +kernel) (by decide +kernel)
theorem q_819 : Cond.selects R_M y_M_isThing y_M_isThing ∈ Tg := tg_s 65 (by decide +kernel) (by decide +kernel)
theorem q_820 : Cond.selects R_M y_M_apartOf y_M_apartOf ∈ Tg := tg_s 66 (by decide +kernel) (by decide +kernel)
theorem q_821 : Cond.selects R_M y_M_spansFrom y_M_spansFrom ∈ Tg := tg_s 67 (by decide +kernel) (by decide +kernel)
theorem q_822 : Cond.selects R_M y_M_spareOf y_M_spareOf ∈ Tg := tg_s 68 (by decide +kernel) (by decide +kernel)
theorem q_823 : Cond.selects R_M y_M_faultOf y_M_faultOf ∈ Tg := tg_s 69 (by decide +kernel) (by decide +kernel)
theorem q_824 : Cond.selects R_M y_M_isRow y_M_isRow ∈ Tg := tg_s 70 (by decide +kernel) (by decide +kernel)
theorem q_825 : Cond.selects R_M y_M_missesOf y_M_missesOf ∈ Tg := tg_s 71 (by decide +kernel) (by decide +kernel)
theorem q_826 : Cond.selects R_M y_M_isHad y_M_isHad ∈ Tg := tg_s 72 (by decide +kernel) (by decide +kernel)
theorem q_827 : Cond.selects R_M y_M_numberOf y_M_numberOf ∈ Tg := tg_s 73 (by decide +kernel) (by decide +kernel)
theorem q_828 : Cond.selects R_M y_M_wayTold y_M_wayTold ∈ Tg := tg_s 74 (by decide +kernel) (by decide +kernel)
theorem q_829 : Cond.selects R_M y_M_placeOf y_M_placeOf ∈ Tg := tg_s 75 (by decide +kernel) (by decide +kernel)
theorem q_830 : Cond.selects R_M y_M_lacks y_M_lacks ∈ Tg := tg_s 76 (by decide +kernel) (by decide +kernel)
theorem q_831 : Cond.selects R_M y_M_keep y_M_keep ∈ Tg := tg_s 77 (by decide +kernel) (by decide +kernel)
theorem q_832 : Cond.selects R_M y_M_takenMany y_M_takenMany ∈ Tg := tg_s 78 (by decide +kernel) (by decide +kernel)
theorem q_833 : Cond.selects R_M y_M_nodesOf y_M_nodesOf ∈ Tg := tg_s 79 (by decide +kernel) (by decide +kernel)
theorem q_834 : Cond.selects R_M y_M_rowDigest y_M_rowDigest ∈ Tg := tg_s 80 (by decide +kernel) (by decide +kernel)
theorem q_835 : Cond.selects R_M y_M_setDigest y_M_setDigest ∈ Tg := tg_s 81 (by decide +kernel) (by decide +kernel)
theorem lw_S : ∀ z ∈ u_ws R_S F_S 3, z ∈ Tg := by
  intro z hz
  obtain ⟨k, hk, rfl⟩ := List.mem_map.mp hz
  have hk : k < 3 := List.mem_range.mp hk
  match k, hk with
  | 0, _ => exact tg_t 25 (by decide +kernel) (by decide +kernel)
  | 1, _ => exact tg_t 27 (by decide +kernel) (by decide +kernel)
  | 2, _ => exact tg_t 29 (by decide +kernel) (by decide +kernel)
  | k + 3, h => exact absurd h (by omega)
theorem lw_T : ∀ z ∈ u_ws R_T F_T 15, z ∈ Tg := by
  intro z hz
  obtain ⟨k, hk, rfl⟩ := List.mem_map.mp hz
  have hk : k < 15 := List.mem_range.mp hk
  match k, hk with
  | 0, _ => exact tg_t 54 (by decide +kernel) (by decide +kernel)
  | 1, _ => exact tg_t 56 (by decide +kernel) (by decide +kernel)
  | 2, _ => exact tg_t 58 (by decide +kernel) (by decide +kernel)
  | 3, _ => exact tg_t 60 (by decide +kernel) (by decide +kernel)
  | 4, _ => exact tg_t 62 (by decide +kernel) (by decide +kernel)
  | 5, _ => exact tg_t 64 (by decide +kernel) (by decide +kernel)
  | 6, _ => exact tg_t 66 (by decide +kernel) (by decide +kernel)
  | 7, _ => exact tg_t 68 (by decide +kernel) (by decide +kernel)
  | 8, _ => exact tg_t 70 (by decide +kernel) (by decide +kernel)
  | 9, _ => exact tg_t 72 (by decide +kernel) (by decide +kernel)
  | 10, _ => exact tg_t 74 (by decide +kernel) (by decide +kernel)
  | 11, _ => exact tg_t 76 (by decide +kernel) (by decide +kernel)
  | 12, _ => exact tg_t 78 (by decide +kernel) (by decide +kernel)
  | 13, _ => exact tg_t 80 (by decide +kernel) (by decide +kernel)
  | 14, _ => exact tg_t 82 (by decide +kernel) (by decide +kernel)
  | k + 15, h => exact absurd h (by omega)
theorem lw_O : ∀ z ∈ u_ws R_O F_O 15, z ∈ Tg := by
  intro z hz
  obtain ⟨k, hk, rfl⟩ := List.mem_map.mp hz
  have hk : k < 15 := List.mem_range.mp hk
  match k, hk with
  | 0, _ => exact tg_t 223 (by decide +kernel) (by decide +kernel)
  | 1, _ => exact tg_t 225 (by decide +kernel) (by decide +kernel)
  | 2, _ => exact tg_t 227 (by decide +kernel) (by decide +kernel)
  | 3, _ => exact tg_t 229 (by decide +kernel) (by decide +kernel)
  | 4, _ => exact tg_t 231 (by decide +kernel) (by decide +kernel)
  | 5, _ => exact tg_t 233 (by decide +kernel) (by decide +kernel)
  | 6, _ => exact tg_t 235 (by decide +kernel) (by decide +kernel)
  | 7, _ => exact tg_t 237 (by decide +kernel) (by decide +kernel)
  | 8, _ => exact tg_t 239 (by decide +kernel) (by decide +kernel)
  | 9, _ => exact tg_t 241 (by decide +kernel) (by decide +kernel)
  | 10, _ => exact tg_t 243 (by decide +kernel) (by decide +kernel)
  | 11, _ => exact tg_t 245 (by decide +kernel) (by decide +kernel)
  | 12, _ => exact tg_t 247 (by decide +kernel) (by decide +kernel)
  | 13, _ => exact tg_t 249 (by decide +kernel) (by decide +kernel)
  | 14, _ => exact tg_t 251 (by decide +kernel) (by decide +kernel)
  | k + 15, h => exact absurd h (by omega)
theorem lw_M : ∀ z ∈ u_ws R_M F_M 30, z ∈ Tg := by
  intro z hz
  obtain ⟨k, hk, rfl⟩ := List.mem_map.mp hz
  have hk : k < 30 := List.mem_range.mp hk
  match k, hk with
  | 0, _ => exact tg_t 585 (by decide +kernel) (by decide +kernel)
  | 1, _ => exact tg_t 587 (by decide +kernel) (by decide +kernel)
  | 2, _ => exact tg_t 589 (by decide +kernel) (by decide +kernel)
  | 3, _ => exact tg_t 591 (by decide +kernel) (by decide +kernel)
  | 4, _ => exact tg_t 593 (by decide +kernel) (by decide +kernel)
  | 5, _ => exact tg_t 595 (by decide +kernel) (by decide +kernel)
  | 6, _ => exact tg_t 597 (by decide +kernel) (by decide +kernel)
  | 7, _ => exact tg_t 599 (by decide +kernel) (by decide +kernel)
  | 8, _ => exact tg_t 601 (by decide +kernel) (by decide +kernel)
  | 9, _ => exact tg_t 603 (by decide +kernel) (by decide +kernel)
  | 10, _ => exact tg_t 605 (by decide +kernel) (by decide +kernel)
  | 11, _ => exact tg_t 607 (by decide +kernel) (by decide +kernel)
  | 12, _ => exact tg_t 609 (by decide +kernel) (by decide +kernel)
  | 13, _ => exact tg_t 611 (by decide +kernel) (by decide +kernel)
  | 14, _ => exact tg_t 613 (by decide +kernel) (by decide +kernel)
  | 15, _ => exact tg_t 615 (by decide +kernel) (by decide +kernel)
  | 16, _ => exact tg_t 617 (by decide +kernel) (by decide +kernel)
  | 17, _ => exact tg_t 619 (by decide +kernel) (by decide +kernel)
  | 18, _ => exact tg_t 621 (by decide +kernel) (by decide +kernel)
  | 19, _ => exact tg_t 623 (by decide +kernel) (by decide +kernel)
  | 20, _ => exact tg_t 625 (by decide +kernel) (by decide +kernel)
  | 21, _ => exact tg_t 627 (by decide +kernel) (by decide +kernel)
  | 22, _ => exact tg_t 629 (by decide +kernel) (by decide +kernel)
  | 23, _ => exact tg_t 631 (by decide +kernel) (by decide +kernel)
  | 24, _ => exact tg_t 633 (by decide +kernel) (by decide +kernel)
  | 25, _ => exact tg_t 635 (by decide +kernel) (by decide +kernel)
  | 26, _ => exact tg_t 637 (by decide +kernel) (by decide +kernel)
  | 27, _ => exact tg_t 639 (by decide +kernel) (by decide +kernel)
  | 28, _ => exact tg_t 641 (by decide +kernel) (by decide +kernel)
  | 29, _ => exact tg_t 643 (by decide +kernel) (by decide +kernel)
  | k + 30, h => exact absurd h (by omega)
end
section
theorem d_S_init_0 : decode b_S_init 0 = .ok (.aload_n 0, 1) := by decide +kernel
theorem d_S_init_1 : decode b_S_init 1 = .ok (.invokespecial 1, 3) := by decide +kernel
theorem d_S_init_4 : decode b_S_init 4 = .ok (.aload_n 0, 1) := by decide +kernel
theorem d_S_init_5 : decode b_S_init 5 = .ok (.iconst 4, 1) := by decide +kernel
theorem d_S_init_6 : decode b_S_init 6 = .ok (.newarray .int, 2) := by decide +kernel
theorem d_S_init_8 : decode b_S_init 8 = .ok (.dup, 1) := by decide +kernel
theorem d_S_init_9 : decode b_S_init 9 = .ok (.iconst 0, 1) := by decide +kernel
theorem d_S_init_10 : decode b_S_init 10 = .ok (.iconst (-1), 1) := by decide +kernel
theorem d_S_init_11 : decode b_S_init 11 = .ok (.iastore, 1) := by decide +kernel
theorem d_S_init_12 : decode b_S_init 12 = .ok (.dup, 1) := by decide +kernel
theorem d_S_init_13 : decode b_S_init 13 = .ok (.iconst 1, 1) := by decide +kernel
theorem d_S_init_14 : decode b_S_init 14 = .ok (.iconst (-1), 1) := by decide +kernel
theorem d_S_init_15 : decode b_S_init 15 = .ok (.iastore, 1) := by decide +kernel
theorem d_S_init_16 : decode b_S_init 16 = .ok (.dup, 1) := by decide +kernel
theorem d_S_init_17 : decode b_S_init 17 = .ok (.iconst 2, 1) := by decide +kernel
theorem d_S_init_18 : decode b_S_init 18 = .ok (.iconst (-1), 1) := by decide +kernel
theorem d_S_init_19 : decode b_S_init 19 = .ok (.iastore, 1) := by decide +kernel
theorem d_S_init_20 : decode b_S_init 20 = .ok (.dup, 1) := by decide +kernel
theorem d_S_init_21 : decode b_S_init 21 = .ok (.iconst 3, 1) := by decide +kernel
theorem d_S_init_22 : decode b_S_init 22 = .ok (.iconst (-1), 1) := by decide +kernel
theorem d_S_init_23 : decode b_S_init 23 = .ok (.iastore, 1) := by decide +kernel
theorem d_S_init_24 : decode b_S_init 24 = .ok (.putfield 9, 3) := by decide +kernel
theorem d_S_init_27 : decode b_S_init 27 = .ok (.aload_n 0, 1) := by decide +kernel
theorem d_S_init_28 : decode b_S_init 28 = .ok (.iconst 4, 1) := by decide +kernel
theorem d_S_init_29 : decode b_S_init 29 = .ok (.newarray .int, 2) := by decide +kernel
theorem d_S_init_31 : decode b_S_init 31 = .ok (.putfield 13, 3) := by decide +kernel
theorem d_S_init_34 : decode b_S_init 34 = .ok (.aload_n 0, 1) := by decide +kernel
theorem d_S_init_35 : decode b_S_init 35 = .ok (.sipush 240, 3) := by decide +kernel
theorem d_S_init_38 : decode b_S_init 38 = .ok (.newarray .int, 2) := by decide +kernel
theorem d_S_init_40 : decode b_S_init 40 = .ok (.putfield 16, 3) := by decide +kernel
theorem d_S_init_43 : decode b_S_init 43 = .ok (.return_, 1) := by decide +kernel
theorem d_S_isLost_0 : decode b_S_isLost 0 = .ok (.aload_n 0, 1) := by decide +kernel
theorem d_S_isLost_1 : decode b_S_isLost 1 = .ok (.getfield 9, 3) := by decide +kernel
theorem d_S_isLost_4 : decode b_S_isLost 4 = .ok (.iload_n 1, 1) := by decide +kernel
theorem d_S_isLost_5 : decode b_S_isLost 5 = .ok (.iaload, 1) := by decide +kernel
theorem d_S_isLost_6 : decode b_S_isLost 6 = .ok (.iconst (-1), 1) := by decide +kernel
theorem d_S_isLost_7 : decode b_S_isLost 7 = .ok (.if_icmp .ne 7, 3) := by decide +kernel
theorem d_S_isLost_10 : decode b_S_isLost 10 = .ok (.iconst 1, 1) := by decide +kernel
theorem d_S_isLost_11 : decode b_S_isLost 11 = .ok (.goto 4, 3) := by decide +kernel
theorem d_S_isLost_14 : decode b_S_isLost 14 = .ok (.iconst 0, 1) := by decide +kernel
theorem d_S_isLost_15 : decode b_S_isLost 15 = .ok (.ireturn, 1) := by decide +kernel
theorem d_S_formOf_0 : decode b_S_formOf 0 = .ok (.aload_n 0, 1) := by decide +kernel
theorem d_S_formOf_1 : decode b_S_formOf 1 = .ok (.getfield 9, 3) := by decide +kernel
theorem d_S_formOf_4 : decode b_S_formOf 4 = .ok (.iload_n 1, 1) := by decide +kernel
theorem d_S_formOf_5 : decode b_S_formOf 5 = .ok (.iaload, 1) := by decide +kernel
theorem d_S_formOf_6 : decode b_S_formOf 6 = .ok (.ireturn, 1) := by decide +kernel
theorem d_S_sizeOf_0 : decode b_S_sizeOf 0 = .ok (.aload_n 0, 1) := by decide +kernel
theorem d_S_sizeOf_1 : decode b_S_sizeOf 1 = .ok (.getfield 13, 3) := by decide +kernel
theorem d_S_sizeOf_4 : decode b_S_sizeOf 4 = .ok (.iload_n 1, 1) := by decide +kernel
theorem d_S_sizeOf_5 : decode b_S_sizeOf 5 = .ok (.iaload, 1) := by decide +kernel
theorem d_S_sizeOf_6 : decode b_S_sizeOf 6 = .ok (.ireturn, 1) := by decide +kernel
theorem d_S_lay_0 : decode b_S_lay 0 = .ok (.aload_n 0, 1) := by decide +kernel
theorem d_S_lay_1 : decode b_S_lay 1 = .ok (.getfield 9, 3) := by decide +kernel
theorem d_S_lay_4 : decode b_S_lay 4 = .ok (.iload_n 1, 1) := by decide +kernel
theorem d_S_lay_5 : decode b_S_lay 5 = .ok (.iload_n 2, 1) := by decide +kernel
theorem d_S_lay_6 : decode b_S_lay 6 = .ok (.iastore, 1) := by decide +kernel
theorem d_S_lay_7 : decode b_S_lay 7 = .ok (.aload_n 0, 1) := by decide +kernel
theorem d_S_lay_8 : decode b_S_lay 8 = .ok (.getfield 13, 3) := by decide +kernel
theorem d_S_lay_11 : decode b_S_lay 11 = .ok (.iload_n 1, 1) := by decide +kernel
theorem d_S_lay_12 : decode b_S_lay 12 = .ok (.iload_n 3, 1) := by decide +kernel
theorem d_S_lay_13 : decode b_S_lay 13 = .ok (.iastore, 1) := by decide +kernel
theorem d_S_lay_14 : decode b_S_lay 14 = .ok (.iconst 0, 1) := by decide +kernel
theorem d_S_lay_15 : decode b_S_lay 15 = .ok (.istore 4, 2) := by decide +kernel
theorem d_S_lay_17 : decode b_S_lay 17 = .ok (.iload 4, 2) := by decide +kernel
theorem d_S_lay_19 : decode b_S_lay 19 = .ok (.iload_n 3, 1) := by decide +kernel
theorem d_S_lay_20 : decode b_S_lay 20 = .ok (.if_icmp .ge 22, 3) := by decide +kernel
theorem d_S_lay_23 : decode b_S_lay 23 = .ok (.aload_n 0, 1) := by decide +kernel
theorem d_S_lay_24 : decode b_S_lay 24 = .ok (.getfield 16, 3) := by decide +kernel
theorem d_S_lay_27 : decode b_S_lay 27 = .ok (.iload_n 1, 1) := by decide +kernel
theorem d_S_lay_28 : decode b_S_lay 28 = .ok (.bipush 60, 2) := by decide +kernel
theorem d_S_lay_30 : decode b_S_lay 30 = .ok (.imul, 1) := by decide +kernel
theorem d_S_lay_31 : decode b_S_lay 31 = .ok (.iload 4, 2) := by decide +kernel
theorem d_S_lay_33 : decode b_S_lay 33 = .ok (.iadd, 1) := by decide +kernel
theorem d_S_lay_34 : decode b_S_lay 34 = .ok (.iconst 0, 1) := by decide +kernel
theorem d_S_lay_35 : decode b_S_lay 35 = .ok (.iastore, 1) := by decide +kernel
theorem d_S_lay_36 : decode b_S_lay 36 = .ok (.iinc 4 1, 3) := by decide +kernel
theorem d_S_lay_39 : decode b_S_lay 39 = .ok (.goto (-22), 3) := by decide +kernel
theorem d_S_lay_42 : decode b_S_lay 42 = .ok (.return_, 1) := by decide +kernel
theorem d_S_drop_0 : decode b_S_drop 0 = .ok (.aload_n 0, 1) := by decide +kernel
theorem d_S_drop_1 : decode b_S_drop 1 = .ok (.getfield 9, 3) := by decide +kernel
theorem d_S_drop_4 : decode b_S_drop 4 = .ok (.iload_n 1, 1) := by decide +kernel
theorem d_S_drop_5 : decode b_S_drop 5 = .ok (.iconst (-1), 1) := by decide +kernel
theorem d_S_drop_6 : decode b_S_drop 6 = .ok (.iastore, 1) := by decide +kernel
theorem d_S_drop_7 : decode b_S_drop 7 = .ok (.aload_n 0, 1) := by decide +kernel
theorem d_S_drop_8 : decode b_S_drop 8 = .ok (.getfield 13, 3) := by decide +kernel
theorem d_S_drop_11 : decode b_S_drop 11 = .ok (.iload_n 1, 1) := by decide +kernel
theorem d_S_drop_12 : decode b_S_drop 12 = .ok (.iconst 0, 1) := by decide +kernel
theorem d_S_drop_13 : decode b_S_drop 13 = .ok (.iastore, 1) := by decide +kernel
theorem d_S_drop_14 : decode b_S_drop 14 = .ok (.return_, 1) := by decide +kernel
theorem d_S_hasItems_0 : decode b_S_hasItems 0 = .ok (.iload_n 2, 1) := by decide +kernel
theorem d_S_hasItems_1 : decode b_S_hasItems 1 = .ok (.ifCond .lt 23, 3) := by decide +kernel
theorem d_S_hasItems_4 : decode b_S_hasItems 4 = .ok (.iload_n 3, 1) := by decide +kernel
theorem d_S_hasItems_5 : decode b_S_hasItems 5 = .ok (.ifCond .lt 19, 3) := by decide +kernel
theorem d_S_hasItems_8 : decode b_S_hasItems 8 = .ok (.iload_n 2, 1) := by decide +kernel
theorem d_S_hasItems_9 : decode b_S_hasItems 9 = .ok (.aload_n 0, 1) := by decide +kernel
theorem d_S_hasItems_10 : decode b_S_hasItems 10 = .ok (.getfield 13, 3) := by decide +kernel
theorem d_S_hasItems_13 : decode b_S_hasItems 13 = .ok (.iload_n 1, 1) := by decide +kernel
theorem d_S_hasItems_14 : decode b_S_hasItems 14 = .ok (.iaload, 1) := by decide +kernel
theorem d_S_hasItems_15 : decode b_S_hasItems 15 = .ok (.iload_n 3, 1) := by decide +kernel
theorem d_S_hasItems_16 : decode b_S_hasItems 16 = .ok (.isub, 1) := by decide +kernel
theorem d_S_hasItems_17 : decode b_S_hasItems 17 = .ok (.if_icmp .gt 7, 3) := by decide +kernel
theorem d_S_hasItems_20 : decode b_S_hasItems 20 = .ok (.iconst 1, 1) := by decide +kernel
theorem d_S_hasItems_21 : decode b_S_hasItems 21 = .ok (.goto 4, 3) := by decide +kernel
theorem d_S_hasItems_24 : decode b_S_hasItems 24 = .ok (.iconst 0, 1) := by decide +kernel
theorem d_S_hasItems_25 : decode b_S_hasItems 25 = .ok (.ireturn, 1) := by decide +kernel
theorem d_S_item_0 : decode b_S_item 0 = .ok (.aload_n 0, 1) := by decide +kernel
theorem d_S_item_1 : decode b_S_item 1 = .ok (.getfield 16, 3) := by decide +kernel
theorem d_S_item_4 : decode b_S_item 4 = .ok (.iload_n 1, 1) := by decide +kernel
theorem d_S_item_5 : decode b_S_item 5 = .ok (.bipush 60, 2) := by decide +kernel
theorem d_S_item_7 : decode b_S_item 7 = .ok (.imul, 1) := by decide +kernel
theorem d_S_item_8 : decode b_S_item 8 = .ok (.iload_n 2, 1) := by decide +kernel
theorem d_S_item_9 : decode b_S_item 9 = .ok (.iadd, 1) := by decide +kernel
theorem d_S_item_10 : decode b_S_item 10 = .ok (.iaload, 1) := by decide +kernel
theorem d_S_item_11 : decode b_S_item 11 = .ok (.ireturn, 1) := by decide +kernel
theorem d_S_setItem_0 : decode b_S_setItem 0 = .ok (.iload_n 3, 1) := by decide +kernel
theorem d_S_setItem_1 : decode b_S_setItem 1 = .ok (.istore 4, 2) := by decide +kernel
theorem d_S_setItem_3 : decode b_S_setItem 3 = .ok (.aload_n 0, 1) := by decide +kernel
theorem d_S_setItem_4 : decode b_S_setItem 4 = .ok (.getfield 9, 3) := by decide +kernel
theorem d_S_setItem_7 : decode b_S_setItem 7 = .ok (.iload_n 1, 1) := by decide +kernel
theorem d_S_setItem_8 : decode b_S_setItem 8 = .ok (.iaload, 1) := by decide +kernel
theorem d_S_setItem_9 : decode b_S_setItem 9 = .ok (.ifCond .ne 10, 3) := by decide +kernel
theorem d_S_setItem_12 : decode b_S_setItem 12 = .ok (.iload_n 3, 1) := by decide +kernel
theorem d_S_setItem_13 : decode b_S_setItem 13 = .ok (.i2b, 1) := by decide +kernel
theorem d_S_setItem_14 : decode b_S_setItem 14 = .ok (.istore 4, 2) := by decide +kernel
theorem d_S_setItem_16 : decode b_S_setItem 16 = .ok (.goto 17, 3) := by decide +kernel
theorem d_S_setItem_19 : decode b_S_setItem 19 = .ok (.aload_n 0, 1) := by decide +kernel
theorem d_S_setItem_20 : decode b_S_setItem 20 = .ok (.getfield 9, 3) := by decide +kernel
theorem d_S_setItem_23 : decode b_S_setItem 23 = .ok (.iload_n 1, 1) := by decide +kernel
theorem d_S_setItem_24 : decode b_S_setItem 24 = .ok (.iaload, 1) := by decide +kernel
theorem d_S_setItem_25 : decode b_S_setItem 25 = .ok (.iconst 1, 1) := by decide +kernel
theorem d_S_setItem_26 : decode b_S_setItem 26 = .ok (.if_icmp .ne 7, 3) := by decide +kernel
theorem d_S_setItem_29 : decode b_S_setItem 29 = .ok (.iload_n 3, 1) := by decide +kernel
theorem d_S_setItem_30 : decode b_S_setItem 30 = .ok (.i2s, 1) := by decide +kernel
theorem d_S_setItem_31 : decode b_S_setItem 31 = .ok (.istore 4, 2) := by decide +kernel
theorem d_S_setItem_33 : decode b_S_setItem 33 = .ok (.aload_n 0, 1) := by decide +kernel
theorem d_S_setItem_34 : decode b_S_setItem 34 = .ok (.getfield 16, 3) := by decide +kernel
theorem d_S_setItem_37 : decode b_S_setItem 37 = .ok (.iload_n 1, 1) := by decide +kernel
theorem d_S_setItem_38 : decode b_S_setItem 38 = .ok (.bipush 60, 2) := by decide +kernel
theorem d_S_setItem_40 : decode b_S_setItem 40 = .ok (.imul, 1) := by decide +kernel
theorem d_S_setItem_41 : decode b_S_setItem 41 = .ok (.iload_n 2, 1) := by decide +kernel
theorem d_S_setItem_42 : decode b_S_setItem 42 = .ok (.iadd, 1) := by decide +kernel
theorem d_S_setItem_43 : decode b_S_setItem 43 = .ok (.iload 4, 2) := by decide +kernel
theorem d_S_setItem_45 : decode b_S_setItem 45 = .ok (.iastore, 1) := by decide +kernel
theorem d_S_setItem_46 : decode b_S_setItem 46 = .ok (.return_, 1) := by decide +kernel
theorem d_S_move_0 : decode b_S_move 0 = .ok (.aload_n 0, 1) := by decide +kernel
theorem d_S_move_1 : decode b_S_move 1 = .ok (.getfield 16, 3) := by decide +kernel
theorem d_S_move_4 : decode b_S_move 4 = .ok (.iload_n 1, 1) := by decide +kernel
theorem d_S_move_5 : decode b_S_move 5 = .ok (.bipush 60, 2) := by decide +kernel
theorem d_S_move_7 : decode b_S_move 7 = .ok (.imul, 1) := by decide +kernel
theorem d_S_move_8 : decode b_S_move 8 = .ok (.iload_n 2, 1) := by decide +kernel
theorem d_S_move_9 : decode b_S_move 9 = .ok (.iadd, 1) := by decide +kernel
theorem d_S_move_10 : decode b_S_move 10 = .ok (.aload_n 0, 1) := by decide +kernel
theorem d_S_move_11 : decode b_S_move 11 = .ok (.getfield 16, 3) := by decide +kernel
theorem d_S_move_14 : decode b_S_move 14 = .ok (.iload_n 3, 1) := by decide +kernel
theorem d_S_move_15 : decode b_S_move 15 = .ok (.bipush 60, 2) := by decide +kernel
theorem d_S_move_17 : decode b_S_move 17 = .ok (.imul, 1) := by decide +kernel
theorem d_S_move_18 : decode b_S_move 18 = .ok (.iload 4, 2) := by decide +kernel
theorem d_S_move_20 : decode b_S_move 20 = .ok (.iadd, 1) := by decide +kernel
theorem d_S_move_21 : decode b_S_move 21 = .ok (.iload 5, 2) := by decide +kernel
theorem d_S_move_23 : decode b_S_move 23 = .ok (.invokestatic 19, 3) := by decide +kernel
theorem d_S_move_26 : decode b_S_move 26 = .ok (.return_, 1) := by decide +kernel
theorem d_T_init_0 : decode b_T_init 0 = .ok (.aload_n 0, 1) := by decide +kernel
theorem d_T_init_1 : decode b_T_init 1 = .ok (.invokespecial 5, 3) := by decide +kernel
theorem d_T_init_4 : decode b_T_init 4 = .ok (.aload_n 0, 1) := by decide +kernel
theorem d_T_init_5 : decode b_T_init 5 = .ok (.bipush 24, 2) := by decide +kernel
theorem d_T_init_7 : decode b_T_init 7 = .ok (.newarray .int, 2) := by decide +kernel
theorem d_T_init_9 : decode b_T_init 9 = .ok (.putfield 11, 3) := by decide +kernel
theorem d_T_init_12 : decode b_T_init 12 = .ok (.aload_n 0, 1) := by decide +kernel
theorem d_T_init_13 : decode b_T_init 13 = .ok (.bipush 24, 2) := by decide +kernel
theorem d_T_init_15 : decode b_T_init 15 = .ok (.newarray .int, 2) := by decide +kernel
theorem d_T_init_17 : decode b_T_init 17 = .ok (.putfield 15, 3) := by decide +kernel
theorem d_T_init_20 : decode b_T_init 20 = .ok (.aload_n 0, 1) := by decide +kernel
theorem d_T_init_21 : decode b_T_init 21 = .ok (.bipush 24, 2) := by decide +kernel
theorem d_T_init_23 : decode b_T_init 23 = .ok (.newarray .int, 2) := by decide +kernel
theorem d_T_init_25 : decode b_T_init 25 = .ok (.putfield 18, 3) := by decide +kernel
theorem d_T_init_28 : decode b_T_init 28 = .ok (.aload_n 0, 1) := by decide +kernel
theorem d_T_init_29 : decode b_T_init 29 = .ok (.sipush 192, 3) := by decide +kernel
theorem d_T_init_32 : decode b_T_init 32 = .ok (.newarray .int, 2) := by decide +kernel
theorem d_T_init_34 : decode b_T_init 34 = .ok (.putfield 21, 3) := by decide +kernel
theorem d_T_init_37 : decode b_T_init 37 = .ok (.aload_n 0, 1) := by decide +kernel
theorem d_T_init_38 : decode b_T_init 38 = .ok (.iconst 0, 1) := by decide +kernel
theorem d_T_init_39 : decode b_T_init 39 = .ok (.putfield 24, 3) := by decide +kernel
theorem d_T_init_42 : decode b_T_init 42 = .ok (.aload_n 0, 1) := by decide +kernel
theorem d_T_init_43 : decode b_T_init 43 = .ok (.iconst 0, 1) := by decide +kernel
theorem d_T_init_44 : decode b_T_init 44 = .ok (.putfield 28, 3) := by decide +kernel
theorem d_T_init_47 : decode b_T_init 47 = .ok (.aload_n 0, 1) := by decide +kernel
theorem d_T_init_48 : decode b_T_init 48 = .ok (.bipush 8, 2) := by decide +kernel
theorem d_T_init_50 : decode b_T_init 50 = .ok (.newarray .int, 2) := by decide +kernel
theorem d_T_init_52 : decode b_T_init 52 = .ok (.putfield 31, 3) := by decide +kernel
theorem d_T_init_55 : decode b_T_init 55 = .ok (.aload_n 0, 1) := by decide +kernel
theorem d_T_init_56 : decode b_T_init 56 = .ok (.iconst 0, 1) := by decide +kernel
theorem d_T_init_57 : decode b_T_init 57 = .ok (.putfield 34, 3) := by decide +kernel
theorem d_T_init_60 : decode b_T_init 60 = .ok (.aload_n 0, 1) := by decide +kernel
theorem d_T_init_61 : decode b_T_init 61 = .ok (.bipush 8, 2) := by decide +kernel
theorem d_T_init_63 : decode b_T_init 63 = .ok (.newarray .int, 2) := by decide +kernel
theorem d_T_init_65 : decode b_T_init 65 = .ok (.putfield 37, 3) := by decide +kernel
theorem d_T_init_68 : decode b_T_init 68 = .ok (.aload_n 0, 1) := by decide +kernel
theorem d_T_init_69 : decode b_T_init 69 = .ok (.iconst 0, 1) := by decide +kernel
theorem d_T_init_70 : decode b_T_init 70 = .ok (.putfield 40, 3) := by decide +kernel
theorem d_T_init_73 : decode b_T_init 73 = .ok (.aload_n 0, 1) := by decide +kernel
theorem d_T_init_74 : decode b_T_init 74 = .ok (.bipush 7, 2) := by decide +kernel
theorem d_T_init_76 : decode b_T_init 76 = .ok (.newarray .int, 2) := by decide +kernel
theorem d_T_init_78 : decode b_T_init 78 = .ok (.putfield 43, 3) := by decide +kernel
theorem d_T_init_81 : decode b_T_init 81 = .ok (.aload_n 0, 1) := by decide +kernel
theorem d_T_init_82 : decode b_T_init 82 = .ok (.iconst 0, 1) := by decide +kernel
theorem d_T_init_83 : decode b_T_init 83 = .ok (.putfield 46, 3) := by decide +kernel
theorem d_T_init_86 : decode b_T_init 86 = .ok (.aload_n 0, 1) := by decide +kernel
theorem d_T_init_87 : decode b_T_init 87 = .ok (.bipush 24, 2) := by decide +kernel
theorem d_T_init_89 : decode b_T_init 89 = .ok (.newarray .int, 2) := by decide +kernel
theorem d_T_init_91 : decode b_T_init 91 = .ok (.putfield 49, 3) := by decide +kernel
theorem d_T_init_94 : decode b_T_init 94 = .ok (.aload_n 0, 1) := by decide +kernel
theorem d_T_init_95 : decode b_T_init 95 = .ok (.bipush 24, 2) := by decide +kernel
theorem d_T_init_97 : decode b_T_init 97 = .ok (.newarray .int, 2) := by decide +kernel
theorem d_T_init_99 : decode b_T_init 99 = .ok (.putfield 52, 3) := by decide +kernel
theorem d_T_init_102 : decode b_T_init 102 = .ok (.aload_n 0, 1) := by decide +kernel
theorem d_T_init_103 : decode b_T_init 103 = .ok (.bipush 24, 2) := by decide +kernel
theorem d_T_init_105 : decode b_T_init 105 = .ok (.newarray .int, 2) := by decide +kernel
theorem d_T_init_107 : decode b_T_init 107 = .ok (.putfield 55, 3) := by decide +kernel
theorem d_T_init_110 : decode b_T_init 110 = .ok (.iconst 0, 1) := by decide +kernel
theorem d_T_init_111 : decode b_T_init 111 = .ok (.istore_n 1, 1) := by decide +kernel
theorem d_T_init_112 : decode b_T_init 112 = .ok (.iload_n 1, 1) := by decide +kernel
theorem d_T_init_113 : decode b_T_init 113 = .ok (.bipush 8, 2) := by decide +kernel
theorem d_T_init_115 : decode b_T_init 115 = .ok (.if_icmp .ge 25, 3) := by decide +kernel
theorem d_T_init_118 : decode b_T_init 118 = .ok (.aload_n 0, 1) := by decide +kernel
theorem d_T_init_119 : decode b_T_init 119 = .ok (.getfield 15, 3) := by decide +kernel
theorem d_T_init_122 : decode b_T_init 122 = .ok (.iload_n 1, 1) := by decide +kernel
theorem d_T_init_123 : decode b_T_init 123 = .ok (.iconst 1, 1) := by decide +kernel
theorem d_T_init_124 : decode b_T_init 124 = .ok (.iload_n 1, 1) := by decide +kernel
theorem d_T_init_125 : decode b_T_init 125 = .ok (.ishl, 1) := by decide +kernel
theorem d_T_init_126 : decode b_T_init 126 = .ok (.iastore, 1) := by decide +kernel
theorem d_T_init_127 : decode b_T_init 127 = .ok (.aload_n 0, 1) := by decide +kernel
theorem d_T_init_128 : decode b_T_init 128 = .ok (.getfield 52, 3) := by decide +kernel
theorem d_T_init_131 : decode b_T_init 131 = .ok (.iload_n 1, 1) := by decide +kernel
theorem d_T_init_132 : decode b_T_init 132 = .ok (.iconst 1, 1) := by decide +kernel
theorem d_T_init_133 : decode b_T_init 133 = .ok (.iastore, 1) := by decide +kernel
theorem d_T_init_134 : decode b_T_init 134 = .ok (.iinc 1 1, 3) := by decide +kernel
theorem d_T_init_137 : decode b_T_init 137 = .ok (.goto (-25), 3) := by decide +kernel
theorem d_T_init_140 : decode b_T_init 140 = .ok (.return_, 1) := by decide +kernel
theorem d_T_add_0 : decode b_T_add 0 = .ok (.aload_n 0, 1) := by decide +kernel
theorem d_T_add_1 : decode b_T_add 1 = .ok (.getfield 18, 3) := by decide +kernel
theorem d_T_add_4 : decode b_T_add 4 = .ok (.iload_n 1, 1) := by decide +kernel
theorem d_T_add_5 : decode b_T_add 5 = .ok (.iaload, 1) := by decide +kernel
theorem d_T_add_6 : decode b_T_add 6 = .ok (.bipush 8, 2) := by decide +kernel
theorem d_T_add_8 : decode b_T_add 8 = .ok (.if_icmp .ge 45, 3) := by decide +kernel
theorem d_T_add_11 : decode b_T_add 11 = .ok (.aload_n 0, 1) := by decide +kernel
theorem d_T_add_12 : decode b_T_add 12 = .ok (.getfield 21, 3) := by decide +kernel
theorem d_T_add_15 : decode b_T_add 15 = .ok (.iload_n 1, 1) := by decide +kernel
theorem d_T_add_16 : decode b_T_add 16 = .ok (.bipush 8, 2) := by decide +kernel
theorem d_T_add_18 : decode b_T_add 18 = .ok (.imul, 1) := by decide +kernel
theorem d_T_add_19 : decode b_T_add 19 = .ok (.aload_n 0, 1) := by decide +kernel
theorem d_T_add_20 : decode b_T_add 20 = .ok (.getfield 18, 3) := by decide +kernel
theorem d_T_add_23 : decode b_T_add 23 = .ok (.iload_n 1, 1) := by decide +kernel
theorem d_T_add_24 : decode b_T_add 24 = .ok (.iaload, 1) := by decide +kernel
theorem d_T_add_25 : decode b_T_add 25 = .ok (.iadd, 1) := by decide +kernel
theorem d_T_add_26 : decode b_T_add 26 = .ok (.iload_n 2, 1) := by decide +kernel
theorem d_T_add_27 : decode b_T_add 27 = .ok (.iastore, 1) := by decide +kernel
theorem d_T_add_28 : decode b_T_add 28 = .ok (.aload_n 0, 1) := by decide +kernel
theorem d_T_add_29 : decode b_T_add 29 = .ok (.getfield 18, 3) := by decide +kernel
theorem d_T_add_32 : decode b_T_add 32 = .ok (.iload_n 1, 1) := by decide +kernel
theorem d_T_add_33 : decode b_T_add 33 = .ok (.dup2, 1) := by decide +kernel
theorem d_T_add_34 : decode b_T_add 34 = .ok (.iaload, 1) := by decide +kernel
theorem d_T_add_35 : decode b_T_add 35 = .ok (.iconst 1, 1) := by decide +kernel
theorem d_T_add_36 : decode b_T_add 36 = .ok (.iadd, 1) := by decide +kernel
theorem d_T_add_37 : decode b_T_add 37 = .ok (.iastore, 1) := by decide +kernel
theorem d_T_add_38 : decode b_T_add 38 = .ok (.aload_n 0, 1) := by decide +kernel
theorem d_T_add_39 : decode b_T_add 39 = .ok (.getfield 15, 3) := by decide +kernel
theorem d_T_add_42 : decode b_T_add 42 = .ok (.iload_n 1, 1) := by decide +kernel
theorem d_T_add_43 : decode b_T_add 43 = .ok (.dup2, 1) := by decide +kernel
theorem d_T_add_44 : decode b_T_add 44 = .ok (.iaload, 1) := by decide +kernel
theorem d_T_add_45 : decode b_T_add 45 = .ok (.aload_n 0, 1) := by decide +kernel
theorem d_T_add_46 : decode b_T_add 46 = .ok (.getfield 15, 3) := by decide +kernel
theorem d_T_add_49 : decode b_T_add 49 = .ok (.iload_n 2, 1) := by decide +kernel
theorem d_T_add_50 : decode b_T_add 50 = .ok (.iaload, 1) := by decide +kernel
theorem d_T_add_51 : decode b_T_add 51 = .ok (.ior, 1) := by decide +kernel
theorem d_T_add_52 : decode b_T_add 52 = .ok (.iastore, 1) := by decide +kernel
theorem d_T_add_53 : decode b_T_add 53 = .ok (.return_, 1) := by decide +kernel
theorem d_T_clear_0 : decode b_T_clear 0 = .ok (.bipush 8, 2) := by decide +kernel
theorem d_T_clear_2 : decode b_T_clear 2 = .ok (.istore_n 1, 1) := by decide +kernel
theorem d_T_clear_3 : decode b_T_clear 3 = .ok (.iload_n 1, 1) := by decide +kernel
theorem d_T_clear_4 : decode b_T_clear 4 = .ok (.bipush 24, 2) := by decide +kernel
theorem d_T_clear_6 : decode b_T_clear 6 = .ok (.if_icmp .ge 23, 3) := by decide +kernel
theorem d_T_clear_9 : decode b_T_clear 9 = .ok (.aload_n 0, 1) := by decide +kernel
theorem d_T_clear_10 : decode b_T_clear 10 = .ok (.getfield 18, 3) := by decide +kernel
theorem d_T_clear_13 : decode b_T_clear 13 = .ok (.iload_n 1, 1) := by decide +kernel
theorem d_T_clear_14 : decode b_T_clear 14 = .ok (.iconst 0, 1) := by decide +kernel
theorem d_T_clear_15 : decode b_T_clear 15 = .ok (.iastore, 1) := by decide +kernel
theorem d_T_clear_16 : decode b_T_clear 16 = .ok (.aload_n 0, 1) := by decide +kernel
theorem d_T_clear_17 : decode b_T_clear 17 = .ok (.getfield 15, 3) := by decide +kernel
theorem d_T_clear_20 : decode b_T_clear 20 = .ok (.iload_n 1, 1) := by decide +kernel
theorem d_T_clear_21 : decode b_T_clear 21 = .ok (.iconst 0, 1) := by decide +kernel
theorem d_T_clear_22 : decode b_T_clear 22 = .ok (.iastore, 1) := by decide +kernel
theorem d_T_clear_23 : decode b_T_clear 23 = .ok (.iinc 1 1, 3) := by decide +kernel
theorem d_T_clear_26 : decode b_T_clear 26 = .ok (.goto (-23), 3) := by decide +kernel
theorem d_T_clear_29 : decode b_T_clear 29 = .ok (.aload_n 0, 1) := by decide +kernel
theorem d_T_clear_30 : decode b_T_clear 30 = .ok (.iconst 0, 1) := by decide +kernel
theorem d_T_clear_31 : decode b_T_clear 31 = .ok (.putfield 24, 3) := by decide +kernel
theorem d_T_clear_34 : decode b_T_clear 34 = .ok (.aload_n 0, 1) := by decide +kernel
theorem d_T_clear_35 : decode b_T_clear 35 = .ok (.iconst 0, 1) := by decide +kernel
theorem d_T_clear_36 : decode b_T_clear 36 = .ok (.putfield 28, 3) := by decide +kernel
theorem d_T_clear_39 : decode b_T_clear 39 = .ok (.return_, 1) := by decide +kernel
theorem d_T_plant_0 : decode b_T_plant 0 = .ok (.aload_n 0, 1) := by decide +kernel
theorem d_T_plant_1 : decode b_T_plant 1 = .ok (.invokevirtual 58, 3) := by decide +kernel
theorem d_T_plant_4 : decode b_T_plant 4 = .ok (.iload_n 1, 1) := by decide +kernel
theorem d_T_plant_5 : decode b_T_plant 5 = .ok (.iconst 2, 1) := by decide +kernel
theorem d_T_plant_6 : decode b_T_plant 6 = .ok (.if_icmp .ge 4, 3) := by decide +kernel
theorem d_T_plant_9 : decode b_T_plant 9 = .ok (.return_, 1) := by decide +kernel
theorem d_T_plant_10 : decode b_T_plant 10 = .ok (.aload_n 0, 1) := by decide +kernel
theorem d_T_plant_11 : decode b_T_plant 11 = .ok (.bipush 8, 2) := by decide +kernel
theorem d_T_plant_13 : decode b_T_plant 13 = .ok (.putfield 24, 3) := by decide +kernel
theorem d_T_plant_16 : decode b_T_plant 16 = .ok (.aload_n 0, 1) := by decide +kernel
theorem d_T_plant_17 : decode b_T_plant 17 = .ok (.iconst 1, 1) := by decide +kernel
theorem d_T_plant_18 : decode b_T_plant 18 = .ok (.putfield 28, 3) := by decide +kernel
theorem d_T_plant_21 : decode b_T_plant 21 = .ok (.aload_n 0, 1) := by decide +kernel
theorem d_T_plant_22 : decode b_T_plant 22 = .ok (.getfield 11, 3) := by decide +kernel
theorem d_T_plant_25 : decode b_T_plant 25 = .ok (.aload_n 0, 1) := by decide +kernel
theorem d_T_plant_26 : decode b_T_plant 26 = .ok (.getfield 24, 3) := by decide +kernel
theorem d_T_plant_29 : decode b_T_plant 29 = .ok (.iconst 0, 1) := by decide +kernel
theorem d_T_plant_30 : decode b_T_plant 30 = .ok (.iastore, 1) := by decide +kernel
theorem d_T_plant_31 : decode b_T_plant 31 = .ok (.iconst 0, 1) := by decide +kernel
theorem d_T_plant_32 : decode b_T_plant 32 = .ok (.istore_n 2, 1) := by decide +kernel
theorem d_T_plant_33 : decode b_T_plant 33 = .ok (.iload_n 2, 1) := by decide +kernel
theorem d_T_plant_34 : decode b_T_plant 34 = .ok (.iload_n 1, 1) := by decide +kernel
theorem d_T_plant_35 : decode b_T_plant 35 = .ok (.if_icmp .ge 18, 3) := by decide +kernel
theorem d_T_plant_38 : decode b_T_plant 38 = .ok (.aload_n 0, 1) := by decide +kernel
theorem d_T_plant_39 : decode b_T_plant 39 = .ok (.aload_n 0, 1) := by decide +kernel
theorem d_T_plant_40 : decode b_T_plant 40 = .ok (.getfield 24, 3) := by decide +kernel
theorem d_T_plant_43 : decode b_T_plant 43 = .ok (.iload_n 2, 1) := by decide +kernel
theorem d_T_plant_44 : decode b_T_plant 44 = .ok (.invokevirtual 61, 3) := by decide +kernel
theorem d_T_plant_47 : decode b_T_plant 47 = .ok (.iinc 2 1, 3) := by decide +kernel
theorem d_T_plant_50 : decode b_T_plant 50 = .ok (.goto (-17), 3) := by decide +kernel
theorem d_T_plant_53 : decode b_T_plant 53 = .ok (.return_, 1) := by decide +kernel
theorem d_T_least_0 : decode b_T_least 0 = .ok (.aload_n 0, 1) := by decide +kernel
theorem d_T_least_1 : decode b_T_least 1 = .ok (.getfield 15, 3) := by decide +kernel
theorem d_T_least_4 : decode b_T_least 4 = .ok (.iload_n 1, 1) := by decide +kernel
theorem d_T_least_5 : decode b_T_least 5 = .ok (.iaload, 1) := by decide +kernel
theorem d_T_least_6 : decode b_T_least 6 = .ok (.aload_n 0, 1) := by decide +kernel
theorem d_T_least_7 : decode b_T_least 7 = .ok (.getfield 15, 3) := by decide +kernel
theorem d_T_least_10 : decode b_T_least 10 = .ok (.iload_n 1, 1) := by decide +kernel
theorem d_T_least_11 : decode b_T_least 11 = .ok (.iaload, 1) := by decide +kernel
theorem d_T_least_12 : decode b_T_least 12 = .ok (.ineg, 1) := by decide +kernel
theorem d_T_least_13 : decode b_T_least 13 = .ok (.iand, 1) := by decide +kernel
theorem d_T_least_14 : decode b_T_least 14 = .ok (.ireturn, 1) := by decide +kernel
theorem d_T_part_0 : decode b_T_part 0 = .ok (.iload_n 2, 1) := by decide +kernel
theorem d_T_part_1 : decode b_T_part 1 = .ok (.ifCond .lt 23, 3) := by decide +kernel
theorem d_T_part_4 : decode b_T_part 4 = .ok (.iload_n 2, 1) := by decide +kernel
theorem d_T_part_5 : decode b_T_part 5 = .ok (.bipush 8, 2) := by decide +kernel
theorem d_T_part_7 : decode b_T_part 7 = .ok (.if_icmp .ge 17, 3) := by decide +kernel
theorem d_T_part_10 : decode b_T_part 10 = .ok (.aload_n 0, 1) := by decide +kernel
theorem d_T_part_11 : decode b_T_part 11 = .ok (.getfield 21, 3) := by decide +kernel
theorem d_T_part_14 : decode b_T_part 14 = .ok (.iload_n 1, 1) := by decide +kernel
theorem d_T_part_15 : decode b_T_part 15 = .ok (.bipush 8, 2) := by decide +kernel
theorem d_T_part_17 : decode b_T_part 17 = .ok (.imul, 1) := by decide +kernel
theorem d_T_part_18 : decode b_T_part 18 = .ok (.iload_n 2, 1) := by decide +kernel
theorem d_T_part_19 : decode b_T_part 19 = .ok (.iadd, 1) := by decide +kernel
theorem d_T_part_20 : decode b_T_part 20 = .ok (.iaload, 1) := by decide +kernel
theorem d_T_part_21 : decode b_T_part 21 = .ok (.goto 4, 3) := by decide +kernel
theorem d_T_part_24 : decode b_T_part 24 = .ok (.iconst 0, 1) := by decide +kernel
theorem d_T_part_25 : decode b_T_part 25 = .ok (.ireturn, 1) := by decide +kernel
theorem d_T_setPart_0 : decode b_T_setPart 0 = .ok (.iload_n 2, 1) := by decide +kernel
theorem d_T_setPart_1 : decode b_T_setPart 1 = .ok (.ifCond .lt 21, 3) := by decide +kernel
theorem d_T_setPart_4 : decode b_T_setPart 4 = .ok (.iload_n 2, 1) := by decide +kernel
theorem d_T_setPart_5 : decode b_T_setPart 5 = .ok (.bipush 8, 2) := by decide +kernel
theorem d_T_setPart_7 : decode b_T_setPart 7 = .ok (.if_icmp .ge 15, 3) := by decide +kernel
theorem d_T_setPart_10 : decode b_T_setPart 10 = .ok (.aload_n 0, 1) := by decide +kernel
theorem d_T_setPart_11 : decode b_T_setPart 11 = .ok (.getfield 21, 3) := by decide +kernel
theorem d_T_setPart_14 : decode b_T_setPart 14 = .ok (.iload_n 1, 1) := by decide +kernel
theorem d_T_setPart_15 : decode b_T_setPart 15 = .ok (.bipush 8, 2) := by decide +kernel
theorem d_T_setPart_17 : decode b_T_setPart 17 = .ok (.imul, 1) := by decide +kernel
theorem d_T_setPart_18 : decode b_T_setPart 18 = .ok (.iload_n 2, 1) := by decide +kernel
theorem d_T_setPart_19 : decode b_T_setPart 19 = .ok (.iadd, 1) := by decide +kernel
theorem d_T_setPart_20 : decode b_T_setPart 20 = .ok (.iload_n 3, 1) := by decide +kernel
theorem d_T_setPart_21 : decode b_T_setPart 21 = .ok (.iastore, 1) := by decide +kernel
theorem d_T_setPart_22 : decode b_T_setPart 22 = .ok (.return_, 1) := by decide +kernel
theorem d_T_turn_0 : decode b_T_turn 0 = .ok (.iload_n 1, 1) := by decide +kernel
theorem d_T_turn_1 : decode b_T_turn 1 = .ok (.istore_n 3, 1) := by decide +kernel
theorem d_T_turn_2 : decode b_T_turn 2 = .ok (.iload_n 2, 1) := by decide +kernel
theorem d_T_turn_3 : decode b_T_turn 3 = .ok (.istore 4, 2) := by decide +kernel
theorem d_T_turn_5 : decode b_T_turn 5 = .ok (.iload_n 3, 1) := by decide +kernel
theorem d_T_turn_6 : decode b_T_turn 6 = .ok (.iload 4, 2) := by decide +kernel
theorem d_T_turn_8 : decode b_T_turn 8 = .ok (.if_icmp .ge 30, 3) := by decide +kernel
theorem d_T_turn_11 : decode b_T_turn 11 = .ok (.aload_n 0, 1) := by decide +kernel
theorem d_T_turn_12 : decode b_T_turn 12 = .ok (.iload_n 3, 1) := by decide +kernel
theorem d_T_turn_13 : decode b_T_turn 13 = .ok (.iaload, 1) := by decide +kernel
theorem d_T_turn_14 : decode b_T_turn 14 = .ok (.istore 5, 2) := by decide +kernel
theorem d_T_turn_16 : decode b_T_turn 16 = .ok (.aload_n 0, 1) := by decide +kernel
theorem d_T_turn_17 : decode b_T_turn 17 = .ok (.iload_n 3, 1) := by decide +kernel
theorem d_T_turn_18 : decode b_T_turn 18 = .ok (.aload_n 0, 1) := by decide +kernel
theorem d_T_turn_19 : decode b_T_turn 19 = .ok (.iload 4, 2) := by decide +kernel
theorem d_T_turn_21 : decode b_T_turn 21 = .ok (.iaload, 1) := by decide +kernel
theorem d_T_turn_22 : decode b_T_turn 22 = .ok (.iastore, 1) := by decide +kernel
theorem d_T_turn_23 : decode b_T_turn 23 = .ok (.aload_n 0, 1) := by decide +kernel
theorem d_T_turn_24 : decode b_T_turn 24 = .ok (.iload 4, 2) := by decide +kernel
theorem d_T_turn_26 : decode b_T_turn 26 = .ok (.iload 5, 2) := by decide +kernel
theorem d_T_turn_28 : decode b_T_turn 28 = .ok (.iastore, 1) := by decide +kernel
theorem d_T_turn_29 : decode b_T_turn 29 = .ok (.iinc 3 1, 3) := by decide +kernel
theorem d_T_turn_32 : decode b_T_turn 32 = .ok (.iinc 4 (-1), 3) := by decide +kernel
theorem d_T_turn_35 : decode b_T_turn 35 = .ok (.goto (-30), 3) := by decide +kernel
theorem d_T_turn_38 : decode b_T_turn 38 = .ok (.return_, 1) := by decide +kernel
theorem d_T_order_0 : decode b_T_order 0 = .ok (.aload_n 0, 1) := by decide +kernel
theorem d_T_order_1 : decode b_T_order 1 = .ok (.getfield 18, 3) := by decide +kernel
theorem d_T_order_4 : decode b_T_order 4 = .ok (.iload_n 1, 1) := by decide +kernel
theorem d_T_order_5 : decode b_T_order 5 = .ok (.iaload, 1) := by decide +kernel
theorem d_T_order_6 : decode b_T_order 6 = .ok (.iconst 1, 1) := by decide +kernel
theorem d_T_order_7 : decode b_T_order 7 = .ok (.isub, 1) := by decide +kernel
theorem d_T_order_8 : decode b_T_order 8 = .ok (.istore_n 2, 1) := by decide +kernel
theorem d_T_order_9 : decode b_T_order 9 = .ok (.aload_n 0, 1) := by decide +kernel
theorem d_T_order_10 : decode b_T_order 10 = .ok (.getfield 11, 3) := by decide +kernel
theorem d_T_order_13 : decode b_T_order 13 = .ok (.iload_n 1, 1) := by decide +kernel
theorem d_T_order_14 : decode b_T_order 14 = .ok (.iaload, 1) := by decide +kernel
theorem d_T_order_15 : decode b_T_order 15 = .ok (.iconst 1, 1) := by decide +kernel
theorem d_T_order_16 : decode b_T_order 16 = .ok (.if_icmp .ne 44, 3) := by decide +kernel
theorem d_T_order_19 : decode b_T_order 19 = .ok (.aload_n 0, 1) := by decide +kernel
theorem d_T_order_20 : decode b_T_order 20 = .ok (.aload_n 0, 1) := by decide +kernel
theorem d_T_order_21 : decode b_T_order 21 = .ok (.iload_n 1, 1) := by decide +kernel
theorem d_T_order_22 : decode b_T_order 22 = .ok (.iconst 0, 1) := by decide +kernel
theorem d_T_order_23 : decode b_T_order 23 = .ok (.invokevirtual 73, 3) := by decide +kernel
theorem d_T_order_26 : decode b_T_order 26 = .ok (.invokevirtual 77, 3) := by decide +kernel
theorem d_T_order_29 : decode b_T_order 29 = .ok (.aload_n 0, 1) := by decide +kernel
theorem d_T_order_30 : decode b_T_order 30 = .ok (.aload_n 0, 1) := by decide +kernel
theorem d_T_order_31 : decode b_T_order 31 = .ok (.iload_n 1, 1) := by decide +kernel
theorem d_T_order_32 : decode b_T_order 32 = .ok (.iload_n 2, 1) := by decide +kernel
theorem d_T_order_33 : decode b_T_order 33 = .ok (.invokevirtual 73, 3) := by decide +kernel
theorem d_T_order_36 : decode b_T_order 36 = .ok (.invokevirtual 77, 3) := by decide +kernel
theorem d_T_order_39 : decode b_T_order 39 = .ok (.if_icmp .le 20, 3) := by decide +kernel
theorem d_T_order_42 : decode b_T_order 42 = .ok (.aload_n 0, 1) := by decide +kernel
theorem d_T_order_43 : decode b_T_order 43 = .ok (.getfield 21, 3) := by decide +kernel
theorem d_T_order_46 : decode b_T_order 46 = .ok (.iload_n 1, 1) := by decide +kernel
theorem d_T_order_47 : decode b_T_order 47 = .ok (.bipush 8, 2) := by decide +kernel
theorem d_T_order_49 : decode b_T_order 49 = .ok (.imul, 1) := by decide +kernel
theorem d_T_order_50 : decode b_T_order 50 = .ok (.iload_n 1, 1) := by decide +kernel
theorem d_T_order_51 : decode b_T_order 51 = .ok (.bipush 8, 2) := by decide +kernel
theorem d_T_order_53 : decode b_T_order 53 = .ok (.imul, 1) := by decide +kernel
theorem d_T_order_54 : decode b_T_order 54 = .ok (.iload_n 2, 1) := by decide +kernel
theorem d_T_order_55 : decode b_T_order 55 = .ok (.iadd, 1) := by decide +kernel
theorem d_T_order_56 : decode b_T_order 56 = .ok (.invokestatic 81, 3) := by decide +kernel
theorem d_T_order_59 : decode b_T_order 59 = .ok (.return_, 1) := by decide +kernel
theorem d_T_order_60 : decode b_T_order 60 = .ok (.iconst 1, 1) := by decide +kernel
theorem d_T_order_61 : decode b_T_order 61 = .ok (.istore_n 3, 1) := by decide +kernel
theorem d_T_order_62 : decode b_T_order 62 = .ok (.iload_n 3, 1) := by decide +kernel
theorem d_T_order_63 : decode b_T_order 63 = .ok (.iload_n 2, 1) := by decide +kernel
theorem d_T_order_64 : decode b_T_order 64 = .ok (.if_icmp .gt 78, 3) := by decide +kernel
theorem d_T_order_67 : decode b_T_order 67 = .ok (.aload_n 0, 1) := by decide +kernel
theorem d_T_order_68 : decode b_T_order 68 = .ok (.iload_n 1, 1) := by decide +kernel
theorem d_T_order_69 : decode b_T_order 69 = .ok (.iload_n 3, 1) := by decide +kernel
theorem d_T_order_70 : decode b_T_order 70 = .ok (.invokevirtual 73, 3) := by decide +kernel
theorem d_T_order_73 : decode b_T_order 73 = .ok (.istore 4, 2) := by decide +kernel
theorem d_T_order_75 : decode b_T_order 75 = .ok (.iload_n 3, 1) := by decide +kernel
theorem d_T_order_76 : decode b_T_order 76 = .ok (.istore 5, 2) := by decide +kernel
theorem d_T_order_78 : decode b_T_order 78 = .ok (.iload 5, 2) := by decide +kernel
theorem d_T_order_80 : decode b_T_order 80 = .ok (.ifCond .le 47, 3) := by decide +kernel
theorem d_T_order_83 : decode b_T_order 83 = .ok (.aload_n 0, 1) := by decide +kernel
theorem d_T_order_84 : decode b_T_order 84 = .ok (.aload_n 0, 1) := by decide +kernel
theorem d_T_order_85 : decode b_T_order 85 = .ok (.iload_n 1, 1) := by decide +kernel
theorem d_T_order_86 : decode b_T_order 86 = .ok (.iload 5, 2) := by decide +kernel
theorem d_T_order_88 : decode b_T_order 88 = .ok (.iconst 1, 1) := by decide +kernel
theorem d_T_order_89 : decode b_T_order 89 = .ok (.isub, 1) := by decide +kernel
theorem d_T_order_90 : decode b_T_order 90 = .ok (.invokevirtual 73, 3) := by decide +kernel
theorem d_T_order_93 : decode b_T_order 93 = .ok (.invokevirtual 77, 3) := by decide +kernel
theorem d_T_order_96 : decode b_T_order 96 = .ok (.aload_n 0, 1) := by decide +kernel
theorem d_T_order_97 : decode b_T_order 97 = .ok (.iload 4, 2) := by decide +kernel
theorem d_T_order_99 : decode b_T_order 99 = .ok (.invokevirtual 77, 3) := by decide +kernel
theorem d_T_order_102 : decode b_T_order 102 = .ok (.if_icmp .le 25, 3) := by decide +kernel
theorem d_T_order_105 : decode b_T_order 105 = .ok (.aload_n 0, 1) := by decide +kernel
theorem d_T_order_106 : decode b_T_order 106 = .ok (.iload_n 1, 1) := by decide +kernel
theorem d_T_order_107 : decode b_T_order 107 = .ok (.iload 5, 2) := by decide +kernel
theorem d_T_order_109 : decode b_T_order 109 = .ok (.aload_n 0, 1) := by decide +kernel
theorem d_T_order_110 : decode b_T_order 110 = .ok (.iload_n 1, 1) := by decide +kernel
theorem d_T_order_111 : decode b_T_order 111 = .ok (.iload 5, 2) := by decide +kernel
theorem d_T_order_113 : decode b_T_order 113 = .ok (.iconst 1, 1) := by decide +kernel
theorem d_T_order_114 : decode b_T_order 114 = .ok (.isub, 1) := by decide +kernel
theorem d_T_order_115 : decode b_T_order 115 = .ok (.invokevirtual 73, 3) := by decide +kernel
theorem d_T_order_118 : decode b_T_order 118 = .ok (.invokevirtual 85, 3) := by decide +kernel
theorem d_T_order_121 : decode b_T_order 121 = .ok (.iinc 5 (-1), 3) := by decide +kernel
theorem d_T_order_124 : decode b_T_order 124 = .ok (.goto (-46), 3) := by decide +kernel
theorem d_T_order_127 : decode b_T_order 127 = .ok (.aload_n 0, 1) := by decide +kernel
theorem d_T_order_128 : decode b_T_order 128 = .ok (.iload_n 1, 1) := by decide +kernel
theorem d_T_order_129 : decode b_T_order 129 = .ok (.iload 5, 2) := by decide +kernel
theorem d_T_order_131 : decode b_T_order 131 = .ok (.iload 4, 2) := by decide +kernel
theorem d_T_order_133 : decode b_T_order 133 = .ok (.invokevirtual 85, 3) := by decide +kernel
theorem d_T_order_136 : decode b_T_order 136 = .ok (.iinc 3 1, 3) := by decide +kernel
theorem d_T_order_139 : decode b_T_order 139 = .ok (.goto (-77), 3) := by decide +kernel
theorem d_T_order_142 : decode b_T_order 142 = .ok (.return_, 1) := by decide +kernel
theorem d_T_place_0 : decode b_T_place 0 = .ok (.iload_n 1, 1) := by decide +kernel
theorem d_T_place_1 : decode b_T_place 1 = .ok (.bipush 8, 2) := by decide +kernel
theorem d_T_place_3 : decode b_T_place 3 = .ok (.if_icmp .ge 5, 3) := by decide +kernel
theorem d_T_place_6 : decode b_T_place 6 = .ok (.iload_n 1, 1) := by decide +kernel
theorem d_T_place_7 : decode b_T_place 7 = .ok (.ireturn, 1) := by decide +kernel
theorem d_T_place_8 : decode b_T_place 8 = .ok (.iload_n 3, 1) := by decide +kernel
theorem d_T_place_9 : decode b_T_place 9 = .ok (.bipush 8, 2) := by decide +kernel
theorem d_T_place_11 : decode b_T_place 11 = .ok (.if_icmp .ge 12, 3) := by decide +kernel
theorem d_T_place_14 : decode b_T_place 14 = .ok (.aload_n 2, 1) := by decide +kernel
theorem d_T_place_15 : decode b_T_place 15 = .ok (.getfield 28, 3) := by decide +kernel
theorem d_T_place_18 : decode b_T_place 18 = .ok (.bipush 7, 2) := by decide +kernel
theorem d_T_place_20 : decode b_T_place 20 = .ok (.if_icmp .lt 5, 3) := by decide +kernel
theorem d_T_place_23 : decode b_T_place 23 = .ok (.iconst 0, 1) := by decide +kernel
theorem d_T_place_24 : decode b_T_place 24 = .ok (.ireturn, 1) := by decide +kernel
theorem d_T_place_25 : decode b_T_place 25 = .ok (.bipush 8, 2) := by decide +kernel
theorem d_T_place_27 : decode b_T_place 27 = .ok (.aload_n 2, 1) := by decide +kernel
theorem d_T_place_28 : decode b_T_place 28 = .ok (.getfield 28, 3) := by decide +kernel
theorem d_T_place_31 : decode b_T_place 31 = .ok (.iadd, 1) := by decide +kernel
theorem d_T_place_32 : decode b_T_place 32 = .ok (.istore 4, 2) := by decide +kernel
theorem d_T_place_34 : decode b_T_place 34 = .ok (.aload_n 2, 1) := by decide +kernel
theorem d_T_place_35 : decode b_T_place 35 = .ok (.dup, 1) := by decide +kernel
theorem d_T_place_36 : decode b_T_place 36 = .ok (.getfield 28, 3) := by decide +kernel
theorem d_T_place_39 : decode b_T_place 39 = .ok (.iconst 1, 1) := by decide +kernel
theorem d_T_place_40 : decode b_T_place 40 = .ok (.iadd, 1) := by decide +kernel
theorem d_T_place_41 : decode b_T_place 41 = .ok (.putfield 28, 3) := by decide +kernel
theorem d_T_place_44 : decode b_T_place 44 = .ok (.aload_n 2, 1) := by decide +kernel
theorem d_T_place_45 : decode b_T_place 45 = .ok (.getfield 11, 3) := by decide +kernel
theorem d_T_place_48 : decode b_T_place 48 = .ok (.iload 4, 2) := by decide +kernel
theorem d_T_place_50 : decode b_T_place 50 = .ok (.aload_n 0, 1) := by decide +kernel
theorem d_T_place_51 : decode b_T_place 51 = .ok (.getfield 11, 3) := by decide +kernel
theorem d_T_place_54 : decode b_T_place 54 = .ok (.iload_n 1, 1) := by decide +kernel
theorem d_T_place_55 : decode b_T_place 55 = .ok (.iaload, 1) := by decide +kernel
theorem d_T_place_56 : decode b_T_place 56 = .ok (.iastore, 1) := by decide +kernel
theorem d_T_place_57 : decode b_T_place 57 = .ok (.aload_n 0, 1) := by decide +kernel
theorem d_T_place_58 : decode b_T_place 58 = .ok (.iload_n 1, 1) := by decide +kernel
theorem d_T_place_59 : decode b_T_place 59 = .ok (.invokevirtual 69, 3) := by decide +kernel
theorem d_T_place_62 : decode b_T_place 62 = .ok (.iconst 0, 1) := by decide +kernel
theorem d_T_place_63 : decode b_T_place 63 = .ok (.istore 5, 2) := by decide +kernel
theorem d_T_place_65 : decode b_T_place 65 = .ok (.iload 5, 2) := by decide +kernel
theorem d_T_place_67 : decode b_T_place 67 = .ok (.aload_n 0, 1) := by decide +kernel
theorem d_T_place_68 : decode b_T_place 68 = .ok (.getfield 18, 3) := by decide +kernel
theorem d_T_place_71 : decode b_T_place 71 = .ok (.iload_n 1, 1) := by decide +kernel
theorem d_T_place_72 : decode b_T_place 72 = .ok (.iaload, 1) := by decide +kernel
theorem d_T_place_73 : decode b_T_place 73 = .ok (.if_icmp .ge 30, 3) := by decide +kernel
theorem d_T_place_76 : decode b_T_place 76 = .ok (.aload_n 2, 1) := by decide +kernel
theorem d_T_place_77 : decode b_T_place 77 = .ok (.iload 4, 2) := by decide +kernel
theorem d_T_place_79 : decode b_T_place 79 = .ok (.aload_n 0, 1) := by decide +kernel
theorem d_T_place_80 : decode b_T_place 80 = .ok (.aload_n 0, 1) := by decide +kernel
theorem d_T_place_81 : decode b_T_place 81 = .ok (.iload_n 1, 1) := by decide +kernel
theorem d_T_place_82 : decode b_T_place 82 = .ok (.iload 5, 2) := by decide +kernel
theorem d_T_place_84 : decode b_T_place 84 = .ok (.invokevirtual 73, 3) := by decide +kernel
theorem d_T_place_87 : decode b_T_place 87 = .ok (.aload_n 2, 1) := by decide +kernel
theorem d_T_place_88 : decode b_T_place 88 = .ok (.iload_n 3, 1) := by decide +kernel
theorem d_T_place_89 : decode b_T_place 89 = .ok (.iconst 1, 1) := by decide +kernel
theorem d_T_place_90 : decode b_T_place 90 = .ok (.iadd, 1) := by decide +kernel
theorem d_T_place_91 : decode b_T_place 91 = .ok (.invokestatic 65, 3) := by decide +kernel
theorem d_T_place_94 : decode b_T_place 94 = .ok (.invokevirtual 61, 3) := by decide +kernel
theorem d_T_place_97 : decode b_T_place 97 = .ok (.iinc 5 1, 3) := by decide +kernel
theorem d_T_place_100 : decode b_T_place 100 = .ok (.goto (-35), 3) := by decide +kernel
theorem d_T_place_103 : decode b_T_place 103 = .ok (.iload 4, 2) := by decide +kernel
theorem d_T_place_105 : decode b_T_place 105 = .ok (.ireturn, 1) := by decide +kernel
theorem d_T_draw_0 : decode b_T_draw 0 = .ok (.aload_n 0, 1) := by decide +kernel
theorem d_T_draw_1 : decode b_T_draw 1 = .ok (.invokevirtual 58, 3) := by decide +kernel
theorem d_T_draw_4 : decode b_T_draw 4 = .ok (.aload_n 0, 1) := by decide +kernel
theorem d_T_draw_5 : decode b_T_draw 5 = .ok (.aload_n 1, 1) := by decide +kernel
theorem d_T_draw_6 : decode b_T_draw 6 = .ok (.aload_n 1, 1) := by decide +kernel
theorem d_T_draw_7 : decode b_T_draw 7 = .ok (.getfield 24, 3) := by decide +kernel
theorem d_T_draw_10 : decode b_T_draw 10 = .ok (.aload_n 0, 1) := by decide +kernel
theorem d_T_draw_11 : decode b_T_draw 11 = .ok (.iconst 0, 1) := by decide +kernel
theorem d_T_draw_12 : decode b_T_draw 12 = .ok (.invokestatic 65, 3) := by decide +kernel
theorem d_T_draw_15 : decode b_T_draw 15 = .ok (.putfield 24, 3) := by decide +kernel
theorem d_T_draw_18 : decode b_T_draw 18 = .ok (.return_, 1) := by decide +kernel
theorem d_J_bitCount_0 : decode b_J_bitCount 0 = .ok (.iload_n 0, 1) := by decide +kernel
theorem d_J_bitCount_1 : decode b_J_bitCount 1 = .ok (.iload_n 0, 1) := by decide +kernel
theorem d_J_bitCount_2 : decode b_J_bitCount 2 = .ok (.iconst 1, 1) := by decide +kernel
theorem d_J_bitCount_3 : decode b_J_bitCount 3 = .ok (.iushr, 1) := by decide +kernel
theorem d_J_bitCount_4 : decode b_J_bitCount 4 = .ok (.ldc_w 265, 3) := by decide +kernel
theorem d_J_bitCount_7 : decode b_J_bitCount 7 = .ok (.iand, 1) := by decide +kernel
theorem d_J_bitCount_8 : decode b_J_bitCount 8 = .ok (.isub, 1) := by decide +kernel
theorem d_J_bitCount_9 : decode b_J_bitCount 9 = .ok (.istore_n 0, 1) := by decide +kernel
theorem d_J_bitCount_10 : decode b_J_bitCount 10 = .ok (.iload_n 0, 1) := by decide +kernel
theorem d_J_bitCount_11 : decode b_J_bitCount 11 = .ok (.ldc_w 266, 3) := by decide +kernel
theorem d_J_bitCount_14 : decode b_J_bitCount 14 = .ok (.iand, 1) := by decide +kernel
theorem d_J_bitCount_15 : decode b_J_bitCount 15 = .ok (.iload_n 0, 1) := by decide +kernel
theorem d_J_bitCount_16 : decode b_J_bitCount 16 = .ok (.iconst 2, 1) := by decide +kernel
theorem d_J_bitCount_17 : decode b_J_bitCount 17 = .ok (.iushr, 1) := by decide +kernel
theorem d_J_bitCount_18 : decode b_J_bitCount 18 = .ok (.ldc_w 266, 3) := by decide +kernel
theorem d_J_bitCount_21 : decode b_J_bitCount 21 = .ok (.iand, 1) := by decide +kernel
theorem d_J_bitCount_22 : decode b_J_bitCount 22 = .ok (.iadd, 1) := by decide +kernel
theorem d_J_bitCount_23 : decode b_J_bitCount 23 = .ok (.istore_n 0, 1) := by decide +kernel
theorem d_J_bitCount_24 : decode b_J_bitCount 24 = .ok (.iload_n 0, 1) := by decide +kernel
theorem d_J_bitCount_25 : decode b_J_bitCount 25 = .ok (.iload_n 0, 1) := by decide +kernel
theorem d_J_bitCount_26 : decode b_J_bitCount 26 = .ok (.iconst 4, 1) := by decide +kernel
theorem d_J_bitCount_27 : decode b_J_bitCount 27 = .ok (.iushr, 1) := by decide +kernel
theorem d_J_bitCount_28 : decode b_J_bitCount 28 = .ok (.iadd, 1) := by decide +kernel
theorem d_J_bitCount_29 : decode b_J_bitCount 29 = .ok (.ldc_w 267, 3) := by decide +kernel
theorem d_J_bitCount_32 : decode b_J_bitCount 32 = .ok (.iand, 1) := by decide +kernel
theorem d_J_bitCount_33 : decode b_J_bitCount 33 = .ok (.istore_n 0, 1) := by decide +kernel
theorem d_J_bitCount_34 : decode b_J_bitCount 34 = .ok (.iload_n 0, 1) := by decide +kernel
theorem d_J_bitCount_35 : decode b_J_bitCount 35 = .ok (.iload_n 0, 1) := by decide +kernel
theorem d_J_bitCount_36 : decode b_J_bitCount 36 = .ok (.bipush 8, 2) := by decide +kernel
theorem d_J_bitCount_38 : decode b_J_bitCount 38 = .ok (.iushr, 1) := by decide +kernel
theorem d_J_bitCount_39 : decode b_J_bitCount 39 = .ok (.iadd, 1) := by decide +kernel
theorem d_J_bitCount_40 : decode b_J_bitCount 40 = .ok (.istore_n 0, 1) := by decide +kernel
theorem d_J_bitCount_41 : decode b_J_bitCount 41 = .ok (.iload_n 0, 1) := by decide +kernel
theorem d_J_bitCount_42 : decode b_J_bitCount 42 = .ok (.iload_n 0, 1) := by decide +kernel
theorem d_J_bitCount_43 : decode b_J_bitCount 43 = .ok (.bipush 16, 2) := by decide +kernel
theorem d_J_bitCount_45 : decode b_J_bitCount 45 = .ok (.iushr, 1) := by decide +kernel
theorem d_J_bitCount_46 : decode b_J_bitCount 46 = .ok (.iadd, 1) := by decide +kernel
theorem d_J_bitCount_47 : decode b_J_bitCount 47 = .ok (.istore_n 0, 1) := by decide +kernel
theorem d_J_bitCount_48 : decode b_J_bitCount 48 = .ok (.iload_n 0, 1) := by decide +kernel
theorem d_J_bitCount_49 : decode b_J_bitCount 49 = .ok (.bipush 63, 2) := by decide +kernel
theorem d_J_bitCount_51 : decode b_J_bitCount 51 = .ok (.iand, 1) := by decide +kernel
theorem d_J_bitCount_52 : decode b_J_bitCount 52 = .ok (.ireturn, 1) := by decide +kernel
theorem d_T_giveBackSplit_0 : decode b_T_giveBackSplit 0 = .ok (.iconst 0, 1) := by decide +kernel
theorem d_T_giveBackSplit_1 : decode b_T_giveBackSplit 1 = .ok (.istore_n 1, 1) := by decide +kernel
theorem d_T_giveBackSplit_2 : decode b_T_giveBackSplit 2 = .ok (.iload_n 1, 1) := by decide +kernel
theorem d_T_giveBackSplit_3 : decode b_T_giveBackSplit 3 = .ok (.aload_n 0, 1) := by decide +kernel
theorem d_T_giveBackSplit_4 : decode b_T_giveBackSplit 4 = .ok (.getfield 46, 3) := by decide +kernel
theorem d_T_giveBackSplit_7 : decode b_T_giveBackSplit 7 = .ok (.if_icmp .ge 21, 3) := by decide +kernel
theorem d_T_giveBackSplit_10 : decode b_T_giveBackSplit 10 = .ok (.aload_n 0, 1) := by decide +kernel
theorem d_T_giveBackSplit_11 : decode b_T_giveBackSplit 11 = .ok (.getfield 18, 3) := by decide +kernel
theorem d_T_giveBackSplit_14 : decode b_T_giveBackSplit 14 = .ok (.aload_n 0, 1) := by decide +kernel
theorem d_T_giveBackSplit_15 : decode b_T_giveBackSplit 15 = .ok (.getfield 43, 3) := by decide +kernel
theorem d_T_giveBackSplit_18 : decode b_T_giveBackSplit 18 = .ok (.iload_n 1, 1) := by decide +kernel
theorem d_T_giveBackSplit_19 : decode b_T_giveBackSplit 19 = .ok (.iaload, 1) := by decide +kernel
theorem d_T_giveBackSplit_20 : decode b_T_giveBackSplit 20 = .ok (.iconst 0, 1) := by decide +kernel
theorem d_T_giveBackSplit_21 : decode b_T_giveBackSplit 21 = .ok (.iastore, 1) := by decide +kernel
theorem d_T_giveBackSplit_22 : decode b_T_giveBackSplit 22 = .ok (.iinc 1 1, 3) := by decide +kernel
theorem d_T_giveBackSplit_25 : decode b_T_giveBackSplit 25 = .ok (.goto (-23), 3) := by decide +kernel
theorem d_T_giveBackSplit_28 : decode b_T_giveBackSplit 28 = .ok (.return_, 1) := by decide +kernel
theorem d_T_lowestWith_0 : decode b_T_lowestWith 0 = .ok (.aload_n 0, 1) := by decide +kernel
theorem d_T_lowestWith_1 : decode b_T_lowestWith 1 = .ok (.getfield 24, 3) := by decide +kernel
theorem d_T_lowestWith_4 : decode b_T_lowestWith 4 = .ok (.istore_n 2, 1) := by decide +kernel
theorem d_T_lowestWith_5 : decode b_T_lowestWith 5 = .ok (.iconst 0, 1) := by decide +kernel
theorem d_T_lowestWith_6 : decode b_T_lowestWith 6 = .ok (.istore_n 3, 1) := by decide +kernel
theorem d_T_lowestWith_7 : decode b_T_lowestWith 7 = .ok (.iload_n 3, 1) := by decide +kernel
theorem d_T_lowestWith_8 : decode b_T_lowestWith 8 = .ok (.bipush 8, 2) := by decide +kernel
theorem d_T_lowestWith_10 : decode b_T_lowestWith 10 = .ok (.if_icmp .ge 72, 3) := by decide +kernel
theorem d_T_lowestWith_13 : decode b_T_lowestWith 13 = .ok (.iconst (-1), 1) := by decide +kernel
theorem d_T_lowestWith_14 : decode b_T_lowestWith 14 = .ok (.istore 4, 2) := by decide +kernel
theorem d_T_lowestWith_16 : decode b_T_lowestWith 16 = .ok (.iconst 0, 1) := by decide +kernel
theorem d_T_lowestWith_17 : decode b_T_lowestWith 17 = .ok (.istore 5, 2) := by decide +kernel
theorem d_T_lowestWith_19 : decode b_T_lowestWith 19 = .ok (.iload 5, 2) := by decide +kernel
theorem d_T_lowestWith_21 : decode b_T_lowestWith 21 = .ok (.aload_n 0, 1) := by decide +kernel
theorem d_T_lowestWith_22 : decode b_T_lowestWith 22 = .ok (.getfield 18, 3) := by decide +kernel
theorem d_T_lowestWith_25 : decode b_T_lowestWith 25 = .ok (.iload_n 2, 1) := by decide +kernel
theorem d_T_lowestWith_26 : decode b_T_lowestWith 26 = .ok (.iaload, 1) := by decide +kernel
theorem d_T_lowestWith_27 : decode b_T_lowestWith 27 = .ok (.if_icmp .ge 37, 3) := by decide +kernel
theorem d_T_lowestWith_30 : decode b_T_lowestWith 30 = .ok (.iload_n 1, 1) := by decide +kernel
theorem d_T_lowestWith_31 : decode b_T_lowestWith 31 = .ok (.aload_n 0, 1) := by decide +kernel
theorem d_T_lowestWith_32 : decode b_T_lowestWith 32 = .ok (.getfield 15, 3) := by decide +kernel
theorem d_T_lowestWith_35 : decode b_T_lowestWith 35 = .ok (.aload_n 0, 1) := by decide +kernel
theorem d_T_lowestWith_36 : decode b_T_lowestWith 36 = .ok (.iload_n 2, 1) := by decide +kernel
theorem d_T_lowestWith_37 : decode b_T_lowestWith 37 = .ok (.iload 5, 2) := by decide +kernel
theorem d_T_lowestWith_39 : decode b_T_lowestWith 39 = .ok (.invokevirtual 73, 3) := by decide +kernel
theorem d_T_lowestWith_42 : decode b_T_lowestWith 42 = .ok (.iaload, 1) := by decide +kernel
theorem d_T_lowestWith_43 : decode b_T_lowestWith 43 = .ok (.iconst (-1), 1) := by decide +kernel
theorem d_T_lowestWith_44 : decode b_T_lowestWith 44 = .ok (.ixor, 1) := by decide +kernel
theorem d_T_lowestWith_45 : decode b_T_lowestWith 45 = .ok (.iand, 1) := by decide +kernel
theorem d_T_lowestWith_46 : decode b_T_lowestWith 46 = .ok (.ifCond .ne 12, 3) := by decide +kernel
theorem d_T_lowestWith_49 : decode b_T_lowestWith 49 = .ok (.aload_n 0, 1) := by decide +kernel
theorem d_T_lowestWith_50 : decode b_T_lowestWith 50 = .ok (.iload_n 2, 1) := by decide +kernel
theorem d_T_lowestWith_51 : decode b_T_lowestWith 51 = .ok (.iload 5, 2) := by decide +kernel
theorem d_T_lowestWith_53 : decode b_T_lowestWith 53 = .ok (.invokevirtual 73, 3) := by decide +kernel
theorem d_T_lowestWith_56 : decode b_T_lowestWith 56 = .ok (.istore 4, 2) := by decide +kernel
theorem d_T_lowestWith_58 : decode b_T_lowestWith 58 = .ok (.iinc 5 1, 3) := by decide +kernel
theorem d_T_lowestWith_61 : decode b_T_lowestWith 61 = .ok (.goto (-42), 3) := by decide +kernel
theorem d_T_lowestWith_64 : decode b_T_lowestWith 64 = .ok (.iload 4, 2) := by decide +kernel
theorem d_T_lowestWith_66 : decode b_T_lowestWith 66 = .ok (.iconst (-1), 1) := by decide +kernel
theorem d_T_lowestWith_67 : decode b_T_lowestWith 67 = .ok (.if_icmp .ne 6, 3) := by decide +kernel
theorem d_T_lowestWith_70 : decode b_T_lowestWith 70 = .ok (.goto 12, 3) := by decide +kernel
theorem d_T_lowestWith_73 : decode b_T_lowestWith 73 = .ok (.iload 4, 2) := by decide +kernel
theorem d_T_lowestWith_75 : decode b_T_lowestWith 75 = .ok (.istore_n 2, 1) := by decide +kernel
theorem d_T_lowestWith_76 : decode b_T_lowestWith 76 = .ok (.iinc 3 1, 3) := by decide +kernel
theorem d_T_lowestWith_79 : decode b_T_lowestWith 79 = .ok (.goto (-72), 3) := by decide +kernel
theorem d_T_lowestWith_82 : decode b_T_lowestWith 82 = .ok (.iload_n 2, 1) := by decide +kernel
theorem d_T_lowestWith_83 : decode b_T_lowestWith 83 = .ok (.ireturn, 1) := by decide +kernel
theorem d_T_append_0 : decode b_T_append 0 = .ok (.iload_n 1, 1) := by decide +kernel
theorem d_T_append_1 : decode b_T_append 1 = .ok (.iconst (-1), 1) := by decide +kernel
theorem d_T_append_2 : decode b_T_append 2 = .ok (.if_icmp .eq 32, 3) := by decide +kernel
theorem d_T_append_5 : decode b_T_append 5 = .ok (.aload_n 0, 1) := by decide +kernel
theorem d_T_append_6 : decode b_T_append 6 = .ok (.getfield 34, 3) := by decide +kernel
theorem d_T_append_9 : decode b_T_append 9 = .ok (.bipush 8, 2) := by decide +kernel
theorem d_T_append_11 : decode b_T_append 11 = .ok (.if_icmp .ge 23, 3) := by decide +kernel
theorem d_T_append_14 : decode b_T_append 14 = .ok (.aload_n 0, 1) := by decide +kernel
theorem d_T_append_15 : decode b_T_append 15 = .ok (.getfield 31, 3) := by decide +kernel
theorem d_T_append_18 : decode b_T_append 18 = .ok (.aload_n 0, 1) := by decide +kernel
theorem d_T_append_19 : decode b_T_append 19 = .ok (.getfield 34, 3) := by decide +kernel
theorem d_T_append_22 : decode b_T_append 22 = .ok (.iload_n 1, 1) := by decide +kernel
theorem d_T_append_23 : decode b_T_append 23 = .ok (.iastore, 1) := by decide +kernel
theorem d_T_append_24 : decode b_T_append 24 = .ok (.aload_n 0, 1) := by decide +kernel
theorem d_T_append_25 : decode b_T_append 25 = .ok (.dup, 1) := by decide +kernel
theorem d_T_append_26 : decode b_T_append 26 = .ok (.getfield 34, 3) := by decide +kernel
theorem d_T_append_29 : decode b_T_append 29 = .ok (.iconst 1, 1) := by decide +kernel
theorem d_T_append_30 : decode b_T_append 30 = .ok (.iadd, 1) := by decide +kernel
theorem d_T_append_31 : decode b_T_append 31 = .ok (.putfield 34, 3) := by decide +kernel
theorem d_T_append_34 : decode b_T_append 34 = .ok (.return_, 1) := by decide +kernel
theorem d_T_stateOf_0 : decode b_T_stateOf 0 = .ok (.aload_n 0, 1) := by decide +kernel
theorem d_T_stateOf_1 : decode b_T_stateOf 1 = .ok (.getfield 15, 3) := by decide +kernel
theorem d_T_stateOf_4 : decode b_T_stateOf 4 = .ok (.iload_n 1, 1) := by decide +kernel
theorem d_T_stateOf_5 : decode b_T_stateOf 5 = .ok (.iaload, 1) := by decide +kernel
theorem d_T_stateOf_6 : decode b_T_stateOf 6 = .ok (.iload_n 2, 1) := by decide +kernel
theorem d_T_stateOf_7 : decode b_T_stateOf 7 = .ok (.iand, 1) := by decide +kernel
theorem d_T_stateOf_8 : decode b_T_stateOf 8 = .ok (.istore_n 3, 1) := by decide +kernel
theorem d_T_stateOf_9 : decode b_T_stateOf 9 = .ok (.iload_n 3, 1) := by decide +kernel
theorem d_T_stateOf_10 : decode b_T_stateOf 10 = .ok (.ifCond .ne 5, 3) := by decide +kernel
theorem d_T_stateOf_13 : decode b_T_stateOf 13 = .ok (.iconst 0, 1) := by decide +kernel
theorem d_T_stateOf_14 : decode b_T_stateOf 14 = .ok (.ireturn, 1) := by decide +kernel
theorem d_T_stateOf_15 : decode b_T_stateOf 15 = .ok (.iload_n 3, 1) := by decide +kernel
theorem d_T_stateOf_16 : decode b_T_stateOf 16 = .ok (.aload_n 0, 1) := by decide +kernel
theorem d_T_stateOf_17 : decode b_T_stateOf 17 = .ok (.getfield 15, 3) := by decide +kernel
theorem d_T_stateOf_20 : decode b_T_stateOf 20 = .ok (.iload_n 1, 1) := by decide +kernel
theorem d_T_stateOf_21 : decode b_T_stateOf 21 = .ok (.iaload, 1) := by decide +kernel
theorem d_T_stateOf_22 : decode b_T_stateOf 22 = .ok (.if_icmp .ne 7, 3) := by decide +kernel
theorem d_T_stateOf_25 : decode b_T_stateOf 25 = .ok (.iconst 2, 1) := by decide +kernel
theorem d_T_stateOf_26 : decode b_T_stateOf 26 = .ok (.goto 4, 3) := by decide +kernel
theorem d_T_stateOf_29 : decode b_T_stateOf 29 = .ok (.iconst 1, 1) := by decide +kernel
theorem d_T_stateOf_30 : decode b_T_stateOf 30 = .ok (.ireturn, 1) := by decide +kernel
theorem d_T_unusedNode_0 : decode b_T_unusedNode 0 = .ok (.bipush 8, 2) := by decide +kernel
theorem d_T_unusedNode_2 : decode b_T_unusedNode 2 = .ok (.istore_n 1, 1) := by decide +kernel
theorem d_T_unusedNode_3 : decode b_T_unusedNode 3 = .ok (.iload_n 1, 1) := by decide +kernel
theorem d_T_unusedNode_4 : decode b_T_unusedNode 4 = .ok (.bipush 23, 2) := by decide +kernel
theorem d_T_unusedNode_6 : decode b_T_unusedNode 6 = .ok (.if_icmp .ge 18, 3) := by decide +kernel
theorem d_T_unusedNode_9 : decode b_T_unusedNode 9 = .ok (.aload_n 0, 1) := by decide +kernel
theorem d_T_unusedNode_10 : decode b_T_unusedNode 10 = .ok (.getfield 18, 3) := by decide +kernel
theorem d_T_unusedNode_13 : decode b_T_unusedNode 13 = .ok (.iload_n 1, 1) := by decide +kernel
theorem d_T_unusedNode_14 : decode b_T_unusedNode 14 = .ok (.iaload, 1) := by decide +kernel
theorem d_T_unusedNode_15 : decode b_T_unusedNode 15 = .ok (.ifCond .le 9, 3) := by decide +kernel
theorem d_T_unusedNode_18 : decode b_T_unusedNode 18 = .ok (.iinc 1 1, 3) := by decide +kernel
theorem d_T_unusedNode_21 : decode b_T_unusedNode 21 = .ok (.goto (-18), 3) := by decide +kernel
theorem d_T_unusedNode_24 : decode b_T_unusedNode 24 = .ok (.iload_n 1, 1) := by decide +kernel
theorem d_T_unusedNode_25 : decode b_T_unusedNode 25 = .ok (.ireturn, 1) := by decide +kernel
theorem d_T_bundle_0 : decode b_T_bundle 0 = .ok (.aload_n 0, 1) := by decide +kernel
theorem d_T_bundle_1 : decode b_T_bundle 1 = .ok (.invokevirtual 131, 3) := by decide +kernel
theorem d_T_bundle_4 : decode b_T_bundle 4 = .ok (.istore 4, 2) := by decide +kernel
theorem d_T_bundle_6 : decode b_T_bundle 6 = .ok (.aload_n 0, 1) := by decide +kernel
theorem d_T_bundle_7 : decode b_T_bundle 7 = .ok (.getfield 11, 3) := by decide +kernel
theorem d_T_bundle_10 : decode b_T_bundle 10 = .ok (.iload 4, 2) := by decide +kernel
theorem d_T_bundle_12 : decode b_T_bundle 12 = .ok (.iconst 0, 1) := by decide +kernel
theorem d_T_bundle_13 : decode b_T_bundle 13 = .ok (.iastore, 1) := by decide +kernel
theorem d_T_bundle_14 : decode b_T_bundle 14 = .ok (.aload_n 0, 1) := by decide +kernel
theorem d_T_bundle_15 : decode b_T_bundle 15 = .ok (.getfield 15, 3) := by decide +kernel
theorem d_T_bundle_18 : decode b_T_bundle 18 = .ok (.iload 4, 2) := by decide +kernel
theorem d_T_bundle_20 : decode b_T_bundle 20 = .ok (.iconst 0, 1) := by decide +kernel
theorem d_T_bundle_21 : decode b_T_bundle 21 = .ok (.iastore, 1) := by decide +kernel
theorem d_T_bundle_22 : decode b_T_bundle 22 = .ok (.iconst 0, 1) := by decide +kernel
theorem d_T_bundle_23 : decode b_T_bundle 23 = .ok (.istore 5, 2) := by decide +kernel
theorem d_T_bundle_25 : decode b_T_bundle 25 = .ok (.iload 5, 2) := by decide +kernel
theorem d_T_bundle_27 : decode b_T_bundle 27 = .ok (.aload_n 0, 1) := by decide +kernel
theorem d_T_bundle_28 : decode b_T_bundle 28 = .ok (.getfield 18, 3) := by decide +kernel
theorem d_T_bundle_31 : decode b_T_bundle 31 = .ok (.iload_n 1, 1) := by decide +kernel
theorem d_T_bundle_32 : decode b_T_bundle 32 = .ok (.iaload, 1) := by decide +kernel
theorem d_T_bundle_33 : decode b_T_bundle 33 = .ok (.if_icmp .ge 38, 3) := by decide +kernel
theorem d_T_bundle_36 : decode b_T_bundle 36 = .ok (.aload_n 0, 1) := by decide +kernel
theorem d_T_bundle_37 : decode b_T_bundle 37 = .ok (.aload_n 0, 1) := by decide +kernel
theorem d_T_bundle_38 : decode b_T_bundle 38 = .ok (.iload_n 1, 1) := by decide +kernel
theorem d_T_bundle_39 : decode b_T_bundle 39 = .ok (.iload 5, 2) := by decide +kernel
theorem d_T_bundle_41 : decode b_T_bundle 41 = .ok (.invokevirtual 73, 3) := by decide +kernel
theorem d_T_bundle_44 : decode b_T_bundle 44 = .ok (.iload_n 2, 1) := by decide +kernel
theorem d_T_bundle_45 : decode b_T_bundle 45 = .ok (.invokevirtual 97, 3) := by decide +kernel
theorem d_T_bundle_48 : decode b_T_bundle 48 = .ok (.iload_n 3, 1) := by decide +kernel
theorem d_T_bundle_49 : decode b_T_bundle 49 = .ok (.if_icmp .ne 16, 3) := by decide +kernel
theorem d_T_bundle_52 : decode b_T_bundle 52 = .ok (.aload_n 0, 1) := by decide +kernel
theorem d_T_bundle_53 : decode b_T_bundle 53 = .ok (.iload 4, 2) := by decide +kernel
theorem d_T_bundle_55 : decode b_T_bundle 55 = .ok (.aload_n 0, 1) := by decide +kernel
theorem d_T_bundle_56 : decode b_T_bundle 56 = .ok (.iload_n 1, 1) := by decide +kernel
theorem d_T_bundle_57 : decode b_T_bundle 57 = .ok (.iload 5, 2) := by decide +kernel
theorem d_T_bundle_59 : decode b_T_bundle 59 = .ok (.invokevirtual 73, 3) := by decide +kernel
theorem d_T_bundle_62 : decode b_T_bundle 62 = .ok (.invokevirtual 61, 3) := by decide +kernel
theorem d_T_bundle_65 : decode b_T_bundle 65 = .ok (.iinc 5 1, 3) := by decide +kernel
theorem d_T_bundle_68 : decode b_T_bundle 68 = .ok (.goto (-43), 3) := by decide +kernel
theorem d_T_bundle_71 : decode b_T_bundle 71 = .ok (.aload_n 0, 1) := by decide +kernel
theorem d_T_bundle_72 : decode b_T_bundle 72 = .ok (.getfield 18, 3) := by decide +kernel
theorem d_T_bundle_75 : decode b_T_bundle 75 = .ok (.iload 4, 2) := by decide +kernel
theorem d_T_bundle_77 : decode b_T_bundle 77 = .ok (.iaload, 1) := by decide +kernel
theorem d_T_bundle_78 : decode b_T_bundle 78 = .ok (.ifCond .ne 5, 3) := by decide +kernel
theorem d_T_bundle_81 : decode b_T_bundle 81 = .ok (.iconst (-1), 1) := by decide +kernel
theorem d_T_bundle_82 : decode b_T_bundle 82 = .ok (.ireturn, 1) := by decide +kernel
theorem d_T_bundle_83 : decode b_T_bundle 83 = .ok (.aload_n 0, 1) := by decide +kernel
theorem d_T_bundle_84 : decode b_T_bundle 84 = .ok (.getfield 18, 3) := by decide +kernel
theorem d_T_bundle_87 : decode b_T_bundle 87 = .ok (.iload 4, 2) := by decide +kernel
theorem d_T_bundle_89 : decode b_T_bundle 89 = .ok (.iaload, 1) := by decide +kernel
theorem d_T_bundle_90 : decode b_T_bundle 90 = .ok (.iconst 1, 1) := by decide +kernel
theorem d_T_bundle_91 : decode b_T_bundle 91 = .ok (.if_icmp .ne 19, 3) := by decide +kernel
theorem d_T_bundle_94 : decode b_T_bundle 94 = .ok (.aload_n 0, 1) := by decide +kernel
theorem d_T_bundle_95 : decode b_T_bundle 95 = .ok (.getfield 18, 3) := by decide +kernel
theorem d_T_bundle_98 : decode b_T_bundle 98 = .ok (.iload 4, 2) := by decide +kernel
theorem d_T_bundle_100 : decode b_T_bundle 100 = .ok (.iconst 0, 1) := by decide +kernel
theorem d_T_bundle_101 : decode b_T_bundle 101 = .ok (.iastore, 1) := by decide +kernel
theorem d_T_bundle_102 : decode b_T_bundle 102 = .ok (.aload_n 0, 1) := by decide +kernel
theorem d_T_bundle_103 : decode b_T_bundle 103 = .ok (.iload 4, 2) := by decide +kernel
theorem d_T_bundle_105 : decode b_T_bundle 105 = .ok (.iconst 0, 1) := by decide +kernel
theorem d_T_bundle_106 : decode b_T_bundle 106 = .ok (.invokevirtual 73, 3) := by decide +kernel
theorem d_T_bundle_109 : decode b_T_bundle 109 = .ok (.ireturn, 1) := by decide +kernel
theorem d_T_bundle_110 : decode b_T_bundle 110 = .ok (.iload 4, 2) := by decide +kernel
theorem d_T_bundle_112 : decode b_T_bundle 112 = .ok (.ireturn, 1) := by decide +kernel
theorem d_T_fillFromLine_0 : decode b_T_fillFromLine 0 = .ok (.aload_n 0, 1) := by decide +kernel
theorem d_T_fillFromLine_1 : decode b_T_fillFromLine 1 = .ok (.getfield 11, 3) := by decide +kernel
theorem d_T_fillFromLine_4 : decode b_T_fillFromLine 4 = .ok (.iload_n 1, 1) := by decide +kernel
theorem d_T_fillFromLine_5 : decode b_T_fillFromLine 5 = .ok (.iconst 1, 1) := by decide +kernel
theorem d_T_fillFromLine_6 : decode b_T_fillFromLine 6 = .ok (.iastore, 1) := by decide +kernel
theorem d_T_fillFromLine_7 : decode b_T_fillFromLine 7 = .ok (.aload_n 0, 1) := by decide +kernel
theorem d_T_fillFromLine_8 : decode b_T_fillFromLine 8 = .ok (.getfield 18, 3) := by decide +kernel
theorem d_T_fillFromLine_11 : decode b_T_fillFromLine 11 = .ok (.iload_n 1, 1) := by decide +kernel
theorem d_T_fillFromLine_12 : decode b_T_fillFromLine 12 = .ok (.iconst 0, 1) := by decide +kernel
theorem d_T_fillFromLine_13 : decode b_T_fillFromLine 13 = .ok (.iastore, 1) := by decide +kernel
theorem d_T_fillFromLine_14 : decode b_T_fillFromLine 14 = .ok (.aload_n 0, 1) := by decide +kernel
theorem d_T_fillFromLine_15 : decode b_T_fillFromLine 15 = .ok (.getfield 15, 3) := by decide +kernel
theorem d_T_fillFromLine_18 : decode b_T_fillFromLine 18 = .ok (.iload_n 1, 1) := by decide +kernel
theorem d_T_fillFromLine_19 : decode b_T_fillFromLine 19 = .ok (.iconst 0, 1) := by decide +kernel
theorem d_T_fillFromLine_20 : decode b_T_fillFromLine 20 = .ok (.iastore, 1) := by decide +kernel
theorem d_T_fillFromLine_21 : decode b_T_fillFromLine 21 = .ok (.iconst 0, 1) := by decide +kernel
theorem d_T_fillFromLine_22 : decode b_T_fillFromLine 22 = .ok (.istore_n 2, 1) := by decide +kernel
theorem d_T_fillFromLine_23 : decode b_T_fillFromLine 23 = .ok (.iload_n 2, 1) := by decide +kernel
theorem d_T_fillFromLine_24 : decode b_T_fillFromLine 24 = .ok (.aload_n 0, 1) := by decide +kernel
theorem d_T_fillFromLine_25 : decode b_T_fillFromLine 25 = .ok (.getfield 34, 3) := by decide +kernel
theorem d_T_fillFromLine_28 : decode b_T_fillFromLine 28 = .ok (.if_icmp .ge 20, 3) := by decide +kernel
theorem d_T_fillFromLine_31 : decode b_T_fillFromLine 31 = .ok (.aload_n 0, 1) := by decide +kernel
theorem d_T_fillFromLine_32 : decode b_T_fillFromLine 32 = .ok (.iload_n 1, 1) := by decide +kernel
theorem d_T_fillFromLine_33 : decode b_T_fillFromLine 33 = .ok (.aload_n 0, 1) := by decide +kernel
theorem d_T_fillFromLine_34 : decode b_T_fillFromLine 34 = .ok (.getfield 31, 3) := by decide +kernel
theorem d_T_fillFromLine_37 : decode b_T_fillFromLine 37 = .ok (.iload_n 2, 1) := by decide +kernel
theorem d_T_fillFromLine_38 : decode b_T_fillFromLine 38 = .ok (.iaload, 1) := by decide +kernel
theorem d_T_fillFromLine_39 : decode b_T_fillFromLine 39 = .ok (.invokevirtual 61, 3) := by decide +kernel
theorem d_T_fillFromLine_42 : decode b_T_fillFromLine 42 = .ok (.iinc 2 1, 3) := by decide +kernel
theorem d_T_fillFromLine_45 : decode b_T_fillFromLine 45 = .ok (.goto (-22), 3) := by decide +kernel
theorem d_T_fillFromLine_48 : decode b_T_fillFromLine 48 = .ok (.return_, 1) := by decide +kernel
theorem d_T_keepEmpty_0 : decode b_T_keepEmpty 0 = .ok (.aload_n 0, 1) := by decide +kernel
theorem d_T_keepEmpty_1 : decode b_T_keepEmpty 1 = .ok (.getfield 18, 3) := by decide +kernel
theorem d_T_keepEmpty_4 : decode b_T_keepEmpty 4 = .ok (.iload_n 1, 1) := by decide +kernel
theorem d_T_keepEmpty_5 : decode b_T_keepEmpty 5 = .ok (.iaload, 1) := by decide +kernel
theorem d_T_keepEmpty_6 : decode b_T_keepEmpty 6 = .ok (.istore_n 3, 1) := by decide +kernel
theorem d_T_keepEmpty_7 : decode b_T_keepEmpty 7 = .ok (.aload_n 0, 1) := by decide +kernel
theorem d_T_keepEmpty_8 : decode b_T_keepEmpty 8 = .ok (.getfield 18, 3) := by decide +kernel
theorem d_T_keepEmpty_11 : decode b_T_keepEmpty 11 = .ok (.iload_n 1, 1) := by decide +kernel
theorem d_T_keepEmpty_12 : decode b_T_keepEmpty 12 = .ok (.iconst 0, 1) := by decide +kernel
theorem d_T_keepEmpty_13 : decode b_T_keepEmpty 13 = .ok (.iastore, 1) := by decide +kernel
theorem d_T_keepEmpty_14 : decode b_T_keepEmpty 14 = .ok (.aload_n 0, 1) := by decide +kernel
theorem d_T_keepEmpty_15 : decode b_T_keepEmpty 15 = .ok (.getfield 15, 3) := by decide +kernel
theorem d_T_keepEmpty_18 : decode b_T_keepEmpty 18 = .ok (.iload_n 1, 1) := by decide +kernel
theorem d_T_keepEmpty_19 : decode b_T_keepEmpty 19 = .ok (.iconst 0, 1) := by decide +kernel
theorem d_T_keepEmpty_20 : decode b_T_keepEmpty 20 = .ok (.iastore, 1) := by decide +kernel
theorem d_T_keepEmpty_21 : decode b_T_keepEmpty 21 = .ok (.iconst 0, 1) := by decide +kernel
theorem d_T_keepEmpty_22 : decode b_T_keepEmpty 22 = .ok (.istore 4, 2) := by decide +kernel
theorem d_T_keepEmpty_24 : decode b_T_keepEmpty 24 = .ok (.iload 4, 2) := by decide +kernel
theorem d_T_keepEmpty_26 : decode b_T_keepEmpty 26 = .ok (.iload_n 3, 1) := by decide +kernel
theorem d_T_keepEmpty_27 : decode b_T_keepEmpty 27 = .ok (.if_icmp .ge 36, 3) := by decide +kernel
theorem d_T_keepEmpty_30 : decode b_T_keepEmpty 30 = .ok (.aload_n 0, 1) := by decide +kernel
theorem d_T_keepEmpty_31 : decode b_T_keepEmpty 31 = .ok (.aload_n 0, 1) := by decide +kernel
theorem d_T_keepEmpty_32 : decode b_T_keepEmpty 32 = .ok (.iload_n 1, 1) := by decide +kernel
theorem d_T_keepEmpty_33 : decode b_T_keepEmpty 33 = .ok (.iload 4, 2) := by decide +kernel
theorem d_T_keepEmpty_35 : decode b_T_keepEmpty 35 = .ok (.invokevirtual 73, 3) := by decide +kernel
theorem d_T_keepEmpty_38 : decode b_T_keepEmpty 38 = .ok (.iload_n 2, 1) := by decide +kernel
theorem d_T_keepEmpty_39 : decode b_T_keepEmpty 39 = .ok (.invokevirtual 97, 3) := by decide +kernel
theorem d_T_keepEmpty_42 : decode b_T_keepEmpty 42 = .ok (.ifCond .ne 15, 3) := by decide +kernel
theorem d_T_keepEmpty_45 : decode b_T_keepEmpty 45 = .ok (.aload_n 0, 1) := by decide +kernel
theorem d_T_keepEmpty_46 : decode b_T_keepEmpty 46 = .ok (.iload_n 1, 1) := by decide +kernel
theorem d_T_keepEmpty_47 : decode b_T_keepEmpty 47 = .ok (.aload_n 0, 1) := by decide +kernel
theorem d_T_keepEmpty_48 : decode b_T_keepEmpty 48 = .ok (.iload_n 1, 1) := by decide +kernel
theorem d_T_keepEmpty_49 : decode b_T_keepEmpty 49 = .ok (.iload 4, 2) := by decide +kernel
theorem d_T_keepEmpty_51 : decode b_T_keepEmpty 51 = .ok (.invokevirtual 73, 3) := by decide +kernel
theorem d_T_keepEmpty_54 : decode b_T_keepEmpty 54 = .ok (.invokevirtual 61, 3) := by decide +kernel
theorem d_T_keepEmpty_57 : decode b_T_keepEmpty 57 = .ok (.iinc 4 1, 3) := by decide +kernel
theorem d_T_keepEmpty_60 : decode b_T_keepEmpty 60 = .ok (.goto (-36), 3) := by decide +kernel
theorem d_T_keepEmpty_63 : decode b_T_keepEmpty 63 = .ok (.return_, 1) := by decide +kernel
theorem d_T_partIn_0 : decode b_T_partIn 0 = .ok (.iconst 0, 1) := by decide +kernel
theorem d_T_partIn_1 : decode b_T_partIn 1 = .ok (.istore 5, 2) := by decide +kernel
theorem d_T_partIn_3 : decode b_T_partIn 3 = .ok (.iconst 0, 1) := by decide +kernel
theorem d_T_partIn_4 : decode b_T_partIn 4 = .ok (.istore 6, 2) := by decide +kernel
theorem d_T_partIn_6 : decode b_T_partIn 6 = .ok (.iload 6, 2) := by decide +kernel
theorem d_T_partIn_8 : decode b_T_partIn 8 = .ok (.aload_n 0, 1) := by decide +kernel
theorem d_T_partIn_9 : decode b_T_partIn 9 = .ok (.getfield 18, 3) := by decide +kernel
theorem d_T_partIn_12 : decode b_T_partIn 12 = .ok (.iload_n 1, 1) := by decide +kernel
theorem d_T_partIn_13 : decode b_T_partIn 13 = .ok (.iaload, 1) := by decide +kernel
theorem d_T_partIn_14 : decode b_T_partIn 14 = .ok (.if_icmp .ge 43, 3) := by decide +kernel
theorem d_T_partIn_17 : decode b_T_partIn 17 = .ok (.aload_n 0, 1) := by decide +kernel
theorem d_T_partIn_18 : decode b_T_partIn 18 = .ok (.aload_n 0, 1) := by decide +kernel
theorem d_T_partIn_19 : decode b_T_partIn 19 = .ok (.iload_n 1, 1) := by decide +kernel
theorem d_T_partIn_20 : decode b_T_partIn 20 = .ok (.iload 6, 2) := by decide +kernel
theorem d_T_partIn_22 : decode b_T_partIn 22 = .ok (.invokevirtual 73, 3) := by decide +kernel
theorem d_T_partIn_25 : decode b_T_partIn 25 = .ok (.iload_n 2, 1) := by decide +kernel
theorem d_T_partIn_26 : decode b_T_partIn 26 = .ok (.invokevirtual 97, 3) := by decide +kernel
theorem d_T_partIn_29 : decode b_T_partIn 29 = .ok (.iload_n 3, 1) := by decide +kernel
theorem d_T_partIn_30 : decode b_T_partIn 30 = .ok (.if_icmp .ne 21, 3) := by decide +kernel
theorem d_T_partIn_33 : decode b_T_partIn 33 = .ok (.iload 5, 2) := by decide +kernel
theorem d_T_partIn_35 : decode b_T_partIn 35 = .ok (.iload 4, 2) := by decide +kernel
theorem d_T_partIn_37 : decode b_T_partIn 37 = .ok (.if_icmp .ne 11, 3) := by decide +kernel
theorem d_T_partIn_40 : decode b_T_partIn 40 = .ok (.aload_n 0, 1) := by decide +kernel
theorem d_T_partIn_41 : decode b_T_partIn 41 = .ok (.iload_n 1, 1) := by decide +kernel
theorem d_T_partIn_42 : decode b_T_partIn 42 = .ok (.iload 6, 2) := by decide +kernel
theorem d_T_partIn_44 : decode b_T_partIn 44 = .ok (.invokevirtual 73, 3) := by decide +kernel
theorem d_T_partIn_47 : decode b_T_partIn 47 = .ok (.ireturn, 1) := by decide +kernel
theorem d_T_partIn_48 : decode b_T_partIn 48 = .ok (.iinc 5 1, 3) := by decide +kernel
theorem d_T_partIn_51 : decode b_T_partIn 51 = .ok (.iinc 6 1, 3) := by decide +kernel
theorem d_T_partIn_54 : decode b_T_partIn 54 = .ok (.goto (-48), 3) := by decide +kernel
theorem d_T_partIn_57 : decode b_T_partIn 57 = .ok (.iconst (-1), 1) := by decide +kernel
theorem d_T_partIn_58 : decode b_T_partIn 58 = .ok (.ireturn, 1) := by decide +kernel
theorem d_T_hold_0 : decode b_T_hold 0 = .ok (.iload_n 1, 1) := by decide +kernel
theorem d_T_hold_1 : decode b_T_hold 1 = .ok (.iconst (-1), 1) := by decide +kernel
theorem d_T_hold_2 : decode b_T_hold 2 = .ok (.if_icmp .eq 32, 3) := by decide +kernel
theorem d_T_hold_5 : decode b_T_hold 5 = .ok (.aload_n 0, 1) := by decide +kernel
theorem d_T_hold_6 : decode b_T_hold 6 = .ok (.getfield 40, 3) := by decide +kernel
theorem d_T_hold_9 : decode b_T_hold 9 = .ok (.bipush 8, 2) := by decide +kernel
theorem d_T_hold_11 : decode b_T_hold 11 = .ok (.if_icmp .ge 23, 3) := by decide +kernel
theorem d_T_hold_14 : decode b_T_hold 14 = .ok (.aload_n 0, 1) := by decide +kernel
theorem d_T_hold_15 : decode b_T_hold 15 = .ok (.getfield 37, 3) := by decide +kernel
theorem d_T_hold_18 : decode b_T_hold 18 = .ok (.aload_n 0, 1) := by decide +kernel
theorem d_T_hold_19 : decode b_T_hold 19 = .ok (.getfield 40, 3) := by decide +kernel
theorem d_T_hold_22 : decode b_T_hold 22 = .ok (.iload_n 1, 1) := by decide +kernel
theorem d_T_hold_23 : decode b_T_hold 23 = .ok (.iastore, 1) := by decide +kernel
theorem d_T_hold_24 : decode b_T_hold 24 = .ok (.aload_n 0, 1) := by decide +kernel
theorem d_T_hold_25 : decode b_T_hold 25 = .ok (.dup, 1) := by decide +kernel
theorem d_T_hold_26 : decode b_T_hold 26 = .ok (.getfield 40, 3) := by decide +kernel
theorem d_T_hold_29 : decode b_T_hold 29 = .ok (.iconst 1, 1) := by decide +kernel
theorem d_T_hold_30 : decode b_T_hold 30 = .ok (.iadd, 1) := by decide +kernel
theorem d_T_hold_31 : decode b_T_hold 31 = .ok (.putfield 40, 3) := by decide +kernel
theorem d_T_hold_34 : decode b_T_hold 34 = .ok (.return_, 1) := by decide +kernel
theorem d_T_markSplit_0 : decode b_T_markSplit 0 = .ok (.aload_n 0, 1) := by decide +kernel
theorem d_T_markSplit_1 : decode b_T_markSplit 1 = .ok (.getfield 46, 3) := by decide +kernel
theorem d_T_markSplit_4 : decode b_T_markSplit 4 = .ok (.bipush 7, 2) := by decide +kernel
theorem d_T_markSplit_6 : decode b_T_markSplit 6 = .ok (.if_icmp .ge 23, 3) := by decide +kernel
theorem d_T_markSplit_9 : decode b_T_markSplit 9 = .ok (.aload_n 0, 1) := by decide +kernel
theorem d_T_markSplit_10 : decode b_T_markSplit 10 = .ok (.getfield 43, 3) := by decide +kernel
theorem d_T_markSplit_13 : decode b_T_markSplit 13 = .ok (.aload_n 0, 1) := by decide +kernel
theorem d_T_markSplit_14 : decode b_T_markSplit 14 = .ok (.getfield 46, 3) := by decide +kernel
theorem d_T_markSplit_17 : decode b_T_markSplit 17 = .ok (.iload_n 1, 1) := by decide +kernel
theorem d_T_markSplit_18 : decode b_T_markSplit 18 = .ok (.iastore, 1) := by decide +kernel
theorem d_T_markSplit_19 : decode b_T_markSplit 19 = .ok (.aload_n 0, 1) := by decide +kernel
theorem d_T_markSplit_20 : decode b_T_markSplit 20 = .ok (.dup, 1) := by decide +kernel
theorem d_T_markSplit_21 : decode b_T_markSplit 21 = .ok (.getfield 46, 3) := by decide +kernel
theorem d_T_markSplit_24 : decode b_T_markSplit 24 = .ok (.iconst 1, 1) := by decide +kernel
theorem d_T_markSplit_25 : decode b_T_markSplit 25 = .ok (.iadd, 1) := by decide +kernel
theorem d_T_markSplit_26 : decode b_T_markSplit 26 = .ok (.putfield 46, 3) := by decide +kernel
theorem d_T_markSplit_29 : decode b_T_markSplit 29 = .ok (.return_, 1) := by decide +kernel
theorem d_T_splitTurning_0 : decode b_T_splitTurning 0 = .ok (.aload_n 0, 1) := by decide +kernel
theorem d_T_splitTurning_1 : decode b_T_splitTurning 1 = .ok (.getfield 18, 3) := by decide +kernel
theorem d_T_splitTurning_4 : decode b_T_splitTurning 4 = .ok (.iload_n 1, 1) := by decide +kernel
theorem d_T_splitTurning_5 : decode b_T_splitTurning 5 = .ok (.iaload, 1) := by decide +kernel
theorem d_T_splitTurning_6 : decode b_T_splitTurning 6 = .ok (.iconst 1, 1) := by decide +kernel
theorem d_T_splitTurning_7 : decode b_T_splitTurning 7 = .ok (.isub, 1) := by decide +kernel
theorem d_T_splitTurning_8 : decode b_T_splitTurning 8 = .ok (.istore_n 3, 1) := by decide +kernel
theorem d_T_splitTurning_9 : decode b_T_splitTurning 9 = .ok (.aload_n 0, 1) := by decide +kernel
theorem d_T_splitTurning_10 : decode b_T_splitTurning 10 = .ok (.aload_n 0, 1) := by decide +kernel
theorem d_T_splitTurning_11 : decode b_T_splitTurning 11 = .ok (.iload_n 1, 1) := by decide +kernel
theorem d_T_splitTurning_12 : decode b_T_splitTurning 12 = .ok (.iconst 0, 1) := by decide +kernel
theorem d_T_splitTurning_13 : decode b_T_splitTurning 13 = .ok (.invokevirtual 73, 3) := by decide +kernel
theorem d_T_splitTurning_16 : decode b_T_splitTurning 16 = .ok (.iload_n 2, 1) := by decide +kernel
theorem d_T_splitTurning_17 : decode b_T_splitTurning 17 = .ok (.invokevirtual 97, 3) := by decide +kernel
theorem d_T_splitTurning_20 : decode b_T_splitTurning 20 = .ok (.ifCond .eq 18, 3) := by decide +kernel
theorem d_T_splitTurning_23 : decode b_T_splitTurning 23 = .ok (.aload_n 0, 1) := by decide +kernel
theorem d_T_splitTurning_24 : decode b_T_splitTurning 24 = .ok (.aload_n 0, 1) := by decide +kernel
theorem d_T_splitTurning_25 : decode b_T_splitTurning 25 = .ok (.iload_n 1, 1) := by decide +kernel
theorem d_T_splitTurning_26 : decode b_T_splitTurning 26 = .ok (.iload_n 3, 1) := by decide +kernel
theorem d_T_splitTurning_27 : decode b_T_splitTurning 27 = .ok (.invokevirtual 73, 3) := by decide +kernel
theorem d_T_splitTurning_30 : decode b_T_splitTurning 30 = .ok (.iload_n 2, 1) := by decide +kernel
theorem d_T_splitTurning_31 : decode b_T_splitTurning 31 = .ok (.invokevirtual 97, 3) := by decide +kernel
theorem d_T_splitTurning_34 : decode b_T_splitTurning 34 = .ok (.iconst 2, 1) := by decide +kernel
theorem d_T_splitTurning_35 : decode b_T_splitTurning 35 = .ok (.if_icmp .ne 7, 3) := by decide +kernel
theorem d_T_splitTurning_38 : decode b_T_splitTurning 38 = .ok (.iconst 1, 1) := by decide +kernel
theorem d_T_splitTurning_39 : decode b_T_splitTurning 39 = .ok (.goto 4, 3) := by decide +kernel
theorem d_T_splitTurning_42 : decode b_T_splitTurning 42 = .ok (.iconst 0, 1) := by decide +kernel
theorem d_T_splitTurning_43 : decode b_T_splitTurning 43 = .ok (.istore 4, 2) := by decide +kernel
theorem d_T_splitTurning_45 : decode b_T_splitTurning 45 = .ok (.iload 4, 2) := by decide +kernel
theorem d_T_splitTurning_47 : decode b_T_splitTurning 47 = .ok (.ifCond .ne 20, 3) := by decide +kernel
theorem d_T_splitTurning_50 : decode b_T_splitTurning 50 = .ok (.aload_n 0, 1) := by decide +kernel
theorem d_T_splitTurning_51 : decode b_T_splitTurning 51 = .ok (.getfield 21, 3) := by decide +kernel
theorem d_T_splitTurning_54 : decode b_T_splitTurning 54 = .ok (.iload_n 1, 1) := by decide +kernel
theorem d_T_splitTurning_55 : decode b_T_splitTurning 55 = .ok (.bipush 8, 2) := by decide +kernel
theorem d_T_splitTurning_57 : decode b_T_splitTurning 57 = .ok (.imul, 1) := by decide +kernel
theorem d_T_splitTurning_58 : decode b_T_splitTurning 58 = .ok (.iload_n 1, 1) := by decide +kernel
theorem d_T_splitTurning_59 : decode b_T_splitTurning 59 = .ok (.bipush 8, 2) := by decide +kernel
theorem d_T_splitTurning_61 : decode b_T_splitTurning 61 = .ok (.imul, 1) := by decide +kernel
theorem d_T_splitTurning_62 : decode b_T_splitTurning 62 = .ok (.iload_n 3, 1) := by decide +kernel
theorem d_T_splitTurning_63 : decode b_T_splitTurning 63 = .ok (.iadd, 1) := by decide +kernel
theorem d_T_splitTurning_64 : decode b_T_splitTurning 64 = .ok (.invokestatic 81, 3) := by decide +kernel
theorem d_T_splitTurning_67 : decode b_T_splitTurning 67 = .ok (.iconst 0, 1) := by decide +kernel
theorem d_T_splitTurning_68 : decode b_T_splitTurning 68 = .ok (.istore 5, 2) := by decide +kernel
theorem d_T_splitTurning_70 : decode b_T_splitTurning 70 = .ok (.iconst 0, 1) := by decide +kernel
theorem d_T_splitTurning_71 : decode b_T_splitTurning 71 = .ok (.istore 6, 2) := by decide +kernel
theorem d_T_splitTurning_73 : decode b_T_splitTurning 73 = .ok (.iload 6, 2) := by decide +kernel
theorem d_T_splitTurning_75 : decode b_T_splitTurning 75 = .ok (.iload_n 3, 1) := by decide +kernel
theorem d_T_splitTurning_76 : decode b_T_splitTurning 76 = .ok (.if_icmp .gt 52, 3) := by decide +kernel
theorem d_T_splitTurning_79 : decode b_T_splitTurning 79 = .ok (.aload_n 0, 1) := by decide +kernel
theorem d_T_splitTurning_80 : decode b_T_splitTurning 80 = .ok (.aload_n 0, 1) := by decide +kernel
theorem d_T_splitTurning_81 : decode b_T_splitTurning 81 = .ok (.iload_n 1, 1) := by decide +kernel
theorem d_T_splitTurning_82 : decode b_T_splitTurning 82 = .ok (.iload 6, 2) := by decide +kernel
theorem d_T_splitTurning_84 : decode b_T_splitTurning 84 = .ok (.invokevirtual 73, 3) := by decide +kernel
theorem d_T_splitTurning_87 : decode b_T_splitTurning 87 = .ok (.iload_n 2, 1) := by decide +kernel
theorem d_T_splitTurning_88 : decode b_T_splitTurning 88 = .ok (.invokevirtual 97, 3) := by decide +kernel
theorem d_T_splitTurning_91 : decode b_T_splitTurning 91 = .ok (.istore 7, 2) := by decide +kernel
theorem d_T_splitTurning_93 : decode b_T_splitTurning 93 = .ok (.iload 7, 2) := by decide +kernel
theorem d_T_splitTurning_95 : decode b_T_splitTurning 95 = .ok (.iload 5, 2) := by decide +kernel
theorem d_T_splitTurning_97 : decode b_T_splitTurning 97 = .ok (.if_icmp .ge 5, 3) := by decide +kernel
theorem d_T_splitTurning_100 : decode b_T_splitTurning 100 = .ok (.iconst 0, 1) := by decide +kernel
theorem d_T_splitTurning_101 : decode b_T_splitTurning 101 = .ok (.ireturn, 1) := by decide +kernel
theorem d_T_splitTurning_102 : decode b_T_splitTurning 102 = .ok (.iload 7, 2) := by decide +kernel
theorem d_T_splitTurning_104 : decode b_T_splitTurning 104 = .ok (.istore 5, 2) := by decide +kernel
theorem d_T_splitTurning_106 : decode b_T_splitTurning 106 = .ok (.iload 7, 2) := by decide +kernel
theorem d_T_splitTurning_108 : decode b_T_splitTurning 108 = .ok (.ifCond .ne 14, 3) := by decide +kernel
theorem d_T_splitTurning_111 : decode b_T_splitTurning 111 = .ok (.aload_n 0, 1) := by decide +kernel
theorem d_T_splitTurning_112 : decode b_T_splitTurning 112 = .ok (.aload_n 0, 1) := by decide +kernel
theorem d_T_splitTurning_113 : decode b_T_splitTurning 113 = .ok (.iload_n 1, 1) := by decide +kernel
theorem d_T_splitTurning_114 : decode b_T_splitTurning 114 = .ok (.iload 6, 2) := by decide +kernel
theorem d_T_splitTurning_116 : decode b_T_splitTurning 116 = .ok (.invokevirtual 73, 3) := by decide +kernel
theorem d_T_splitTurning_119 : decode b_T_splitTurning 119 = .ok (.invokevirtual 122, 3) := by decide +kernel
theorem d_T_splitTurning_122 : decode b_T_splitTurning 122 = .ok (.iinc 6 1, 3) := by decide +kernel
theorem d_T_splitTurning_125 : decode b_T_splitTurning 125 = .ok (.goto (-52), 3) := by decide +kernel
theorem d_T_splitTurning_128 : decode b_T_splitTurning 128 = .ok (.iload_n 3, 1) := by decide +kernel
theorem d_T_splitTurning_129 : decode b_T_splitTurning 129 = .ok (.istore 6, 2) := by decide +kernel
theorem d_T_splitTurning_131 : decode b_T_splitTurning 131 = .ok (.iload 6, 2) := by decide +kernel
theorem d_T_splitTurning_133 : decode b_T_splitTurning 133 = .ok (.ifCond .lt 36, 3) := by decide +kernel
theorem d_T_splitTurning_136 : decode b_T_splitTurning 136 = .ok (.aload_n 0, 1) := by decide +kernel
theorem d_T_splitTurning_137 : decode b_T_splitTurning 137 = .ok (.aload_n 0, 1) := by decide +kernel
theorem d_T_splitTurning_138 : decode b_T_splitTurning 138 = .ok (.iload_n 1, 1) := by decide +kernel
theorem d_T_splitTurning_139 : decode b_T_splitTurning 139 = .ok (.iload 6, 2) := by decide +kernel
theorem d_T_splitTurning_141 : decode b_T_splitTurning 141 = .ok (.invokevirtual 73, 3) := by decide +kernel
theorem d_T_splitTurning_144 : decode b_T_splitTurning 144 = .ok (.iload_n 2, 1) := by decide +kernel
theorem d_T_splitTurning_145 : decode b_T_splitTurning 145 = .ok (.invokevirtual 97, 3) := by decide +kernel
theorem d_T_splitTurning_148 : decode b_T_splitTurning 148 = .ok (.iconst 2, 1) := by decide +kernel
theorem d_T_splitTurning_149 : decode b_T_splitTurning 149 = .ok (.if_icmp .ne 20, 3) := by decide +kernel
theorem d_T_splitTurning_152 : decode b_T_splitTurning 152 = .ok (.aload_n 0, 1) := by decide +kernel
theorem d_T_splitTurning_153 : decode b_T_splitTurning 153 = .ok (.aload_n 0, 1) := by decide +kernel
theorem d_T_splitTurning_154 : decode b_T_splitTurning 154 = .ok (.iload_n 1, 1) := by decide +kernel
theorem d_T_splitTurning_155 : decode b_T_splitTurning 155 = .ok (.iload 6, 2) := by decide +kernel
theorem d_T_splitTurning_157 : decode b_T_splitTurning 157 = .ok (.invokevirtual 73, 3) := by decide +kernel
theorem d_T_splitTurning_160 : decode b_T_splitTurning 160 = .ok (.invokevirtual 135, 3) := by decide +kernel
theorem d_T_splitTurning_163 : decode b_T_splitTurning 163 = .ok (.iinc 6 (-1), 3) := by decide +kernel
theorem d_T_splitTurning_166 : decode b_T_splitTurning 166 = .ok (.goto (-35), 3) := by decide +kernel
theorem d_T_splitTurning_169 : decode b_T_splitTurning 169 = .ok (.iconst 1, 1) := by decide +kernel
theorem d_T_splitTurning_170 : decode b_T_splitTurning 170 = .ok (.ireturn, 1) := by decide +kernel
theorem d_T_splitToLine_0 : decode b_T_splitToLine 0 = .ok (.aload_n 0, 1) := by decide +kernel
theorem d_T_splitToLine_1 : decode b_T_splitToLine 1 = .ok (.getfield 34, 3) := by decide +kernel
theorem d_T_splitToLine_4 : decode b_T_splitToLine 4 = .ok (.istore 4, 2) := by decide +kernel
theorem d_T_splitToLine_6 : decode b_T_splitToLine 6 = .ok (.iload_n 1, 1) := by decide +kernel
theorem d_T_splitToLine_7 : decode b_T_splitToLine 7 = .ok (.istore 5, 2) := by decide +kernel
theorem d_T_splitToLine_9 : decode b_T_splitToLine 9 = .ok (.aload_n 0, 1) := by decide +kernel
theorem d_T_splitToLine_10 : decode b_T_splitToLine 10 = .ok (.iconst 0, 1) := by decide +kernel
theorem d_T_splitToLine_11 : decode b_T_splitToLine 11 = .ok (.putfield 40, 3) := by decide +kernel
theorem d_T_splitToLine_14 : decode b_T_splitToLine 14 = .ok (.iconst 0, 1) := by decide +kernel
theorem d_T_splitToLine_15 : decode b_T_splitToLine 15 = .ok (.istore 6, 2) := by decide +kernel
theorem d_T_splitToLine_17 : decode b_T_splitToLine 17 = .ok (.iload 6, 2) := by decide +kernel
theorem d_T_splitToLine_19 : decode b_T_splitToLine 19 = .ok (.bipush 8, 2) := by decide +kernel
theorem d_T_splitToLine_21 : decode b_T_splitToLine 21 = .ok (.if_icmp .ge 100, 3) := by decide +kernel
theorem d_T_splitToLine_24 : decode b_T_splitToLine 24 = .ok (.iload 5, 2) := by decide +kernel
theorem d_T_splitToLine_26 : decode b_T_splitToLine 26 = .ok (.iconst (-1), 1) := by decide +kernel
theorem d_T_splitToLine_27 : decode b_T_splitToLine 27 = .ok (.if_icmp .eq 94, 3) := by decide +kernel
theorem d_T_splitToLine_30 : decode b_T_splitToLine 30 = .ok (.aload_n 0, 1) := by decide +kernel
theorem d_T_splitToLine_31 : decode b_T_splitToLine 31 = .ok (.iload 5, 2) := by decide +kernel
theorem d_T_splitToLine_33 : decode b_T_splitToLine 33 = .ok (.iload_n 2, 1) := by decide +kernel
theorem d_T_splitToLine_34 : decode b_T_splitToLine 34 = .ok (.iconst 1, 1) := by decide +kernel
theorem d_T_splitToLine_35 : decode b_T_splitToLine 35 = .ok (.iconst 0, 1) := by decide +kernel
theorem d_T_splitToLine_36 : decode b_T_splitToLine 36 = .ok (.invokevirtual 110, 3) := by decide +kernel
theorem d_T_splitToLine_39 : decode b_T_splitToLine 39 = .ok (.istore 7, 2) := by decide +kernel
theorem d_T_splitToLine_41 : decode b_T_splitToLine 41 = .ok (.aload_n 0, 1) := by decide +kernel
theorem d_T_splitToLine_42 : decode b_T_splitToLine 42 = .ok (.iload 5, 2) := by decide +kernel
theorem d_T_splitToLine_44 : decode b_T_splitToLine 44 = .ok (.iload_n 2, 1) := by decide +kernel
theorem d_T_splitToLine_45 : decode b_T_splitToLine 45 = .ok (.iconst 1, 1) := by decide +kernel
theorem d_T_splitToLine_46 : decode b_T_splitToLine 46 = .ok (.iconst 1, 1) := by decide +kernel
theorem d_T_splitToLine_47 : decode b_T_splitToLine 47 = .ok (.invokevirtual 110, 3) := by decide +kernel
theorem d_T_splitToLine_50 : decode b_T_splitToLine 50 = .ok (.iconst (-1), 1) := by decide +kernel
theorem d_T_splitToLine_51 : decode b_T_splitToLine 51 = .ok (.if_icmp .eq 5, 3) := by decide +kernel
theorem d_T_splitToLine_54 : decode b_T_splitToLine 54 = .ok (.iconst 0, 1) := by decide +kernel
theorem d_T_splitToLine_55 : decode b_T_splitToLine 55 = .ok (.ireturn, 1) := by decide +kernel
theorem d_T_splitToLine_56 : decode b_T_splitToLine 56 = .ok (.aload_n 0, 1) := by decide +kernel
theorem d_T_splitToLine_57 : decode b_T_splitToLine 57 = .ok (.getfield 11, 3) := by decide +kernel
theorem d_T_splitToLine_60 : decode b_T_splitToLine 60 = .ok (.iload 5, 2) := by decide +kernel
theorem d_T_splitToLine_62 : decode b_T_splitToLine 62 = .ok (.iaload, 1) := by decide +kernel
theorem d_T_splitToLine_63 : decode b_T_splitToLine 63 = .ok (.ifCond .ne 30, 3) := by decide +kernel
theorem d_T_splitToLine_66 : decode b_T_splitToLine 66 = .ok (.aload_n 0, 1) := by decide +kernel
theorem d_T_splitToLine_67 : decode b_T_splitToLine 67 = .ok (.aload_n 0, 1) := by decide +kernel
theorem d_T_splitToLine_68 : decode b_T_splitToLine 68 = .ok (.iload 5, 2) := by decide +kernel
theorem d_T_splitToLine_70 : decode b_T_splitToLine 70 = .ok (.iload_n 2, 1) := by decide +kernel
theorem d_T_splitToLine_71 : decode b_T_splitToLine 71 = .ok (.iconst 0, 1) := by decide +kernel
theorem d_T_splitToLine_72 : decode b_T_splitToLine 72 = .ok (.invokevirtual 118, 3) := by decide +kernel
theorem d_T_splitToLine_75 : decode b_T_splitToLine 75 = .ok (.invokevirtual 122, 3) := by decide +kernel
theorem d_T_splitToLine_78 : decode b_T_splitToLine 78 = .ok (.aload_n 0, 1) := by decide +kernel
theorem d_T_splitToLine_79 : decode b_T_splitToLine 79 = .ok (.aload_n 0, 1) := by decide +kernel
theorem d_T_splitToLine_80 : decode b_T_splitToLine 80 = .ok (.iload 5, 2) := by decide +kernel
theorem d_T_splitToLine_82 : decode b_T_splitToLine 82 = .ok (.iload_n 2, 1) := by decide +kernel
theorem d_T_splitToLine_83 : decode b_T_splitToLine 83 = .ok (.iconst 2, 1) := by decide +kernel
theorem d_T_splitToLine_84 : decode b_T_splitToLine 84 = .ok (.invokevirtual 118, 3) := by decide +kernel
theorem d_T_splitToLine_87 : decode b_T_splitToLine 87 = .ok (.invokevirtual 135, 3) := by decide +kernel
theorem d_T_splitToLine_90 : decode b_T_splitToLine 90 = .ok (.goto 15, 3) := by decide +kernel
theorem d_T_splitToLine_93 : decode b_T_splitToLine 93 = .ok (.aload_n 0, 1) := by decide +kernel
theorem d_T_splitToLine_94 : decode b_T_splitToLine 94 = .ok (.iload 5, 2) := by decide +kernel
theorem d_T_splitToLine_96 : decode b_T_splitToLine 96 = .ok (.iload_n 2, 1) := by decide +kernel
theorem d_T_splitToLine_97 : decode b_T_splitToLine 97 = .ok (.invokevirtual 138, 3) := by decide +kernel
theorem d_T_splitToLine_100 : decode b_T_splitToLine 100 = .ok (.ifCond .ne 5, 3) := by decide +kernel
theorem d_T_splitToLine_103 : decode b_T_splitToLine 103 = .ok (.iconst 0, 1) := by decide +kernel
theorem d_T_splitToLine_104 : decode b_T_splitToLine 104 = .ok (.ireturn, 1) := by decide +kernel
theorem d_T_splitToLine_105 : decode b_T_splitToLine 105 = .ok (.aload_n 0, 1) := by decide +kernel
theorem d_T_splitToLine_106 : decode b_T_splitToLine 106 = .ok (.iload 5, 2) := by decide +kernel
theorem d_T_splitToLine_108 : decode b_T_splitToLine 108 = .ok (.invokevirtual 141, 3) := by decide +kernel
theorem d_T_splitToLine_111 : decode b_T_splitToLine 111 = .ok (.iload 7, 2) := by decide +kernel
theorem d_T_splitToLine_113 : decode b_T_splitToLine 113 = .ok (.istore 5, 2) := by decide +kernel
theorem d_T_splitToLine_115 : decode b_T_splitToLine 115 = .ok (.iinc 6 1, 3) := by decide +kernel
theorem d_T_splitToLine_118 : decode b_T_splitToLine 118 = .ok (.goto (-101), 3) := by decide +kernel
theorem d_T_splitToLine_121 : decode b_T_splitToLine 121 = .ok (.aload_n 0, 1) := by decide +kernel
theorem d_T_splitToLine_122 : decode b_T_splitToLine 122 = .ok (.getfield 40, 3) := by decide +kernel
theorem d_T_splitToLine_125 : decode b_T_splitToLine 125 = .ok (.ifCond .le 29, 3) := by decide +kernel
theorem d_T_splitToLine_128 : decode b_T_splitToLine 128 = .ok (.aload_n 0, 1) := by decide +kernel
theorem d_T_splitToLine_129 : decode b_T_splitToLine 129 = .ok (.dup, 1) := by decide +kernel
theorem d_T_splitToLine_130 : decode b_T_splitToLine 130 = .ok (.getfield 40, 3) := by decide +kernel
theorem d_T_splitToLine_133 : decode b_T_splitToLine 133 = .ok (.iconst 1, 1) := by decide +kernel
theorem d_T_splitToLine_134 : decode b_T_splitToLine 134 = .ok (.isub, 1) := by decide +kernel
theorem d_T_splitToLine_135 : decode b_T_splitToLine 135 = .ok (.putfield 40, 3) := by decide +kernel
theorem d_T_splitToLine_138 : decode b_T_splitToLine 138 = .ok (.aload_n 0, 1) := by decide +kernel
theorem d_T_splitToLine_139 : decode b_T_splitToLine 139 = .ok (.aload_n 0, 1) := by decide +kernel
theorem d_T_splitToLine_140 : decode b_T_splitToLine 140 = .ok (.getfield 37, 3) := by decide +kernel
theorem d_T_splitToLine_143 : decode b_T_splitToLine 143 = .ok (.aload_n 0, 1) := by decide +kernel
theorem d_T_splitToLine_144 : decode b_T_splitToLine 144 = .ok (.getfield 40, 3) := by decide +kernel
theorem d_T_splitToLine_147 : decode b_T_splitToLine 147 = .ok (.iaload, 1) := by decide +kernel
theorem d_T_splitToLine_148 : decode b_T_splitToLine 148 = .ok (.invokevirtual 122, 3) := by decide +kernel
theorem d_T_splitToLine_151 : decode b_T_splitToLine 151 = .ok (.goto (-30), 3) := by decide +kernel
theorem d_T_splitToLine_154 : decode b_T_splitToLine 154 = .ok (.iload_n 3, 1) := by decide +kernel
theorem d_T_splitToLine_155 : decode b_T_splitToLine 155 = .ok (.ifCond .ne 18, 3) := by decide +kernel
theorem d_T_splitToLine_158 : decode b_T_splitToLine 158 = .ok (.aload_n 0, 1) := by decide +kernel
theorem d_T_splitToLine_159 : decode b_T_splitToLine 159 = .ok (.getfield 31, 3) := by decide +kernel
theorem d_T_splitToLine_162 : decode b_T_splitToLine 162 = .ok (.iload 4, 2) := by decide +kernel
theorem d_T_splitToLine_164 : decode b_T_splitToLine 164 = .ok (.aload_n 0, 1) := by decide +kernel
theorem d_T_splitToLine_165 : decode b_T_splitToLine 165 = .ok (.getfield 34, 3) := by decide +kernel
theorem d_T_splitToLine_168 : decode b_T_splitToLine 168 = .ok (.iconst 1, 1) := by decide +kernel
theorem d_T_splitToLine_169 : decode b_T_splitToLine 169 = .ok (.isub, 1) := by decide +kernel
theorem d_T_splitToLine_170 : decode b_T_splitToLine 170 = .ok (.invokestatic 81, 3) := by decide +kernel
theorem d_T_splitToLine_173 : decode b_T_splitToLine 173 = .ok (.iconst 1, 1) := by decide +kernel
theorem d_T_splitToLine_174 : decode b_T_splitToLine 174 = .ok (.ireturn, 1) := by decide +kernel
theorem d_T_reduceFree_0 : decode b_T_reduceFree 0 = .ok (.aload_n 0, 1) := by decide +kernel
theorem d_T_reduceFree_1 : decode b_T_reduceFree 1 = .ok (.iload_n 1, 1) := by decide +kernel
theorem d_T_reduceFree_2 : decode b_T_reduceFree 2 = .ok (.iload_n 2, 1) := by decide +kernel
theorem d_T_reduceFree_3 : decode b_T_reduceFree 3 = .ok (.iconst 1, 1) := by decide +kernel
theorem d_T_reduceFree_4 : decode b_T_reduceFree 4 = .ok (.iconst 0, 1) := by decide +kernel
theorem d_T_reduceFree_5 : decode b_T_reduceFree 5 = .ok (.invokevirtual 110, 3) := by decide +kernel
theorem d_T_reduceFree_8 : decode b_T_reduceFree 8 = .ok (.istore_n 3, 1) := by decide +kernel
theorem d_T_reduceFree_9 : decode b_T_reduceFree 9 = .ok (.aload_n 0, 1) := by decide +kernel
theorem d_T_reduceFree_10 : decode b_T_reduceFree 10 = .ok (.iload_n 1, 1) := by decide +kernel
theorem d_T_reduceFree_11 : decode b_T_reduceFree 11 = .ok (.iload_n 2, 1) := by decide +kernel
theorem d_T_reduceFree_12 : decode b_T_reduceFree 12 = .ok (.iconst 1, 1) := by decide +kernel
theorem d_T_reduceFree_13 : decode b_T_reduceFree 13 = .ok (.iconst 1, 1) := by decide +kernel
theorem d_T_reduceFree_14 : decode b_T_reduceFree 14 = .ok (.invokevirtual 110, 3) := by decide +kernel
theorem d_T_reduceFree_17 : decode b_T_reduceFree 17 = .ok (.istore 4, 2) := by decide +kernel
theorem d_T_reduceFree_19 : decode b_T_reduceFree 19 = .ok (.aload_n 0, 1) := by decide +kernel
theorem d_T_reduceFree_20 : decode b_T_reduceFree 20 = .ok (.iload_n 1, 1) := by decide +kernel
theorem d_T_reduceFree_21 : decode b_T_reduceFree 21 = .ok (.iload_n 2, 1) := by decide +kernel
theorem d_T_reduceFree_22 : decode b_T_reduceFree 22 = .ok (.iconst 1, 1) := by decide +kernel
theorem d_T_reduceFree_23 : decode b_T_reduceFree 23 = .ok (.iconst 2, 1) := by decide +kernel
theorem d_T_reduceFree_24 : decode b_T_reduceFree 24 = .ok (.invokevirtual 110, 3) := by decide +kernel
theorem d_T_reduceFree_27 : decode b_T_reduceFree 27 = .ok (.iconst (-1), 1) := by decide +kernel
theorem d_T_reduceFree_28 : decode b_T_reduceFree 28 = .ok (.if_icmp .eq 5, 3) := by decide +kernel
theorem d_T_reduceFree_31 : decode b_T_reduceFree 31 = .ok (.iconst 0, 1) := by decide +kernel
theorem d_T_reduceFree_32 : decode b_T_reduceFree 32 = .ok (.ireturn, 1) := by decide +kernel
theorem d_T_reduceFree_33 : decode b_T_reduceFree 33 = .ok (.iload_n 3, 1) := by decide +kernel
theorem d_T_reduceFree_34 : decode b_T_reduceFree 34 = .ok (.iconst (-1), 1) := by decide +kernel
theorem d_T_reduceFree_35 : decode b_T_reduceFree 35 = .ok (.if_icmp .eq 15, 3) := by decide +kernel
theorem d_T_reduceFree_38 : decode b_T_reduceFree 38 = .ok (.aload_n 0, 1) := by decide +kernel
theorem d_T_reduceFree_39 : decode b_T_reduceFree 39 = .ok (.iload_n 3, 1) := by decide +kernel
theorem d_T_reduceFree_40 : decode b_T_reduceFree 40 = .ok (.iload_n 2, 1) := by decide +kernel
theorem d_T_reduceFree_41 : decode b_T_reduceFree 41 = .ok (.iconst 1, 1) := by decide +kernel
theorem d_T_reduceFree_42 : decode b_T_reduceFree 42 = .ok (.invokevirtual 114, 3) := by decide +kernel
theorem d_T_reduceFree_45 : decode b_T_reduceFree 45 = .ok (.ifCond .ne 5, 3) := by decide +kernel
theorem d_T_reduceFree_48 : decode b_T_reduceFree 48 = .ok (.iconst 0, 1) := by decide +kernel
theorem d_T_reduceFree_49 : decode b_T_reduceFree 49 = .ok (.ireturn, 1) := by decide +kernel
theorem d_T_reduceFree_50 : decode b_T_reduceFree 50 = .ok (.aload_n 0, 1) := by decide +kernel
theorem d_T_reduceFree_51 : decode b_T_reduceFree 51 = .ok (.aload_n 0, 1) := by decide +kernel
theorem d_T_reduceFree_52 : decode b_T_reduceFree 52 = .ok (.iload_n 1, 1) := by decide +kernel
theorem d_T_reduceFree_53 : decode b_T_reduceFree 53 = .ok (.iload_n 2, 1) := by decide +kernel
theorem d_T_reduceFree_54 : decode b_T_reduceFree 54 = .ok (.iconst 2, 1) := by decide +kernel
theorem d_T_reduceFree_55 : decode b_T_reduceFree 55 = .ok (.invokevirtual 118, 3) := by decide +kernel
theorem d_T_reduceFree_58 : decode b_T_reduceFree 58 = .ok (.invokevirtual 122, 3) := by decide +kernel
theorem d_T_reduceFree_61 : decode b_T_reduceFree 61 = .ok (.iload 4, 2) := by decide +kernel
theorem d_T_reduceFree_63 : decode b_T_reduceFree 63 = .ok (.iconst (-1), 1) := by decide +kernel
theorem d_T_reduceFree_64 : decode b_T_reduceFree 64 = .ok (.if_icmp .eq 16, 3) := by decide +kernel
theorem d_T_reduceFree_67 : decode b_T_reduceFree 67 = .ok (.aload_n 0, 1) := by decide +kernel
theorem d_T_reduceFree_68 : decode b_T_reduceFree 68 = .ok (.iload 4, 2) := by decide +kernel
theorem d_T_reduceFree_70 : decode b_T_reduceFree 70 = .ok (.iload_n 2, 1) := by decide +kernel
theorem d_T_reduceFree_71 : decode b_T_reduceFree 71 = .ok (.iconst 0, 1) := by decide +kernel
theorem d_T_reduceFree_72 : decode b_T_reduceFree 72 = .ok (.invokevirtual 114, 3) := by decide +kernel
theorem d_T_reduceFree_75 : decode b_T_reduceFree 75 = .ok (.ifCond .ne 5, 3) := by decide +kernel
theorem d_T_reduceFree_78 : decode b_T_reduceFree 78 = .ok (.iconst 0, 1) := by decide +kernel
theorem d_T_reduceFree_79 : decode b_T_reduceFree 79 = .ok (.ireturn, 1) := by decide +kernel
theorem d_T_reduceFree_80 : decode b_T_reduceFree 80 = .ok (.aload_n 0, 1) := by decide +kernel
theorem d_T_reduceFree_81 : decode b_T_reduceFree 81 = .ok (.iload_n 1, 1) := by decide +kernel
theorem d_T_reduceFree_82 : decode b_T_reduceFree 82 = .ok (.iload_n 2, 1) := by decide +kernel
theorem d_T_reduceFree_83 : decode b_T_reduceFree 83 = .ok (.invokevirtual 125, 3) := by decide +kernel
theorem d_T_reduceFree_86 : decode b_T_reduceFree 86 = .ok (.aload_n 0, 1) := by decide +kernel
theorem d_T_reduceFree_87 : decode b_T_reduceFree 87 = .ok (.getfield 18, 3) := by decide +kernel
theorem d_T_reduceFree_90 : decode b_T_reduceFree 90 = .ok (.iload_n 1, 1) := by decide +kernel
theorem d_T_reduceFree_91 : decode b_T_reduceFree 91 = .ok (.iaload, 1) := by decide +kernel
theorem d_T_reduceFree_92 : decode b_T_reduceFree 92 = .ok (.ifCond .ne 11, 3) := by decide +kernel
theorem d_T_reduceFree_95 : decode b_T_reduceFree 95 = .ok (.aload_n 0, 1) := by decide +kernel
theorem d_T_reduceFree_96 : decode b_T_reduceFree 96 = .ok (.iload_n 1, 1) := by decide +kernel
theorem d_T_reduceFree_97 : decode b_T_reduceFree 97 = .ok (.invokevirtual 128, 3) := by decide +kernel
theorem d_T_reduceFree_100 : decode b_T_reduceFree 100 = .ok (.goto 44, 3) := by decide +kernel
theorem d_T_reduceFree_103 : decode b_T_reduceFree 103 = .ok (.aload_n 0, 1) := by decide +kernel
theorem d_T_reduceFree_104 : decode b_T_reduceFree 104 = .ok (.getfield 34, 3) := by decide +kernel
theorem d_T_reduceFree_107 : decode b_T_reduceFree 107 = .ok (.iconst 1, 1) := by decide +kernel
theorem d_T_reduceFree_108 : decode b_T_reduceFree 108 = .ok (.if_icmp .ne 17, 3) := by decide +kernel
theorem d_T_reduceFree_111 : decode b_T_reduceFree 111 = .ok (.aload_n 0, 1) := by decide +kernel
theorem d_T_reduceFree_112 : decode b_T_reduceFree 112 = .ok (.iload_n 1, 1) := by decide +kernel
theorem d_T_reduceFree_113 : decode b_T_reduceFree 113 = .ok (.aload_n 0, 1) := by decide +kernel
theorem d_T_reduceFree_114 : decode b_T_reduceFree 114 = .ok (.getfield 31, 3) := by decide +kernel
theorem d_T_reduceFree_117 : decode b_T_reduceFree 117 = .ok (.iconst 0, 1) := by decide +kernel
theorem d_T_reduceFree_118 : decode b_T_reduceFree 118 = .ok (.iaload, 1) := by decide +kernel
theorem d_T_reduceFree_119 : decode b_T_reduceFree 119 = .ok (.invokevirtual 61, 3) := by decide +kernel
theorem d_T_reduceFree_122 : decode b_T_reduceFree 122 = .ok (.goto 22, 3) := by decide +kernel
theorem d_T_reduceFree_125 : decode b_T_reduceFree 125 = .ok (.aload_n 0, 1) := by decide +kernel
theorem d_T_reduceFree_126 : decode b_T_reduceFree 126 = .ok (.invokevirtual 131, 3) := by decide +kernel
theorem d_T_reduceFree_129 : decode b_T_reduceFree 129 = .ok (.istore 5, 2) := by decide +kernel
theorem d_T_reduceFree_131 : decode b_T_reduceFree 131 = .ok (.aload_n 0, 1) := by decide +kernel
theorem d_T_reduceFree_132 : decode b_T_reduceFree 132 = .ok (.iload 5, 2) := by decide +kernel
theorem d_T_reduceFree_134 : decode b_T_reduceFree 134 = .ok (.invokevirtual 128, 3) := by decide +kernel
theorem d_T_reduceFree_137 : decode b_T_reduceFree 137 = .ok (.aload_n 0, 1) := by decide +kernel
theorem d_T_reduceFree_138 : decode b_T_reduceFree 138 = .ok (.iload_n 1, 1) := by decide +kernel
theorem d_T_reduceFree_139 : decode b_T_reduceFree 139 = .ok (.iload 5, 2) := by decide +kernel
theorem d_T_reduceFree_141 : decode b_T_reduceFree 141 = .ok (.invokevirtual 61, 3) := by decide +kernel
theorem d_T_reduceFree_144 : decode b_T_reduceFree 144 = .ok (.iconst 1, 1) := by decide +kernel
theorem d_T_reduceFree_145 : decode b_T_reduceFree 145 = .ok (.ireturn, 1) := by decide +kernel
theorem d_T_reduceTurning_0 : decode b_T_reduceTurning 0 = .ok (.iconst 0, 1) := by decide +kernel
theorem d_T_reduceTurning_1 : decode b_T_reduceTurning 1 = .ok (.istore_n 3, 1) := by decide +kernel
theorem d_T_reduceTurning_2 : decode b_T_reduceTurning 2 = .ok (.iconst 0, 1) := by decide +kernel
theorem d_T_reduceTurning_3 : decode b_T_reduceTurning 3 = .ok (.istore 4, 2) := by decide +kernel
theorem d_T_reduceTurning_5 : decode b_T_reduceTurning 5 = .ok (.iload 4, 2) := by decide +kernel
theorem d_T_reduceTurning_7 : decode b_T_reduceTurning 7 = .ok (.aload_n 0, 1) := by decide +kernel
theorem d_T_reduceTurning_8 : decode b_T_reduceTurning 8 = .ok (.getfield 18, 3) := by decide +kernel
theorem d_T_reduceTurning_11 : decode b_T_reduceTurning 11 = .ok (.iload_n 1, 1) := by decide +kernel
theorem d_T_reduceTurning_12 : decode b_T_reduceTurning 12 = .ok (.iaload, 1) := by decide +kernel
theorem d_T_reduceTurning_13 : decode b_T_reduceTurning 13 = .ok (.if_icmp .ge 111, 3) := by decide +kernel
theorem d_T_reduceTurning_16 : decode b_T_reduceTurning 16 = .ok (.aload_n 0, 1) := by decide +kernel
theorem d_T_reduceTurning_17 : decode b_T_reduceTurning 17 = .ok (.iload_n 1, 1) := by decide +kernel
theorem d_T_reduceTurning_18 : decode b_T_reduceTurning 18 = .ok (.iload 4, 2) := by decide +kernel
theorem d_T_reduceTurning_20 : decode b_T_reduceTurning 20 = .ok (.invokevirtual 73, 3) := by decide +kernel
theorem d_T_reduceTurning_23 : decode b_T_reduceTurning 23 = .ok (.istore 5, 2) := by decide +kernel
theorem d_T_reduceTurning_25 : decode b_T_reduceTurning 25 = .ok (.aload_n 0, 1) := by decide +kernel
theorem d_T_reduceTurning_26 : decode b_T_reduceTurning 26 = .ok (.iload 5, 2) := by decide +kernel
theorem d_T_reduceTurning_28 : decode b_T_reduceTurning 28 = .ok (.iload_n 2, 1) := by decide +kernel
theorem d_T_reduceTurning_29 : decode b_T_reduceTurning 29 = .ok (.invokevirtual 97, 3) := by decide +kernel
theorem d_T_reduceTurning_32 : decode b_T_reduceTurning 32 = .ok (.istore 6, 2) := by decide +kernel
theorem d_T_reduceTurning_34 : decode b_T_reduceTurning 34 = .ok (.iload 6, 2) := by decide +kernel
theorem d_T_reduceTurning_36 : decode b_T_reduceTurning 36 = .ok (.ifCond .ne 22, 3) := by decide +kernel
theorem d_T_reduceTurning_39 : decode b_T_reduceTurning 39 = .ok (.iload_n 3, 1) := by decide +kernel
theorem d_T_reduceTurning_40 : decode b_T_reduceTurning 40 = .ok (.ifCond .ne 7, 3) := by decide +kernel
theorem d_T_reduceTurning_43 : decode b_T_reduceTurning 43 = .ok (.iconst 0, 1) := by decide +kernel
theorem d_T_reduceTurning_44 : decode b_T_reduceTurning 44 = .ok (.goto 4, 3) := by decide +kernel
theorem d_T_reduceTurning_47 : decode b_T_reduceTurning 47 = .ok (.iconst 2, 1) := by decide +kernel
theorem d_T_reduceTurning_48 : decode b_T_reduceTurning 48 = .ok (.istore_n 3, 1) := by decide +kernel
theorem d_T_reduceTurning_49 : decode b_T_reduceTurning 49 = .ok (.aload_n 0, 1) := by decide +kernel
theorem d_T_reduceTurning_50 : decode b_T_reduceTurning 50 = .ok (.iload 5, 2) := by decide +kernel
theorem d_T_reduceTurning_52 : decode b_T_reduceTurning 52 = .ok (.invokevirtual 122, 3) := by decide +kernel
theorem d_T_reduceTurning_55 : decode b_T_reduceTurning 55 = .ok (.goto 63, 3) := by decide +kernel
theorem d_T_reduceTurning_58 : decode b_T_reduceTurning 58 = .ok (.iload_n 3, 1) := by decide +kernel
theorem d_T_reduceTurning_59 : decode b_T_reduceTurning 59 = .ok (.iconst 2, 1) := by decide +kernel
theorem d_T_reduceTurning_60 : decode b_T_reduceTurning 60 = .ok (.if_icmp .ne 5, 3) := by decide +kernel
theorem d_T_reduceTurning_63 : decode b_T_reduceTurning 63 = .ok (.iconst 0, 1) := by decide +kernel
theorem d_T_reduceTurning_64 : decode b_T_reduceTurning 64 = .ok (.ireturn, 1) := by decide +kernel
theorem d_T_reduceTurning_65 : decode b_T_reduceTurning 65 = .ok (.iload 6, 2) := by decide +kernel
theorem d_T_reduceTurning_67 : decode b_T_reduceTurning 67 = .ok (.iconst 2, 1) := by decide +kernel
theorem d_T_reduceTurning_68 : decode b_T_reduceTurning 68 = .ok (.if_icmp .ne 14, 3) := by decide +kernel
theorem d_T_reduceTurning_71 : decode b_T_reduceTurning 71 = .ok (.iconst 1, 1) := by decide +kernel
theorem d_T_reduceTurning_72 : decode b_T_reduceTurning 72 = .ok (.istore_n 3, 1) := by decide +kernel
theorem d_T_reduceTurning_73 : decode b_T_reduceTurning 73 = .ok (.aload_n 0, 1) := by decide +kernel
theorem d_T_reduceTurning_74 : decode b_T_reduceTurning 74 = .ok (.iload 5, 2) := by decide +kernel
theorem d_T_reduceTurning_76 : decode b_T_reduceTurning 76 = .ok (.invokevirtual 122, 3) := by decide +kernel
theorem d_T_reduceTurning_79 : decode b_T_reduceTurning 79 = .ok (.goto 39, 3) := by decide +kernel
theorem d_T_reduceTurning_82 : decode b_T_reduceTurning 82 = .ok (.iload_n 3, 1) := by decide +kernel
theorem d_T_reduceTurning_83 : decode b_T_reduceTurning 83 = .ok (.ifCond .ne 7, 3) := by decide +kernel
theorem d_T_reduceTurning_86 : decode b_T_reduceTurning 86 = .ok (.iconst 1, 1) := by decide +kernel
theorem d_T_reduceTurning_87 : decode b_T_reduceTurning 87 = .ok (.goto 4, 3) := by decide +kernel
theorem d_T_reduceTurning_90 : decode b_T_reduceTurning 90 = .ok (.iconst 0, 1) := by decide +kernel
theorem d_T_reduceTurning_91 : decode b_T_reduceTurning 91 = .ok (.istore 7, 2) := by decide +kernel
theorem d_T_reduceTurning_93 : decode b_T_reduceTurning 93 = .ok (.aload_n 0, 1) := by decide +kernel
theorem d_T_reduceTurning_94 : decode b_T_reduceTurning 94 = .ok (.iload 5, 2) := by decide +kernel
theorem d_T_reduceTurning_96 : decode b_T_reduceTurning 96 = .ok (.iload_n 2, 1) := by decide +kernel
theorem d_T_reduceTurning_97 : decode b_T_reduceTurning 97 = .ok (.iload 7, 2) := by decide +kernel
theorem d_T_reduceTurning_99 : decode b_T_reduceTurning 99 = .ok (.invokevirtual 114, 3) := by decide +kernel
theorem d_T_reduceTurning_102 : decode b_T_reduceTurning 102 = .ok (.ifCond .ne 5, 3) := by decide +kernel
theorem d_T_reduceTurning_105 : decode b_T_reduceTurning 105 = .ok (.iconst 0, 1) := by decide +kernel
theorem d_T_reduceTurning_106 : decode b_T_reduceTurning 106 = .ok (.ireturn, 1) := by decide +kernel
theorem d_T_reduceTurning_107 : decode b_T_reduceTurning 107 = .ok (.iload 7, 2) := by decide +kernel
theorem d_T_reduceTurning_109 : decode b_T_reduceTurning 109 = .ok (.ifCond .eq 7, 3) := by decide +kernel
theorem d_T_reduceTurning_112 : decode b_T_reduceTurning 112 = .ok (.iconst 1, 1) := by decide +kernel
theorem d_T_reduceTurning_113 : decode b_T_reduceTurning 113 = .ok (.goto 4, 3) := by decide +kernel
theorem d_T_reduceTurning_116 : decode b_T_reduceTurning 116 = .ok (.iconst 2, 1) := by decide +kernel
theorem d_T_reduceTurning_117 : decode b_T_reduceTurning 117 = .ok (.istore_n 3, 1) := by decide +kernel
theorem d_T_reduceTurning_118 : decode b_T_reduceTurning 118 = .ok (.iinc 4 1, 3) := by decide +kernel
theorem d_T_reduceTurning_121 : decode b_T_reduceTurning 121 = .ok (.goto (-116), 3) := by decide +kernel
theorem d_T_reduceTurning_124 : decode b_T_reduceTurning 124 = .ok (.aload_n 0, 1) := by decide +kernel
theorem d_T_reduceTurning_125 : decode b_T_reduceTurning 125 = .ok (.iload_n 1, 1) := by decide +kernel
theorem d_T_reduceTurning_126 : decode b_T_reduceTurning 126 = .ok (.invokevirtual 128, 3) := by decide +kernel
theorem d_T_reduceTurning_129 : decode b_T_reduceTurning 129 = .ok (.iconst 1, 1) := by decide +kernel
theorem d_T_reduceTurning_130 : decode b_T_reduceTurning 130 = .ok (.ireturn, 1) := by decide +kernel
theorem d_T_reduce_0 : decode b_T_reduce 0 = .ok (.iload_n 1, 1) := by decide +kernel
theorem d_T_reduce_1 : decode b_T_reduce 1 = .ok (.aload_n 0, 1) := by decide +kernel
theorem d_T_reduce_2 : decode b_T_reduce 2 = .ok (.getfield 15, 3) := by decide +kernel
theorem d_T_reduce_5 : decode b_T_reduce 5 = .ok (.aload_n 0, 1) := by decide +kernel
theorem d_T_reduce_6 : decode b_T_reduce 6 = .ok (.getfield 24, 3) := by decide +kernel
theorem d_T_reduce_9 : decode b_T_reduce 9 = .ok (.iaload, 1) := by decide +kernel
theorem d_T_reduce_10 : decode b_T_reduce 10 = .ok (.iand, 1) := by decide +kernel
theorem d_T_reduce_11 : decode b_T_reduce 11 = .ok (.istore_n 2, 1) := by decide +kernel
theorem d_T_reduce_12 : decode b_T_reduce 12 = .ok (.iload_n 2, 1) := by decide +kernel
theorem d_T_reduce_13 : decode b_T_reduce 13 = .ok (.invokestatic 89, 3) := by decide +kernel
theorem d_T_reduce_16 : decode b_T_reduce 16 = .ok (.iconst 2, 1) := by decide +kernel
theorem d_T_reduce_17 : decode b_T_reduce 17 = .ok (.if_icmp .ge 5, 3) := by decide +kernel
theorem d_T_reduce_20 : decode b_T_reduce 20 = .ok (.iconst 1, 1) := by decide +kernel
theorem d_T_reduce_21 : decode b_T_reduce 21 = .ok (.ireturn, 1) := by decide +kernel
theorem d_T_reduce_22 : decode b_T_reduce 22 = .ok (.aload_n 0, 1) := by decide +kernel
theorem d_T_reduce_23 : decode b_T_reduce 23 = .ok (.iload_n 2, 1) := by decide +kernel
theorem d_T_reduce_24 : decode b_T_reduce 24 = .ok (.invokevirtual 94, 3) := by decide +kernel
theorem d_T_reduce_27 : decode b_T_reduce 27 = .ok (.istore_n 3, 1) := by decide +kernel
theorem d_T_reduce_28 : decode b_T_reduce 28 = .ok (.aload_n 0, 1) := by decide +kernel
theorem d_T_reduce_29 : decode b_T_reduce 29 = .ok (.iload_n 3, 1) := by decide +kernel
theorem d_T_reduce_30 : decode b_T_reduce 30 = .ok (.iload_n 2, 1) := by decide +kernel
theorem d_T_reduce_31 : decode b_T_reduce 31 = .ok (.invokevirtual 97, 3) := by decide +kernel
theorem d_T_reduce_34 : decode b_T_reduce 34 = .ok (.iconst 2, 1) := by decide +kernel
theorem d_T_reduce_35 : decode b_T_reduce 35 = .ok (.if_icmp .ne 5, 3) := by decide +kernel
theorem d_T_reduce_38 : decode b_T_reduce 38 = .ok (.iconst 1, 1) := by decide +kernel
theorem d_T_reduce_39 : decode b_T_reduce 39 = .ok (.ireturn, 1) := by decide +kernel
theorem d_T_reduce_40 : decode b_T_reduce 40 = .ok (.aload_n 0, 1) := by decide +kernel
theorem d_T_reduce_41 : decode b_T_reduce 41 = .ok (.iconst 0, 1) := by decide +kernel
theorem d_T_reduce_42 : decode b_T_reduce 42 = .ok (.putfield 34, 3) := by decide +kernel
theorem d_T_reduce_45 : decode b_T_reduce 45 = .ok (.aload_n 0, 1) := by decide +kernel
theorem d_T_reduce_46 : decode b_T_reduce 46 = .ok (.iconst 0, 1) := by decide +kernel
theorem d_T_reduce_47 : decode b_T_reduce 47 = .ok (.putfield 46, 3) := by decide +kernel
theorem d_T_reduce_50 : decode b_T_reduce 50 = .ok (.aload_n 0, 1) := by decide +kernel
theorem d_T_reduce_51 : decode b_T_reduce 51 = .ok (.getfield 11, 3) := by decide +kernel
theorem d_T_reduce_54 : decode b_T_reduce 54 = .ok (.iload_n 3, 1) := by decide +kernel
theorem d_T_reduce_55 : decode b_T_reduce 55 = .ok (.iaload, 1) := by decide +kernel
theorem d_T_reduce_56 : decode b_T_reduce 56 = .ok (.ifCond .ne 12, 3) := by decide +kernel
theorem d_T_reduce_59 : decode b_T_reduce 59 = .ok (.aload_n 0, 1) := by decide +kernel
theorem d_T_reduce_60 : decode b_T_reduce 60 = .ok (.iload_n 3, 1) := by decide +kernel
theorem d_T_reduce_61 : decode b_T_reduce 61 = .ok (.iload_n 2, 1) := by decide +kernel
theorem d_T_reduce_62 : decode b_T_reduce 62 = .ok (.invokevirtual 100, 3) := by decide +kernel
theorem d_T_reduce_65 : decode b_T_reduce 65 = .ok (.goto 9, 3) := by decide +kernel
theorem d_T_reduce_68 : decode b_T_reduce 68 = .ok (.aload_n 0, 1) := by decide +kernel
theorem d_T_reduce_69 : decode b_T_reduce 69 = .ok (.iload_n 3, 1) := by decide +kernel
theorem d_T_reduce_70 : decode b_T_reduce 70 = .ok (.iload_n 2, 1) := by decide +kernel
theorem d_T_reduce_71 : decode b_T_reduce 71 = .ok (.invokevirtual 104, 3) := by decide +kernel
theorem d_T_reduce_74 : decode b_T_reduce 74 = .ok (.istore 4, 2) := by decide +kernel
theorem d_T_reduce_76 : decode b_T_reduce 76 = .ok (.aload_n 0, 1) := by decide +kernel
theorem d_T_reduce_77 : decode b_T_reduce 77 = .ok (.invokevirtual 107, 3) := by decide +kernel
theorem d_T_reduce_80 : decode b_T_reduce 80 = .ok (.iload 4, 2) := by decide +kernel
theorem d_T_reduce_82 : decode b_T_reduce 82 = .ok (.ireturn, 1) := by decide +kernel
theorem d_T_nodeCount_0 : decode b_T_nodeCount 0 = .ok (.aload_n 0, 1) := by decide +kernel
theorem d_T_nodeCount_1 : decode b_T_nodeCount 1 = .ok (.getfield 28, 3) := by decide +kernel
theorem d_T_nodeCount_4 : decode b_T_nodeCount 4 = .ok (.ireturn, 1) := by decide +kernel
theorem d_T_isTurning_0 : decode b_T_isTurning 0 = .ok (.iload_n 1, 1) := by decide +kernel
theorem d_T_isTurning_1 : decode b_T_isTurning 1 = .ok (.ifCond .lt 28, 3) := by decide +kernel
theorem d_T_isTurning_4 : decode b_T_isTurning 4 = .ok (.iload_n 1, 1) := by decide +kernel
theorem d_T_isTurning_5 : decode b_T_isTurning 5 = .ok (.aload_n 0, 1) := by decide +kernel
theorem d_T_isTurning_6 : decode b_T_isTurning 6 = .ok (.getfield 28, 3) := by decide +kernel
theorem d_T_isTurning_9 : decode b_T_isTurning 9 = .ok (.if_icmp .ge 20, 3) := by decide +kernel
theorem d_T_isTurning_12 : decode b_T_isTurning 12 = .ok (.aload_n 0, 1) := by decide +kernel
theorem d_T_isTurning_13 : decode b_T_isTurning 13 = .ok (.getfield 11, 3) := by decide +kernel
theorem d_T_isTurning_16 : decode b_T_isTurning 16 = .ok (.bipush 8, 2) := by decide +kernel
theorem d_T_isTurning_18 : decode b_T_isTurning 18 = .ok (.iload_n 1, 1) := by decide +kernel
theorem d_T_isTurning_19 : decode b_T_isTurning 19 = .ok (.iadd, 1) := by decide +kernel
theorem d_T_isTurning_20 : decode b_T_isTurning 20 = .ok (.iaload, 1) := by decide +kernel
theorem d_T_isTurning_21 : decode b_T_isTurning 21 = .ok (.iconst 1, 1) := by decide +kernel
theorem d_T_isTurning_22 : decode b_T_isTurning 22 = .ok (.if_icmp .ne 7, 3) := by decide +kernel
theorem d_T_isTurning_25 : decode b_T_isTurning 25 = .ok (.iconst 1, 1) := by decide +kernel
theorem d_T_isTurning_26 : decode b_T_isTurning 26 = .ok (.goto 4, 3) := by decide +kernel
theorem d_T_isTurning_29 : decode b_T_isTurning 29 = .ok (.iconst 0, 1) := by decide +kernel
theorem d_T_isTurning_30 : decode b_T_isTurning 30 = .ok (.ireturn, 1) := by decide +kernel
theorem d_T_partCount_0 : decode b_T_partCount 0 = .ok (.iload_n 1, 1) := by decide +kernel
theorem d_T_partCount_1 : decode b_T_partCount 1 = .ok (.ifCond .lt 23, 3) := by decide +kernel
theorem d_T_partCount_4 : decode b_T_partCount 4 = .ok (.iload_n 1, 1) := by decide +kernel
theorem d_T_partCount_5 : decode b_T_partCount 5 = .ok (.aload_n 0, 1) := by decide +kernel
theorem d_T_partCount_6 : decode b_T_partCount 6 = .ok (.getfield 28, 3) := by decide +kernel
theorem d_T_partCount_9 : decode b_T_partCount 9 = .ok (.if_icmp .ge 15, 3) := by decide +kernel
theorem d_T_partCount_12 : decode b_T_partCount 12 = .ok (.aload_n 0, 1) := by decide +kernel
theorem d_T_partCount_13 : decode b_T_partCount 13 = .ok (.getfield 18, 3) := by decide +kernel
theorem d_T_partCount_16 : decode b_T_partCount 16 = .ok (.bipush 8, 2) := by decide +kernel
theorem d_T_partCount_18 : decode b_T_partCount 18 = .ok (.iload_n 1, 1) := by decide +kernel
theorem d_T_partCount_19 : decode b_T_partCount 19 = .ok (.iadd, 1) := by decide +kernel
theorem d_T_partCount_20 : decode b_T_partCount 20 = .ok (.iaload, 1) := by decide +kernel
theorem d_T_partCount_21 : decode b_T_partCount 21 = .ok (.goto 4, 3) := by decide +kernel
theorem d_T_partCount_24 : decode b_T_partCount 24 = .ok (.iconst 0, 1) := by decide +kernel
theorem d_T_partCount_25 : decode b_T_partCount 25 = .ok (.ireturn, 1) := by decide +kernel
theorem d_T_thingsOf_0 : decode b_T_thingsOf 0 = .ok (.iload_n 1, 1) := by decide +kernel
theorem d_T_thingsOf_1 : decode b_T_thingsOf 1 = .ok (.ifCond .lt 23, 3) := by decide +kernel
theorem d_T_thingsOf_4 : decode b_T_thingsOf 4 = .ok (.iload_n 1, 1) := by decide +kernel
theorem d_T_thingsOf_5 : decode b_T_thingsOf 5 = .ok (.aload_n 0, 1) := by decide +kernel
theorem d_T_thingsOf_6 : decode b_T_thingsOf 6 = .ok (.getfield 28, 3) := by decide +kernel
theorem d_T_thingsOf_9 : decode b_T_thingsOf 9 = .ok (.if_icmp .ge 15, 3) := by decide +kernel
theorem d_T_thingsOf_12 : decode b_T_thingsOf 12 = .ok (.aload_n 0, 1) := by decide +kernel
theorem d_T_thingsOf_13 : decode b_T_thingsOf 13 = .ok (.getfield 15, 3) := by decide +kernel
theorem d_T_thingsOf_16 : decode b_T_thingsOf 16 = .ok (.bipush 8, 2) := by decide +kernel
theorem d_T_thingsOf_18 : decode b_T_thingsOf 18 = .ok (.iload_n 1, 1) := by decide +kernel
theorem d_T_thingsOf_19 : decode b_T_thingsOf 19 = .ok (.iadd, 1) := by decide +kernel
theorem d_T_thingsOf_20 : decode b_T_thingsOf 20 = .ok (.iaload, 1) := by decide +kernel
theorem d_T_thingsOf_21 : decode b_T_thingsOf 21 = .ok (.goto 4, 3) := by decide +kernel
theorem d_T_thingsOf_24 : decode b_T_thingsOf 24 = .ok (.iconst 0, 1) := by decide +kernel
theorem d_T_thingsOf_25 : decode b_T_thingsOf 25 = .ok (.ireturn, 1) := by decide +kernel
theorem d_T_turningCount_0 : decode b_T_turningCount 0 = .ok (.iconst 0, 1) := by decide +kernel
theorem d_T_turningCount_1 : decode b_T_turningCount 1 = .ok (.istore_n 1, 1) := by decide +kernel
theorem d_T_turningCount_2 : decode b_T_turningCount 2 = .ok (.iconst 0, 1) := by decide +kernel
theorem d_T_turningCount_3 : decode b_T_turningCount 3 = .ok (.istore_n 2, 1) := by decide +kernel
theorem d_T_turningCount_4 : decode b_T_turningCount 4 = .ok (.iload_n 2, 1) := by decide +kernel
theorem d_T_turningCount_5 : decode b_T_turningCount 5 = .ok (.aload_n 0, 1) := by decide +kernel
theorem d_T_turningCount_6 : decode b_T_turningCount 6 = .ok (.getfield 28, 3) := by decide +kernel
theorem d_T_turningCount_9 : decode b_T_turningCount 9 = .ok (.if_icmp .ge 21, 3) := by decide +kernel
theorem d_T_turningCount_12 : decode b_T_turningCount 12 = .ok (.iload_n 1, 1) := by decide +kernel
theorem d_T_turningCount_13 : decode b_T_turningCount 13 = .ok (.aload_n 0, 1) := by decide +kernel
theorem d_T_turningCount_14 : decode b_T_turningCount 14 = .ok (.getfield 11, 3) := by decide +kernel
theorem d_T_turningCount_17 : decode b_T_turningCount 17 = .ok (.bipush 8, 2) := by decide +kernel
theorem d_T_turningCount_19 : decode b_T_turningCount 19 = .ok (.iload_n 2, 1) := by decide +kernel
theorem d_T_turningCount_20 : decode b_T_turningCount 20 = .ok (.iadd, 1) := by decide +kernel
theorem d_T_turningCount_21 : decode b_T_turningCount 21 = .ok (.iaload, 1) := by decide +kernel
theorem d_T_turningCount_22 : decode b_T_turningCount 22 = .ok (.iadd, 1) := by decide +kernel
theorem d_T_turningCount_23 : decode b_T_turningCount 23 = .ok (.istore_n 1, 1) := by decide +kernel
theorem d_T_turningCount_24 : decode b_T_turningCount 24 = .ok (.iinc 2 1, 3) := by decide +kernel
theorem d_T_turningCount_27 : decode b_T_turningCount 27 = .ok (.goto (-23), 3) := by decide +kernel
theorem d_T_turningCount_30 : decode b_T_turningCount 30 = .ok (.iload_n 1, 1) := by decide +kernel
theorem d_T_turningCount_31 : decode b_T_turningCount 31 = .ok (.ireturn, 1) := by decide +kernel
theorem d_O_factorial_0 : decode b_O_factorial 0 = .ok (.iload_n 0, 1) := by decide +kernel
theorem d_O_factorial_1 : decode b_O_factorial 1 = .ok (.ifCond .lt 11, 3) := by decide +kernel
theorem d_O_factorial_4 : decode b_O_factorial 4 = .ok (.iload_n 0, 1) := by decide +kernel
theorem d_O_factorial_5 : decode b_O_factorial 5 = .ok (.getstatic 256, 3) := by decide +kernel
theorem d_O_factorial_8 : decode b_O_factorial 8 = .ok (.arraylength, 1) := by decide +kernel
theorem d_O_factorial_9 : decode b_O_factorial 9 = .ok (.if_icmp .lt 7, 3) := by decide +kernel
theorem d_O_factorial_12 : decode b_O_factorial 12 = .ok (.iconst 1, 1) := by decide +kernel
theorem d_O_factorial_13 : decode b_O_factorial 13 = .ok (.goto 8, 3) := by decide +kernel
theorem d_O_factorial_16 : decode b_O_factorial 16 = .ok (.getstatic 256, 3) := by decide +kernel
theorem d_O_factorial_19 : decode b_O_factorial 19 = .ok (.iload_n 0, 1) := by decide +kernel
theorem d_O_factorial_20 : decode b_O_factorial 20 = .ok (.iaload, 1) := by decide +kernel
theorem d_O_factorial_21 : decode b_O_factorial 21 = .ok (.ireturn, 1) := by decide +kernel
theorem d_T_ways_0 : decode b_T_ways 0 = .ok (.aload_n 0, 1) := by decide +kernel
theorem d_T_ways_1 : decode b_T_ways 1 = .ok (.getfield 11, 3) := by decide +kernel
theorem d_T_ways_4 : decode b_T_ways 4 = .ok (.iload_n 1, 1) := by decide +kernel
theorem d_T_ways_5 : decode b_T_ways 5 = .ok (.iaload, 1) := by decide +kernel
theorem d_T_ways_6 : decode b_T_ways 6 = .ok (.ifCond .ne 15, 3) := by decide +kernel
theorem d_T_ways_9 : decode b_T_ways 9 = .ok (.aload_n 0, 1) := by decide +kernel
theorem d_T_ways_10 : decode b_T_ways 10 = .ok (.getfield 18, 3) := by decide +kernel
theorem d_T_ways_13 : decode b_T_ways 13 = .ok (.iload_n 1, 1) := by decide +kernel
theorem d_T_ways_14 : decode b_T_ways 14 = .ok (.iaload, 1) := by decide +kernel
theorem d_T_ways_15 : decode b_T_ways 15 = .ok (.invokestatic 158, 3) := by decide +kernel
theorem d_T_ways_18 : decode b_T_ways 18 = .ok (.goto 4, 3) := by decide +kernel
theorem d_T_ways_21 : decode b_T_ways 21 = .ok (.iconst 2, 1) := by decide +kernel
theorem d_T_ways_22 : decode b_T_ways 22 = .ok (.ireturn, 1) := by decide +kernel
theorem d_T_rowCount_0 : decode b_T_rowCount 0 = .ok (.lconst 1, 1) := by decide +kernel
theorem d_T_rowCount_1 : decode b_T_rowCount 1 = .ok (.lstore_n 1, 1) := by decide +kernel
theorem d_T_rowCount_2 : decode b_T_rowCount 2 = .ok (.bipush 8, 2) := by decide +kernel
theorem d_T_rowCount_4 : decode b_T_rowCount 4 = .ok (.istore_n 3, 1) := by decide +kernel
theorem d_T_rowCount_5 : decode b_T_rowCount 5 = .ok (.iload_n 3, 1) := by decide +kernel
theorem d_T_rowCount_6 : decode b_T_rowCount 6 = .ok (.bipush 24, 2) := by decide +kernel
theorem d_T_rowCount_8 : decode b_T_rowCount 8 = .ok (.if_icmp .ge 27, 3) := by decide +kernel
theorem d_T_rowCount_11 : decode b_T_rowCount 11 = .ok (.aload_n 0, 1) := by decide +kernel
theorem d_T_rowCount_12 : decode b_T_rowCount 12 = .ok (.getfield 18, 3) := by decide +kernel
theorem d_T_rowCount_15 : decode b_T_rowCount 15 = .ok (.iload_n 3, 1) := by decide +kernel
theorem d_T_rowCount_16 : decode b_T_rowCount 16 = .ok (.iaload, 1) := by decide +kernel
theorem d_T_rowCount_17 : decode b_T_rowCount 17 = .ok (.ifCond .le 12, 3) := by decide +kernel
theorem d_T_rowCount_20 : decode b_T_rowCount 20 = .ok (.lload_n 1, 1) := by decide +kernel
theorem d_T_rowCount_21 : decode b_T_rowCount 21 = .ok (.aload_n 0, 1) := by decide +kernel
theorem d_T_rowCount_22 : decode b_T_rowCount 22 = .ok (.iload_n 3, 1) := by decide +kernel
theorem d_T_rowCount_23 : decode b_T_rowCount 23 = .ok (.invokevirtual 144, 3) := by decide +kernel
theorem d_T_rowCount_26 : decode b_T_rowCount 26 = .ok (.i2l, 1) := by decide +kernel
theorem d_T_rowCount_27 : decode b_T_rowCount 27 = .ok (.lmul, 1) := by decide +kernel
theorem d_T_rowCount_28 : decode b_T_rowCount 28 = .ok (.lstore_n 1, 1) := by decide +kernel
theorem d_T_rowCount_29 : decode b_T_rowCount 29 = .ok (.iinc 3 1, 3) := by decide +kernel
theorem d_T_rowCount_32 : decode b_T_rowCount 32 = .ok (.goto (-27), 3) := by decide +kernel
theorem d_T_rowCount_35 : decode b_T_rowCount 35 = .ok (.lload_n 1, 1) := by decide +kernel
theorem d_T_rowCount_36 : decode b_T_rowCount 36 = .ok (.lreturn, 1) := by decide +kernel
theorem d_T_setAt_0 : decode b_T_setAt 0 = .ok (.iload_n 1, 1) := by decide +kernel
theorem d_T_setAt_1 : decode b_T_setAt 1 = .ok (.ifCond .lt 13, 3) := by decide +kernel
theorem d_T_setAt_4 : decode b_T_setAt 4 = .ok (.iload_n 1, 1) := by decide +kernel
theorem d_T_setAt_5 : decode b_T_setAt 5 = .ok (.aload_n 0, 1) := by decide +kernel
theorem d_T_setAt_6 : decode b_T_setAt 6 = .ok (.arraylength, 1) := by decide +kernel
theorem d_T_setAt_7 : decode b_T_setAt 7 = .ok (.if_icmp .ge 7, 3) := by decide +kernel
theorem d_T_setAt_10 : decode b_T_setAt 10 = .ok (.aload_n 0, 1) := by decide +kernel
theorem d_T_setAt_11 : decode b_T_setAt 11 = .ok (.iload_n 1, 1) := by decide +kernel
theorem d_T_setAt_12 : decode b_T_setAt 12 = .ok (.iload_n 2, 1) := by decide +kernel
theorem d_T_setAt_13 : decode b_T_setAt 13 = .ok (.iastore, 1) := by decide +kernel
theorem d_T_setAt_14 : decode b_T_setAt 14 = .ok (.return_, 1) := by decide +kernel
theorem d_T_show_0 : decode b_T_show 0 = .ok (.aload_n 0, 1) := by decide +kernel
theorem d_T_show_1 : decode b_T_show 1 = .ok (.getfield 28, 3) := by decide +kernel
theorem d_T_show_4 : decode b_T_show 4 = .ok (.ifCond .ne 17, 3) := by decide +kernel
theorem d_T_show_7 : decode b_T_show 7 = .ok (.aload_n 1, 1) := by decide +kernel
theorem d_T_show_8 : decode b_T_show 8 = .ok (.iconst 0, 1) := by decide +kernel
theorem d_T_show_9 : decode b_T_show 9 = .ok (.bipush 97, 2) := by decide +kernel
theorem d_T_show_11 : decode b_T_show 11 = .ok (.aload_n 0, 1) := by decide +kernel
theorem d_T_show_12 : decode b_T_show 12 = .ok (.getfield 24, 3) := by decide +kernel
theorem d_T_show_15 : decode b_T_show 15 = .ok (.iadd, 1) := by decide +kernel
theorem d_T_show_16 : decode b_T_show 16 = .ok (.invokestatic 147, 3) := by decide +kernel
theorem d_T_show_19 : decode b_T_show 19 = .ok (.iconst 1, 1) := by decide +kernel
theorem d_T_show_20 : decode b_T_show 20 = .ok (.ireturn, 1) := by decide +kernel
theorem d_T_show_21 : decode b_T_show 21 = .ok (.bipush 8, 2) := by decide +kernel
theorem d_T_show_23 : decode b_T_show 23 = .ok (.aload_n 0, 1) := by decide +kernel
theorem d_T_show_24 : decode b_T_show 24 = .ok (.getfield 28, 3) := by decide +kernel
theorem d_T_show_27 : decode b_T_show 27 = .ok (.iadd, 1) := by decide +kernel
theorem d_T_show_28 : decode b_T_show 28 = .ok (.iconst 1, 1) := by decide +kernel
theorem d_T_show_29 : decode b_T_show 29 = .ok (.isub, 1) := by decide +kernel
theorem d_T_show_30 : decode b_T_show 30 = .ok (.istore_n 2, 1) := by decide +kernel
theorem d_T_show_31 : decode b_T_show 31 = .ok (.iload_n 2, 1) := by decide +kernel
theorem d_T_show_32 : decode b_T_show 32 = .ok (.bipush 8, 2) := by decide +kernel
theorem d_T_show_34 : decode b_T_show 34 = .ok (.if_icmp .lt 54, 3) := by decide +kernel
theorem d_T_show_37 : decode b_T_show 37 = .ok (.aload_n 0, 1) := by decide +kernel
theorem d_T_show_38 : decode b_T_show 38 = .ok (.getfield 52, 3) := by decide +kernel
theorem d_T_show_41 : decode b_T_show 41 = .ok (.iload_n 2, 1) := by decide +kernel
theorem d_T_show_42 : decode b_T_show 42 = .ok (.iconst 2, 1) := by decide +kernel
theorem d_T_show_43 : decode b_T_show 43 = .ok (.iastore, 1) := by decide +kernel
theorem d_T_show_44 : decode b_T_show 44 = .ok (.iconst 0, 1) := by decide +kernel
theorem d_T_show_45 : decode b_T_show 45 = .ok (.istore_n 3, 1) := by decide +kernel
theorem d_T_show_46 : decode b_T_show 46 = .ok (.iload_n 3, 1) := by decide +kernel
theorem d_T_show_47 : decode b_T_show 47 = .ok (.aload_n 0, 1) := by decide +kernel
theorem d_T_show_48 : decode b_T_show 48 = .ok (.getfield 18, 3) := by decide +kernel
theorem d_T_show_51 : decode b_T_show 51 = .ok (.iload_n 2, 1) := by decide +kernel
theorem d_T_show_52 : decode b_T_show 52 = .ok (.iaload, 1) := by decide +kernel
theorem d_T_show_53 : decode b_T_show 53 = .ok (.if_icmp .ge 29, 3) := by decide +kernel
theorem d_T_show_56 : decode b_T_show 56 = .ok (.aload_n 0, 1) := by decide +kernel
theorem d_T_show_57 : decode b_T_show 57 = .ok (.getfield 52, 3) := by decide +kernel
theorem d_T_show_60 : decode b_T_show 60 = .ok (.iload_n 2, 1) := by decide +kernel
theorem d_T_show_61 : decode b_T_show 61 = .ok (.dup2, 1) := by decide +kernel
theorem d_T_show_62 : decode b_T_show 62 = .ok (.iaload, 1) := by decide +kernel
theorem d_T_show_63 : decode b_T_show 63 = .ok (.aload_n 0, 1) := by decide +kernel
theorem d_T_show_64 : decode b_T_show 64 = .ok (.getfield 52, 3) := by decide +kernel
theorem d_T_show_67 : decode b_T_show 67 = .ok (.aload_n 0, 1) := by decide +kernel
theorem d_T_show_68 : decode b_T_show 68 = .ok (.iload_n 2, 1) := by decide +kernel
theorem d_T_show_69 : decode b_T_show 69 = .ok (.iload_n 3, 1) := by decide +kernel
theorem d_T_show_70 : decode b_T_show 70 = .ok (.invokevirtual 73, 3) := by decide +kernel
theorem d_T_show_73 : decode b_T_show 73 = .ok (.iaload, 1) := by decide +kernel
theorem d_T_show_74 : decode b_T_show 74 = .ok (.iadd, 1) := by decide +kernel
theorem d_T_show_75 : decode b_T_show 75 = .ok (.iastore, 1) := by decide +kernel
theorem d_T_show_76 : decode b_T_show 76 = .ok (.iinc 3 1, 3) := by decide +kernel
theorem d_T_show_79 : decode b_T_show 79 = .ok (.goto (-33), 3) := by decide +kernel
theorem d_T_show_82 : decode b_T_show 82 = .ok (.iinc 2 (-1), 3) := by decide +kernel
theorem d_T_show_85 : decode b_T_show 85 = .ok (.goto (-54), 3) := by decide +kernel
theorem d_T_show_88 : decode b_T_show 88 = .ok (.aload_n 0, 1) := by decide +kernel
theorem d_T_show_89 : decode b_T_show 89 = .ok (.getfield 49, 3) := by decide +kernel
theorem d_T_show_92 : decode b_T_show 92 = .ok (.aload_n 0, 1) := by decide +kernel
theorem d_T_show_93 : decode b_T_show 93 = .ok (.getfield 24, 3) := by decide +kernel
theorem d_T_show_96 : decode b_T_show 96 = .ok (.iconst 0, 1) := by decide +kernel
theorem d_T_show_97 : decode b_T_show 97 = .ok (.iastore, 1) := by decide +kernel
theorem d_T_show_98 : decode b_T_show 98 = .ok (.bipush 8, 2) := by decide +kernel
theorem d_T_show_100 : decode b_T_show 100 = .ok (.istore_n 2, 1) := by decide +kernel
theorem d_T_show_101 : decode b_T_show 101 = .ok (.iload_n 2, 1) := by decide +kernel
theorem d_T_show_102 : decode b_T_show 102 = .ok (.bipush 8, 2) := by decide +kernel
theorem d_T_show_104 : decode b_T_show 104 = .ok (.aload_n 0, 1) := by decide +kernel
theorem d_T_show_105 : decode b_T_show 105 = .ok (.getfield 28, 3) := by decide +kernel
theorem d_T_show_108 : decode b_T_show 108 = .ok (.iadd, 1) := by decide +kernel
theorem d_T_show_109 : decode b_T_show 109 = .ok (.if_icmp .ge 125, 3) := by decide +kernel
theorem d_T_show_112 : decode b_T_show 112 = .ok (.aload_n 0, 1) := by decide +kernel
theorem d_T_show_113 : decode b_T_show 113 = .ok (.getfield 49, 3) := by decide +kernel
theorem d_T_show_116 : decode b_T_show 116 = .ok (.iload_n 2, 1) := by decide +kernel
theorem d_T_show_117 : decode b_T_show 117 = .ok (.iaload, 1) := by decide +kernel
theorem d_T_show_118 : decode b_T_show 118 = .ok (.istore_n 3, 1) := by decide +kernel
theorem d_T_show_119 : decode b_T_show 119 = .ok (.aload_n 1, 1) := by decide +kernel
theorem d_T_show_120 : decode b_T_show 120 = .ok (.iload_n 3, 1) := by decide +kernel
theorem d_T_show_121 : decode b_T_show 121 = .ok (.aload_n 0, 1) := by decide +kernel
theorem d_T_show_122 : decode b_T_show 122 = .ok (.getfield 11, 3) := by decide +kernel
theorem d_T_show_125 : decode b_T_show 125 = .ok (.iload_n 2, 1) := by decide +kernel
theorem d_T_show_126 : decode b_T_show 126 = .ok (.iaload, 1) := by decide +kernel
theorem d_T_show_127 : decode b_T_show 127 = .ok (.ifCond .ne 8, 3) := by decide +kernel
theorem d_T_show_130 : decode b_T_show 130 = .ok (.bipush 40, 2) := by decide +kernel
theorem d_T_show_132 : decode b_T_show 132 = .ok (.goto 5, 3) := by decide +kernel
theorem d_T_show_135 : decode b_T_show 135 = .ok (.bipush 91, 2) := by decide +kernel
theorem d_T_show_137 : decode b_T_show 137 = .ok (.invokestatic 147, 3) := by decide +kernel
theorem d_T_show_140 : decode b_T_show 140 = .ok (.iinc 3 1, 3) := by decide +kernel
theorem d_T_show_143 : decode b_T_show 143 = .ok (.iconst 0, 1) := by decide +kernel
theorem d_T_show_144 : decode b_T_show 144 = .ok (.istore 4, 2) := by decide +kernel
theorem d_T_show_146 : decode b_T_show 146 = .ok (.iload 4, 2) := by decide +kernel
theorem d_T_show_148 : decode b_T_show 148 = .ok (.aload_n 0, 1) := by decide +kernel
theorem d_T_show_149 : decode b_T_show 149 = .ok (.getfield 18, 3) := by decide +kernel
theorem d_T_show_152 : decode b_T_show 152 = .ok (.iload_n 2, 1) := by decide +kernel
theorem d_T_show_153 : decode b_T_show 153 = .ok (.iaload, 1) := by decide +kernel
theorem d_T_show_154 : decode b_T_show 154 = .ok (.if_icmp .ge 53, 3) := by decide +kernel
theorem d_T_show_157 : decode b_T_show 157 = .ok (.aload_n 0, 1) := by decide +kernel
theorem d_T_show_158 : decode b_T_show 158 = .ok (.iload_n 2, 1) := by decide +kernel
theorem d_T_show_159 : decode b_T_show 159 = .ok (.iload 4, 2) := by decide +kernel
theorem d_T_show_161 : decode b_T_show 161 = .ok (.invokevirtual 73, 3) := by decide +kernel
theorem d_T_show_164 : decode b_T_show 164 = .ok (.istore 5, 2) := by decide +kernel
theorem d_T_show_166 : decode b_T_show 166 = .ok (.aload_n 0, 1) := by decide +kernel
theorem d_T_show_167 : decode b_T_show 167 = .ok (.getfield 49, 3) := by decide +kernel
theorem d_T_show_170 : decode b_T_show 170 = .ok (.iload 5, 2) := by decide +kernel
theorem d_T_show_172 : decode b_T_show 172 = .ok (.iload_n 3, 1) := by decide +kernel
theorem d_T_show_173 : decode b_T_show 173 = .ok (.iastore, 1) := by decide +kernel
theorem d_T_show_174 : decode b_T_show 174 = .ok (.iload 5, 2) := by decide +kernel
theorem d_T_show_176 : decode b_T_show 176 = .ok (.bipush 8, 2) := by decide +kernel
theorem d_T_show_178 : decode b_T_show 178 = .ok (.if_icmp .ge 13, 3) := by decide +kernel
theorem d_T_show_181 : decode b_T_show 181 = .ok (.aload_n 1, 1) := by decide +kernel
theorem d_T_show_182 : decode b_T_show 182 = .ok (.iload_n 3, 1) := by decide +kernel
theorem d_T_show_183 : decode b_T_show 183 = .ok (.bipush 97, 2) := by decide +kernel
theorem d_T_show_185 : decode b_T_show 185 = .ok (.iload 5, 2) := by decide +kernel
theorem d_T_show_187 : decode b_T_show 187 = .ok (.iadd, 1) := by decide +kernel
theorem d_T_show_188 : decode b_T_show 188 = .ok (.invokestatic 147, 3) := by decide +kernel
theorem d_T_show_191 : decode b_T_show 191 = .ok (.iload_n 3, 1) := by decide +kernel
theorem d_T_show_192 : decode b_T_show 192 = .ok (.aload_n 0, 1) := by decide +kernel
theorem d_T_show_193 : decode b_T_show 193 = .ok (.getfield 52, 3) := by decide +kernel
theorem d_T_show_196 : decode b_T_show 196 = .ok (.iload 5, 2) := by decide +kernel
theorem d_T_show_198 : decode b_T_show 198 = .ok (.iaload, 1) := by decide +kernel
theorem d_T_show_199 : decode b_T_show 199 = .ok (.iadd, 1) := by decide +kernel
theorem d_T_show_200 : decode b_T_show 200 = .ok (.istore_n 3, 1) := by decide +kernel
theorem d_T_show_201 : decode b_T_show 201 = .ok (.iinc 4 1, 3) := by decide +kernel
theorem d_T_show_204 : decode b_T_show 204 = .ok (.goto (-58), 3) := by decide +kernel
theorem d_T_show_207 : decode b_T_show 207 = .ok (.aload_n 1, 1) := by decide +kernel
theorem d_T_show_208 : decode b_T_show 208 = .ok (.iload_n 3, 1) := by decide +kernel
theorem d_T_show_209 : decode b_T_show 209 = .ok (.aload_n 0, 1) := by decide +kernel
theorem d_T_show_210 : decode b_T_show 210 = .ok (.getfield 11, 3) := by decide +kernel
theorem d_T_show_213 : decode b_T_show 213 = .ok (.iload_n 2, 1) := by decide +kernel
theorem d_T_show_214 : decode b_T_show 214 = .ok (.iaload, 1) := by decide +kernel
theorem d_T_show_215 : decode b_T_show 215 = .ok (.ifCond .ne 8, 3) := by decide +kernel
theorem d_T_show_218 : decode b_T_show 218 = .ok (.bipush 41, 2) := by decide +kernel
theorem d_T_show_220 : decode b_T_show 220 = .ok (.goto 5, 3) := by decide +kernel
theorem d_T_show_223 : decode b_T_show 223 = .ok (.bipush 93, 2) := by decide +kernel
theorem d_T_show_225 : decode b_T_show 225 = .ok (.invokestatic 147, 3) := by decide +kernel
theorem d_T_show_228 : decode b_T_show 228 = .ok (.iinc 2 1, 3) := by decide +kernel
theorem d_T_show_231 : decode b_T_show 231 = .ok (.goto (-130), 3) := by decide +kernel
theorem d_T_show_234 : decode b_T_show 234 = .ok (.aload_n 0, 1) := by decide +kernel
theorem d_T_show_235 : decode b_T_show 235 = .ok (.getfield 52, 3) := by decide +kernel
theorem d_T_show_238 : decode b_T_show 238 = .ok (.aload_n 0, 1) := by decide +kernel
theorem d_T_show_239 : decode b_T_show 239 = .ok (.getfield 24, 3) := by decide +kernel
theorem d_T_show_242 : decode b_T_show 242 = .ok (.iaload, 1) := by decide +kernel
theorem d_T_show_243 : decode b_T_show 243 = .ok (.ireturn, 1) := by decide +kernel
theorem d_T_nthBit_0 : decode b_T_nthBit 0 = .ok (.iconst 0, 1) := by decide +kernel
theorem d_T_nthBit_1 : decode b_T_nthBit 1 = .ok (.istore_n 2, 1) := by decide +kernel
theorem d_T_nthBit_2 : decode b_T_nthBit 2 = .ok (.iconst 0, 1) := by decide +kernel
theorem d_T_nthBit_3 : decode b_T_nthBit 3 = .ok (.istore_n 3, 1) := by decide +kernel
theorem d_T_nthBit_4 : decode b_T_nthBit 4 = .ok (.iload_n 3, 1) := by decide +kernel
theorem d_T_nthBit_5 : decode b_T_nthBit 5 = .ok (.bipush 8, 2) := by decide +kernel
theorem d_T_nthBit_7 : decode b_T_nthBit 7 = .ok (.if_icmp .ge 27, 3) := by decide +kernel
theorem d_T_nthBit_10 : decode b_T_nthBit 10 = .ok (.iload_n 0, 1) := by decide +kernel
theorem d_T_nthBit_11 : decode b_T_nthBit 11 = .ok (.iload_n 3, 1) := by decide +kernel
theorem d_T_nthBit_12 : decode b_T_nthBit 12 = .ok (.ishr, 1) := by decide +kernel
theorem d_T_nthBit_13 : decode b_T_nthBit 13 = .ok (.iconst 1, 1) := by decide +kernel
theorem d_T_nthBit_14 : decode b_T_nthBit 14 = .ok (.iand, 1) := by decide +kernel
theorem d_T_nthBit_15 : decode b_T_nthBit 15 = .ok (.ifCond .eq 13, 3) := by decide +kernel
theorem d_T_nthBit_18 : decode b_T_nthBit 18 = .ok (.iload_n 2, 1) := by decide +kernel
theorem d_T_nthBit_19 : decode b_T_nthBit 19 = .ok (.iload_n 1, 1) := by decide +kernel
theorem d_T_nthBit_20 : decode b_T_nthBit 20 = .ok (.if_icmp .ne 5, 3) := by decide +kernel
theorem d_T_nthBit_23 : decode b_T_nthBit 23 = .ok (.iload_n 3, 1) := by decide +kernel
theorem d_T_nthBit_24 : decode b_T_nthBit 24 = .ok (.ireturn, 1) := by decide +kernel
theorem d_T_nthBit_25 : decode b_T_nthBit 25 = .ok (.iinc 2 1, 3) := by decide +kernel
theorem d_T_nthBit_28 : decode b_T_nthBit 28 = .ok (.iinc 3 1, 3) := by decide +kernel
theorem d_T_nthBit_31 : decode b_T_nthBit 31 = .ok (.goto (-27), 3) := by decide +kernel
theorem d_T_nthBit_34 : decode b_T_nthBit 34 = .ok (.iconst 0, 1) := by decide +kernel
theorem d_T_nthBit_35 : decode b_T_nthBit 35 = .ok (.ireturn, 1) := by decide +kernel
theorem d_T_layParts_0 : decode b_T_layParts 0 = .ok (.aload_n 0, 1) := by decide +kernel
theorem d_T_layParts_1 : decode b_T_layParts 1 = .ok (.getfield 18, 3) := by decide +kernel
theorem d_T_layParts_4 : decode b_T_layParts 4 = .ok (.iload_n 1, 1) := by decide +kernel
theorem d_T_layParts_5 : decode b_T_layParts 5 = .ok (.iaload, 1) := by decide +kernel
theorem d_T_layParts_6 : decode b_T_layParts 6 = .ok (.istore_n 3, 1) := by decide +kernel
theorem d_T_layParts_7 : decode b_T_layParts 7 = .ok (.aload_n 0, 1) := by decide +kernel
theorem d_T_layParts_8 : decode b_T_layParts 8 = .ok (.getfield 49, 3) := by decide +kernel
theorem d_T_layParts_11 : decode b_T_layParts 11 = .ok (.iload_n 1, 1) := by decide +kernel
theorem d_T_layParts_12 : decode b_T_layParts 12 = .ok (.iaload, 1) := by decide +kernel
theorem d_T_layParts_13 : decode b_T_layParts 13 = .ok (.istore 4, 2) := by decide +kernel
theorem d_T_layParts_15 : decode b_T_layParts 15 = .ok (.iconst 1, 1) := by decide +kernel
theorem d_T_layParts_16 : decode b_T_layParts 16 = .ok (.iload_n 3, 1) := by decide +kernel
theorem d_T_layParts_17 : decode b_T_layParts 17 = .ok (.ishl, 1) := by decide +kernel
theorem d_T_layParts_18 : decode b_T_layParts 18 = .ok (.iconst 1, 1) := by decide +kernel
theorem d_T_layParts_19 : decode b_T_layParts 19 = .ok (.isub, 1) := by decide +kernel
theorem d_T_layParts_20 : decode b_T_layParts 20 = .ok (.istore 5, 2) := by decide +kernel
theorem d_T_layParts_22 : decode b_T_layParts 22 = .ok (.iload_n 2, 1) := by decide +kernel
theorem d_T_layParts_23 : decode b_T_layParts 23 = .ok (.istore 6, 2) := by decide +kernel
theorem d_T_layParts_25 : decode b_T_layParts 25 = .ok (.iconst 0, 1) := by decide +kernel
theorem d_T_layParts_26 : decode b_T_layParts 26 = .ok (.istore 7, 2) := by decide +kernel
theorem d_T_layParts_28 : decode b_T_layParts 28 = .ok (.iload 7, 2) := by decide +kernel
theorem d_T_layParts_30 : decode b_T_layParts 30 = .ok (.iload_n 3, 1) := by decide +kernel
theorem d_T_layParts_31 : decode b_T_layParts 31 = .ok (.if_icmp .ge 113, 3) := by decide +kernel
theorem d_T_layParts_34 : decode b_T_layParts 34 = .ok (.iload_n 2, 1) := by decide +kernel
theorem d_T_layParts_35 : decode b_T_layParts 35 = .ok (.ifCond .ne 8, 3) := by decide +kernel
theorem d_T_layParts_38 : decode b_T_layParts 38 = .ok (.iload 7, 2) := by decide +kernel
theorem d_T_layParts_40 : decode b_T_layParts 40 = .ok (.goto 9, 3) := by decide +kernel
theorem d_T_layParts_43 : decode b_T_layParts 43 = .ok (.iload_n 3, 1) := by decide +kernel
theorem d_T_layParts_44 : decode b_T_layParts 44 = .ok (.iconst 1, 1) := by decide +kernel
theorem d_T_layParts_45 : decode b_T_layParts 45 = .ok (.isub, 1) := by decide +kernel
theorem d_T_layParts_46 : decode b_T_layParts 46 = .ok (.iload 7, 2) := by decide +kernel
theorem d_T_layParts_48 : decode b_T_layParts 48 = .ok (.isub, 1) := by decide +kernel
theorem d_T_layParts_49 : decode b_T_layParts 49 = .ok (.istore 8, 2) := by decide +kernel
theorem d_T_layParts_51 : decode b_T_layParts 51 = .ok (.aload_n 0, 1) := by decide +kernel
theorem d_T_layParts_52 : decode b_T_layParts 52 = .ok (.getfield 11, 3) := by decide +kernel
theorem d_T_layParts_55 : decode b_T_layParts 55 = .ok (.iload_n 1, 1) := by decide +kernel
theorem d_T_layParts_56 : decode b_T_layParts 56 = .ok (.iaload, 1) := by decide +kernel
theorem d_T_layParts_57 : decode b_T_layParts 57 = .ok (.ifCond .ne 48, 3) := by decide +kernel
theorem d_T_layParts_60 : decode b_T_layParts 60 = .ok (.iload_n 3, 1) := by decide +kernel
theorem d_T_layParts_61 : decode b_T_layParts 61 = .ok (.iconst 1, 1) := by decide +kernel
theorem d_T_layParts_62 : decode b_T_layParts 62 = .ok (.isub, 1) := by decide +kernel
theorem d_T_layParts_63 : decode b_T_layParts 63 = .ok (.iload 7, 2) := by decide +kernel
theorem d_T_layParts_65 : decode b_T_layParts 65 = .ok (.isub, 1) := by decide +kernel
theorem d_T_layParts_66 : decode b_T_layParts 66 = .ok (.invokestatic 158, 3) := by decide +kernel
theorem d_T_layParts_69 : decode b_T_layParts 69 = .ok (.iconst 1, 1) := by decide +kernel
theorem d_T_layParts_70 : decode b_T_layParts 70 = .ok (.invokestatic 150, 3) := by decide +kernel
theorem d_T_layParts_73 : decode b_T_layParts 73 = .ok (.istore 9, 2) := by decide +kernel
theorem d_T_layParts_75 : decode b_T_layParts 75 = .ok (.iload 5, 2) := by decide +kernel
theorem d_T_layParts_77 : decode b_T_layParts 77 = .ok (.iload 6, 2) := by decide +kernel
theorem d_T_layParts_79 : decode b_T_layParts 79 = .ok (.iload 9, 2) := by decide +kernel
theorem d_T_layParts_81 : decode b_T_layParts 81 = .ok (.idiv, 1) := by decide +kernel
theorem d_T_layParts_82 : decode b_T_layParts 82 = .ok (.invokestatic 161, 3) := by decide +kernel
theorem d_T_layParts_85 : decode b_T_layParts 85 = .ok (.istore 8, 2) := by decide +kernel
theorem d_T_layParts_87 : decode b_T_layParts 87 = .ok (.iload 6, 2) := by decide +kernel
theorem d_T_layParts_89 : decode b_T_layParts 89 = .ok (.iload 9, 2) := by decide +kernel
theorem d_T_layParts_91 : decode b_T_layParts 91 = .ok (.irem, 1) := by decide +kernel
theorem d_T_layParts_92 : decode b_T_layParts 92 = .ok (.istore 6, 2) := by decide +kernel
theorem d_T_layParts_94 : decode b_T_layParts 94 = .ok (.iload 5, 2) := by decide +kernel
theorem d_T_layParts_96 : decode b_T_layParts 96 = .ok (.iconst 1, 1) := by decide +kernel
theorem d_T_layParts_97 : decode b_T_layParts 97 = .ok (.iload 8, 2) := by decide +kernel
theorem d_T_layParts_99 : decode b_T_layParts 99 = .ok (.ishl, 1) := by decide +kernel
theorem d_T_layParts_100 : decode b_T_layParts 100 = .ok (.iconst (-1), 1) := by decide +kernel
theorem d_T_layParts_101 : decode b_T_layParts 101 = .ok (.ixor, 1) := by decide +kernel
theorem d_T_layParts_102 : decode b_T_layParts 102 = .ok (.iand, 1) := by decide +kernel
theorem d_T_layParts_103 : decode b_T_layParts 103 = .ok (.istore 5, 2) := by decide +kernel
theorem d_T_layParts_105 : decode b_T_layParts 105 = .ok (.aload_n 0, 1) := by decide +kernel
theorem d_T_layParts_106 : decode b_T_layParts 106 = .ok (.iload_n 1, 1) := by decide +kernel
theorem d_T_layParts_107 : decode b_T_layParts 107 = .ok (.iload 8, 2) := by decide +kernel
theorem d_T_layParts_109 : decode b_T_layParts 109 = .ok (.invokevirtual 73, 3) := by decide +kernel
theorem d_T_layParts_112 : decode b_T_layParts 112 = .ok (.istore 9, 2) := by decide +kernel
theorem d_T_layParts_114 : decode b_T_layParts 114 = .ok (.aload_n 0, 1) := by decide +kernel
theorem d_T_layParts_115 : decode b_T_layParts 115 = .ok (.getfield 49, 3) := by decide +kernel
theorem d_T_layParts_118 : decode b_T_layParts 118 = .ok (.iload 9, 2) := by decide +kernel
theorem d_T_layParts_120 : decode b_T_layParts 120 = .ok (.iload 4, 2) := by decide +kernel
theorem d_T_layParts_122 : decode b_T_layParts 122 = .ok (.iastore, 1) := by decide +kernel
theorem d_T_layParts_123 : decode b_T_layParts 123 = .ok (.iload 4, 2) := by decide +kernel
theorem d_T_layParts_125 : decode b_T_layParts 125 = .ok (.aload_n 0, 1) := by decide +kernel
theorem d_T_layParts_126 : decode b_T_layParts 126 = .ok (.getfield 15, 3) := by decide +kernel
theorem d_T_layParts_129 : decode b_T_layParts 129 = .ok (.iload 9, 2) := by decide +kernel
theorem d_T_layParts_131 : decode b_T_layParts 131 = .ok (.iaload, 1) := by decide +kernel
theorem d_T_layParts_132 : decode b_T_layParts 132 = .ok (.invokestatic 89, 3) := by decide +kernel
theorem d_T_layParts_135 : decode b_T_layParts 135 = .ok (.iadd, 1) := by decide +kernel
theorem d_T_layParts_136 : decode b_T_layParts 136 = .ok (.istore 4, 2) := by decide +kernel
theorem d_T_layParts_138 : decode b_T_layParts 138 = .ok (.iinc 7 1, 3) := by decide +kernel
end
section
theorem d_T_layParts_141 : decode b_T_layParts 141 = .ok (.goto (-113), 3) := by decide +kernel
theorem d_T_layParts_144 : decode b_T_layParts 144 = .ok (.return_, 1) := by decide +kernel
theorem d_T_layRow_0 : decode b_T_layRow 0 = .ok (.iload_n 1, 1) := by decide +kernel
theorem d_T_layRow_1 : decode b_T_layRow 1 = .ok (.istore_n 3, 1) := by decide +kernel
theorem d_T_layRow_2 : decode b_T_layRow 2 = .ok (.bipush 8, 2) := by decide +kernel
theorem d_T_layRow_4 : decode b_T_layRow 4 = .ok (.aload_n 0, 1) := by decide +kernel
theorem d_T_layRow_5 : decode b_T_layRow 5 = .ok (.getfield 28, 3) := by decide +kernel
theorem d_T_layRow_8 : decode b_T_layRow 8 = .ok (.iadd, 1) := by decide +kernel
theorem d_T_layRow_9 : decode b_T_layRow 9 = .ok (.iconst 1, 1) := by decide +kernel
theorem d_T_layRow_10 : decode b_T_layRow 10 = .ok (.isub, 1) := by decide +kernel
theorem d_T_layRow_11 : decode b_T_layRow 11 = .ok (.istore 4, 2) := by decide +kernel
theorem d_T_layRow_13 : decode b_T_layRow 13 = .ok (.iload 4, 2) := by decide +kernel
theorem d_T_layRow_15 : decode b_T_layRow 15 = .ok (.bipush 8, 2) := by decide +kernel
theorem d_T_layRow_17 : decode b_T_layRow 17 = .ok (.if_icmp .lt 37, 3) := by decide +kernel
theorem d_T_layRow_20 : decode b_T_layRow 20 = .ok (.aload_n 0, 1) := by decide +kernel
theorem d_T_layRow_21 : decode b_T_layRow 21 = .ok (.iload 4, 2) := by decide +kernel
theorem d_T_layRow_23 : decode b_T_layRow 23 = .ok (.invokevirtual 144, 3) := by decide +kernel
theorem d_T_layRow_26 : decode b_T_layRow 26 = .ok (.iconst 1, 1) := by decide +kernel
theorem d_T_layRow_27 : decode b_T_layRow 27 = .ok (.invokestatic 150, 3) := by decide +kernel
theorem d_T_layRow_30 : decode b_T_layRow 30 = .ok (.istore 5, 2) := by decide +kernel
theorem d_T_layRow_32 : decode b_T_layRow 32 = .ok (.aload_n 0, 1) := by decide +kernel
theorem d_T_layRow_33 : decode b_T_layRow 33 = .ok (.getfield 55, 3) := by decide +kernel
theorem d_T_layRow_36 : decode b_T_layRow 36 = .ok (.iload 4, 2) := by decide +kernel
theorem d_T_layRow_38 : decode b_T_layRow 38 = .ok (.iload_n 3, 1) := by decide +kernel
theorem d_T_layRow_39 : decode b_T_layRow 39 = .ok (.iload 5, 2) := by decide +kernel
theorem d_T_layRow_41 : decode b_T_layRow 41 = .ok (.irem, 1) := by decide +kernel
theorem d_T_layRow_42 : decode b_T_layRow 42 = .ok (.iastore, 1) := by decide +kernel
theorem d_T_layRow_43 : decode b_T_layRow 43 = .ok (.iload_n 3, 1) := by decide +kernel
theorem d_T_layRow_44 : decode b_T_layRow 44 = .ok (.iload 5, 2) := by decide +kernel
theorem d_T_layRow_46 : decode b_T_layRow 46 = .ok (.idiv, 1) := by decide +kernel
theorem d_T_layRow_47 : decode b_T_layRow 47 = .ok (.istore_n 3, 1) := by decide +kernel
theorem d_T_layRow_48 : decode b_T_layRow 48 = .ok (.iinc 4 (-1), 3) := by decide +kernel
theorem d_T_layRow_51 : decode b_T_layRow 51 = .ok (.goto (-38), 3) := by decide +kernel
theorem d_T_layRow_54 : decode b_T_layRow 54 = .ok (.aload_n 0, 1) := by decide +kernel
theorem d_T_layRow_55 : decode b_T_layRow 55 = .ok (.getfield 49, 3) := by decide +kernel
theorem d_T_layRow_58 : decode b_T_layRow 58 = .ok (.aload_n 0, 1) := by decide +kernel
theorem d_T_layRow_59 : decode b_T_layRow 59 = .ok (.getfield 24, 3) := by decide +kernel
theorem d_T_layRow_62 : decode b_T_layRow 62 = .ok (.iconst 0, 1) := by decide +kernel
theorem d_T_layRow_63 : decode b_T_layRow 63 = .ok (.iastore, 1) := by decide +kernel
theorem d_T_layRow_64 : decode b_T_layRow 64 = .ok (.bipush 8, 2) := by decide +kernel
theorem d_T_layRow_66 : decode b_T_layRow 66 = .ok (.istore 4, 2) := by decide +kernel
theorem d_T_layRow_68 : decode b_T_layRow 68 = .ok (.iload 4, 2) := by decide +kernel
theorem d_T_layRow_70 : decode b_T_layRow 70 = .ok (.bipush 8, 2) := by decide +kernel
theorem d_T_layRow_72 : decode b_T_layRow 72 = .ok (.aload_n 0, 1) := by decide +kernel
theorem d_T_layRow_73 : decode b_T_layRow 73 = .ok (.getfield 28, 3) := by decide +kernel
theorem d_T_layRow_76 : decode b_T_layRow 76 = .ok (.iadd, 1) := by decide +kernel
theorem d_T_layRow_77 : decode b_T_layRow 77 = .ok (.if_icmp .ge 22, 3) := by decide +kernel
theorem d_T_layRow_80 : decode b_T_layRow 80 = .ok (.aload_n 0, 1) := by decide +kernel
theorem d_T_layRow_81 : decode b_T_layRow 81 = .ok (.iload 4, 2) := by decide +kernel
theorem d_T_layRow_83 : decode b_T_layRow 83 = .ok (.aload_n 0, 1) := by decide +kernel
theorem d_T_layRow_84 : decode b_T_layRow 84 = .ok (.getfield 55, 3) := by decide +kernel
theorem d_T_layRow_87 : decode b_T_layRow 87 = .ok (.iload 4, 2) := by decide +kernel
theorem d_T_layRow_89 : decode b_T_layRow 89 = .ok (.iaload, 1) := by decide +kernel
theorem d_T_layRow_90 : decode b_T_layRow 90 = .ok (.invokevirtual 155, 3) := by decide +kernel
theorem d_T_layRow_93 : decode b_T_layRow 93 = .ok (.iinc 4 1, 3) := by decide +kernel
theorem d_T_layRow_96 : decode b_T_layRow 96 = .ok (.goto (-28), 3) := by decide +kernel
theorem d_T_layRow_99 : decode b_T_layRow 99 = .ok (.iconst 0, 1) := by decide +kernel
theorem d_T_layRow_100 : decode b_T_layRow 100 = .ok (.istore 4, 2) := by decide +kernel
theorem d_T_layRow_102 : decode b_T_layRow 102 = .ok (.iload 4, 2) := by decide +kernel
theorem d_T_layRow_104 : decode b_T_layRow 104 = .ok (.bipush 8, 2) := by decide +kernel
theorem d_T_layRow_106 : decode b_T_layRow 106 = .ok (.if_icmp .ge 39, 3) := by decide +kernel
theorem d_T_layRow_109 : decode b_T_layRow 109 = .ok (.aload_n 0, 1) := by decide +kernel
theorem d_T_layRow_110 : decode b_T_layRow 110 = .ok (.getfield 15, 3) := by decide +kernel
theorem d_T_layRow_113 : decode b_T_layRow 113 = .ok (.aload_n 0, 1) := by decide +kernel
theorem d_T_layRow_114 : decode b_T_layRow 114 = .ok (.getfield 24, 3) := by decide +kernel
theorem d_T_layRow_117 : decode b_T_layRow 117 = .ok (.iaload, 1) := by decide +kernel
theorem d_T_layRow_118 : decode b_T_layRow 118 = .ok (.iload 4, 2) := by decide +kernel
theorem d_T_layRow_120 : decode b_T_layRow 120 = .ok (.ishr, 1) := by decide +kernel
theorem d_T_layRow_121 : decode b_T_layRow 121 = .ok (.iconst 1, 1) := by decide +kernel
theorem d_T_layRow_122 : decode b_T_layRow 122 = .ok (.iand, 1) := by decide +kernel
theorem d_T_layRow_123 : decode b_T_layRow 123 = .ok (.ifCond .eq 16, 3) := by decide +kernel
theorem d_T_layRow_126 : decode b_T_layRow 126 = .ok (.aload_n 2, 1) := by decide +kernel
theorem d_T_layRow_127 : decode b_T_layRow 127 = .ok (.aload_n 0, 1) := by decide +kernel
theorem d_T_layRow_128 : decode b_T_layRow 128 = .ok (.getfield 49, 3) := by decide +kernel
theorem d_T_layRow_131 : decode b_T_layRow 131 = .ok (.iload 4, 2) := by decide +kernel
theorem d_T_layRow_133 : decode b_T_layRow 133 = .ok (.iaload, 1) := by decide +kernel
theorem d_T_layRow_134 : decode b_T_layRow 134 = .ok (.iload 4, 2) := by decide +kernel
theorem d_T_layRow_136 : decode b_T_layRow 136 = .ok (.invokestatic 147, 3) := by decide +kernel
theorem d_T_layRow_139 : decode b_T_layRow 139 = .ok (.iinc 4 1, 3) := by decide +kernel
theorem d_T_layRow_142 : decode b_T_layRow 142 = .ok (.goto (-40), 3) := by decide +kernel
theorem d_T_layRow_145 : decode b_T_layRow 145 = .ok (.return_, 1) := by decide +kernel
theorem d_T_leastThing_0 : decode b_T_leastThing 0 = .ok (.aload_n 0, 1) := by decide +kernel
theorem d_T_leastThing_1 : decode b_T_leastThing 1 = .ok (.iload_n 1, 1) := by decide +kernel
theorem d_T_leastThing_2 : decode b_T_leastThing 2 = .ok (.invokevirtual 77, 3) := by decide +kernel
theorem d_T_leastThing_5 : decode b_T_leastThing 5 = .ok (.iconst 1, 1) := by decide +kernel
theorem d_T_leastThing_6 : decode b_T_leastThing 6 = .ok (.isub, 1) := by decide +kernel
theorem d_T_leastThing_7 : decode b_T_leastThing 7 = .ok (.invokestatic 89, 3) := by decide +kernel
theorem d_T_leastThing_10 : decode b_T_leastThing 10 = .ok (.bipush 7, 2) := by decide +kernel
theorem d_T_leastThing_12 : decode b_T_leastThing 12 = .ok (.iand, 1) := by decide +kernel
theorem d_T_leastThing_13 : decode b_T_leastThing 13 = .ok (.ireturn, 1) := by decide +kernel
theorem d_T_wayOf_0 : decode b_T_wayOf 0 = .ok (.aload_n 0, 1) := by decide +kernel
theorem d_T_wayOf_1 : decode b_T_wayOf 1 = .ok (.getfield 18, 3) := by decide +kernel
theorem d_T_wayOf_4 : decode b_T_wayOf 4 = .ok (.iload_n 1, 1) := by decide +kernel
theorem d_T_wayOf_5 : decode b_T_wayOf 5 = .ok (.iaload, 1) := by decide +kernel
theorem d_T_wayOf_6 : decode b_T_wayOf 6 = .ok (.istore_n 3, 1) := by decide +kernel
theorem d_T_wayOf_7 : decode b_T_wayOf 7 = .ok (.iconst 0, 1) := by decide +kernel
theorem d_T_wayOf_8 : decode b_T_wayOf 8 = .ok (.istore 4, 2) := by decide +kernel
theorem d_T_wayOf_10 : decode b_T_wayOf 10 = .ok (.iload 4, 2) := by decide +kernel
theorem d_T_wayOf_12 : decode b_T_wayOf 12 = .ok (.iload_n 3, 1) := by decide +kernel
theorem d_T_wayOf_13 : decode b_T_wayOf 13 = .ok (.if_icmp .ge 33, 3) := by decide +kernel
theorem d_T_wayOf_16 : decode b_T_wayOf 16 = .ok (.aload_n 0, 1) := by decide +kernel
theorem d_T_wayOf_17 : decode b_T_wayOf 17 = .ok (.iload_n 1, 1) := by decide +kernel
theorem d_T_wayOf_18 : decode b_T_wayOf 18 = .ok (.iload 4, 2) := by decide +kernel
theorem d_T_wayOf_20 : decode b_T_wayOf 20 = .ok (.invokevirtual 73, 3) := by decide +kernel
theorem d_T_wayOf_23 : decode b_T_wayOf 23 = .ok (.istore 5, 2) := by decide +kernel
theorem d_T_wayOf_25 : decode b_T_wayOf 25 = .ok (.aload_n 0, 1) := by decide +kernel
theorem d_T_wayOf_26 : decode b_T_wayOf 26 = .ok (.getfield 49, 3) := by decide +kernel
theorem d_T_wayOf_29 : decode b_T_wayOf 29 = .ok (.iload 5, 2) := by decide +kernel
theorem d_T_wayOf_31 : decode b_T_wayOf 31 = .ok (.aload_n 2, 1) := by decide +kernel
theorem d_T_wayOf_32 : decode b_T_wayOf 32 = .ok (.aload_n 0, 1) := by decide +kernel
theorem d_T_wayOf_33 : decode b_T_wayOf 33 = .ok (.iload 5, 2) := by decide +kernel
theorem d_T_wayOf_35 : decode b_T_wayOf 35 = .ok (.invokevirtual 168, 3) := by decide +kernel
theorem d_T_wayOf_38 : decode b_T_wayOf 38 = .ok (.iaload, 1) := by decide +kernel
theorem d_T_wayOf_39 : decode b_T_wayOf 39 = .ok (.iastore, 1) := by decide +kernel
theorem d_T_wayOf_40 : decode b_T_wayOf 40 = .ok (.iinc 4 1, 3) := by decide +kernel
theorem d_T_wayOf_43 : decode b_T_wayOf 43 = .ok (.goto (-33), 3) := by decide +kernel
theorem d_T_wayOf_46 : decode b_T_wayOf 46 = .ok (.aload_n 0, 1) := by decide +kernel
theorem d_T_wayOf_47 : decode b_T_wayOf 47 = .ok (.getfield 11, 3) := by decide +kernel
theorem d_T_wayOf_50 : decode b_T_wayOf 50 = .ok (.iload_n 1, 1) := by decide +kernel
theorem d_T_wayOf_51 : decode b_T_wayOf 51 = .ok (.iaload, 1) := by decide +kernel
theorem d_T_wayOf_52 : decode b_T_wayOf 52 = .ok (.iconst 1, 1) := by decide +kernel
theorem d_T_wayOf_53 : decode b_T_wayOf 53 = .ok (.if_icmp .ne 36, 3) := by decide +kernel
theorem d_T_wayOf_56 : decode b_T_wayOf 56 = .ok (.aload_n 0, 1) := by decide +kernel
theorem d_T_wayOf_57 : decode b_T_wayOf 57 = .ok (.getfield 49, 3) := by decide +kernel
theorem d_T_wayOf_60 : decode b_T_wayOf 60 = .ok (.aload_n 0, 1) := by decide +kernel
theorem d_T_wayOf_61 : decode b_T_wayOf 61 = .ok (.iload_n 1, 1) := by decide +kernel
theorem d_T_wayOf_62 : decode b_T_wayOf 62 = .ok (.iconst 0, 1) := by decide +kernel
theorem d_T_wayOf_63 : decode b_T_wayOf 63 = .ok (.invokevirtual 73, 3) := by decide +kernel
theorem d_T_wayOf_66 : decode b_T_wayOf 66 = .ok (.iaload, 1) := by decide +kernel
theorem d_T_wayOf_67 : decode b_T_wayOf 67 = .ok (.aload_n 0, 1) := by decide +kernel
theorem d_T_wayOf_68 : decode b_T_wayOf 68 = .ok (.getfield 49, 3) := by decide +kernel
theorem d_T_wayOf_71 : decode b_T_wayOf 71 = .ok (.aload_n 0, 1) := by decide +kernel
theorem d_T_wayOf_72 : decode b_T_wayOf 72 = .ok (.iload_n 1, 1) := by decide +kernel
theorem d_T_wayOf_73 : decode b_T_wayOf 73 = .ok (.iload_n 3, 1) := by decide +kernel
theorem d_T_wayOf_74 : decode b_T_wayOf 74 = .ok (.iconst 1, 1) := by decide +kernel
theorem d_T_wayOf_75 : decode b_T_wayOf 75 = .ok (.isub, 1) := by decide +kernel
theorem d_T_wayOf_76 : decode b_T_wayOf 76 = .ok (.invokevirtual 73, 3) := by decide +kernel
theorem d_T_wayOf_79 : decode b_T_wayOf 79 = .ok (.iaload, 1) := by decide +kernel
theorem d_T_wayOf_80 : decode b_T_wayOf 80 = .ok (.if_icmp .ge 7, 3) := by decide +kernel
theorem d_T_wayOf_83 : decode b_T_wayOf 83 = .ok (.iconst 0, 1) := by decide +kernel
theorem d_T_wayOf_84 : decode b_T_wayOf 84 = .ok (.goto 4, 3) := by decide +kernel
theorem d_T_wayOf_87 : decode b_T_wayOf 87 = .ok (.iconst 1, 1) := by decide +kernel
theorem d_T_wayOf_88 : decode b_T_wayOf 88 = .ok (.ireturn, 1) := by decide +kernel
theorem d_T_wayOf_89 : decode b_T_wayOf 89 = .ok (.iconst 0, 1) := by decide +kernel
theorem d_T_wayOf_90 : decode b_T_wayOf 90 = .ok (.istore 4, 2) := by decide +kernel
theorem d_T_wayOf_92 : decode b_T_wayOf 92 = .ok (.iconst 0, 1) := by decide +kernel
theorem d_T_wayOf_93 : decode b_T_wayOf 93 = .ok (.istore 5, 2) := by decide +kernel
theorem d_T_wayOf_95 : decode b_T_wayOf 95 = .ok (.iload 5, 2) := by decide +kernel
theorem d_T_wayOf_97 : decode b_T_wayOf 97 = .ok (.iload_n 3, 1) := by decide +kernel
theorem d_T_wayOf_98 : decode b_T_wayOf 98 = .ok (.if_icmp .ge 90, 3) := by decide +kernel
theorem d_T_wayOf_101 : decode b_T_wayOf 101 = .ok (.iconst 0, 1) := by decide +kernel
theorem d_T_wayOf_102 : decode b_T_wayOf 102 = .ok (.istore 6, 2) := by decide +kernel
theorem d_T_wayOf_104 : decode b_T_wayOf 104 = .ok (.iconst 0, 1) := by decide +kernel
theorem d_T_wayOf_105 : decode b_T_wayOf 105 = .ok (.istore 7, 2) := by decide +kernel
theorem d_T_wayOf_107 : decode b_T_wayOf 107 = .ok (.iconst 0, 1) := by decide +kernel
theorem d_T_wayOf_108 : decode b_T_wayOf 108 = .ok (.istore 8, 2) := by decide +kernel
theorem d_T_wayOf_110 : decode b_T_wayOf 110 = .ok (.iload 8, 2) := by decide +kernel
theorem d_T_wayOf_112 : decode b_T_wayOf 112 = .ok (.iload_n 3, 1) := by decide +kernel
theorem d_T_wayOf_113 : decode b_T_wayOf 113 = .ok (.if_icmp .ge 52, 3) := by decide +kernel
theorem d_T_wayOf_116 : decode b_T_wayOf 116 = .ok (.aload_n 0, 1) := by decide +kernel
theorem d_T_wayOf_117 : decode b_T_wayOf 117 = .ok (.getfield 49, 3) := by decide +kernel
theorem d_T_wayOf_120 : decode b_T_wayOf 120 = .ok (.aload_n 0, 1) := by decide +kernel
theorem d_T_wayOf_121 : decode b_T_wayOf 121 = .ok (.iload_n 1, 1) := by decide +kernel
theorem d_T_wayOf_122 : decode b_T_wayOf 122 = .ok (.iload 8, 2) := by decide +kernel
theorem d_T_wayOf_124 : decode b_T_wayOf 124 = .ok (.invokevirtual 73, 3) := by decide +kernel
theorem d_T_wayOf_127 : decode b_T_wayOf 127 = .ok (.iaload, 1) := by decide +kernel
theorem d_T_wayOf_128 : decode b_T_wayOf 128 = .ok (.aload_n 0, 1) := by decide +kernel
theorem d_T_wayOf_129 : decode b_T_wayOf 129 = .ok (.getfield 49, 3) := by decide +kernel
theorem d_T_wayOf_132 : decode b_T_wayOf 132 = .ok (.aload_n 0, 1) := by decide +kernel
theorem d_T_wayOf_133 : decode b_T_wayOf 133 = .ok (.iload_n 1, 1) := by decide +kernel
theorem d_T_wayOf_134 : decode b_T_wayOf 134 = .ok (.iload 5, 2) := by decide +kernel
theorem d_T_wayOf_136 : decode b_T_wayOf 136 = .ok (.invokevirtual 73, 3) := by decide +kernel
theorem d_T_wayOf_139 : decode b_T_wayOf 139 = .ok (.iaload, 1) := by decide +kernel
theorem d_T_wayOf_140 : decode b_T_wayOf 140 = .ok (.if_icmp .ge 9, 3) := by decide +kernel
theorem d_T_wayOf_143 : decode b_T_wayOf 143 = .ok (.iinc 6 1, 3) := by decide +kernel
theorem d_T_wayOf_146 : decode b_T_wayOf 146 = .ok (.goto 13, 3) := by decide +kernel
theorem d_T_wayOf_149 : decode b_T_wayOf 149 = .ok (.iload 8, 2) := by decide +kernel
theorem d_T_wayOf_151 : decode b_T_wayOf 151 = .ok (.iload 5, 2) := by decide +kernel
theorem d_T_wayOf_153 : decode b_T_wayOf 153 = .ok (.if_icmp .ge 6, 3) := by decide +kernel
theorem d_T_wayOf_156 : decode b_T_wayOf 156 = .ok (.iinc 7 1, 3) := by decide +kernel
theorem d_T_wayOf_159 : decode b_T_wayOf 159 = .ok (.iinc 8 1, 3) := by decide +kernel
theorem d_T_wayOf_162 : decode b_T_wayOf 162 = .ok (.goto (-52), 3) := by decide +kernel
theorem d_T_wayOf_165 : decode b_T_wayOf 165 = .ok (.iload 4, 2) := by decide +kernel
theorem d_T_wayOf_167 : decode b_T_wayOf 167 = .ok (.iload 7, 2) := by decide +kernel
theorem d_T_wayOf_169 : decode b_T_wayOf 169 = .ok (.iload_n 3, 1) := by decide +kernel
theorem d_T_wayOf_170 : decode b_T_wayOf 170 = .ok (.iconst 1, 1) := by decide +kernel
theorem d_T_wayOf_171 : decode b_T_wayOf 171 = .ok (.isub, 1) := by decide +kernel
theorem d_T_wayOf_172 : decode b_T_wayOf 172 = .ok (.iload 6, 2) := by decide +kernel
theorem d_T_wayOf_174 : decode b_T_wayOf 174 = .ok (.isub, 1) := by decide +kernel
theorem d_T_wayOf_175 : decode b_T_wayOf 175 = .ok (.invokestatic 158, 3) := by decide +kernel
theorem d_T_wayOf_178 : decode b_T_wayOf 178 = .ok (.imul, 1) := by decide +kernel
theorem d_T_wayOf_179 : decode b_T_wayOf 179 = .ok (.iadd, 1) := by decide +kernel
theorem d_T_wayOf_180 : decode b_T_wayOf 180 = .ok (.istore 4, 2) := by decide +kernel
theorem d_T_wayOf_182 : decode b_T_wayOf 182 = .ok (.iinc 5 1, 3) := by decide +kernel
theorem d_T_wayOf_185 : decode b_T_wayOf 185 = .ok (.goto (-90), 3) := by decide +kernel
theorem d_T_wayOf_188 : decode b_T_wayOf 188 = .ok (.iload 4, 2) := by decide +kernel
theorem d_T_wayOf_190 : decode b_T_wayOf 190 = .ok (.ireturn, 1) := by decide +kernel
theorem d_T_numberOf_0 : decode b_T_numberOf 0 = .ok (.iconst 0, 1) := by decide +kernel
theorem d_T_numberOf_1 : decode b_T_numberOf 1 = .ok (.istore_n 2, 1) := by decide +kernel
theorem d_T_numberOf_2 : decode b_T_numberOf 2 = .ok (.bipush 8, 2) := by decide +kernel
theorem d_T_numberOf_4 : decode b_T_numberOf 4 = .ok (.istore_n 3, 1) := by decide +kernel
theorem d_T_numberOf_5 : decode b_T_numberOf 5 = .ok (.iload_n 3, 1) := by decide +kernel
theorem d_T_numberOf_6 : decode b_T_numberOf 6 = .ok (.bipush 8, 2) := by decide +kernel
theorem d_T_numberOf_8 : decode b_T_numberOf 8 = .ok (.aload_n 0, 1) := by decide +kernel
theorem d_T_numberOf_9 : decode b_T_numberOf 9 = .ok (.getfield 28, 3) := by decide +kernel
theorem d_T_numberOf_12 : decode b_T_numberOf 12 = .ok (.iadd, 1) := by decide +kernel
theorem d_T_numberOf_13 : decode b_T_numberOf 13 = .ok (.if_icmp .ge 24, 3) := by decide +kernel
theorem d_T_numberOf_16 : decode b_T_numberOf 16 = .ok (.iload_n 2, 1) := by decide +kernel
theorem d_T_numberOf_17 : decode b_T_numberOf 17 = .ok (.aload_n 0, 1) := by decide +kernel
theorem d_T_numberOf_18 : decode b_T_numberOf 18 = .ok (.iload_n 3, 1) := by decide +kernel
theorem d_T_numberOf_19 : decode b_T_numberOf 19 = .ok (.invokevirtual 144, 3) := by decide +kernel
theorem d_T_numberOf_22 : decode b_T_numberOf 22 = .ok (.imul, 1) := by decide +kernel
theorem d_T_numberOf_23 : decode b_T_numberOf 23 = .ok (.aload_n 0, 1) := by decide +kernel
theorem d_T_numberOf_24 : decode b_T_numberOf 24 = .ok (.iload_n 3, 1) := by decide +kernel
theorem d_T_numberOf_25 : decode b_T_numberOf 25 = .ok (.aload_n 1, 1) := by decide +kernel
theorem d_T_numberOf_26 : decode b_T_numberOf 26 = .ok (.invokevirtual 164, 3) := by decide +kernel
theorem d_T_numberOf_29 : decode b_T_numberOf 29 = .ok (.iadd, 1) := by decide +kernel
theorem d_T_numberOf_30 : decode b_T_numberOf 30 = .ok (.istore_n 2, 1) := by decide +kernel
theorem d_T_numberOf_31 : decode b_T_numberOf 31 = .ok (.iinc 3 1, 3) := by decide +kernel
theorem d_T_numberOf_34 : decode b_T_numberOf 34 = .ok (.goto (-29), 3) := by decide +kernel
theorem d_T_numberOf_37 : decode b_T_numberOf 37 = .ok (.iload_n 2, 1) := by decide +kernel
theorem d_T_numberOf_38 : decode b_T_numberOf 38 = .ok (.ireturn, 1) := by decide +kernel
theorem d_T_besideIn_0 : decode b_T_besideIn 0 = .ok (.iconst 0, 1) := by decide +kernel
theorem d_T_besideIn_1 : decode b_T_besideIn 1 = .ok (.istore 4, 2) := by decide +kernel
theorem d_T_besideIn_3 : decode b_T_besideIn 3 = .ok (.iconst 0, 1) := by decide +kernel
theorem d_T_besideIn_4 : decode b_T_besideIn 4 = .ok (.istore 5, 2) := by decide +kernel
theorem d_T_besideIn_6 : decode b_T_besideIn 6 = .ok (.iconst 0, 1) := by decide +kernel
theorem d_T_besideIn_7 : decode b_T_besideIn 7 = .ok (.istore 6, 2) := by decide +kernel
theorem d_T_besideIn_9 : decode b_T_besideIn 9 = .ok (.iconst 0, 1) := by decide +kernel
theorem d_T_besideIn_10 : decode b_T_besideIn 10 = .ok (.istore 7, 2) := by decide +kernel
theorem d_T_besideIn_12 : decode b_T_besideIn 12 = .ok (.iload 7, 2) := by decide +kernel
theorem d_T_besideIn_14 : decode b_T_besideIn 14 = .ok (.aload_n 0, 1) := by decide +kernel
theorem d_T_besideIn_15 : decode b_T_besideIn 15 = .ok (.getfield 18, 3) := by decide +kernel
theorem d_T_besideIn_18 : decode b_T_besideIn 18 = .ok (.iload_n 1, 1) := by decide +kernel
theorem d_T_besideIn_19 : decode b_T_besideIn 19 = .ok (.iaload, 1) := by decide +kernel
theorem d_T_besideIn_20 : decode b_T_besideIn 20 = .ok (.if_icmp .ge 64, 3) := by decide +kernel
theorem d_T_besideIn_23 : decode b_T_besideIn 23 = .ok (.aload_n 0, 1) := by decide +kernel
theorem d_T_besideIn_24 : decode b_T_besideIn 24 = .ok (.getfield 15, 3) := by decide +kernel
theorem d_T_besideIn_27 : decode b_T_besideIn 27 = .ok (.aload_n 0, 1) := by decide +kernel
theorem d_T_besideIn_28 : decode b_T_besideIn 28 = .ok (.iload_n 1, 1) := by decide +kernel
theorem d_T_besideIn_29 : decode b_T_besideIn 29 = .ok (.iload 7, 2) := by decide +kernel
theorem d_T_besideIn_31 : decode b_T_besideIn 31 = .ok (.invokevirtual 73, 3) := by decide +kernel
theorem d_T_besideIn_34 : decode b_T_besideIn 34 = .ok (.iaload, 1) := by decide +kernel
theorem d_T_besideIn_35 : decode b_T_besideIn 35 = .ok (.istore 8, 2) := by decide +kernel
theorem d_T_besideIn_37 : decode b_T_besideIn 37 = .ok (.iload 8, 2) := by decide +kernel
theorem d_T_besideIn_39 : decode b_T_besideIn 39 = .ok (.iload_n 2, 1) := by decide +kernel
theorem d_T_besideIn_40 : decode b_T_besideIn 40 = .ok (.iand, 1) := by decide +kernel
theorem d_T_besideIn_41 : decode b_T_besideIn 41 = .ok (.ifCond .eq 9, 3) := by decide +kernel
theorem d_T_besideIn_44 : decode b_T_besideIn 44 = .ok (.iconst 1, 1) := by decide +kernel
theorem d_T_besideIn_45 : decode b_T_besideIn 45 = .ok (.istore 6, 2) := by decide +kernel
theorem d_T_besideIn_47 : decode b_T_besideIn 47 = .ok (.goto 31, 3) := by decide +kernel
theorem d_T_besideIn_50 : decode b_T_besideIn 50 = .ok (.iload 6, 2) := by decide +kernel
theorem d_T_besideIn_52 : decode b_T_besideIn 52 = .ok (.ifCond .eq 16, 3) := by decide +kernel
theorem d_T_besideIn_55 : decode b_T_besideIn 55 = .ok (.iload 5, 2) := by decide +kernel
theorem d_T_besideIn_57 : decode b_T_besideIn 57 = .ok (.iload 8, 2) := by decide +kernel
theorem d_T_besideIn_59 : decode b_T_besideIn 59 = .ok (.invokestatic 89, 3) := by decide +kernel
theorem d_T_besideIn_62 : decode b_T_besideIn 62 = .ok (.iadd, 1) := by decide +kernel
theorem d_T_besideIn_63 : decode b_T_besideIn 63 = .ok (.istore 5, 2) := by decide +kernel
theorem d_T_besideIn_65 : decode b_T_besideIn 65 = .ok (.goto 13, 3) := by decide +kernel
theorem d_T_besideIn_68 : decode b_T_besideIn 68 = .ok (.iload 4, 2) := by decide +kernel
theorem d_T_besideIn_70 : decode b_T_besideIn 70 = .ok (.iload 8, 2) := by decide +kernel
theorem d_T_besideIn_72 : decode b_T_besideIn 72 = .ok (.invokestatic 89, 3) := by decide +kernel
theorem d_T_besideIn_75 : decode b_T_besideIn 75 = .ok (.iadd, 1) := by decide +kernel
theorem d_T_besideIn_76 : decode b_T_besideIn 76 = .ok (.istore 4, 2) := by decide +kernel
theorem d_T_besideIn_78 : decode b_T_besideIn 78 = .ok (.iinc 7 1, 3) := by decide +kernel
theorem d_T_besideIn_81 : decode b_T_besideIn 81 = .ok (.goto (-69), 3) := by decide +kernel
theorem d_T_besideIn_84 : decode b_T_besideIn 84 = .ok (.aload_n 0, 1) := by decide +kernel
theorem d_T_besideIn_85 : decode b_T_besideIn 85 = .ok (.getfield 11, 3) := by decide +kernel
theorem d_T_besideIn_88 : decode b_T_besideIn 88 = .ok (.iload_n 1, 1) := by decide +kernel
theorem d_T_besideIn_89 : decode b_T_besideIn 89 = .ok (.iaload, 1) := by decide +kernel
theorem d_T_besideIn_90 : decode b_T_besideIn 90 = .ok (.ifCond .ne 17, 3) := by decide +kernel
theorem d_T_besideIn_93 : decode b_T_besideIn 93 = .ok (.iload_n 3, 1) := by decide +kernel
theorem d_T_besideIn_94 : decode b_T_besideIn 94 = .ok (.ifCond .eq 11, 3) := by decide +kernel
theorem d_T_besideIn_97 : decode b_T_besideIn 97 = .ok (.iload 4, 2) := by decide +kernel
theorem d_T_besideIn_99 : decode b_T_besideIn 99 = .ok (.iload 5, 2) := by decide +kernel
theorem d_T_besideIn_101 : decode b_T_besideIn 101 = .ok (.iadd, 1) := by decide +kernel
theorem d_T_besideIn_102 : decode b_T_besideIn 102 = .ok (.goto 4, 3) := by decide +kernel
theorem d_T_besideIn_105 : decode b_T_besideIn 105 = .ok (.iconst 0, 1) := by decide +kernel
theorem d_T_besideIn_106 : decode b_T_besideIn 106 = .ok (.ireturn, 1) := by decide +kernel
theorem d_T_besideIn_107 : decode b_T_besideIn 107 = .ok (.iload_n 3, 1) := by decide +kernel
theorem d_T_besideIn_108 : decode b_T_besideIn 108 = .ok (.ifCond .eq 13, 3) := by decide +kernel
theorem d_T_besideIn_111 : decode b_T_besideIn 111 = .ok (.iload 4, 2) := by decide +kernel
theorem d_T_besideIn_113 : decode b_T_besideIn 113 = .ok (.iload 5, 2) := by decide +kernel
theorem d_T_besideIn_115 : decode b_T_besideIn 115 = .ok (.invokestatic 150, 3) := by decide +kernel
theorem d_T_besideIn_118 : decode b_T_besideIn 118 = .ok (.goto 10, 3) := by decide +kernel
theorem d_T_besideIn_121 : decode b_T_besideIn 121 = .ok (.iload 4, 2) := by decide +kernel
theorem d_T_besideIn_123 : decode b_T_besideIn 123 = .ok (.iload 5, 2) := by decide +kernel
theorem d_T_besideIn_125 : decode b_T_besideIn 125 = .ok (.invokestatic 179, 3) := by decide +kernel
theorem d_T_besideIn_128 : decode b_T_besideIn 128 = .ok (.ireturn, 1) := by decide +kernel
theorem d_T_betweenIn_0 : decode b_T_betweenIn 0 = .ok (.iconst 0, 1) := by decide +kernel
theorem d_T_betweenIn_1 : decode b_T_betweenIn 1 = .ok (.istore 5, 2) := by decide +kernel
theorem d_T_betweenIn_3 : decode b_T_betweenIn 3 = .ok (.iconst 0, 1) := by decide +kernel
theorem d_T_betweenIn_4 : decode b_T_betweenIn 4 = .ok (.istore 6, 2) := by decide +kernel
theorem d_T_betweenIn_6 : decode b_T_betweenIn 6 = .ok (.iconst 0, 1) := by decide +kernel
theorem d_T_betweenIn_7 : decode b_T_betweenIn 7 = .ok (.istore 7, 2) := by decide +kernel
theorem d_T_betweenIn_9 : decode b_T_betweenIn 9 = .ok (.iconst 0, 1) := by decide +kernel
theorem d_T_betweenIn_10 : decode b_T_betweenIn 10 = .ok (.istore 8, 2) := by decide +kernel
theorem d_T_betweenIn_12 : decode b_T_betweenIn 12 = .ok (.iload 8, 2) := by decide +kernel
theorem d_T_betweenIn_14 : decode b_T_betweenIn 14 = .ok (.aload_n 0, 1) := by decide +kernel
theorem d_T_betweenIn_15 : decode b_T_betweenIn 15 = .ok (.getfield 18, 3) := by decide +kernel
theorem d_T_betweenIn_18 : decode b_T_betweenIn 18 = .ok (.iload_n 1, 1) := by decide +kernel
theorem d_T_betweenIn_19 : decode b_T_betweenIn 19 = .ok (.iaload, 1) := by decide +kernel
theorem d_T_betweenIn_20 : decode b_T_betweenIn 20 = .ok (.if_icmp .ge 68, 3) := by decide +kernel
theorem d_T_betweenIn_23 : decode b_T_betweenIn 23 = .ok (.aload_n 0, 1) := by decide +kernel
theorem d_T_betweenIn_24 : decode b_T_betweenIn 24 = .ok (.getfield 15, 3) := by decide +kernel
theorem d_T_betweenIn_27 : decode b_T_betweenIn 27 = .ok (.aload_n 0, 1) := by decide +kernel
theorem d_T_betweenIn_28 : decode b_T_betweenIn 28 = .ok (.iload_n 1, 1) := by decide +kernel
theorem d_T_betweenIn_29 : decode b_T_betweenIn 29 = .ok (.iload 8, 2) := by decide +kernel
theorem d_T_betweenIn_31 : decode b_T_betweenIn 31 = .ok (.invokevirtual 73, 3) := by decide +kernel
theorem d_T_betweenIn_34 : decode b_T_betweenIn 34 = .ok (.iaload, 1) := by decide +kernel
theorem d_T_betweenIn_35 : decode b_T_betweenIn 35 = .ok (.istore 9, 2) := by decide +kernel
theorem d_T_betweenIn_37 : decode b_T_betweenIn 37 = .ok (.iload 9, 2) := by decide +kernel
theorem d_T_betweenIn_39 : decode b_T_betweenIn 39 = .ok (.iload_n 2, 1) := by decide +kernel
theorem d_T_betweenIn_40 : decode b_T_betweenIn 40 = .ok (.iload_n 3, 1) := by decide +kernel
theorem d_T_betweenIn_41 : decode b_T_betweenIn 41 = .ok (.ior, 1) := by decide +kernel
theorem d_T_betweenIn_42 : decode b_T_betweenIn 42 = .ok (.iand, 1) := by decide +kernel
theorem d_T_betweenIn_43 : decode b_T_betweenIn 43 = .ok (.ifCond .eq 9, 3) := by decide +kernel
theorem d_T_betweenIn_46 : decode b_T_betweenIn 46 = .ok (.iinc 7 1, 3) := by decide +kernel
theorem d_T_betweenIn_49 : decode b_T_betweenIn 49 = .ok (.goto 33, 3) := by decide +kernel
theorem d_T_betweenIn_52 : decode b_T_betweenIn 52 = .ok (.iload 5, 2) := by decide +kernel
theorem d_T_betweenIn_54 : decode b_T_betweenIn 54 = .ok (.iload 9, 2) := by decide +kernel
theorem d_T_betweenIn_56 : decode b_T_betweenIn 56 = .ok (.invokestatic 89, 3) := by decide +kernel
theorem d_T_betweenIn_59 : decode b_T_betweenIn 59 = .ok (.iadd, 1) := by decide +kernel
theorem d_T_betweenIn_60 : decode b_T_betweenIn 60 = .ok (.istore 5, 2) := by decide +kernel
theorem d_T_betweenIn_62 : decode b_T_betweenIn 62 = .ok (.iload 6, 2) := by decide +kernel
theorem d_T_betweenIn_64 : decode b_T_betweenIn 64 = .ok (.iload 7, 2) := by decide +kernel
theorem d_T_betweenIn_66 : decode b_T_betweenIn 66 = .ok (.iconst 1, 1) := by decide +kernel
theorem d_T_betweenIn_67 : decode b_T_betweenIn 67 = .ok (.if_icmp .ne 11, 3) := by decide +kernel
theorem d_T_betweenIn_70 : decode b_T_betweenIn 70 = .ok (.iload 9, 2) := by decide +kernel
theorem d_T_betweenIn_72 : decode b_T_betweenIn 72 = .ok (.invokestatic 89, 3) := by decide +kernel
theorem d_T_betweenIn_75 : decode b_T_betweenIn 75 = .ok (.goto 4, 3) := by decide +kernel
theorem d_T_betweenIn_78 : decode b_T_betweenIn 78 = .ok (.iconst 0, 1) := by decide +kernel
theorem d_T_betweenIn_79 : decode b_T_betweenIn 79 = .ok (.iadd, 1) := by decide +kernel
theorem d_T_betweenIn_80 : decode b_T_betweenIn 80 = .ok (.istore 6, 2) := by decide +kernel
theorem d_T_betweenIn_82 : decode b_T_betweenIn 82 = .ok (.iinc 8 1, 3) := by decide +kernel
theorem d_T_betweenIn_85 : decode b_T_betweenIn 85 = .ok (.goto (-73), 3) := by decide +kernel
theorem d_T_betweenIn_88 : decode b_T_betweenIn 88 = .ok (.aload_n 0, 1) := by decide +kernel
theorem d_T_betweenIn_89 : decode b_T_betweenIn 89 = .ok (.getfield 11, 3) := by decide +kernel
theorem d_T_betweenIn_92 : decode b_T_betweenIn 92 = .ok (.iload_n 1, 1) := by decide +kernel
theorem d_T_betweenIn_93 : decode b_T_betweenIn 93 = .ok (.iaload, 1) := by decide +kernel
theorem d_T_betweenIn_94 : decode b_T_betweenIn 94 = .ok (.ifCond .ne 15, 3) := by decide +kernel
theorem d_T_betweenIn_97 : decode b_T_betweenIn 97 = .ok (.iload 4, 2) := by decide +kernel
theorem d_T_betweenIn_99 : decode b_T_betweenIn 99 = .ok (.ifCond .eq 8, 3) := by decide +kernel
theorem d_T_betweenIn_102 : decode b_T_betweenIn 102 = .ok (.iload 5, 2) := by decide +kernel
theorem d_T_betweenIn_104 : decode b_T_betweenIn 104 = .ok (.goto 4, 3) := by decide +kernel
theorem d_T_betweenIn_107 : decode b_T_betweenIn 107 = .ok (.iconst 0, 1) := by decide +kernel
theorem d_T_betweenIn_108 : decode b_T_betweenIn 108 = .ok (.ireturn, 1) := by decide +kernel
theorem d_T_betweenIn_109 : decode b_T_betweenIn 109 = .ok (.iload 6, 2) := by decide +kernel
theorem d_T_betweenIn_111 : decode b_T_betweenIn 111 = .ok (.ireturn, 1) := by decide +kernel
theorem d_T_between_0 : decode b_T_between 0 = .ok (.aload_n 0, 1) := by decide +kernel
theorem d_T_between_1 : decode b_T_between 1 = .ok (.getfield 15, 3) := by decide +kernel
theorem d_T_between_4 : decode b_T_between 4 = .ok (.iload_n 1, 1) := by decide +kernel
theorem d_T_between_5 : decode b_T_between 5 = .ok (.iaload, 1) := by decide +kernel
theorem d_T_between_6 : decode b_T_between 6 = .ok (.aload_n 0, 1) := by decide +kernel
theorem d_T_between_7 : decode b_T_between 7 = .ok (.getfield 15, 3) := by decide +kernel
theorem d_T_between_10 : decode b_T_between 10 = .ok (.iload_n 2, 1) := by decide +kernel
theorem d_T_between_11 : decode b_T_between 11 = .ok (.iaload, 1) := by decide +kernel
theorem d_T_between_12 : decode b_T_between 12 = .ok (.ior, 1) := by decide +kernel
theorem d_T_between_13 : decode b_T_between 13 = .ok (.istore 4, 2) := by decide +kernel
theorem d_T_between_15 : decode b_T_between 15 = .ok (.aload_n 0, 1) := by decide +kernel
theorem d_T_between_16 : decode b_T_between 16 = .ok (.getfield 24, 3) := by decide +kernel
theorem d_T_between_19 : decode b_T_between 19 = .ok (.istore 5, 2) := by decide +kernel
theorem d_T_between_21 : decode b_T_between 21 = .ok (.iconst 0, 1) := by decide +kernel
theorem d_T_between_22 : decode b_T_between 22 = .ok (.istore 6, 2) := by decide +kernel
theorem d_T_between_24 : decode b_T_between 24 = .ok (.bipush 8, 2) := by decide +kernel
theorem d_T_between_26 : decode b_T_between 26 = .ok (.istore 7, 2) := by decide +kernel
theorem d_T_between_28 : decode b_T_between 28 = .ok (.iload 7, 2) := by decide +kernel
theorem d_T_between_30 : decode b_T_between 30 = .ok (.bipush 8, 2) := by decide +kernel
theorem d_T_between_32 : decode b_T_between 32 = .ok (.aload_n 0, 1) := by decide +kernel
theorem d_T_between_33 : decode b_T_between 33 = .ok (.getfield 28, 3) := by decide +kernel
theorem d_T_between_36 : decode b_T_between 36 = .ok (.iadd, 1) := by decide +kernel
theorem d_T_between_37 : decode b_T_between 37 = .ok (.if_icmp .ge 54, 3) := by decide +kernel
theorem d_T_between_40 : decode b_T_between 40 = .ok (.aload_n 0, 1) := by decide +kernel
theorem d_T_between_41 : decode b_T_between 41 = .ok (.getfield 15, 3) := by decide +kernel
theorem d_T_between_44 : decode b_T_between 44 = .ok (.iload 7, 2) := by decide +kernel
theorem d_T_between_46 : decode b_T_between 46 = .ok (.iaload, 1) := by decide +kernel
theorem d_T_between_47 : decode b_T_between 47 = .ok (.iload 4, 2) := by decide +kernel
theorem d_T_between_49 : decode b_T_between 49 = .ok (.iand, 1) := by decide +kernel
theorem d_T_between_50 : decode b_T_between 50 = .ok (.istore 8, 2) := by decide +kernel
theorem d_T_between_52 : decode b_T_between 52 = .ok (.iload 8, 2) := by decide +kernel
theorem d_T_between_54 : decode b_T_between 54 = .ok (.iload 4, 2) := by decide +kernel
theorem d_T_between_56 : decode b_T_between 56 = .ok (.if_icmp .ne 10, 3) := by decide +kernel
theorem d_T_between_59 : decode b_T_between 59 = .ok (.iload 7, 2) := by decide +kernel
theorem d_T_between_61 : decode b_T_between 61 = .ok (.istore 5, 2) := by decide +kernel
theorem d_T_between_63 : decode b_T_between 63 = .ok (.goto 22, 3) := by decide +kernel
theorem d_T_between_66 : decode b_T_between 66 = .ok (.iload 8, 2) := by decide +kernel
theorem d_T_between_68 : decode b_T_between 68 = .ok (.ifCond .eq 17, 3) := by decide +kernel
theorem d_T_between_71 : decode b_T_between 71 = .ok (.iload 6, 2) := by decide +kernel
theorem d_T_between_73 : decode b_T_between 73 = .ok (.aload_n 0, 1) := by decide +kernel
theorem d_T_between_74 : decode b_T_between 74 = .ok (.iload 7, 2) := by decide +kernel
theorem d_T_between_76 : decode b_T_between 76 = .ok (.iload 8, 2) := by decide +kernel
theorem d_T_between_78 : decode b_T_between 78 = .ok (.iload_n 3, 1) := by decide +kernel
theorem d_T_between_79 : decode b_T_between 79 = .ok (.invokevirtual 171, 3) := by decide +kernel
theorem d_T_between_82 : decode b_T_between 82 = .ok (.iadd, 1) := by decide +kernel
theorem d_T_between_83 : decode b_T_between 83 = .ok (.istore 6, 2) := by decide +kernel
theorem d_T_between_85 : decode b_T_between 85 = .ok (.iinc 7 1, 3) := by decide +kernel
theorem d_T_between_88 : decode b_T_between 88 = .ok (.goto (-60), 3) := by decide +kernel
theorem d_T_between_91 : decode b_T_between 91 = .ok (.iload 6, 2) := by decide +kernel
theorem d_T_between_93 : decode b_T_between 93 = .ok (.aload_n 0, 1) := by decide +kernel
theorem d_T_between_94 : decode b_T_between 94 = .ok (.iload 5, 2) := by decide +kernel
theorem d_T_between_96 : decode b_T_between 96 = .ok (.aload_n 0, 1) := by decide +kernel
theorem d_T_between_97 : decode b_T_between 97 = .ok (.getfield 15, 3) := by decide +kernel
theorem d_T_between_100 : decode b_T_between 100 = .ok (.iload_n 1, 1) := by decide +kernel
theorem d_T_between_101 : decode b_T_between 101 = .ok (.iaload, 1) := by decide +kernel
theorem d_T_between_102 : decode b_T_between 102 = .ok (.aload_n 0, 1) := by decide +kernel
theorem d_T_between_103 : decode b_T_between 103 = .ok (.getfield 15, 3) := by decide +kernel
theorem d_T_between_106 : decode b_T_between 106 = .ok (.iload_n 2, 1) := by decide +kernel
theorem d_T_between_107 : decode b_T_between 107 = .ok (.iaload, 1) := by decide +kernel
theorem d_T_between_108 : decode b_T_between 108 = .ok (.iload_n 3, 1) := by decide +kernel
theorem d_T_between_109 : decode b_T_between 109 = .ok (.invokevirtual 175, 3) := by decide +kernel
theorem d_T_between_112 : decode b_T_between 112 = .ok (.iadd, 1) := by decide +kernel
theorem d_T_between_113 : decode b_T_between 113 = .ok (.ireturn, 1) := by decide +kernel
theorem d_O_takeGroup_0 : decode b_O_takeGroup 0 = .ok (.iconst 1, 1) := by decide +kernel
theorem d_O_takeGroup_1 : decode b_O_takeGroup 1 = .ok (.iload_n 1, 1) := by decide +kernel
theorem d_O_takeGroup_2 : decode b_O_takeGroup 2 = .ok (.ishl, 1) := by decide +kernel
theorem d_O_takeGroup_3 : decode b_O_takeGroup 3 = .ok (.istore_n 2, 1) := by decide +kernel
theorem d_O_takeGroup_4 : decode b_O_takeGroup 4 = .ok (.aload_n 0, 1) := by decide +kernel
theorem d_O_takeGroup_5 : decode b_O_takeGroup 5 = .ok (.dup, 1) := by decide +kernel
theorem d_O_takeGroup_6 : decode b_O_takeGroup 6 = .ok (.getfield 20, 3) := by decide +kernel
theorem d_O_takeGroup_9 : decode b_O_takeGroup 9 = .ok (.iload_n 2, 1) := by decide +kernel
theorem d_O_takeGroup_10 : decode b_O_takeGroup 10 = .ok (.iconst (-1), 1) := by decide +kernel
theorem d_O_takeGroup_11 : decode b_O_takeGroup 11 = .ok (.ixor, 1) := by decide +kernel
theorem d_O_takeGroup_12 : decode b_O_takeGroup 12 = .ok (.iand, 1) := by decide +kernel
theorem d_O_takeGroup_13 : decode b_O_takeGroup 13 = .ok (.putfield 20, 3) := by decide +kernel
theorem d_O_takeGroup_16 : decode b_O_takeGroup 16 = .ok (.aload_n 0, 1) := by decide +kernel
theorem d_O_takeGroup_17 : decode b_O_takeGroup 17 = .ok (.getfield 55, 3) := by decide +kernel
theorem d_O_takeGroup_20 : decode b_O_takeGroup 20 = .ok (.aload_n 0, 1) := by decide +kernel
theorem d_O_takeGroup_21 : decode b_O_takeGroup 21 = .ok (.getfield 42, 3) := by decide +kernel
theorem d_O_takeGroup_24 : decode b_O_takeGroup 24 = .ok (.invokevirtual 100, 3) := by decide +kernel
theorem d_O_takeGroup_27 : decode b_O_takeGroup 27 = .ok (.aload_n 0, 1) := by decide +kernel
theorem d_O_takeGroup_28 : decode b_O_takeGroup 28 = .ok (.getfield 55, 3) := by decide +kernel
theorem d_O_takeGroup_31 : decode b_O_takeGroup 31 = .ok (.aload_n 0, 1) := by decide +kernel
theorem d_O_takeGroup_32 : decode b_O_takeGroup 32 = .ok (.getfield 13, 3) := by decide +kernel
theorem d_O_takeGroup_35 : decode b_O_takeGroup 35 = .ok (.iload_n 1, 1) := by decide +kernel
theorem d_O_takeGroup_36 : decode b_O_takeGroup 36 = .ok (.iaload, 1) := by decide +kernel
theorem d_O_takeGroup_37 : decode b_O_takeGroup 37 = .ok (.invokevirtual 97, 3) := by decide +kernel
theorem d_O_takeGroup_40 : decode b_O_takeGroup 40 = .ok (.ifCond .eq 24, 3) := by decide +kernel
theorem d_O_takeGroup_43 : decode b_O_takeGroup 43 = .ok (.aload_n 0, 1) := by decide +kernel
theorem d_O_takeGroup_44 : decode b_O_takeGroup 44 = .ok (.getfield 42, 3) := by decide +kernel
theorem d_O_takeGroup_47 : decode b_O_takeGroup 47 = .ok (.aload_n 0, 1) := by decide +kernel
theorem d_O_takeGroup_48 : decode b_O_takeGroup 48 = .ok (.getfield 55, 3) := by decide +kernel
theorem d_O_takeGroup_51 : decode b_O_takeGroup 51 = .ok (.invokevirtual 100, 3) := by decide +kernel
theorem d_O_takeGroup_54 : decode b_O_takeGroup 54 = .ok (.aload_n 0, 1) := by decide +kernel
theorem d_O_takeGroup_55 : decode b_O_takeGroup 55 = .ok (.dup, 1) := by decide +kernel
theorem d_O_takeGroup_56 : decode b_O_takeGroup 56 = .ok (.getfield 20, 3) := by decide +kernel
theorem d_O_takeGroup_59 : decode b_O_takeGroup 59 = .ok (.iload_n 2, 1) := by decide +kernel
theorem d_O_takeGroup_60 : decode b_O_takeGroup 60 = .ok (.ior, 1) := by decide +kernel
theorem d_O_takeGroup_61 : decode b_O_takeGroup 61 = .ok (.putfield 20, 3) := by decide +kernel
theorem d_O_takeGroup_64 : decode b_O_takeGroup 64 = .ok (.return_, 1) := by decide +kernel
theorem d_O_drawAll_0 : decode b_O_drawAll 0 = .ok (.aload_n 0, 1) := by decide +kernel
theorem d_O_drawAll_1 : decode b_O_drawAll 1 = .ok (.getfield 42, 3) := by decide +kernel
theorem d_O_drawAll_4 : decode b_O_drawAll 4 = .ok (.aload_n 0, 1) := by decide +kernel
theorem d_O_drawAll_5 : decode b_O_drawAll 5 = .ok (.getfield 9, 3) := by decide +kernel
theorem d_O_drawAll_8 : decode b_O_drawAll 8 = .ok (.invokevirtual 94, 3) := by decide +kernel
theorem d_O_drawAll_11 : decode b_O_drawAll 11 = .ok (.aload_n 0, 1) := by decide +kernel
theorem d_O_drawAll_12 : decode b_O_drawAll 12 = .ok (.iconst 0, 1) := by decide +kernel
theorem d_O_drawAll_13 : decode b_O_drawAll 13 = .ok (.putfield 20, 3) := by decide +kernel
theorem d_O_drawAll_16 : decode b_O_drawAll 16 = .ok (.iconst 0, 1) := by decide +kernel
theorem d_O_drawAll_17 : decode b_O_drawAll 17 = .ok (.istore_n 1, 1) := by decide +kernel
theorem d_O_drawAll_18 : decode b_O_drawAll 18 = .ok (.iload_n 1, 1) := by decide +kernel
theorem d_O_drawAll_19 : decode b_O_drawAll 19 = .ok (.aload_n 0, 1) := by decide +kernel
theorem d_O_drawAll_20 : decode b_O_drawAll 20 = .ok (.getfield 17, 3) := by decide +kernel
theorem d_O_drawAll_23 : decode b_O_drawAll 23 = .ok (.if_icmp .ge 14, 3) := by decide +kernel
theorem d_O_drawAll_26 : decode b_O_drawAll 26 = .ok (.aload_n 0, 1) := by decide +kernel
theorem d_O_drawAll_27 : decode b_O_drawAll 27 = .ok (.iload_n 1, 1) := by decide +kernel
theorem d_O_drawAll_28 : decode b_O_drawAll 28 = .ok (.invokevirtual 77, 3) := by decide +kernel
theorem d_O_drawAll_31 : decode b_O_drawAll 31 = .ok (.iinc 1 1, 3) := by decide +kernel
theorem d_O_drawAll_34 : decode b_O_drawAll 34 = .ok (.goto (-16), 3) := by decide +kernel
theorem d_O_drawAll_37 : decode b_O_drawAll 37 = .ok (.aload_n 0, 1) := by decide +kernel
theorem d_O_drawAll_38 : decode b_O_drawAll 38 = .ok (.aload_n 0, 1) := by decide +kernel
theorem d_O_drawAll_39 : decode b_O_drawAll 39 = .ok (.getfield 42, 3) := by decide +kernel
theorem d_O_drawAll_42 : decode b_O_drawAll 42 = .ok (.aload_n 0, 1) := by decide +kernel
theorem d_O_drawAll_43 : decode b_O_drawAll 43 = .ok (.getfield 46, 3) := by decide +kernel
theorem d_O_drawAll_46 : decode b_O_drawAll 46 = .ok (.invokevirtual 81, 3) := by decide +kernel
theorem d_O_drawAll_49 : decode b_O_drawAll 49 = .ok (.putfield 49, 3) := by decide +kernel
theorem d_O_drawAll_52 : decode b_O_drawAll 52 = .ok (.return_, 1) := by decide +kernel
theorem d_O_init_0 : decode b_O_init 0 = .ok (.aload_n 0, 1) := by decide +kernel
theorem d_O_init_1 : decode b_O_init 1 = .ok (.invokespecial 1, 3) := by decide +kernel
theorem d_O_init_4 : decode b_O_init 4 = .ok (.aload_n 0, 1) := by decide +kernel
theorem d_O_init_5 : decode b_O_init 5 = .ok (.iconst 5, 1) := by decide +kernel
theorem d_O_init_6 : decode b_O_init 6 = .ok (.putfield 9, 3) := by decide +kernel
theorem d_O_init_9 : decode b_O_init 9 = .ok (.aload_n 0, 1) := by decide +kernel
theorem d_O_init_10 : decode b_O_init 10 = .ok (.bipush 10, 2) := by decide +kernel
theorem d_O_init_12 : decode b_O_init 12 = .ok (.newarray .int, 2) := by decide +kernel
theorem d_O_init_14 : decode b_O_init 14 = .ok (.putfield 13, 3) := by decide +kernel
theorem d_O_init_17 : decode b_O_init 17 = .ok (.aload_n 0, 1) := by decide +kernel
theorem d_O_init_18 : decode b_O_init 18 = .ok (.iconst 0, 1) := by decide +kernel
theorem d_O_init_19 : decode b_O_init 19 = .ok (.putfield 17, 3) := by decide +kernel
theorem d_O_init_22 : decode b_O_init 22 = .ok (.aload_n 0, 1) := by decide +kernel
theorem d_O_init_23 : decode b_O_init 23 = .ok (.iconst 0, 1) := by decide +kernel
theorem d_O_init_24 : decode b_O_init 24 = .ok (.putfield 20, 3) := by decide +kernel
theorem d_O_init_27 : decode b_O_init 27 = .ok (.aload_n 0, 1) := by decide +kernel
theorem d_O_init_28 : decode b_O_init 28 = .ok (.bipush 8, 2) := by decide +kernel
theorem d_O_init_30 : decode b_O_init 30 = .ok (.newarray .int, 2) := by decide +kernel
theorem d_O_init_32 : decode b_O_init 32 = .ok (.putfield 23, 3) := by decide +kernel
theorem d_O_init_35 : decode b_O_init 35 = .ok (.aload_n 0, 1) := by decide +kernel
theorem d_O_init_36 : decode b_O_init 36 = .ok (.iconst 0, 1) := by decide +kernel
theorem d_O_init_37 : decode b_O_init 37 = .ok (.putfield 26, 3) := by decide +kernel
theorem d_O_init_40 : decode b_O_init 40 = .ok (.aload_n 0, 1) := by decide +kernel
theorem d_O_init_41 : decode b_O_init 41 = .ok (.iconst 0, 1) := by decide +kernel
theorem d_O_init_42 : decode b_O_init 42 = .ok (.putfield 29, 3) := by decide +kernel
theorem d_O_init_45 : decode b_O_init 45 = .ok (.aload_n 0, 1) := by decide +kernel
theorem d_O_init_46 : decode b_O_init 46 = .ok (.new 32, 3) := by decide +kernel
theorem d_O_init_49 : decode b_O_init 49 = .ok (.dup, 1) := by decide +kernel
theorem d_O_init_50 : decode b_O_init 50 = .ok (.invokespecial 34, 3) := by decide +kernel
theorem d_O_init_53 : decode b_O_init 53 = .ok (.putfield 35, 3) := by decide +kernel
theorem d_O_init_56 : decode b_O_init 56 = .ok (.aload_n 0, 1) := by decide +kernel
theorem d_O_init_57 : decode b_O_init 57 = .ok (.new 39, 3) := by decide +kernel
theorem d_O_init_60 : decode b_O_init 60 = .ok (.dup, 1) := by decide +kernel
theorem d_O_init_61 : decode b_O_init 61 = .ok (.invokespecial 41, 3) := by decide +kernel
theorem d_O_init_64 : decode b_O_init 64 = .ok (.putfield 42, 3) := by decide +kernel
theorem d_O_init_67 : decode b_O_init 67 = .ok (.aload_n 0, 1) := by decide +kernel
theorem d_O_init_68 : decode b_O_init 68 = .ok (.bipush 40, 2) := by decide +kernel
theorem d_O_init_70 : decode b_O_init 70 = .ok (.newarray .int, 2) := by decide +kernel
theorem d_O_init_72 : decode b_O_init 72 = .ok (.putfield 46, 3) := by decide +kernel
theorem d_O_init_75 : decode b_O_init 75 = .ok (.aload_n 0, 1) := by decide +kernel
theorem d_O_init_76 : decode b_O_init 76 = .ok (.iconst 0, 1) := by decide +kernel
theorem d_O_init_77 : decode b_O_init 77 = .ok (.putfield 49, 3) := by decide +kernel
theorem d_O_init_80 : decode b_O_init 80 = .ok (.aload_n 0, 1) := by decide +kernel
theorem d_O_init_81 : decode b_O_init 81 = .ok (.new 39, 3) := by decide +kernel
theorem d_O_init_84 : decode b_O_init 84 = .ok (.dup, 1) := by decide +kernel
theorem d_O_init_85 : decode b_O_init 85 = .ok (.invokespecial 41, 3) := by decide +kernel
theorem d_O_init_88 : decode b_O_init 88 = .ok (.putfield 52, 3) := by decide +kernel
theorem d_O_init_91 : decode b_O_init 91 = .ok (.aload_n 0, 1) := by decide +kernel
theorem d_O_init_92 : decode b_O_init 92 = .ok (.new 39, 3) := by decide +kernel
theorem d_O_init_95 : decode b_O_init 95 = .ok (.dup, 1) := by decide +kernel
theorem d_O_init_96 : decode b_O_init 96 = .ok (.invokespecial 41, 3) := by decide +kernel
theorem d_O_init_99 : decode b_O_init 99 = .ok (.putfield 55, 3) := by decide +kernel
theorem d_O_init_102 : decode b_O_init 102 = .ok (.aload_n 0, 1) := by decide +kernel
theorem d_O_init_103 : decode b_O_init 103 = .ok (.bipush 8, 2) := by decide +kernel
theorem d_O_init_105 : decode b_O_init 105 = .ok (.newarray .int, 2) := by decide +kernel
theorem d_O_init_107 : decode b_O_init 107 = .ok (.putfield 58, 3) := by decide +kernel
theorem d_O_init_110 : decode b_O_init 110 = .ok (.aload_n 0, 1) := by decide +kernel
theorem d_O_init_111 : decode b_O_init 111 = .ok (.bipush 8, 2) := by decide +kernel
theorem d_O_init_113 : decode b_O_init 113 = .ok (.newarray .int, 2) := by decide +kernel
theorem d_O_init_115 : decode b_O_init 115 = .ok (.putfield 61, 3) := by decide +kernel
theorem d_O_init_118 : decode b_O_init 118 = .ok (.aload_n 0, 1) := by decide +kernel
theorem d_O_init_119 : decode b_O_init 119 = .ok (.invokevirtual 64, 3) := by decide +kernel
theorem d_O_init_122 : decode b_O_init 122 = .ok (.return_, 1) := by decide +kernel
theorem d_O_things_0 : decode b_O_things 0 = .ok (.iload_n 1, 1) := by decide +kernel
theorem d_O_things_1 : decode b_O_things 1 = .ok (.iconst 1, 1) := by decide +kernel
theorem d_O_things_2 : decode b_O_things 2 = .ok (.if_icmp .lt 9, 3) := by decide +kernel
theorem d_O_things_5 : decode b_O_things 5 = .ok (.iload_n 1, 1) := by decide +kernel
theorem d_O_things_6 : decode b_O_things 6 = .ok (.bipush 8, 2) := by decide +kernel
theorem d_O_things_8 : decode b_O_things 8 = .ok (.if_icmp .le 6, 3) := by decide +kernel
theorem d_O_things_11 : decode b_O_things 11 = .ok (.bipush (-2), 2) := by decide +kernel
theorem d_O_things_13 : decode b_O_things 13 = .ok (.ireturn, 1) := by decide +kernel
theorem d_O_things_14 : decode b_O_things 14 = .ok (.aload_n 0, 1) := by decide +kernel
theorem d_O_things_15 : decode b_O_things 15 = .ok (.getfield 9, 3) := by decide +kernel
theorem d_O_things_18 : decode b_O_things 18 = .ok (.istore_n 2, 1) := by decide +kernel
theorem d_O_things_19 : decode b_O_things 19 = .ok (.aload_n 0, 1) := by decide +kernel
theorem d_O_things_20 : decode b_O_things 20 = .ok (.iload_n 1, 1) := by decide +kernel
theorem d_O_things_21 : decode b_O_things 21 = .ok (.putfield 9, 3) := by decide +kernel
theorem d_O_things_24 : decode b_O_things 24 = .ok (.aload_n 0, 1) := by decide +kernel
theorem d_O_things_25 : decode b_O_things 25 = .ok (.invokevirtual 64, 3) := by decide +kernel
theorem d_O_things_28 : decode b_O_things 28 = .ok (.iload_n 2, 1) := by decide +kernel
theorem d_O_things_29 : decode b_O_things 29 = .ok (.ireturn, 1) := by decide +kernel
theorem d_O_isSet_0 : decode b_O_isSet 0 = .ok (.iload_n 0, 1) := by decide +kernel
theorem d_O_isSet_1 : decode b_O_isSet 1 = .ok (.ifCond .lt 14, 3) := by decide +kernel
theorem d_O_isSet_4 : decode b_O_isSet 4 = .ok (.iload_n 0, 1) := by decide +kernel
theorem d_O_isSet_5 : decode b_O_isSet 5 = .ok (.sipush 256, 3) := by decide +kernel
theorem d_O_isSet_8 : decode b_O_isSet 8 = .ok (.if_icmp .ge 7, 3) := by decide +kernel
theorem d_O_isSet_11 : decode b_O_isSet 11 = .ok (.iconst 1, 1) := by decide +kernel
theorem d_O_isSet_12 : decode b_O_isSet 12 = .ok (.goto 4, 3) := by decide +kernel
theorem d_O_isSet_15 : decode b_O_isSet 15 = .ok (.iconst 0, 1) := by decide +kernel
theorem d_O_isSet_16 : decode b_O_isSet 16 = .ok (.ireturn, 1) := by decide +kernel
theorem d_O_isGroup_0 : decode b_O_isGroup 0 = .ok (.iload_n 1, 1) := by decide +kernel
theorem d_O_isGroup_1 : decode b_O_isGroup 1 = .ok (.ifCond .lt 15, 3) := by decide +kernel
theorem d_O_isGroup_4 : decode b_O_isGroup 4 = .ok (.iload_n 1, 1) := by decide +kernel
theorem d_O_isGroup_5 : decode b_O_isGroup 5 = .ok (.aload_n 0, 1) := by decide +kernel
theorem d_O_isGroup_6 : decode b_O_isGroup 6 = .ok (.getfield 17, 3) := by decide +kernel
theorem d_O_isGroup_9 : decode b_O_isGroup 9 = .ok (.if_icmp .ge 7, 3) := by decide +kernel
theorem d_O_isGroup_12 : decode b_O_isGroup 12 = .ok (.iconst 1, 1) := by decide +kernel
theorem d_O_isGroup_13 : decode b_O_isGroup 13 = .ok (.goto 4, 3) := by decide +kernel
theorem d_O_isGroup_16 : decode b_O_isGroup 16 = .ok (.iconst 0, 1) := by decide +kernel
theorem d_O_isGroup_17 : decode b_O_isGroup 17 = .ok (.ireturn, 1) := by decide +kernel
theorem d_O_isTaken_0 : decode b_O_isTaken 0 = .ok (.aload_n 0, 1) := by decide +kernel
theorem d_O_isTaken_1 : decode b_O_isTaken 1 = .ok (.getfield 20, 3) := by decide +kernel
theorem d_O_isTaken_4 : decode b_O_isTaken 4 = .ok (.iload_n 1, 1) := by decide +kernel
theorem d_O_isTaken_5 : decode b_O_isTaken 5 = .ok (.ishr, 1) := by decide +kernel
theorem d_O_isTaken_6 : decode b_O_isTaken 6 = .ok (.iconst 1, 1) := by decide +kernel
theorem d_O_isTaken_7 : decode b_O_isTaken 7 = .ok (.iand, 1) := by decide +kernel
theorem d_O_isTaken_8 : decode b_O_isTaken 8 = .ok (.ifCond .eq 7, 3) := by decide +kernel
theorem d_O_isTaken_11 : decode b_O_isTaken 11 = .ok (.iconst 1, 1) := by decide +kernel
theorem d_O_isTaken_12 : decode b_O_isTaken 12 = .ok (.goto 4, 3) := by decide +kernel
theorem d_O_isTaken_15 : decode b_O_isTaken 15 = .ok (.iconst 0, 1) := by decide +kernel
theorem d_O_isTaken_16 : decode b_O_isTaken 16 = .ok (.ireturn, 1) := by decide +kernel
theorem d_O_taken_0 : decode b_O_taken 0 = .ok (.aload_n 0, 1) := by decide +kernel
theorem d_O_taken_1 : decode b_O_taken 1 = .ok (.iload_n 1, 1) := by decide +kernel
theorem d_O_taken_2 : decode b_O_taken 2 = .ok (.invokevirtual 88, 3) := by decide +kernel
theorem d_O_taken_5 : decode b_O_taken 5 = .ok (.ifCond .ne 6, 3) := by decide +kernel
theorem d_O_taken_8 : decode b_O_taken 8 = .ok (.bipush (-2), 2) := by decide +kernel
theorem d_O_taken_10 : decode b_O_taken 10 = .ok (.ireturn, 1) := by decide +kernel
theorem d_O_taken_11 : decode b_O_taken 11 = .ok (.aload_n 0, 1) := by decide +kernel
theorem d_O_taken_12 : decode b_O_taken 12 = .ok (.iload_n 1, 1) := by decide +kernel
theorem d_O_taken_13 : decode b_O_taken 13 = .ok (.invokevirtual 91, 3) := by decide +kernel
theorem d_O_taken_16 : decode b_O_taken 16 = .ok (.ifCond .eq 7, 3) := by decide +kernel
theorem d_O_taken_19 : decode b_O_taken 19 = .ok (.iconst 1, 1) := by decide +kernel
theorem d_O_taken_20 : decode b_O_taken 20 = .ok (.goto 4, 3) := by decide +kernel
theorem d_O_taken_23 : decode b_O_taken 23 = .ok (.iconst 0, 1) := by decide +kernel
theorem d_O_taken_24 : decode b_O_taken 24 = .ok (.ireturn, 1) := by decide +kernel
theorem d_O_group_0 : decode b_O_group 0 = .ok (.iload_n 1, 1) := by decide +kernel
theorem d_O_group_1 : decode b_O_group 1 = .ok (.invokestatic 67, 3) := by decide +kernel
theorem d_O_group_4 : decode b_O_group 4 = .ok (.ifCond .eq 11, 3) := by decide +kernel
theorem d_O_group_7 : decode b_O_group 7 = .ok (.iload_n 1, 1) := by decide +kernel
theorem d_O_group_8 : decode b_O_group 8 = .ok (.invokestatic 71, 3) := by decide +kernel
theorem d_O_group_11 : decode b_O_group 11 = .ok (.iconst 2, 1) := by decide +kernel
theorem d_O_group_12 : decode b_O_group 12 = .ok (.if_icmp .ge 6, 3) := by decide +kernel
theorem d_O_group_15 : decode b_O_group 15 = .ok (.bipush (-2), 2) := by decide +kernel
theorem d_O_group_17 : decode b_O_group 17 = .ok (.ireturn, 1) := by decide +kernel
theorem d_O_group_18 : decode b_O_group 18 = .ok (.aload_n 0, 1) := by decide +kernel
theorem d_O_group_19 : decode b_O_group 19 = .ok (.getfield 17, 3) := by decide +kernel
theorem d_O_group_22 : decode b_O_group 22 = .ok (.bipush 10, 2) := by decide +kernel
theorem d_O_group_24 : decode b_O_group 24 = .ok (.if_icmp .lt 6, 3) := by decide +kernel
theorem d_O_group_27 : decode b_O_group 27 = .ok (.bipush (-4), 2) := by decide +kernel
theorem d_O_group_29 : decode b_O_group 29 = .ok (.ireturn, 1) := by decide +kernel
theorem d_O_group_30 : decode b_O_group 30 = .ok (.aload_n 0, 1) := by decide +kernel
theorem d_O_group_31 : decode b_O_group 31 = .ok (.getfield 13, 3) := by decide +kernel
theorem d_O_group_34 : decode b_O_group 34 = .ok (.aload_n 0, 1) := by decide +kernel
theorem d_O_group_35 : decode b_O_group 35 = .ok (.getfield 17, 3) := by decide +kernel
theorem d_O_group_38 : decode b_O_group 38 = .ok (.iload_n 1, 1) := by decide +kernel
theorem d_O_group_39 : decode b_O_group 39 = .ok (.iastore, 1) := by decide +kernel
theorem d_O_group_40 : decode b_O_group 40 = .ok (.aload_n 0, 1) := by decide +kernel
theorem d_O_group_41 : decode b_O_group 41 = .ok (.dup, 1) := by decide +kernel
theorem d_O_group_42 : decode b_O_group 42 = .ok (.getfield 17, 3) := by decide +kernel
theorem d_O_group_45 : decode b_O_group 45 = .ok (.iconst 1, 1) := by decide +kernel
theorem d_O_group_46 : decode b_O_group 46 = .ok (.iadd, 1) := by decide +kernel
theorem d_O_group_47 : decode b_O_group 47 = .ok (.putfield 17, 3) := by decide +kernel
theorem d_O_group_50 : decode b_O_group 50 = .ok (.aload_n 0, 1) := by decide +kernel
theorem d_O_group_51 : decode b_O_group 51 = .ok (.aload_n 0, 1) := by decide +kernel
theorem d_O_group_52 : decode b_O_group 52 = .ok (.getfield 17, 3) := by decide +kernel
theorem d_O_group_55 : decode b_O_group 55 = .ok (.iconst 1, 1) := by decide +kernel
theorem d_O_group_56 : decode b_O_group 56 = .ok (.isub, 1) := by decide +kernel
theorem d_O_group_57 : decode b_O_group 57 = .ok (.invokevirtual 77, 3) := by decide +kernel
theorem d_O_group_60 : decode b_O_group 60 = .ok (.aload_n 0, 1) := by decide +kernel
theorem d_O_group_61 : decode b_O_group 61 = .ok (.aload_n 0, 1) := by decide +kernel
theorem d_O_group_62 : decode b_O_group 62 = .ok (.getfield 42, 3) := by decide +kernel
theorem d_O_group_65 : decode b_O_group 65 = .ok (.aload_n 0, 1) := by decide +kernel
theorem d_O_group_66 : decode b_O_group 66 = .ok (.getfield 46, 3) := by decide +kernel
theorem d_O_group_69 : decode b_O_group 69 = .ok (.invokevirtual 81, 3) := by decide +kernel
theorem d_O_group_72 : decode b_O_group 72 = .ok (.putfield 49, 3) := by decide +kernel
theorem d_O_group_75 : decode b_O_group 75 = .ok (.aload_n 0, 1) := by decide +kernel
theorem d_O_group_76 : decode b_O_group 76 = .ok (.aload_n 0, 1) := by decide +kernel
theorem d_O_group_77 : decode b_O_group 77 = .ok (.getfield 17, 3) := by decide +kernel
theorem d_O_group_80 : decode b_O_group 80 = .ok (.iconst 1, 1) := by decide +kernel
theorem d_O_group_81 : decode b_O_group 81 = .ok (.isub, 1) := by decide +kernel
theorem d_O_group_82 : decode b_O_group 82 = .ok (.invokevirtual 85, 3) := by decide +kernel
theorem d_O_group_85 : decode b_O_group 85 = .ok (.ireturn, 1) := by decide +kernel
theorem d_O_back_0 : decode b_O_back 0 = .ok (.aload_n 0, 1) := by decide +kernel
theorem d_O_back_1 : decode b_O_back 1 = .ok (.getfield 17, 3) := by decide +kernel
theorem d_O_back_4 : decode b_O_back 4 = .ok (.iconst 1, 1) := by decide +kernel
theorem d_O_back_5 : decode b_O_back 5 = .ok (.if_icmp .ge 6, 3) := by decide +kernel
theorem d_O_back_8 : decode b_O_back 8 = .ok (.bipush (-3), 2) := by decide +kernel
theorem d_O_back_10 : decode b_O_back 10 = .ok (.ireturn, 1) := by decide +kernel
theorem d_O_back_11 : decode b_O_back 11 = .ok (.aload_n 0, 1) := by decide +kernel
theorem d_O_back_12 : decode b_O_back 12 = .ok (.dup, 1) := by decide +kernel
theorem d_O_back_13 : decode b_O_back 13 = .ok (.getfield 17, 3) := by decide +kernel
theorem d_O_back_16 : decode b_O_back 16 = .ok (.iconst 1, 1) := by decide +kernel
theorem d_O_back_17 : decode b_O_back 17 = .ok (.isub, 1) := by decide +kernel
theorem d_O_back_18 : decode b_O_back 18 = .ok (.putfield 17, 3) := by decide +kernel
theorem d_O_back_21 : decode b_O_back 21 = .ok (.aload_n 0, 1) := by decide +kernel
theorem d_O_back_22 : decode b_O_back 22 = .ok (.invokevirtual 64, 3) := by decide +kernel
theorem d_O_back_25 : decode b_O_back 25 = .ok (.aload_n 0, 1) := by decide +kernel
theorem d_O_back_26 : decode b_O_back 26 = .ok (.getfield 17, 3) := by decide +kernel
theorem d_O_back_29 : decode b_O_back 29 = .ok (.ireturn, 1) := by decide +kernel
theorem d_O_reason_0 : decode b_O_reason 0 = .ok (.aload_n 0, 1) := by decide +kernel
theorem d_O_reason_1 : decode b_O_reason 1 = .ok (.iload_n 1, 1) := by decide +kernel
theorem d_O_reason_2 : decode b_O_reason 2 = .ok (.invokevirtual 88, 3) := by decide +kernel
theorem d_O_reason_5 : decode b_O_reason 5 = .ok (.ifCond .ne 6, 3) := by decide +kernel
theorem d_O_reason_8 : decode b_O_reason 8 = .ok (.bipush (-2), 2) := by decide +kernel
theorem d_O_reason_10 : decode b_O_reason 10 = .ok (.ireturn, 1) := by decide +kernel
theorem d_O_reason_11 : decode b_O_reason 11 = .ok (.aload_n 0, 1) := by decide +kernel
theorem d_O_reason_12 : decode b_O_reason 12 = .ok (.iload_n 1, 1) := by decide +kernel
theorem d_O_reason_13 : decode b_O_reason 13 = .ok (.invokevirtual 91, 3) := by decide +kernel
theorem d_O_reason_16 : decode b_O_reason 16 = .ok (.ifCond .eq 6, 3) := by decide +kernel
theorem d_O_reason_19 : decode b_O_reason 19 = .ok (.bipush (-3), 2) := by decide +kernel
theorem d_O_reason_21 : decode b_O_reason 21 = .ok (.ireturn, 1) := by decide +kernel
theorem d_O_reason_22 : decode b_O_reason 22 = .ok (.aload_n 0, 1) := by decide +kernel
theorem d_O_reason_23 : decode b_O_reason 23 = .ok (.getfield 20, 3) := by decide +kernel
theorem d_O_reason_26 : decode b_O_reason 26 = .ok (.iconst 1, 1) := by decide +kernel
theorem d_O_reason_27 : decode b_O_reason 27 = .ok (.iload_n 1, 1) := by decide +kernel
theorem d_O_reason_28 : decode b_O_reason 28 = .ok (.ishl, 1) := by decide +kernel
theorem d_O_reason_29 : decode b_O_reason 29 = .ok (.iconst 1, 1) := by decide +kernel
theorem d_O_reason_30 : decode b_O_reason 30 = .ok (.isub, 1) := by decide +kernel
theorem d_O_reason_31 : decode b_O_reason 31 = .ok (.iand, 1) := by decide +kernel
theorem d_O_reason_32 : decode b_O_reason 32 = .ok (.istore_n 2, 1) := by decide +kernel
theorem d_O_reason_33 : decode b_O_reason 33 = .ok (.aload_n 0, 1) := by decide +kernel
theorem d_O_reason_34 : decode b_O_reason 34 = .ok (.getfield 52, 3) := by decide +kernel
theorem d_O_reason_37 : decode b_O_reason 37 = .ok (.aload_n 0, 1) := by decide +kernel
theorem d_O_reason_38 : decode b_O_reason 38 = .ok (.getfield 9, 3) := by decide +kernel
theorem d_O_reason_41 : decode b_O_reason 41 = .ok (.invokevirtual 94, 3) := by decide +kernel
theorem d_O_reason_44 : decode b_O_reason 44 = .ok (.aload_n 0, 1) := by decide +kernel
theorem d_O_reason_45 : decode b_O_reason 45 = .ok (.getfield 52, 3) := by decide +kernel
theorem d_O_reason_48 : decode b_O_reason 48 = .ok (.aload_n 0, 1) := by decide +kernel
theorem d_O_reason_49 : decode b_O_reason 49 = .ok (.getfield 13, 3) := by decide +kernel
theorem d_O_reason_52 : decode b_O_reason 52 = .ok (.iload_n 1, 1) := by decide +kernel
theorem d_O_reason_53 : decode b_O_reason 53 = .ok (.iaload, 1) := by decide +kernel
theorem d_O_reason_54 : decode b_O_reason 54 = .ok (.invokevirtual 97, 3) := by decide +kernel
theorem d_O_reason_57 : decode b_O_reason 57 = .ok (.pop, 1) := by decide +kernel
theorem d_O_reason_58 : decode b_O_reason 58 = .ok (.iconst 0, 1) := by decide +kernel
theorem d_O_reason_59 : decode b_O_reason 59 = .ok (.istore_n 3, 1) := by decide +kernel
theorem d_O_reason_60 : decode b_O_reason 60 = .ok (.iload_n 3, 1) := by decide +kernel
theorem d_O_reason_61 : decode b_O_reason 61 = .ok (.iload_n 1, 1) := by decide +kernel
theorem d_O_reason_62 : decode b_O_reason 62 = .ok (.if_icmp .ge 129, 3) := by decide +kernel
theorem d_O_reason_65 : decode b_O_reason 65 = .ok (.iload_n 2, 1) := by decide +kernel
theorem d_O_reason_66 : decode b_O_reason 66 = .ok (.iload_n 3, 1) := by decide +kernel
theorem d_O_reason_67 : decode b_O_reason 67 = .ok (.ishr, 1) := by decide +kernel
theorem d_O_reason_68 : decode b_O_reason 68 = .ok (.iconst 1, 1) := by decide +kernel
theorem d_O_reason_69 : decode b_O_reason 69 = .ok (.iand, 1) := by decide +kernel
theorem d_O_reason_70 : decode b_O_reason 70 = .ok (.ifCond .ne 6, 3) := by decide +kernel
theorem d_O_reason_73 : decode b_O_reason 73 = .ok (.goto 112, 3) := by decide +kernel
theorem d_O_reason_76 : decode b_O_reason 76 = .ok (.aload_n 0, 1) := by decide +kernel
theorem d_O_reason_77 : decode b_O_reason 77 = .ok (.getfield 55, 3) := by decide +kernel
theorem d_O_reason_80 : decode b_O_reason 80 = .ok (.aload_n 0, 1) := by decide +kernel
theorem d_O_reason_81 : decode b_O_reason 81 = .ok (.getfield 52, 3) := by decide +kernel
theorem d_O_reason_84 : decode b_O_reason 84 = .ok (.invokevirtual 100, 3) := by decide +kernel
theorem d_O_reason_87 : decode b_O_reason 87 = .ok (.iconst 1, 1) := by decide +kernel
theorem d_O_reason_88 : decode b_O_reason 88 = .ok (.istore 4, 2) := by decide +kernel
theorem d_O_reason_90 : decode b_O_reason 90 = .ok (.iload_n 3, 1) := by decide +kernel
theorem d_O_reason_91 : decode b_O_reason 91 = .ok (.iconst 1, 1) := by decide +kernel
theorem d_O_reason_92 : decode b_O_reason 92 = .ok (.iadd, 1) := by decide +kernel
theorem d_O_reason_93 : decode b_O_reason 93 = .ok (.istore 5, 2) := by decide +kernel
theorem d_O_reason_95 : decode b_O_reason 95 = .ok (.iload 5, 2) := by decide +kernel
theorem d_O_reason_97 : decode b_O_reason 97 = .ok (.iload_n 1, 1) := by decide +kernel
theorem d_O_reason_98 : decode b_O_reason 98 = .ok (.if_icmp .ge 47, 3) := by decide +kernel
theorem d_O_reason_101 : decode b_O_reason 101 = .ok (.iload 4, 2) := by decide +kernel
theorem d_O_reason_103 : decode b_O_reason 103 = .ok (.ifCond .eq 42, 3) := by decide +kernel
theorem d_O_reason_106 : decode b_O_reason 106 = .ok (.iload_n 2, 1) := by decide +kernel
theorem d_O_reason_107 : decode b_O_reason 107 = .ok (.iload 5, 2) := by decide +kernel
theorem d_O_reason_109 : decode b_O_reason 109 = .ok (.ishr, 1) := by decide +kernel
theorem d_O_reason_110 : decode b_O_reason 110 = .ok (.iconst 1, 1) := by decide +kernel
theorem d_O_reason_111 : decode b_O_reason 111 = .ok (.iand, 1) := by decide +kernel
theorem d_O_reason_112 : decode b_O_reason 112 = .ok (.ifCond .eq 20, 3) := by decide +kernel
theorem d_O_reason_115 : decode b_O_reason 115 = .ok (.aload_n 0, 1) := by decide +kernel
theorem d_O_reason_116 : decode b_O_reason 116 = .ok (.getfield 55, 3) := by decide +kernel
theorem d_O_reason_119 : decode b_O_reason 119 = .ok (.aload_n 0, 1) := by decide +kernel
theorem d_O_reason_120 : decode b_O_reason 120 = .ok (.getfield 13, 3) := by decide +kernel
theorem d_O_reason_123 : decode b_O_reason 123 = .ok (.iload 5, 2) := by decide +kernel
theorem d_O_reason_125 : decode b_O_reason 125 = .ok (.iaload, 1) := by decide +kernel
theorem d_O_reason_126 : decode b_O_reason 126 = .ok (.invokevirtual 97, 3) := by decide +kernel
theorem d_O_reason_129 : decode b_O_reason 129 = .ok (.ifCond .eq 7, 3) := by decide +kernel
theorem d_O_reason_132 : decode b_O_reason 132 = .ok (.iconst 1, 1) := by decide +kernel
theorem d_O_reason_133 : decode b_O_reason 133 = .ok (.goto 4, 3) := by decide +kernel
theorem d_O_reason_136 : decode b_O_reason 136 = .ok (.iconst 0, 1) := by decide +kernel
theorem d_O_reason_137 : decode b_O_reason 137 = .ok (.istore 4, 2) := by decide +kernel
theorem d_O_reason_139 : decode b_O_reason 139 = .ok (.iinc 5 1, 3) := by decide +kernel
theorem d_O_reason_142 : decode b_O_reason 142 = .ok (.goto (-47), 3) := by decide +kernel
theorem d_O_reason_145 : decode b_O_reason 145 = .ok (.iload 4, 2) := by decide +kernel
theorem d_O_reason_147 : decode b_O_reason 147 = .ok (.ifCond .ne 14, 3) := by decide +kernel
theorem d_O_reason_150 : decode b_O_reason 150 = .ok (.iload_n 2, 1) := by decide +kernel
theorem d_O_reason_151 : decode b_O_reason 151 = .ok (.iconst 1, 1) := by decide +kernel
theorem d_O_reason_152 : decode b_O_reason 152 = .ok (.iload_n 3, 1) := by decide +kernel
theorem d_O_reason_153 : decode b_O_reason 153 = .ok (.ishl, 1) := by decide +kernel
theorem d_O_reason_154 : decode b_O_reason 154 = .ok (.iconst (-1), 1) := by decide +kernel
theorem d_O_reason_155 : decode b_O_reason 155 = .ok (.ixor, 1) := by decide +kernel
theorem d_O_reason_156 : decode b_O_reason 156 = .ok (.iand, 1) := by decide +kernel
theorem d_O_reason_157 : decode b_O_reason 157 = .ok (.istore_n 2, 1) := by decide +kernel
theorem d_O_reason_158 : decode b_O_reason 158 = .ok (.goto 27, 3) := by decide +kernel
theorem d_O_reason_161 : decode b_O_reason 161 = .ok (.aload_n 0, 1) := by decide +kernel
theorem d_O_reason_162 : decode b_O_reason 162 = .ok (.getfield 52, 3) := by decide +kernel
theorem d_O_reason_165 : decode b_O_reason 165 = .ok (.aload_n 0, 1) := by decide +kernel
theorem d_O_reason_166 : decode b_O_reason 166 = .ok (.getfield 13, 3) := by decide +kernel
theorem d_O_reason_169 : decode b_O_reason 169 = .ok (.iload_n 3, 1) := by decide +kernel
theorem d_O_reason_170 : decode b_O_reason 170 = .ok (.iaload, 1) := by decide +kernel
theorem d_O_reason_171 : decode b_O_reason 171 = .ok (.invokevirtual 97, 3) := by decide +kernel
theorem d_O_reason_174 : decode b_O_reason 174 = .ok (.ifCond .ne 11, 3) := by decide +kernel
theorem d_O_reason_177 : decode b_O_reason 177 = .ok (.iload_n 2, 1) := by decide +kernel
theorem d_O_reason_178 : decode b_O_reason 178 = .ok (.iconst 2, 1) := by decide +kernel
theorem d_O_reason_179 : decode b_O_reason 179 = .ok (.iload_n 3, 1) := by decide +kernel
theorem d_O_reason_180 : decode b_O_reason 180 = .ok (.ishl, 1) := by decide +kernel
theorem d_O_reason_181 : decode b_O_reason 181 = .ok (.iconst 1, 1) := by decide +kernel
theorem d_O_reason_182 : decode b_O_reason 182 = .ok (.isub, 1) := by decide +kernel
theorem d_O_reason_183 : decode b_O_reason 183 = .ok (.iand, 1) := by decide +kernel
theorem d_O_reason_184 : decode b_O_reason 184 = .ok (.ireturn, 1) := by decide +kernel
theorem d_O_reason_185 : decode b_O_reason 185 = .ok (.iinc 3 1, 3) := by decide +kernel
theorem d_O_reason_188 : decode b_O_reason 188 = .ok (.goto (-128), 3) := by decide +kernel
theorem d_O_reason_191 : decode b_O_reason 191 = .ok (.iload_n 2, 1) := by decide +kernel
theorem d_O_reason_192 : decode b_O_reason 192 = .ok (.ireturn, 1) := by decide +kernel
theorem d_O_found_0 : decode b_O_found 0 = .ok (.aload_n 0, 1) := by decide +kernel
theorem d_O_found_1 : decode b_O_found 1 = .ok (.iload_n 1, 1) := by decide +kernel
theorem d_O_found_2 : decode b_O_found 2 = .ok (.putfield 29, 3) := by decide +kernel
theorem d_O_found_5 : decode b_O_found 5 = .ok (.bipush (-10), 2) := by decide +kernel
theorem d_O_found_7 : decode b_O_found 7 = .ok (.iload_n 1, 1) := by decide +kernel
theorem d_O_found_8 : decode b_O_found 8 = .ok (.isub, 1) := by decide +kernel
theorem d_O_found_9 : decode b_O_found 9 = .ok (.ireturn, 1) := by decide +kernel
theorem d_O_isSheet_0 : decode b_O_isSheet 0 = .ok (.iload_n 0, 1) := by decide +kernel
theorem d_O_isSheet_1 : decode b_O_isSheet 1 = .ok (.ifCond .lt 12, 3) := by decide +kernel
theorem d_O_isSheet_4 : decode b_O_isSheet 4 = .ok (.iload_n 0, 1) := by decide +kernel
theorem d_O_isSheet_5 : decode b_O_isSheet 5 = .ok (.iconst 4, 1) := by decide +kernel
theorem d_O_isSheet_6 : decode b_O_isSheet 6 = .ok (.if_icmp .ge 7, 3) := by decide +kernel
theorem d_O_isSheet_9 : decode b_O_isSheet 9 = .ok (.iconst 1, 1) := by decide +kernel
theorem d_O_isSheet_10 : decode b_O_isSheet 10 = .ok (.goto 4, 3) := by decide +kernel
theorem d_O_isSheet_13 : decode b_O_isSheet 13 = .ok (.iconst 0, 1) := by decide +kernel
theorem d_O_isSheet_14 : decode b_O_isSheet 14 = .ok (.ireturn, 1) := by decide +kernel
theorem d_O_read_0 : decode b_O_read 0 = .ok (.iload_n 1, 1) := by decide +kernel
theorem d_O_read_1 : decode b_O_read 1 = .ok (.invokestatic 104, 3) := by decide +kernel
theorem d_O_read_4 : decode b_O_read 4 = .ok (.ifCond .ne 6, 3) := by decide +kernel
theorem d_O_read_7 : decode b_O_read 7 = .ok (.bipush (-2), 2) := by decide +kernel
theorem d_O_read_9 : decode b_O_read 9 = .ok (.ireturn, 1) := by decide +kernel
theorem d_O_read_10 : decode b_O_read 10 = .ok (.aload_n 0, 1) := by decide +kernel
theorem d_O_read_11 : decode b_O_read 11 = .ok (.getfield 35, 3) := by decide +kernel
theorem d_O_read_14 : decode b_O_read 14 = .ok (.iload_n 1, 1) := by decide +kernel
theorem d_O_read_15 : decode b_O_read 15 = .ok (.invokevirtual 107, 3) := by decide +kernel
theorem d_O_read_18 : decode b_O_read 18 = .ok (.ifCond .eq 9, 3) := by decide +kernel
theorem d_O_read_21 : decode b_O_read 21 = .ok (.aload_n 0, 1) := by decide +kernel
theorem d_O_read_22 : decode b_O_read 22 = .ok (.iconst 1, 1) := by decide +kernel
theorem d_O_read_23 : decode b_O_read 23 = .ok (.invokevirtual 110, 3) := by decide +kernel
theorem d_O_read_26 : decode b_O_read 26 = .ok (.ireturn, 1) := by decide +kernel
theorem d_O_read_27 : decode b_O_read 27 = .ok (.iconst 0, 1) := by decide +kernel
theorem d_O_read_28 : decode b_O_read 28 = .ok (.istore_n 2, 1) := by decide +kernel
theorem d_O_read_29 : decode b_O_read 29 = .ok (.aload_n 0, 1) := by decide +kernel
theorem d_O_read_30 : decode b_O_read 30 = .ok (.getfield 35, 3) := by decide +kernel
theorem d_O_read_33 : decode b_O_read 33 = .ok (.iload_n 1, 1) := by decide +kernel
theorem d_O_read_34 : decode b_O_read 34 = .ok (.invokevirtual 113, 3) := by decide +kernel
theorem d_O_read_37 : decode b_O_read 37 = .ok (.istore_n 3, 1) := by decide +kernel
theorem d_O_read_38 : decode b_O_read 38 = .ok (.iload_n 2, 1) := by decide +kernel
theorem d_O_read_39 : decode b_O_read 39 = .ok (.iload_n 3, 1) := by decide +kernel
theorem d_O_read_40 : decode b_O_read 40 = .ok (.if_icmp .ge 25, 3) := by decide +kernel
theorem d_O_read_43 : decode b_O_read 43 = .ok (.aload_n 0, 1) := by decide +kernel
theorem d_O_read_44 : decode b_O_read 44 = .ok (.aload_n 0, 1) := by decide +kernel
theorem d_O_read_45 : decode b_O_read 45 = .ok (.getfield 35, 3) := by decide +kernel
theorem d_O_read_48 : decode b_O_read 48 = .ok (.iload_n 1, 1) := by decide +kernel
theorem d_O_read_49 : decode b_O_read 49 = .ok (.iload_n 2, 1) := by decide +kernel
theorem d_O_read_50 : decode b_O_read 50 = .ok (.invokevirtual 116, 3) := by decide +kernel
theorem d_O_read_53 : decode b_O_read 53 = .ok (.invokevirtual 120, 3) := by decide +kernel
theorem d_O_read_56 : decode b_O_read 56 = .ok (.ifCond .lt 9, 3) := by decide +kernel
theorem d_O_read_59 : decode b_O_read 59 = .ok (.iinc 2 1, 3) := by decide +kernel
theorem d_O_read_62 : decode b_O_read 62 = .ok (.goto (-24), 3) := by decide +kernel
theorem d_O_read_65 : decode b_O_read 65 = .ok (.iload_n 2, 1) := by decide +kernel
theorem d_O_read_66 : decode b_O_read 66 = .ok (.ireturn, 1) := by decide +kernel
theorem d_O_many_0 : decode b_O_many 0 = .ok (.aload_n 0, 1) := by decide +kernel
theorem d_O_many_1 : decode b_O_many 1 = .ok (.getfield 42, 3) := by decide +kernel
theorem d_O_many_4 : decode b_O_many 4 = .ok (.invokevirtual 123, 3) := by decide +kernel
theorem d_O_many_7 : decode b_O_many 7 = .ok (.lreturn, 1) := by decide +kernel
theorem d_O_tree_0 : decode b_O_tree 0 = .ok (.iload_n 1, 1) := by decide +kernel
theorem d_O_tree_1 : decode b_O_tree 1 = .ok (.iconst (-1), 1) := by decide +kernel
theorem d_O_tree_2 : decode b_O_tree 2 = .ok (.if_icmp .lt 9, 3) := by decide +kernel
theorem d_O_tree_5 : decode b_O_tree 5 = .ok (.iload_n 1, 1) := by decide +kernel
theorem d_O_tree_6 : decode b_O_tree 6 = .ok (.bipush 40, 2) := by decide +kernel
theorem d_O_tree_8 : decode b_O_tree 8 = .ok (.if_icmp .lt 6, 3) := by decide +kernel
theorem d_O_tree_11 : decode b_O_tree 11 = .ok (.bipush (-2), 2) := by decide +kernel
theorem d_O_tree_13 : decode b_O_tree 13 = .ok (.ireturn, 1) := by decide +kernel
theorem d_O_tree_14 : decode b_O_tree 14 = .ok (.iload_n 1, 1) := by decide +kernel
theorem d_O_tree_15 : decode b_O_tree 15 = .ok (.iconst (-1), 1) := by decide +kernel
theorem d_O_tree_16 : decode b_O_tree 16 = .ok (.if_icmp .ne 8, 3) := by decide +kernel
theorem d_O_tree_19 : decode b_O_tree 19 = .ok (.aload_n 0, 1) := by decide +kernel
theorem d_O_tree_20 : decode b_O_tree 20 = .ok (.getfield 49, 3) := by decide +kernel
theorem d_O_tree_23 : decode b_O_tree 23 = .ok (.ireturn, 1) := by decide +kernel
theorem d_O_tree_24 : decode b_O_tree 24 = .ok (.iload_n 1, 1) := by decide +kernel
theorem d_O_tree_25 : decode b_O_tree 25 = .ok (.aload_n 0, 1) := by decide +kernel
theorem d_O_tree_26 : decode b_O_tree 26 = .ok (.getfield 49, 3) := by decide +kernel
theorem d_O_tree_29 : decode b_O_tree 29 = .ok (.if_icmp .ge 12, 3) := by decide +kernel
theorem d_O_tree_32 : decode b_O_tree 32 = .ok (.aload_n 0, 1) := by decide +kernel
theorem d_O_tree_33 : decode b_O_tree 33 = .ok (.getfield 46, 3) := by decide +kernel
theorem d_O_tree_36 : decode b_O_tree 36 = .ok (.iload_n 1, 1) := by decide +kernel
theorem d_O_tree_37 : decode b_O_tree 37 = .ok (.iaload, 1) := by decide +kernel
theorem d_O_tree_38 : decode b_O_tree 38 = .ok (.goto 4, 3) := by decide +kernel
theorem d_O_tree_41 : decode b_O_tree 41 = .ok (.iconst (-1), 1) := by decide +kernel
theorem d_O_tree_42 : decode b_O_tree 42 = .ok (.ireturn, 1) := by decide +kernel
theorem d_O_node_0 : decode b_O_node 0 = .ok (.iload_n 1, 1) := by decide +kernel
theorem d_O_node_1 : decode b_O_node 1 = .ok (.ifCond .lt 18, 3) := by decide +kernel
theorem d_O_node_4 : decode b_O_node 4 = .ok (.iload_n 1, 1) := by decide +kernel
theorem d_O_node_5 : decode b_O_node 5 = .ok (.bipush 7, 2) := by decide +kernel
theorem d_O_node_7 : decode b_O_node 7 = .ok (.if_icmp .ge 12, 3) := by decide +kernel
theorem d_O_node_10 : decode b_O_node 10 = .ok (.iload_n 2, 1) := by decide +kernel
theorem d_O_node_11 : decode b_O_node 11 = .ok (.ifCond .lt 8, 3) := by decide +kernel
theorem d_O_node_14 : decode b_O_node 14 = .ok (.iload_n 2, 1) := by decide +kernel
theorem d_O_node_15 : decode b_O_node 15 = .ok (.iconst 2, 1) := by decide +kernel
theorem d_O_node_16 : decode b_O_node 16 = .ok (.if_icmp .le 6, 3) := by decide +kernel
theorem d_O_node_19 : decode b_O_node 19 = .ok (.bipush (-2), 2) := by decide +kernel
theorem d_O_node_21 : decode b_O_node 21 = .ok (.ireturn, 1) := by decide +kernel
theorem d_O_node_22 : decode b_O_node 22 = .ok (.iload_n 1, 1) := by decide +kernel
theorem d_O_node_23 : decode b_O_node 23 = .ok (.aload_n 0, 1) := by decide +kernel
theorem d_O_node_24 : decode b_O_node 24 = .ok (.getfield 42, 3) := by decide +kernel
theorem d_O_node_27 : decode b_O_node 27 = .ok (.invokevirtual 127, 3) := by decide +kernel
theorem d_O_node_30 : decode b_O_node 30 = .ok (.if_icmp .lt 5, 3) := by decide +kernel
theorem d_O_node_33 : decode b_O_node 33 = .ok (.iconst (-1), 1) := by decide +kernel
theorem d_O_node_34 : decode b_O_node 34 = .ok (.ireturn, 1) := by decide +kernel
theorem d_O_node_35 : decode b_O_node 35 = .ok (.iload_n 2, 1) := by decide +kernel
theorem d_O_node_36 : decode b_O_node 36 = .ok (.ifCond .ne 20, 3) := by decide +kernel
theorem d_O_node_39 : decode b_O_node 39 = .ok (.aload_n 0, 1) := by decide +kernel
theorem d_O_node_40 : decode b_O_node 40 = .ok (.getfield 42, 3) := by decide +kernel
theorem d_O_node_43 : decode b_O_node 43 = .ok (.iload_n 1, 1) := by decide +kernel
theorem d_O_node_44 : decode b_O_node 44 = .ok (.invokevirtual 131, 3) := by decide +kernel
theorem d_O_node_47 : decode b_O_node 47 = .ok (.ifCond .eq 7, 3) := by decide +kernel
theorem d_O_node_50 : decode b_O_node 50 = .ok (.iconst 1, 1) := by decide +kernel
theorem d_O_node_51 : decode b_O_node 51 = .ok (.goto 4, 3) := by decide +kernel
theorem d_O_node_54 : decode b_O_node 54 = .ok (.iconst 0, 1) := by decide +kernel
theorem d_O_node_55 : decode b_O_node 55 = .ok (.ireturn, 1) := by decide +kernel
theorem d_O_node_56 : decode b_O_node 56 = .ok (.iload_n 2, 1) := by decide +kernel
theorem d_O_node_57 : decode b_O_node 57 = .ok (.iconst 1, 1) := by decide +kernel
theorem d_O_node_58 : decode b_O_node 58 = .ok (.if_icmp .ne 14, 3) := by decide +kernel
theorem d_O_node_61 : decode b_O_node 61 = .ok (.aload_n 0, 1) := by decide +kernel
theorem d_O_node_62 : decode b_O_node 62 = .ok (.getfield 42, 3) := by decide +kernel
theorem d_O_node_65 : decode b_O_node 65 = .ok (.iload_n 1, 1) := by decide +kernel
theorem d_O_node_66 : decode b_O_node 66 = .ok (.invokevirtual 134, 3) := by decide +kernel
theorem d_O_node_69 : decode b_O_node 69 = .ok (.goto 11, 3) := by decide +kernel
theorem d_O_node_72 : decode b_O_node 72 = .ok (.aload_n 0, 1) := by decide +kernel
theorem d_O_node_73 : decode b_O_node 73 = .ok (.getfield 42, 3) := by decide +kernel
theorem d_O_node_76 : decode b_O_node 76 = .ok (.iload_n 1, 1) := by decide +kernel
theorem d_O_node_77 : decode b_O_node 77 = .ok (.invokevirtual 137, 3) := by decide +kernel
theorem d_O_node_80 : decode b_O_node 80 = .ok (.ireturn, 1) := by decide +kernel
theorem d_O_isRowNumber_0 : decode b_O_isRowNumber 0 = .ok (.iload_n 0, 1) := by decide +kernel
theorem d_O_isRowNumber_1 : decode b_O_isRowNumber 1 = .ok (.ifCond .lt 13, 3) := by decide +kernel
theorem d_O_isRowNumber_4 : decode b_O_isRowNumber 4 = .ok (.iload_n 0, 1) := by decide +kernel
theorem d_O_isRowNumber_5 : decode b_O_isRowNumber 5 = .ok (.ldc 255, 2) := by decide +kernel
theorem d_O_isRowNumber_7 : decode b_O_isRowNumber 7 = .ok (.if_icmp .ge 7, 3) := by decide +kernel
theorem d_O_isRowNumber_10 : decode b_O_isRowNumber 10 = .ok (.iconst 1, 1) := by decide +kernel
theorem d_O_isRowNumber_11 : decode b_O_isRowNumber 11 = .ok (.goto 4, 3) := by decide +kernel
theorem d_O_isRowNumber_14 : decode b_O_isRowNumber 14 = .ok (.iconst 0, 1) := by decide +kernel
theorem d_O_isRowNumber_15 : decode b_O_isRowNumber 15 = .ok (.ireturn, 1) := by decide +kernel
theorem d_O_row_0 : decode b_O_row 0 = .ok (.iload_n 1, 1) := by decide +kernel
theorem d_O_row_1 : decode b_O_row 1 = .ok (.invokestatic 140, 3) := by decide +kernel
theorem d_O_row_4 : decode b_O_row 4 = .ok (.ifCond .eq 13, 3) := by decide +kernel
theorem d_O_row_7 : decode b_O_row 7 = .ok (.iload_n 2, 1) := by decide +kernel
theorem d_O_row_8 : decode b_O_row 8 = .ok (.ifCond .lt 9, 3) := by decide +kernel
theorem d_O_row_11 : decode b_O_row 11 = .ok (.iload_n 2, 1) := by decide +kernel
theorem d_O_row_12 : decode b_O_row 12 = .ok (.bipush 8, 2) := by decide +kernel
theorem d_O_row_14 : decode b_O_row 14 = .ok (.if_icmp .lt 6, 3) := by decide +kernel
theorem d_O_row_17 : decode b_O_row 17 = .ok (.bipush (-2), 2) := by decide +kernel
theorem d_O_row_19 : decode b_O_row 19 = .ok (.ireturn, 1) := by decide +kernel
theorem d_O_row_20 : decode b_O_row 20 = .ok (.iload_n 1, 1) := by decide +kernel
theorem d_O_row_21 : decode b_O_row 21 = .ok (.i2l, 1) := by decide +kernel
theorem d_O_row_22 : decode b_O_row 22 = .ok (.aload_n 0, 1) := by decide +kernel
theorem d_O_row_23 : decode b_O_row 23 = .ok (.getfield 42, 3) := by decide +kernel
theorem d_O_row_26 : decode b_O_row 26 = .ok (.invokevirtual 123, 3) := by decide +kernel
theorem d_O_row_29 : decode b_O_row 29 = .ok (.lcmp, 1) := by decide +kernel
theorem d_O_row_30 : decode b_O_row 30 = .ok (.ifCond .ge 11, 3) := by decide +kernel
theorem d_O_row_33 : decode b_O_row 33 = .ok (.iload_n 2, 1) := by decide +kernel
theorem d_O_row_34 : decode b_O_row 34 = .ok (.aload_n 0, 1) := by decide +kernel
theorem d_O_row_35 : decode b_O_row 35 = .ok (.getfield 9, 3) := by decide +kernel
theorem d_O_row_38 : decode b_O_row 38 = .ok (.if_icmp .lt 5, 3) := by decide +kernel
theorem d_O_row_41 : decode b_O_row 41 = .ok (.iconst (-1), 1) := by decide +kernel
theorem d_O_row_42 : decode b_O_row 42 = .ok (.ireturn, 1) := by decide +kernel
theorem d_O_row_43 : decode b_O_row 43 = .ok (.aload_n 0, 1) := by decide +kernel
theorem d_O_row_44 : decode b_O_row 44 = .ok (.getfield 42, 3) := by decide +kernel
theorem d_O_row_47 : decode b_O_row 47 = .ok (.iload_n 1, 1) := by decide +kernel
theorem d_O_row_48 : decode b_O_row 48 = .ok (.aload_n 0, 1) := by decide +kernel
theorem d_O_row_49 : decode b_O_row 49 = .ok (.getfield 58, 3) := by decide +kernel
theorem d_O_row_52 : decode b_O_row 52 = .ok (.invokevirtual 143, 3) := by decide +kernel
theorem d_O_row_55 : decode b_O_row 55 = .ok (.aload_n 0, 1) := by decide +kernel
theorem d_O_row_56 : decode b_O_row 56 = .ok (.getfield 58, 3) := by decide +kernel
theorem d_O_row_59 : decode b_O_row 59 = .ok (.iload_n 2, 1) := by decide +kernel
theorem d_O_row_60 : decode b_O_row 60 = .ok (.iaload, 1) := by decide +kernel
theorem d_O_row_61 : decode b_O_row 61 = .ok (.ireturn, 1) := by decide +kernel
theorem d_O_isSetOfThings_0 : decode b_O_isSetOfThings 0 = .ok (.iload_n 1, 1) := by decide +kernel
theorem d_O_isSetOfThings_1 : decode b_O_isSetOfThings 1 = .ok (.invokestatic 67, 3) := by decide +kernel
theorem d_O_isSetOfThings_4 : decode b_O_isSetOfThings 4 = .ok (.ifCond .eq 16, 3) := by decide +kernel
theorem d_O_isSetOfThings_7 : decode b_O_isSetOfThings 7 = .ok (.iload_n 1, 1) := by decide +kernel
theorem d_O_isSetOfThings_8 : decode b_O_isSetOfThings 8 = .ok (.aload_n 0, 1) := by decide +kernel
theorem d_O_isSetOfThings_9 : decode b_O_isSetOfThings 9 = .ok (.getfield 9, 3) := by decide +kernel
theorem d_O_isSetOfThings_12 : decode b_O_isSetOfThings 12 = .ok (.ishr, 1) := by decide +kernel
theorem d_O_isSetOfThings_13 : decode b_O_isSetOfThings 13 = .ok (.ifCond .ne 7, 3) := by decide +kernel
theorem d_O_isSetOfThings_16 : decode b_O_isSetOfThings 16 = .ok (.iconst 1, 1) := by decide +kernel
theorem d_O_isSetOfThings_17 : decode b_O_isSetOfThings 17 = .ok (.goto 4, 3) := by decide +kernel
theorem d_O_isSetOfThings_20 : decode b_O_isSetOfThings 20 = .ok (.iconst 0, 1) := by decide +kernel
theorem d_O_isSetOfThings_21 : decode b_O_isSetOfThings 21 = .ok (.ireturn, 1) := by decide +kernel
theorem d_O_may_0 : decode b_O_may 0 = .ok (.aload_n 0, 1) := by decide +kernel
theorem d_O_may_1 : decode b_O_may 1 = .ok (.iload_n 1, 1) := by decide +kernel
theorem d_O_may_2 : decode b_O_may 2 = .ok (.invokevirtual 147, 3) := by decide +kernel
theorem d_O_may_5 : decode b_O_may 5 = .ok (.ifCond .ne 6, 3) := by decide +kernel
theorem d_O_may_8 : decode b_O_may 8 = .ok (.bipush (-2), 2) := by decide +kernel
theorem d_O_may_10 : decode b_O_may 10 = .ok (.ireturn, 1) := by decide +kernel
theorem d_O_may_11 : decode b_O_may 11 = .ok (.aload_n 0, 1) := by decide +kernel
theorem d_O_may_12 : decode b_O_may 12 = .ok (.getfield 55, 3) := by decide +kernel
theorem d_O_may_15 : decode b_O_may 15 = .ok (.aload_n 0, 1) := by decide +kernel
theorem d_O_may_16 : decode b_O_may 16 = .ok (.getfield 42, 3) := by decide +kernel
theorem d_O_may_19 : decode b_O_may 19 = .ok (.invokevirtual 100, 3) := by decide +kernel
theorem d_O_may_22 : decode b_O_may 22 = .ok (.aload_n 0, 1) := by decide +kernel
theorem d_O_may_23 : decode b_O_may 23 = .ok (.getfield 55, 3) := by decide +kernel
theorem d_O_may_26 : decode b_O_may 26 = .ok (.iload_n 1, 1) := by decide +kernel
theorem d_O_may_27 : decode b_O_may 27 = .ok (.invokevirtual 97, 3) := by decide +kernel
theorem d_O_may_30 : decode b_O_may 30 = .ok (.ifCond .eq 7, 3) := by decide +kernel
theorem d_O_may_33 : decode b_O_may 33 = .ok (.iconst 1, 1) := by decide +kernel
theorem d_O_may_34 : decode b_O_may 34 = .ok (.goto 4, 3) := by decide +kernel
theorem d_O_may_37 : decode b_O_may 37 = .ok (.iconst 0, 1) := by decide +kernel
theorem d_O_may_38 : decode b_O_may 38 = .ok (.ireturn, 1) := by decide +kernel
theorem d_O_must_0 : decode b_O_must 0 = .ok (.aload_n 0, 1) := by decide +kernel
theorem d_O_must_1 : decode b_O_must 1 = .ok (.iload_n 1, 1) := by decide +kernel
theorem d_O_must_2 : decode b_O_must 2 = .ok (.invokevirtual 147, 3) := by decide +kernel
theorem d_O_must_5 : decode b_O_must 5 = .ok (.ifCond .ne 6, 3) := by decide +kernel
theorem d_O_must_8 : decode b_O_must 8 = .ok (.bipush (-2), 2) := by decide +kernel
theorem d_O_must_10 : decode b_O_must 10 = .ok (.ireturn, 1) := by decide +kernel
theorem d_O_must_11 : decode b_O_must 11 = .ok (.aload_n 0, 1) := by decide +kernel
theorem d_O_must_12 : decode b_O_must 12 = .ok (.getfield 55, 3) := by decide +kernel
theorem d_O_must_15 : decode b_O_must 15 = .ok (.aload_n 0, 1) := by decide +kernel
theorem d_O_must_16 : decode b_O_must 16 = .ok (.getfield 42, 3) := by decide +kernel
theorem d_O_must_19 : decode b_O_must 19 = .ok (.invokevirtual 100, 3) := by decide +kernel
theorem d_O_must_22 : decode b_O_must 22 = .ok (.aload_n 0, 1) := by decide +kernel
theorem d_O_must_23 : decode b_O_must 23 = .ok (.getfield 55, 3) := by decide +kernel
theorem d_O_must_26 : decode b_O_must 26 = .ok (.iload_n 1, 1) := by decide +kernel
theorem d_O_must_27 : decode b_O_must 27 = .ok (.invokevirtual 97, 3) := by decide +kernel
theorem d_O_must_30 : decode b_O_must 30 = .ok (.ifCond .eq 25, 3) := by decide +kernel
theorem d_O_must_33 : decode b_O_must 33 = .ok (.aload_n 0, 1) := by decide +kernel
theorem d_O_must_34 : decode b_O_must 34 = .ok (.getfield 55, 3) := by decide +kernel
theorem d_O_must_37 : decode b_O_must 37 = .ok (.invokevirtual 123, 3) := by decide +kernel
theorem d_O_must_40 : decode b_O_must 40 = .ok (.aload_n 0, 1) := by decide +kernel
theorem d_O_must_41 : decode b_O_must 41 = .ok (.getfield 42, 3) := by decide +kernel
theorem d_O_must_44 : decode b_O_must 44 = .ok (.invokevirtual 123, 3) := by decide +kernel
theorem d_O_must_47 : decode b_O_must 47 = .ok (.lcmp, 1) := by decide +kernel
theorem d_O_must_48 : decode b_O_must 48 = .ok (.ifCond .ne 7, 3) := by decide +kernel
theorem d_O_must_51 : decode b_O_must 51 = .ok (.iconst 1, 1) := by decide +kernel
theorem d_O_must_52 : decode b_O_must 52 = .ok (.goto 4, 3) := by decide +kernel
theorem d_O_must_55 : decode b_O_must 55 = .ok (.iconst 0, 1) := by decide +kernel
theorem d_O_must_56 : decode b_O_must 56 = .ok (.ireturn, 1) := by decide +kernel
theorem d_O_isThing_0 : decode b_O_isThing 0 = .ok (.iload_n 1, 1) := by decide +kernel
theorem d_O_isThing_1 : decode b_O_isThing 1 = .ok (.ifCond .lt 15, 3) := by decide +kernel
theorem d_O_isThing_4 : decode b_O_isThing 4 = .ok (.iload_n 1, 1) := by decide +kernel
theorem d_O_isThing_5 : decode b_O_isThing 5 = .ok (.aload_n 0, 1) := by decide +kernel
theorem d_O_isThing_6 : decode b_O_isThing 6 = .ok (.getfield 9, 3) := by decide +kernel
theorem d_O_isThing_9 : decode b_O_isThing 9 = .ok (.if_icmp .ge 7, 3) := by decide +kernel
theorem d_O_isThing_12 : decode b_O_isThing 12 = .ok (.iconst 1, 1) := by decide +kernel
theorem d_O_isThing_13 : decode b_O_isThing 13 = .ok (.goto 4, 3) := by decide +kernel
theorem d_O_isThing_16 : decode b_O_isThing 16 = .ok (.iconst 0, 1) := by decide +kernel
theorem d_O_isThing_17 : decode b_O_isThing 17 = .ok (.ireturn, 1) := by decide +kernel
theorem d_O_apart_0 : decode b_O_apart 0 = .ok (.aload_n 0, 1) := by decide +kernel
theorem d_O_apart_1 : decode b_O_apart 1 = .ok (.iload_n 1, 1) := by decide +kernel
theorem d_O_apart_2 : decode b_O_apart 2 = .ok (.invokevirtual 150, 3) := by decide +kernel
theorem d_O_apart_5 : decode b_O_apart 5 = .ok (.ifCond .eq 25, 3) := by decide +kernel
theorem d_O_apart_8 : decode b_O_apart 8 = .ok (.aload_n 0, 1) := by decide +kernel
theorem d_O_apart_9 : decode b_O_apart 9 = .ok (.iload_n 2, 1) := by decide +kernel
theorem d_O_apart_10 : decode b_O_apart 10 = .ok (.invokevirtual 150, 3) := by decide +kernel
theorem d_O_apart_13 : decode b_O_apart 13 = .ok (.ifCond .eq 17, 3) := by decide +kernel
theorem d_O_apart_16 : decode b_O_apart 16 = .ok (.iload_n 1, 1) := by decide +kernel
theorem d_O_apart_17 : decode b_O_apart 17 = .ok (.iload_n 2, 1) := by decide +kernel
theorem d_O_apart_18 : decode b_O_apart 18 = .ok (.if_icmp .eq 12, 3) := by decide +kernel
theorem d_O_apart_21 : decode b_O_apart 21 = .ok (.iload_n 3, 1) := by decide +kernel
theorem d_O_apart_22 : decode b_O_apart 22 = .ok (.ifCond .lt 8, 3) := by decide +kernel
theorem d_O_apart_25 : decode b_O_apart 25 = .ok (.iload_n 3, 1) := by decide +kernel
theorem d_O_apart_26 : decode b_O_apart 26 = .ok (.iconst 1, 1) := by decide +kernel
theorem d_O_apart_27 : decode b_O_apart 27 = .ok (.if_icmp .le 6, 3) := by decide +kernel
theorem d_O_apart_30 : decode b_O_apart 30 = .ok (.bipush (-2), 2) := by decide +kernel
theorem d_O_apart_32 : decode b_O_apart 32 = .ok (.ireturn, 1) := by decide +kernel
theorem d_O_apart_33 : decode b_O_apart 33 = .ok (.aload_n 0, 1) := by decide +kernel
theorem d_O_apart_34 : decode b_O_apart 34 = .ok (.getfield 42, 3) := by decide +kernel
theorem d_O_apart_37 : decode b_O_apart 37 = .ok (.iload_n 1, 1) := by decide +kernel
theorem d_O_apart_38 : decode b_O_apart 38 = .ok (.iload_n 2, 1) := by decide +kernel
theorem d_O_apart_39 : decode b_O_apart 39 = .ok (.iload_n 3, 1) := by decide +kernel
theorem d_O_apart_40 : decode b_O_apart 40 = .ok (.iconst 1, 1) := by decide +kernel
theorem d_O_apart_41 : decode b_O_apart 41 = .ok (.if_icmp .ne 7, 3) := by decide +kernel
theorem d_O_apart_44 : decode b_O_apart 44 = .ok (.iconst 1, 1) := by decide +kernel
theorem d_O_apart_45 : decode b_O_apart 45 = .ok (.goto 4, 3) := by decide +kernel
theorem d_O_apart_48 : decode b_O_apart 48 = .ok (.iconst 0, 1) := by decide +kernel
theorem d_O_apart_49 : decode b_O_apart 49 = .ok (.invokevirtual 153, 3) := by decide +kernel
theorem d_O_apart_52 : decode b_O_apart 52 = .ok (.ireturn, 1) := by decide +kernel
theorem d_O_spare_0 : decode b_O_spare 0 = .ok (.iconst 0, 1) := by decide +kernel
theorem d_O_spare_1 : decode b_O_spare 1 = .ok (.istore_n 1, 1) := by decide +kernel
theorem d_O_spare_2 : decode b_O_spare 2 = .ok (.aload_n 0, 1) := by decide +kernel
theorem d_O_spare_3 : decode b_O_spare 3 = .ok (.getfield 42, 3) := by decide +kernel
theorem d_O_spare_6 : decode b_O_spare 6 = .ok (.invokevirtual 123, 3) := by decide +kernel
theorem d_O_spare_9 : decode b_O_spare 9 = .ok (.lstore_n 2, 1) := by decide +kernel
theorem d_O_spare_10 : decode b_O_spare 10 = .ok (.aload_n 0, 1) := by decide +kernel
theorem d_O_spare_11 : decode b_O_spare 11 = .ok (.getfield 52, 3) := by decide +kernel
theorem d_O_spare_14 : decode b_O_spare 14 = .ok (.aload_n 0, 1) := by decide +kernel
theorem d_O_spare_15 : decode b_O_spare 15 = .ok (.getfield 9, 3) := by decide +kernel
theorem d_O_spare_18 : decode b_O_spare 18 = .ok (.invokevirtual 94, 3) := by decide +kernel
theorem d_O_spare_21 : decode b_O_spare 21 = .ok (.iconst 0, 1) := by decide +kernel
theorem d_O_spare_22 : decode b_O_spare 22 = .ok (.istore 4, 2) := by decide +kernel
theorem d_O_spare_24 : decode b_O_spare 24 = .ok (.iload 4, 2) := by decide +kernel
theorem d_O_spare_26 : decode b_O_spare 26 = .ok (.aload_n 0, 1) := by decide +kernel
theorem d_O_spare_27 : decode b_O_spare 27 = .ok (.getfield 17, 3) := by decide +kernel
theorem d_O_spare_30 : decode b_O_spare 30 = .ok (.if_icmp .ge 111, 3) := by decide +kernel
theorem d_O_spare_33 : decode b_O_spare 33 = .ok (.aload_n 0, 1) := by decide +kernel
theorem d_O_spare_34 : decode b_O_spare 34 = .ok (.iload 4, 2) := by decide +kernel
theorem d_O_spare_36 : decode b_O_spare 36 = .ok (.invokevirtual 91, 3) := by decide +kernel
theorem d_O_spare_39 : decode b_O_spare 39 = .ok (.ifCond .ne 6, 3) := by decide +kernel
theorem d_O_spare_42 : decode b_O_spare 42 = .ok (.goto 93, 3) := by decide +kernel
theorem d_O_spare_45 : decode b_O_spare 45 = .ok (.aload_n 0, 1) := by decide +kernel
theorem d_O_spare_46 : decode b_O_spare 46 = .ok (.getfield 55, 3) := by decide +kernel
theorem d_O_spare_49 : decode b_O_spare 49 = .ok (.aload_n 0, 1) := by decide +kernel
theorem d_O_spare_50 : decode b_O_spare 50 = .ok (.getfield 52, 3) := by decide +kernel
theorem d_O_spare_53 : decode b_O_spare 53 = .ok (.invokevirtual 100, 3) := by decide +kernel
theorem d_O_spare_56 : decode b_O_spare 56 = .ok (.iload 4, 2) := by decide +kernel
theorem d_O_spare_58 : decode b_O_spare 58 = .ok (.iconst 1, 1) := by decide +kernel
theorem d_O_spare_59 : decode b_O_spare 59 = .ok (.iadd, 1) := by decide +kernel
theorem d_O_spare_60 : decode b_O_spare 60 = .ok (.istore 5, 2) := by decide +kernel
theorem d_O_spare_62 : decode b_O_spare 62 = .ok (.iload 5, 2) := by decide +kernel
theorem d_O_spare_64 : decode b_O_spare 64 = .ok (.aload_n 0, 1) := by decide +kernel
theorem d_O_spare_65 : decode b_O_spare 65 = .ok (.getfield 17, 3) := by decide +kernel
theorem d_O_spare_68 : decode b_O_spare 68 = .ok (.if_icmp .ge 33, 3) := by decide +kernel
theorem d_O_spare_71 : decode b_O_spare 71 = .ok (.aload_n 0, 1) := by decide +kernel
theorem d_O_spare_72 : decode b_O_spare 72 = .ok (.iload 5, 2) := by decide +kernel
theorem d_O_spare_74 : decode b_O_spare 74 = .ok (.invokevirtual 91, 3) := by decide +kernel
theorem d_O_spare_77 : decode b_O_spare 77 = .ok (.ifCond .eq 18, 3) := by decide +kernel
theorem d_O_spare_80 : decode b_O_spare 80 = .ok (.aload_n 0, 1) := by decide +kernel
theorem d_O_spare_81 : decode b_O_spare 81 = .ok (.getfield 55, 3) := by decide +kernel
theorem d_O_spare_84 : decode b_O_spare 84 = .ok (.aload_n 0, 1) := by decide +kernel
theorem d_O_spare_85 : decode b_O_spare 85 = .ok (.getfield 13, 3) := by decide +kernel
theorem d_O_spare_88 : decode b_O_spare 88 = .ok (.iload 5, 2) := by decide +kernel
theorem d_O_spare_90 : decode b_O_spare 90 = .ok (.iaload, 1) := by decide +kernel
theorem d_O_spare_91 : decode b_O_spare 91 = .ok (.invokevirtual 97, 3) := by decide +kernel
theorem d_O_spare_94 : decode b_O_spare 94 = .ok (.pop, 1) := by decide +kernel
theorem d_O_spare_95 : decode b_O_spare 95 = .ok (.iinc 5 1, 3) := by decide +kernel
theorem d_O_spare_98 : decode b_O_spare 98 = .ok (.goto (-36), 3) := by decide +kernel
theorem d_O_spare_101 : decode b_O_spare 101 = .ok (.aload_n 0, 1) := by decide +kernel
theorem d_O_spare_102 : decode b_O_spare 102 = .ok (.getfield 55, 3) := by decide +kernel
theorem d_O_spare_105 : decode b_O_spare 105 = .ok (.invokevirtual 123, 3) := by decide +kernel
theorem d_O_spare_108 : decode b_O_spare 108 = .ok (.lload_n 2, 1) := by decide +kernel
theorem d_O_spare_109 : decode b_O_spare 109 = .ok (.lcmp, 1) := by decide +kernel
theorem d_O_spare_110 : decode b_O_spare 110 = .ok (.ifCond .ne 10, 3) := by decide +kernel
theorem d_O_spare_113 : decode b_O_spare 113 = .ok (.iload_n 1, 1) := by decide +kernel
theorem d_O_spare_114 : decode b_O_spare 114 = .ok (.iconst 1, 1) := by decide +kernel
theorem d_O_spare_115 : decode b_O_spare 115 = .ok (.iload 4, 2) := by decide +kernel
theorem d_O_spare_117 : decode b_O_spare 117 = .ok (.ishl, 1) := by decide +kernel
theorem d_O_spare_118 : decode b_O_spare 118 = .ok (.ior, 1) := by decide +kernel
theorem d_O_spare_119 : decode b_O_spare 119 = .ok (.istore_n 1, 1) := by decide +kernel
theorem d_O_spare_120 : decode b_O_spare 120 = .ok (.aload_n 0, 1) := by decide +kernel
theorem d_O_spare_121 : decode b_O_spare 121 = .ok (.getfield 52, 3) := by decide +kernel
theorem d_O_spare_124 : decode b_O_spare 124 = .ok (.aload_n 0, 1) := by decide +kernel
theorem d_O_spare_125 : decode b_O_spare 125 = .ok (.getfield 13, 3) := by decide +kernel
theorem d_O_spare_128 : decode b_O_spare 128 = .ok (.iload 4, 2) := by decide +kernel
theorem d_O_spare_130 : decode b_O_spare 130 = .ok (.iaload, 1) := by decide +kernel
theorem d_O_spare_131 : decode b_O_spare 131 = .ok (.invokevirtual 97, 3) := by decide +kernel
theorem d_O_spare_134 : decode b_O_spare 134 = .ok (.pop, 1) := by decide +kernel
theorem d_O_spare_135 : decode b_O_spare 135 = .ok (.iinc 4 1, 3) := by decide +kernel
theorem d_O_spare_138 : decode b_O_spare 138 = .ok (.goto (-114), 3) := by decide +kernel
theorem d_O_spare_141 : decode b_O_spare 141 = .ok (.iload_n 1, 1) := by decide +kernel
theorem d_O_spare_142 : decode b_O_spare 142 = .ok (.ireturn, 1) := by decide +kernel
theorem d_O_type_0 : decode b_O_type 0 = .ok (.iload_n 1, 1) := by decide +kernel
theorem d_O_type_1 : decode b_O_type 1 = .ok (.ifCond .lt 10, 3) := by decide +kernel
theorem d_O_type_4 : decode b_O_type 4 = .ok (.iload_n 1, 1) := by decide +kernel
theorem d_O_type_5 : decode b_O_type 5 = .ok (.sipush 256, 3) := by decide +kernel
theorem d_O_type_8 : decode b_O_type 8 = .ok (.if_icmp .lt 6, 3) := by decide +kernel
theorem d_O_type_11 : decode b_O_type 11 = .ok (.bipush (-2), 2) := by decide +kernel
theorem d_O_type_13 : decode b_O_type 13 = .ok (.ireturn, 1) := by decide +kernel
theorem d_O_type_14 : decode b_O_type 14 = .ok (.aload_n 0, 1) := by decide +kernel
theorem d_O_type_15 : decode b_O_type 15 = .ok (.getfield 26, 3) := by decide +kernel
theorem d_O_type_18 : decode b_O_type 18 = .ok (.bipush 8, 2) := by decide +kernel
theorem d_O_type_20 : decode b_O_type 20 = .ok (.if_icmp .lt 6, 3) := by decide +kernel
theorem d_O_type_23 : decode b_O_type 23 = .ok (.bipush (-4), 2) := by decide +kernel
theorem d_O_type_25 : decode b_O_type 25 = .ok (.ireturn, 1) := by decide +kernel
theorem d_O_type_26 : decode b_O_type 26 = .ok (.aload_n 0, 1) := by decide +kernel
theorem d_O_type_27 : decode b_O_type 27 = .ok (.getfield 23, 3) := by decide +kernel
theorem d_O_type_30 : decode b_O_type 30 = .ok (.aload_n 0, 1) := by decide +kernel
theorem d_O_type_31 : decode b_O_type 31 = .ok (.getfield 26, 3) := by decide +kernel
theorem d_O_type_34 : decode b_O_type 34 = .ok (.iload_n 1, 1) := by decide +kernel
theorem d_O_type_35 : decode b_O_type 35 = .ok (.iastore, 1) := by decide +kernel
theorem d_O_type_36 : decode b_O_type 36 = .ok (.aload_n 0, 1) := by decide +kernel
theorem d_O_type_37 : decode b_O_type 37 = .ok (.dup, 1) := by decide +kernel
theorem d_O_type_38 : decode b_O_type 38 = .ok (.getfield 26, 3) := by decide +kernel
theorem d_O_type_41 : decode b_O_type 41 = .ok (.iconst 1, 1) := by decide +kernel
theorem d_O_type_42 : decode b_O_type 42 = .ok (.iadd, 1) := by decide +kernel
theorem d_O_type_43 : decode b_O_type 43 = .ok (.putfield 26, 3) := by decide +kernel
theorem d_O_type_46 : decode b_O_type 46 = .ok (.aload_n 0, 1) := by decide +kernel
theorem d_O_type_47 : decode b_O_type 47 = .ok (.getfield 26, 3) := by decide +kernel
theorem d_O_type_50 : decode b_O_type 50 = .ok (.ireturn, 1) := by decide +kernel
theorem d_O_wipe_0 : decode b_O_wipe 0 = .ok (.aload_n 0, 1) := by decide +kernel
theorem d_O_wipe_1 : decode b_O_wipe 1 = .ok (.getfield 26, 3) := by decide +kernel
theorem d_O_wipe_4 : decode b_O_wipe 4 = .ok (.istore_n 1, 1) := by decide +kernel
theorem d_O_wipe_5 : decode b_O_wipe 5 = .ok (.aload_n 0, 1) := by decide +kernel
theorem d_O_wipe_6 : decode b_O_wipe 6 = .ok (.iconst 0, 1) := by decide +kernel
theorem d_O_wipe_7 : decode b_O_wipe 7 = .ok (.putfield 26, 3) := by decide +kernel
theorem d_O_wipe_10 : decode b_O_wipe 10 = .ok (.iload_n 1, 1) := by decide +kernel
theorem d_O_wipe_11 : decode b_O_wipe 11 = .ok (.ireturn, 1) := by decide +kernel
theorem d_O_undo_0 : decode b_O_undo 0 = .ok (.aload_n 0, 1) := by decide +kernel
theorem d_O_undo_1 : decode b_O_undo 1 = .ok (.getfield 26, 3) := by decide +kernel
theorem d_O_undo_4 : decode b_O_undo 4 = .ok (.iconst 1, 1) := by decide +kernel
theorem d_O_undo_5 : decode b_O_undo 5 = .ok (.if_icmp .ge 6, 3) := by decide +kernel
theorem d_O_undo_8 : decode b_O_undo 8 = .ok (.bipush (-3), 2) := by decide +kernel
theorem d_O_undo_10 : decode b_O_undo 10 = .ok (.ireturn, 1) := by decide +kernel
theorem d_O_undo_11 : decode b_O_undo 11 = .ok (.aload_n 0, 1) := by decide +kernel
theorem d_O_undo_12 : decode b_O_undo 12 = .ok (.dup, 1) := by decide +kernel
theorem d_O_undo_13 : decode b_O_undo 13 = .ok (.getfield 26, 3) := by decide +kernel
theorem d_O_undo_16 : decode b_O_undo 16 = .ok (.iconst 1, 1) := by decide +kernel
theorem d_O_undo_17 : decode b_O_undo 17 = .ok (.isub, 1) := by decide +kernel
theorem d_O_undo_18 : decode b_O_undo 18 = .ok (.putfield 26, 3) := by decide +kernel
theorem d_O_undo_21 : decode b_O_undo 21 = .ok (.aload_n 0, 1) := by decide +kernel
theorem d_O_undo_22 : decode b_O_undo 22 = .ok (.getfield 26, 3) := by decide +kernel
theorem d_O_undo_25 : decode b_O_undo 25 = .ok (.ireturn, 1) := by decide +kernel
theorem d_O_fault_0 : decode b_O_fault 0 = .ok (.iconst 0, 1) := by decide +kernel
theorem d_O_fault_1 : decode b_O_fault 1 = .ok (.istore_n 1, 1) := by decide +kernel
theorem d_O_fault_2 : decode b_O_fault 2 = .ok (.iconst 0, 1) := by decide +kernel
theorem d_O_fault_3 : decode b_O_fault 3 = .ok (.istore_n 2, 1) := by decide +kernel
theorem d_O_fault_4 : decode b_O_fault 4 = .ok (.iload_n 2, 1) := by decide +kernel
theorem d_O_fault_5 : decode b_O_fault 5 = .ok (.aload_n 0, 1) := by decide +kernel
theorem d_O_fault_6 : decode b_O_fault 6 = .ok (.getfield 26, 3) := by decide +kernel
theorem d_O_fault_9 : decode b_O_fault 9 = .ok (.if_icmp .ge 43, 3) := by decide +kernel
theorem d_O_fault_12 : decode b_O_fault 12 = .ok (.aload_n 0, 1) := by decide +kernel
theorem d_O_fault_13 : decode b_O_fault 13 = .ok (.getfield 23, 3) := by decide +kernel
theorem d_O_fault_16 : decode b_O_fault 16 = .ok (.iload_n 2, 1) := by decide +kernel
theorem d_O_fault_17 : decode b_O_fault 17 = .ok (.iaload, 1) := by decide +kernel
theorem d_O_fault_18 : decode b_O_fault 18 = .ok (.bipush 97, 2) := by decide +kernel
theorem d_O_fault_20 : decode b_O_fault 20 = .ok (.isub, 1) := by decide +kernel
theorem d_O_fault_21 : decode b_O_fault 21 = .ok (.istore_n 3, 1) := by decide +kernel
theorem d_O_fault_22 : decode b_O_fault 22 = .ok (.aload_n 0, 1) := by decide +kernel
theorem d_O_fault_23 : decode b_O_fault 23 = .ok (.iload_n 3, 1) := by decide +kernel
theorem d_O_fault_24 : decode b_O_fault 24 = .ok (.invokevirtual 150, 3) := by decide +kernel
theorem d_O_fault_27 : decode b_O_fault 27 = .ok (.ifCond .eq 11, 3) := by decide +kernel
theorem d_O_fault_30 : decode b_O_fault 30 = .ok (.iload_n 1, 1) := by decide +kernel
theorem d_O_fault_31 : decode b_O_fault 31 = .ok (.iload_n 3, 1) := by decide +kernel
theorem d_O_fault_32 : decode b_O_fault 32 = .ok (.ishr, 1) := by decide +kernel
theorem d_O_fault_33 : decode b_O_fault 33 = .ok (.iconst 1, 1) := by decide +kernel
theorem d_O_fault_34 : decode b_O_fault 34 = .ok (.iand, 1) := by decide +kernel
theorem d_O_fault_35 : decode b_O_fault 35 = .ok (.ifCond .eq 5, 3) := by decide +kernel
theorem d_O_fault_38 : decode b_O_fault 38 = .ok (.iload_n 2, 1) := by decide +kernel
theorem d_O_fault_39 : decode b_O_fault 39 = .ok (.ireturn, 1) := by decide +kernel
theorem d_O_fault_40 : decode b_O_fault 40 = .ok (.iload_n 1, 1) := by decide +kernel
theorem d_O_fault_41 : decode b_O_fault 41 = .ok (.iconst 1, 1) := by decide +kernel
theorem d_O_fault_42 : decode b_O_fault 42 = .ok (.iload_n 3, 1) := by decide +kernel
theorem d_O_fault_43 : decode b_O_fault 43 = .ok (.ishl, 1) := by decide +kernel
theorem d_O_fault_44 : decode b_O_fault 44 = .ok (.ior, 1) := by decide +kernel
theorem d_O_fault_45 : decode b_O_fault 45 = .ok (.istore_n 1, 1) := by decide +kernel
theorem d_O_fault_46 : decode b_O_fault 46 = .ok (.iinc 2 1, 3) := by decide +kernel
theorem d_O_fault_49 : decode b_O_fault 49 = .ok (.goto (-45), 3) := by decide +kernel
theorem d_O_fault_52 : decode b_O_fault 52 = .ok (.aload_n 0, 1) := by decide +kernel
theorem d_O_fault_53 : decode b_O_fault 53 = .ok (.getfield 26, 3) := by decide +kernel
theorem d_O_fault_56 : decode b_O_fault 56 = .ok (.ifCond .eq 14, 3) := by decide +kernel
theorem d_O_fault_59 : decode b_O_fault 59 = .ok (.aload_n 0, 1) := by decide +kernel
theorem d_O_fault_60 : decode b_O_fault 60 = .ok (.getfield 26, 3) := by decide +kernel
theorem d_O_fault_63 : decode b_O_fault 63 = .ok (.aload_n 0, 1) := by decide +kernel
theorem d_O_fault_64 : decode b_O_fault 64 = .ok (.getfield 9, 3) := by decide +kernel
theorem d_O_fault_67 : decode b_O_fault 67 = .ok (.if_icmp .ne 7, 3) := by decide +kernel
theorem d_O_fault_70 : decode b_O_fault 70 = .ok (.iconst (-1), 1) := by decide +kernel
theorem d_O_fault_71 : decode b_O_fault 71 = .ok (.goto 7, 3) := by decide +kernel
theorem d_O_fault_74 : decode b_O_fault 74 = .ok (.aload_n 0, 1) := by decide +kernel
theorem d_O_fault_75 : decode b_O_fault 75 = .ok (.getfield 26, 3) := by decide +kernel
theorem d_O_fault_78 : decode b_O_fault 78 = .ok (.ireturn, 1) := by decide +kernel
theorem d_O_findPlaces_0 : decode b_O_findPlaces 0 = .ok (.iconst 0, 1) := by decide +kernel
theorem d_O_findPlaces_1 : decode b_O_findPlaces 1 = .ok (.istore_n 1, 1) := by decide +kernel
theorem d_O_findPlaces_2 : decode b_O_findPlaces 2 = .ok (.iload_n 1, 1) := by decide +kernel
theorem d_O_findPlaces_3 : decode b_O_findPlaces 3 = .ok (.aload_n 0, 1) := by decide +kernel
theorem d_O_findPlaces_4 : decode b_O_findPlaces 4 = .ok (.getfield 26, 3) := by decide +kernel
theorem d_O_findPlaces_7 : decode b_O_findPlaces 7 = .ok (.if_icmp .ge 34, 3) := by decide +kernel
theorem d_O_findPlaces_10 : decode b_O_findPlaces 10 = .ok (.aload_n 0, 1) := by decide +kernel
theorem d_O_findPlaces_11 : decode b_O_findPlaces 11 = .ok (.getfield 23, 3) := by decide +kernel
theorem d_O_findPlaces_14 : decode b_O_findPlaces 14 = .ok (.iload_n 1, 1) := by decide +kernel
theorem d_O_findPlaces_15 : decode b_O_findPlaces 15 = .ok (.iaload, 1) := by decide +kernel
theorem d_O_findPlaces_16 : decode b_O_findPlaces 16 = .ok (.bipush 97, 2) := by decide +kernel
theorem d_O_findPlaces_18 : decode b_O_findPlaces 18 = .ok (.isub, 1) := by decide +kernel
theorem d_O_findPlaces_19 : decode b_O_findPlaces 19 = .ok (.istore_n 2, 1) := by decide +kernel
theorem d_O_findPlaces_20 : decode b_O_findPlaces 20 = .ok (.aload_n 0, 1) := by decide +kernel
theorem d_O_findPlaces_21 : decode b_O_findPlaces 21 = .ok (.iload_n 2, 1) := by decide +kernel
theorem d_O_findPlaces_22 : decode b_O_findPlaces 22 = .ok (.invokevirtual 150, 3) := by decide +kernel
theorem d_O_findPlaces_25 : decode b_O_findPlaces 25 = .ok (.ifCond .eq 10, 3) := by decide +kernel
theorem d_O_findPlaces_28 : decode b_O_findPlaces 28 = .ok (.aload_n 0, 1) := by decide +kernel
theorem d_O_findPlaces_29 : decode b_O_findPlaces 29 = .ok (.getfield 61, 3) := by decide +kernel
theorem d_O_findPlaces_32 : decode b_O_findPlaces 32 = .ok (.iload_n 2, 1) := by decide +kernel
theorem d_O_findPlaces_33 : decode b_O_findPlaces 33 = .ok (.iload_n 1, 1) := by decide +kernel
theorem d_O_findPlaces_34 : decode b_O_findPlaces 34 = .ok (.iastore, 1) := by decide +kernel
theorem d_O_findPlaces_35 : decode b_O_findPlaces 35 = .ok (.iinc 1 1, 3) := by decide +kernel
theorem d_O_findPlaces_38 : decode b_O_findPlaces 38 = .ok (.goto (-36), 3) := by decide +kernel
theorem d_O_findPlaces_41 : decode b_O_findPlaces 41 = .ok (.return_, 1) := by decide +kernel
theorem d_O_isSideBySide_0 : decode b_O_isSideBySide 0 = .ok (.bipush 8, 2) := by decide +kernel
theorem d_O_isSideBySide_2 : decode b_O_isSideBySide 2 = .ok (.istore_n 2, 1) := by decide +kernel
theorem d_O_isSideBySide_3 : decode b_O_isSideBySide 3 = .ok (.iconst (-1), 1) := by decide +kernel
theorem d_O_isSideBySide_4 : decode b_O_isSideBySide 4 = .ok (.istore_n 3, 1) := by decide +kernel
theorem d_O_isSideBySide_5 : decode b_O_isSideBySide 5 = .ok (.iconst 0, 1) := by decide +kernel
theorem d_O_isSideBySide_6 : decode b_O_isSideBySide 6 = .ok (.istore 4, 2) := by decide +kernel
theorem d_O_isSideBySide_8 : decode b_O_isSideBySide 8 = .ok (.iconst 0, 1) := by decide +kernel
theorem d_O_isSideBySide_9 : decode b_O_isSideBySide 9 = .ok (.istore 5, 2) := by decide +kernel
theorem d_O_isSideBySide_11 : decode b_O_isSideBySide 11 = .ok (.iload 5, 2) := by decide +kernel
theorem d_O_isSideBySide_13 : decode b_O_isSideBySide 13 = .ok (.aload_n 0, 1) := by decide +kernel
theorem d_O_isSideBySide_14 : decode b_O_isSideBySide 14 = .ok (.getfield 9, 3) := by decide +kernel
theorem d_O_isSideBySide_17 : decode b_O_isSideBySide 17 = .ok (.if_icmp .ge 45, 3) := by decide +kernel
theorem d_O_isSideBySide_20 : decode b_O_isSideBySide 20 = .ok (.iload_n 1, 1) := by decide +kernel
theorem d_O_isSideBySide_21 : decode b_O_isSideBySide 21 = .ok (.iload 5, 2) := by decide +kernel
theorem d_O_isSideBySide_23 : decode b_O_isSideBySide 23 = .ok (.ishr, 1) := by decide +kernel
theorem d_O_isSideBySide_24 : decode b_O_isSideBySide 24 = .ok (.iconst 1, 1) := by decide +kernel
theorem d_O_isSideBySide_25 : decode b_O_isSideBySide 25 = .ok (.iand, 1) := by decide +kernel
theorem d_O_isSideBySide_26 : decode b_O_isSideBySide 26 = .ok (.ifCond .eq 30, 3) := by decide +kernel
theorem d_O_isSideBySide_29 : decode b_O_isSideBySide 29 = .ok (.iload_n 2, 1) := by decide +kernel
theorem d_O_isSideBySide_30 : decode b_O_isSideBySide 30 = .ok (.aload_n 0, 1) := by decide +kernel
theorem d_O_isSideBySide_31 : decode b_O_isSideBySide 31 = .ok (.getfield 61, 3) := by decide +kernel
theorem d_O_isSideBySide_34 : decode b_O_isSideBySide 34 = .ok (.iload 5, 2) := by decide +kernel
theorem d_O_isSideBySide_36 : decode b_O_isSideBySide 36 = .ok (.iaload, 1) := by decide +kernel
theorem d_O_isSideBySide_37 : decode b_O_isSideBySide 37 = .ok (.invokestatic 201, 3) := by decide +kernel
theorem d_O_isSideBySide_40 : decode b_O_isSideBySide 40 = .ok (.istore_n 2, 1) := by decide +kernel
theorem d_O_isSideBySide_41 : decode b_O_isSideBySide 41 = .ok (.iload_n 3, 1) := by decide +kernel
theorem d_O_isSideBySide_42 : decode b_O_isSideBySide 42 = .ok (.aload_n 0, 1) := by decide +kernel
theorem d_O_isSideBySide_43 : decode b_O_isSideBySide 43 = .ok (.getfield 61, 3) := by decide +kernel
theorem d_O_isSideBySide_46 : decode b_O_isSideBySide 46 = .ok (.iload 5, 2) := by decide +kernel
theorem d_O_isSideBySide_48 : decode b_O_isSideBySide 48 = .ok (.iaload, 1) := by decide +kernel
theorem d_O_isSideBySide_49 : decode b_O_isSideBySide 49 = .ok (.invokestatic 252, 3) := by decide +kernel
theorem d_O_isSideBySide_52 : decode b_O_isSideBySide 52 = .ok (.istore_n 3, 1) := by decide +kernel
theorem d_O_isSideBySide_53 : decode b_O_isSideBySide 53 = .ok (.iinc 4 1, 3) := by decide +kernel
theorem d_O_isSideBySide_56 : decode b_O_isSideBySide 56 = .ok (.iinc 5 1, 3) := by decide +kernel
theorem d_O_isSideBySide_59 : decode b_O_isSideBySide 59 = .ok (.goto (-48), 3) := by decide +kernel
theorem d_O_isSideBySide_62 : decode b_O_isSideBySide 62 = .ok (.iload 4, 2) := by decide +kernel
theorem d_O_isSideBySide_64 : decode b_O_isSideBySide 64 = .ok (.iconst 2, 1) := by decide +kernel
theorem d_O_isSideBySide_65 : decode b_O_isSideBySide 65 = .ok (.if_icmp .lt 13, 3) := by decide +kernel
theorem d_O_isSideBySide_68 : decode b_O_isSideBySide 68 = .ok (.iload_n 3, 1) := by decide +kernel
theorem d_O_isSideBySide_69 : decode b_O_isSideBySide 69 = .ok (.iload_n 2, 1) := by decide +kernel
theorem d_O_isSideBySide_70 : decode b_O_isSideBySide 70 = .ok (.isub, 1) := by decide +kernel
theorem d_O_isSideBySide_71 : decode b_O_isSideBySide 71 = .ok (.iconst 1, 1) := by decide +kernel
theorem d_O_isSideBySide_72 : decode b_O_isSideBySide 72 = .ok (.iadd, 1) := by decide +kernel
theorem d_O_isSideBySide_73 : decode b_O_isSideBySide 73 = .ok (.iload 4, 2) := by decide +kernel
theorem d_O_isSideBySide_75 : decode b_O_isSideBySide 75 = .ok (.if_icmp .ne 7, 3) := by decide +kernel
theorem d_O_isSideBySide_78 : decode b_O_isSideBySide 78 = .ok (.iconst 1, 1) := by decide +kernel
theorem d_O_isSideBySide_79 : decode b_O_isSideBySide 79 = .ok (.goto 4, 3) := by decide +kernel
theorem d_O_isSideBySide_82 : decode b_O_isSideBySide 82 = .ok (.iconst 0, 1) := by decide +kernel
theorem d_O_isSideBySide_83 : decode b_O_isSideBySide 83 = .ok (.ireturn, 1) := by decide +kernel
theorem d_O_misses_0 : decode b_O_misses 0 = .ok (.aload_n 0, 1) := by decide +kernel
theorem d_O_misses_1 : decode b_O_misses 1 = .ok (.getfield 26, 3) := by decide +kernel
theorem d_O_misses_4 : decode b_O_misses 4 = .ok (.ifCond .eq 11, 3) := by decide +kernel
theorem d_O_misses_7 : decode b_O_misses 7 = .ok (.aload_n 0, 1) := by decide +kernel
theorem d_O_misses_8 : decode b_O_misses 8 = .ok (.invokevirtual 157, 3) := by decide +kernel
theorem d_O_misses_11 : decode b_O_misses 11 = .ok (.iconst (-1), 1) := by decide +kernel
theorem d_O_misses_12 : decode b_O_misses 12 = .ok (.if_icmp .eq 6, 3) := by decide +kernel
theorem d_O_misses_15 : decode b_O_misses 15 = .ok (.bipush (-3), 2) := by decide +kernel
theorem d_O_misses_17 : decode b_O_misses 17 = .ok (.ireturn, 1) := by decide +kernel
theorem d_O_misses_18 : decode b_O_misses 18 = .ok (.aload_n 0, 1) := by decide +kernel
theorem d_O_misses_19 : decode b_O_misses 19 = .ok (.invokevirtual 160, 3) := by decide +kernel
theorem d_O_misses_22 : decode b_O_misses 22 = .ok (.iconst 0, 1) := by decide +kernel
theorem d_O_misses_23 : decode b_O_misses 23 = .ok (.istore_n 1, 1) := by decide +kernel
theorem d_O_misses_24 : decode b_O_misses 24 = .ok (.iconst 0, 1) := by decide +kernel
theorem d_O_misses_25 : decode b_O_misses 25 = .ok (.istore_n 2, 1) := by decide +kernel
theorem d_O_misses_26 : decode b_O_misses 26 = .ok (.iload_n 2, 1) := by decide +kernel
theorem d_O_misses_27 : decode b_O_misses 27 = .ok (.aload_n 0, 1) := by decide +kernel
theorem d_O_misses_28 : decode b_O_misses 28 = .ok (.getfield 17, 3) := by decide +kernel
theorem d_O_misses_31 : decode b_O_misses 31 = .ok (.if_icmp .ge 28, 3) := by decide +kernel
theorem d_O_misses_34 : decode b_O_misses 34 = .ok (.aload_n 0, 1) := by decide +kernel
theorem d_O_misses_35 : decode b_O_misses 35 = .ok (.aload_n 0, 1) := by decide +kernel
theorem d_O_misses_36 : decode b_O_misses 36 = .ok (.getfield 13, 3) := by decide +kernel
theorem d_O_misses_39 : decode b_O_misses 39 = .ok (.iload_n 2, 1) := by decide +kernel
theorem d_O_misses_40 : decode b_O_misses 40 = .ok (.iaload, 1) := by decide +kernel
theorem d_O_misses_41 : decode b_O_misses 41 = .ok (.invokevirtual 163, 3) := by decide +kernel
theorem d_O_misses_44 : decode b_O_misses 44 = .ok (.ifCond .ne 9, 3) := by decide +kernel
theorem d_O_misses_47 : decode b_O_misses 47 = .ok (.iload_n 1, 1) := by decide +kernel
theorem d_O_misses_48 : decode b_O_misses 48 = .ok (.iconst 1, 1) := by decide +kernel
theorem d_O_misses_49 : decode b_O_misses 49 = .ok (.iload_n 2, 1) := by decide +kernel
theorem d_O_misses_50 : decode b_O_misses 50 = .ok (.ishl, 1) := by decide +kernel
theorem d_O_misses_51 : decode b_O_misses 51 = .ok (.ior, 1) := by decide +kernel
theorem d_O_misses_52 : decode b_O_misses 52 = .ok (.istore_n 1, 1) := by decide +kernel
theorem d_O_misses_53 : decode b_O_misses 53 = .ok (.iinc 2 1, 3) := by decide +kernel
theorem d_O_misses_56 : decode b_O_misses 56 = .ok (.goto (-30), 3) := by decide +kernel
theorem d_O_misses_59 : decode b_O_misses 59 = .ok (.iload_n 1, 1) := by decide +kernel
theorem d_O_misses_60 : decode b_O_misses 60 = .ok (.ireturn, 1) := by decide +kernel
theorem d_O_number_0 : decode b_O_number 0 = .ok (.aload_n 0, 1) := by decide +kernel
theorem d_O_number_1 : decode b_O_number 1 = .ok (.invokevirtual 166, 3) := by decide +kernel
theorem d_O_number_4 : decode b_O_number 4 = .ok (.istore_n 1, 1) := by decide +kernel
theorem d_O_number_5 : decode b_O_number 5 = .ok (.iload_n 1, 1) := by decide +kernel
theorem d_O_number_6 : decode b_O_number 6 = .ok (.bipush (-3), 2) := by decide +kernel
theorem d_O_number_8 : decode b_O_number 8 = .ok (.if_icmp .ne 6, 3) := by decide +kernel
theorem d_O_number_11 : decode b_O_number 11 = .ok (.bipush (-3), 2) := by decide +kernel
theorem d_O_number_13 : decode b_O_number 13 = .ok (.ireturn, 1) := by decide +kernel
theorem d_O_number_14 : decode b_O_number 14 = .ok (.iload_n 1, 1) := by decide +kernel
theorem d_O_number_15 : decode b_O_number 15 = .ok (.aload_n 0, 1) := by decide +kernel
theorem d_O_number_16 : decode b_O_number 16 = .ok (.getfield 20, 3) := by decide +kernel
theorem d_O_number_19 : decode b_O_number 19 = .ok (.iand, 1) := by decide +kernel
theorem d_O_number_20 : decode b_O_number 20 = .ok (.ifCond .eq 5, 3) := by decide +kernel
theorem d_O_number_23 : decode b_O_number 23 = .ok (.iconst (-1), 1) := by decide +kernel
theorem d_O_number_24 : decode b_O_number 24 = .ok (.ireturn, 1) := by decide +kernel
theorem d_O_number_25 : decode b_O_number 25 = .ok (.aload_n 0, 1) := by decide +kernel
theorem d_O_number_26 : decode b_O_number 26 = .ok (.getfield 42, 3) := by decide +kernel
theorem d_O_number_29 : decode b_O_number 29 = .ok (.aload_n 0, 1) := by decide +kernel
theorem d_O_number_30 : decode b_O_number 30 = .ok (.getfield 61, 3) := by decide +kernel
theorem d_O_number_33 : decode b_O_number 33 = .ok (.invokevirtual 169, 3) := by decide +kernel
theorem d_O_number_36 : decode b_O_number 36 = .ok (.ireturn, 1) := by decide +kernel
theorem d_O_isForm_0 : decode b_O_isForm 0 = .ok (.iload_n 0, 1) := by decide +kernel
theorem d_O_isForm_1 : decode b_O_isForm 1 = .ok (.ifCond .lt 12, 3) := by decide +kernel
theorem d_O_isForm_4 : decode b_O_isForm 4 = .ok (.iload_n 0, 1) := by decide +kernel
theorem d_O_isForm_5 : decode b_O_isForm 5 = .ok (.iconst 2, 1) := by decide +kernel
theorem d_O_isForm_6 : decode b_O_isForm 6 = .ok (.if_icmp .gt 7, 3) := by decide +kernel
theorem d_O_isForm_9 : decode b_O_isForm 9 = .ok (.iconst 1, 1) := by decide +kernel
theorem d_O_isForm_10 : decode b_O_isForm 10 = .ok (.goto 4, 3) := by decide +kernel
theorem d_O_isForm_13 : decode b_O_isForm 13 = .ok (.iconst 0, 1) := by decide +kernel
theorem d_O_isForm_14 : decode b_O_isForm 14 = .ok (.ireturn, 1) := by decide +kernel
theorem d_O_sheet_0 : decode b_O_sheet 0 = .ok (.iload_n 1, 1) := by decide +kernel
theorem d_O_sheet_1 : decode b_O_sheet 1 = .ok (.invokestatic 104, 3) := by decide +kernel
theorem d_O_sheet_4 : decode b_O_sheet 4 = .ok (.ifCond .eq 16, 3) := by decide +kernel
theorem d_O_sheet_7 : decode b_O_sheet 7 = .ok (.iload_n 2, 1) := by decide +kernel
theorem d_O_sheet_8 : decode b_O_sheet 8 = .ok (.invokestatic 172, 3) := by decide +kernel
theorem d_O_sheet_11 : decode b_O_sheet 11 = .ok (.ifCond .eq 9, 3) := by decide +kernel
theorem d_O_sheet_14 : decode b_O_sheet 14 = .ok (.iload_n 3, 1) := by decide +kernel
theorem d_O_sheet_15 : decode b_O_sheet 15 = .ok (.bipush 60, 2) := by decide +kernel
theorem d_O_sheet_17 : decode b_O_sheet 17 = .ok (.if_icmp .le 6, 3) := by decide +kernel
theorem d_O_sheet_20 : decode b_O_sheet 20 = .ok (.bipush (-2), 2) := by decide +kernel
theorem d_O_sheet_22 : decode b_O_sheet 22 = .ok (.ireturn, 1) := by decide +kernel
theorem d_O_sheet_23 : decode b_O_sheet 23 = .ok (.iload_n 3, 1) := by decide +kernel
theorem d_O_sheet_24 : decode b_O_sheet 24 = .ok (.ifCond .ge 9, 3) := by decide +kernel
theorem d_O_sheet_27 : decode b_O_sheet 27 = .ok (.aload_n 0, 1) := by decide +kernel
theorem d_O_sheet_28 : decode b_O_sheet 28 = .ok (.iconst 5, 1) := by decide +kernel
theorem d_O_sheet_29 : decode b_O_sheet 29 = .ok (.invokevirtual 110, 3) := by decide +kernel
theorem d_O_sheet_32 : decode b_O_sheet 32 = .ok (.ireturn, 1) := by decide +kernel
theorem d_O_sheet_33 : decode b_O_sheet 33 = .ok (.aload_n 0, 1) := by decide +kernel
theorem d_O_sheet_34 : decode b_O_sheet 34 = .ok (.getfield 35, 3) := by decide +kernel
theorem d_O_sheet_37 : decode b_O_sheet 37 = .ok (.iload_n 1, 1) := by decide +kernel
theorem d_O_sheet_38 : decode b_O_sheet 38 = .ok (.iload_n 2, 1) := by decide +kernel
theorem d_O_sheet_39 : decode b_O_sheet 39 = .ok (.iload_n 3, 1) := by decide +kernel
theorem d_O_sheet_40 : decode b_O_sheet 40 = .ok (.invokevirtual 175, 3) := by decide +kernel
theorem d_O_sheet_43 : decode b_O_sheet 43 = .ok (.iload_n 3, 1) := by decide +kernel
theorem d_O_sheet_44 : decode b_O_sheet 44 = .ok (.ireturn, 1) := by decide +kernel
theorem d_O_lose_0 : decode b_O_lose 0 = .ok (.iload_n 1, 1) := by decide +kernel
theorem d_O_lose_1 : decode b_O_lose 1 = .ok (.invokestatic 104, 3) := by decide +kernel
theorem d_O_lose_4 : decode b_O_lose 4 = .ok (.ifCond .ne 6, 3) := by decide +kernel
theorem d_O_lose_7 : decode b_O_lose 7 = .ok (.bipush (-2), 2) := by decide +kernel
theorem d_O_lose_9 : decode b_O_lose 9 = .ok (.ireturn, 1) := by decide +kernel
theorem d_O_lose_10 : decode b_O_lose 10 = .ok (.aload_n 0, 1) := by decide +kernel
theorem d_O_lose_11 : decode b_O_lose 11 = .ok (.getfield 35, 3) := by decide +kernel
theorem d_O_lose_14 : decode b_O_lose 14 = .ok (.iload_n 1, 1) := by decide +kernel
theorem d_O_lose_15 : decode b_O_lose 15 = .ok (.invokevirtual 107, 3) := by decide +kernel
theorem d_O_lose_18 : decode b_O_lose 18 = .ok (.ifCond .eq 9, 3) := by decide +kernel
theorem d_O_lose_21 : decode b_O_lose 21 = .ok (.aload_n 0, 1) := by decide +kernel
theorem d_O_lose_22 : decode b_O_lose 22 = .ok (.iconst 1, 1) := by decide +kernel
theorem d_O_lose_23 : decode b_O_lose 23 = .ok (.invokevirtual 110, 3) := by decide +kernel
theorem d_O_lose_26 : decode b_O_lose 26 = .ok (.ireturn, 1) := by decide +kernel
theorem d_O_lose_27 : decode b_O_lose 27 = .ok (.aload_n 0, 1) := by decide +kernel
theorem d_O_lose_28 : decode b_O_lose 28 = .ok (.getfield 35, 3) := by decide +kernel
theorem d_O_lose_31 : decode b_O_lose 31 = .ok (.iload_n 1, 1) := by decide +kernel
theorem d_O_lose_32 : decode b_O_lose 32 = .ok (.invokevirtual 113, 3) := by decide +kernel
theorem d_O_lose_35 : decode b_O_lose 35 = .ok (.istore_n 2, 1) := by decide +kernel
theorem d_O_lose_36 : decode b_O_lose 36 = .ok (.aload_n 0, 1) := by decide +kernel
theorem d_O_lose_37 : decode b_O_lose 37 = .ok (.getfield 35, 3) := by decide +kernel
theorem d_O_lose_40 : decode b_O_lose 40 = .ok (.iload_n 1, 1) := by decide +kernel
theorem d_O_lose_41 : decode b_O_lose 41 = .ok (.invokevirtual 179, 3) := by decide +kernel
theorem d_O_lose_44 : decode b_O_lose 44 = .ok (.iload_n 2, 1) := by decide +kernel
theorem d_O_lose_45 : decode b_O_lose 45 = .ok (.ireturn, 1) := by decide +kernel
theorem d_O_findingOf_0 : decode b_O_findingOf 0 = .ok (.aload_n 0, 1) := by decide +kernel
theorem d_O_findingOf_1 : decode b_O_findingOf 1 = .ok (.getfield 35, 3) := by decide +kernel
theorem d_O_findingOf_4 : decode b_O_findingOf 4 = .ok (.iload_n 1, 1) := by decide +kernel
theorem d_O_findingOf_5 : decode b_O_findingOf 5 = .ok (.invokevirtual 107, 3) := by decide +kernel
theorem d_O_findingOf_8 : decode b_O_findingOf 8 = .ok (.ifCond .eq 5, 3) := by decide +kernel
theorem d_O_findingOf_11 : decode b_O_findingOf 11 = .ok (.iconst 1, 1) := by decide +kernel
theorem d_O_findingOf_12 : decode b_O_findingOf 12 = .ok (.ireturn, 1) := by decide +kernel
theorem d_O_findingOf_13 : decode b_O_findingOf 13 = .ok (.aload_n 0, 1) := by decide +kernel
theorem d_O_findingOf_14 : decode b_O_findingOf 14 = .ok (.getfield 35, 3) := by decide +kernel
theorem d_O_findingOf_17 : decode b_O_findingOf 17 = .ok (.iload_n 1, 1) := by decide +kernel
theorem d_O_findingOf_18 : decode b_O_findingOf 18 = .ok (.invokevirtual 190, 3) := by decide +kernel
theorem d_O_findingOf_21 : decode b_O_findingOf 21 = .ok (.iload_n 2, 1) := by decide +kernel
theorem d_O_findingOf_22 : decode b_O_findingOf 22 = .ok (.if_icmp .eq 5, 3) := by decide +kernel
theorem d_O_findingOf_25 : decode b_O_findingOf 25 = .ok (.iconst 3, 1) := by decide +kernel
theorem d_O_findingOf_26 : decode b_O_findingOf 26 = .ok (.ireturn, 1) := by decide +kernel
theorem d_O_findingOf_27 : decode b_O_findingOf 27 = .ok (.iload_n 3, 1) := by decide +kernel
theorem d_O_findingOf_28 : decode b_O_findingOf 28 = .ok (.ifCond .lt 15, 3) := by decide +kernel
theorem d_O_findingOf_31 : decode b_O_findingOf 31 = .ok (.iload_n 3, 1) := by decide +kernel
theorem d_O_findingOf_32 : decode b_O_findingOf 32 = .ok (.aload_n 0, 1) := by decide +kernel
theorem d_O_findingOf_33 : decode b_O_findingOf 33 = .ok (.getfield 35, 3) := by decide +kernel
theorem d_O_findingOf_36 : decode b_O_findingOf 36 = .ok (.iload_n 1, 1) := by decide +kernel
theorem d_O_findingOf_37 : decode b_O_findingOf 37 = .ok (.invokevirtual 113, 3) := by decide +kernel
theorem d_O_findingOf_40 : decode b_O_findingOf 40 = .ok (.if_icmp .lt 7, 3) := by decide +kernel
theorem d_O_findingOf_43 : decode b_O_findingOf 43 = .ok (.iconst 2, 1) := by decide +kernel
theorem d_O_findingOf_44 : decode b_O_findingOf 44 = .ok (.goto 4, 3) := by decide +kernel
theorem d_O_findingOf_47 : decode b_O_findingOf 47 = .ok (.iconst 0, 1) := by decide +kernel
theorem d_O_findingOf_48 : decode b_O_findingOf 48 = .ok (.ireturn, 1) := by decide +kernel
theorem d_O_put_0 : decode b_O_put 0 = .ok (.iload_n 1, 1) := by decide +kernel
theorem d_O_put_1 : decode b_O_put 1 = .ok (.invokestatic 104, 3) := by decide +kernel
theorem d_O_put_4 : decode b_O_put 4 = .ok (.ifCond .eq 10, 3) := by decide +kernel
theorem d_O_put_7 : decode b_O_put 7 = .ok (.iload_n 2, 1) := by decide +kernel
theorem d_O_put_8 : decode b_O_put 8 = .ok (.invokestatic 172, 3) := by decide +kernel
theorem d_O_put_11 : decode b_O_put 11 = .ok (.ifCond .ne 6, 3) := by decide +kernel
theorem d_O_put_14 : decode b_O_put 14 = .ok (.bipush (-2), 2) := by decide +kernel
theorem d_O_put_16 : decode b_O_put 16 = .ok (.ireturn, 1) := by decide +kernel
theorem d_O_put_17 : decode b_O_put 17 = .ok (.aload_n 0, 1) := by decide +kernel
theorem d_O_put_18 : decode b_O_put 18 = .ok (.iload_n 1, 1) := by decide +kernel
theorem d_O_put_19 : decode b_O_put 19 = .ok (.iload_n 2, 1) := by decide +kernel
theorem d_O_put_20 : decode b_O_put 20 = .ok (.iload_n 3, 1) := by decide +kernel
theorem d_O_put_21 : decode b_O_put 21 = .ok (.invokevirtual 182, 3) := by decide +kernel
theorem d_O_put_24 : decode b_O_put 24 = .ok (.istore 5, 2) := by decide +kernel
theorem d_O_put_26 : decode b_O_put 26 = .ok (.iload 5, 2) := by decide +kernel
theorem d_O_put_28 : decode b_O_put 28 = .ok (.ifCond .eq 10, 3) := by decide +kernel
theorem d_O_put_31 : decode b_O_put 31 = .ok (.aload_n 0, 1) := by decide +kernel
theorem d_O_put_32 : decode b_O_put 32 = .ok (.iload 5, 2) := by decide +kernel
theorem d_O_put_34 : decode b_O_put 34 = .ok (.invokevirtual 110, 3) := by decide +kernel
theorem d_O_put_37 : decode b_O_put 37 = .ok (.ireturn, 1) := by decide +kernel
theorem d_O_put_38 : decode b_O_put 38 = .ok (.aload_n 0, 1) := by decide +kernel
theorem d_O_put_39 : decode b_O_put 39 = .ok (.getfield 35, 3) := by decide +kernel
theorem d_O_put_42 : decode b_O_put 42 = .ok (.iload_n 1, 1) := by decide +kernel
theorem d_O_put_43 : decode b_O_put 43 = .ok (.iload_n 3, 1) := by decide +kernel
theorem d_O_put_44 : decode b_O_put 44 = .ok (.iload 4, 2) := by decide +kernel
theorem d_O_put_46 : decode b_O_put 46 = .ok (.invokevirtual 186, 3) := by decide +kernel
theorem d_O_put_49 : decode b_O_put 49 = .ok (.iconst 1, 1) := by decide +kernel
theorem d_O_put_50 : decode b_O_put 50 = .ok (.ireturn, 1) := by decide +kernel
theorem d_O_get_0 : decode b_O_get 0 = .ok (.iload_n 1, 1) := by decide +kernel
theorem d_O_get_1 : decode b_O_get 1 = .ok (.invokestatic 104, 3) := by decide +kernel
theorem d_O_get_4 : decode b_O_get 4 = .ok (.ifCond .eq 10, 3) := by decide +kernel
theorem d_O_get_7 : decode b_O_get 7 = .ok (.iload_n 2, 1) := by decide +kernel
theorem d_O_get_8 : decode b_O_get 8 = .ok (.invokestatic 172, 3) := by decide +kernel
theorem d_O_get_11 : decode b_O_get 11 = .ok (.ifCond .ne 6, 3) := by decide +kernel
theorem d_O_get_14 : decode b_O_get 14 = .ok (.ldc 189, 2) := by decide +kernel
theorem d_O_get_16 : decode b_O_get 16 = .ok (.ireturn, 1) := by decide +kernel
theorem d_O_get_17 : decode b_O_get 17 = .ok (.aload_n 0, 1) := by decide +kernel
theorem d_O_get_18 : decode b_O_get 18 = .ok (.iload_n 1, 1) := by decide +kernel
theorem d_O_get_19 : decode b_O_get 19 = .ok (.iload_n 2, 1) := by decide +kernel
theorem d_O_get_20 : decode b_O_get 20 = .ok (.iload_n 3, 1) := by decide +kernel
theorem d_O_get_21 : decode b_O_get 21 = .ok (.invokevirtual 182, 3) := by decide +kernel
theorem d_O_get_24 : decode b_O_get 24 = .ok (.istore 4, 2) := by decide +kernel
theorem d_O_get_26 : decode b_O_get 26 = .ok (.iload 4, 2) := by decide +kernel
theorem d_O_get_28 : decode b_O_get 28 = .ok (.ifCond .eq 13, 3) := by decide +kernel
theorem d_O_get_31 : decode b_O_get 31 = .ok (.aload_n 0, 1) := by decide +kernel
theorem d_O_get_32 : decode b_O_get 32 = .ok (.iload 4, 2) := by decide +kernel
theorem d_O_get_34 : decode b_O_get 34 = .ok (.invokevirtual 110, 3) := by decide +kernel
theorem d_O_get_37 : decode b_O_get 37 = .ok (.pop, 1) := by decide +kernel
theorem d_O_get_38 : decode b_O_get 38 = .ok (.ldc 189, 2) := by decide +kernel
theorem d_O_get_40 : decode b_O_get 40 = .ok (.ireturn, 1) := by decide +kernel
theorem d_O_get_41 : decode b_O_get 41 = .ok (.aload_n 0, 1) := by decide +kernel
theorem d_O_get_42 : decode b_O_get 42 = .ok (.getfield 35, 3) := by decide +kernel
theorem d_O_get_45 : decode b_O_get 45 = .ok (.iload_n 1, 1) := by decide +kernel
theorem d_O_get_46 : decode b_O_get 46 = .ok (.iload_n 3, 1) := by decide +kernel
theorem d_O_get_47 : decode b_O_get 47 = .ok (.invokevirtual 116, 3) := by decide +kernel
theorem d_O_get_50 : decode b_O_get 50 = .ok (.ireturn, 1) := by decide +kernel
theorem d_O_copy_0 : decode b_O_copy 0 = .ok (.iload_n 1, 1) := by decide +kernel
theorem d_O_copy_1 : decode b_O_copy 1 = .ok (.invokestatic 104, 3) := by decide +kernel
theorem d_O_copy_4 : decode b_O_copy 4 = .ok (.ifCond .eq 10, 3) := by decide +kernel
theorem d_O_copy_7 : decode b_O_copy 7 = .ok (.iload_n 3, 1) := by decide +kernel
theorem d_O_copy_8 : decode b_O_copy 8 = .ok (.invokestatic 104, 3) := by decide +kernel
theorem d_O_copy_11 : decode b_O_copy 11 = .ok (.ifCond .ne 6, 3) := by decide +kernel
theorem d_O_copy_14 : decode b_O_copy 14 = .ok (.bipush (-2), 2) := by decide +kernel
theorem d_O_copy_16 : decode b_O_copy 16 = .ok (.ireturn, 1) := by decide +kernel
theorem d_O_copy_17 : decode b_O_copy 17 = .ok (.aload_n 0, 1) := by decide +kernel
theorem d_O_copy_18 : decode b_O_copy 18 = .ok (.getfield 35, 3) := by decide +kernel
theorem d_O_copy_21 : decode b_O_copy 21 = .ok (.iload_n 1, 1) := by decide +kernel
theorem d_O_copy_22 : decode b_O_copy 22 = .ok (.invokevirtual 107, 3) := by decide +kernel
theorem d_O_copy_25 : decode b_O_copy 25 = .ok (.ifCond .ne 14, 3) := by decide +kernel
theorem d_O_copy_28 : decode b_O_copy 28 = .ok (.aload_n 0, 1) := by decide +kernel
theorem d_O_copy_29 : decode b_O_copy 29 = .ok (.getfield 35, 3) := by decide +kernel
theorem d_O_copy_32 : decode b_O_copy 32 = .ok (.iload_n 3, 1) := by decide +kernel
theorem d_O_copy_33 : decode b_O_copy 33 = .ok (.invokevirtual 107, 3) := by decide +kernel
theorem d_O_copy_36 : decode b_O_copy 36 = .ok (.ifCond .eq 9, 3) := by decide +kernel
theorem d_O_copy_39 : decode b_O_copy 39 = .ok (.aload_n 0, 1) := by decide +kernel
theorem d_O_copy_40 : decode b_O_copy 40 = .ok (.iconst 1, 1) := by decide +kernel
theorem d_O_copy_41 : decode b_O_copy 41 = .ok (.invokevirtual 110, 3) := by decide +kernel
theorem d_O_copy_44 : decode b_O_copy 44 = .ok (.ireturn, 1) := by decide +kernel
theorem d_O_copy_45 : decode b_O_copy 45 = .ok (.aload_n 0, 1) := by decide +kernel
theorem d_O_copy_46 : decode b_O_copy 46 = .ok (.getfield 35, 3) := by decide +kernel
theorem d_O_copy_49 : decode b_O_copy 49 = .ok (.iload_n 1, 1) := by decide +kernel
theorem d_O_copy_50 : decode b_O_copy 50 = .ok (.invokevirtual 190, 3) := by decide +kernel
theorem d_O_copy_53 : decode b_O_copy 53 = .ok (.aload_n 0, 1) := by decide +kernel
theorem d_O_copy_54 : decode b_O_copy 54 = .ok (.getfield 35, 3) := by decide +kernel
theorem d_O_copy_57 : decode b_O_copy 57 = .ok (.iload_n 3, 1) := by decide +kernel
theorem d_O_copy_58 : decode b_O_copy 58 = .ok (.invokevirtual 190, 3) := by decide +kernel
theorem d_O_copy_61 : decode b_O_copy 61 = .ok (.if_icmp .eq 9, 3) := by decide +kernel
theorem d_O_copy_64 : decode b_O_copy 64 = .ok (.aload_n 0, 1) := by decide +kernel
theorem d_O_copy_65 : decode b_O_copy 65 = .ok (.iconst 4, 1) := by decide +kernel
theorem d_O_copy_66 : decode b_O_copy 66 = .ok (.invokevirtual 110, 3) := by decide +kernel
theorem d_O_copy_69 : decode b_O_copy 69 = .ok (.ireturn, 1) := by decide +kernel
theorem d_O_copy_70 : decode b_O_copy 70 = .ok (.aload_n 0, 1) := by decide +kernel
theorem d_O_copy_71 : decode b_O_copy 71 = .ok (.getfield 35, 3) := by decide +kernel
theorem d_O_copy_74 : decode b_O_copy 74 = .ok (.iload_n 1, 1) := by decide +kernel
theorem d_O_copy_75 : decode b_O_copy 75 = .ok (.iload_n 2, 1) := by decide +kernel
theorem d_O_copy_76 : decode b_O_copy 76 = .ok (.iload 5, 2) := by decide +kernel
theorem d_O_copy_78 : decode b_O_copy 78 = .ok (.invokevirtual 193, 3) := by decide +kernel
theorem d_O_copy_81 : decode b_O_copy 81 = .ok (.ifCond .eq 18, 3) := by decide +kernel
theorem d_O_copy_84 : decode b_O_copy 84 = .ok (.aload_n 0, 1) := by decide +kernel
theorem d_O_copy_85 : decode b_O_copy 85 = .ok (.getfield 35, 3) := by decide +kernel
theorem d_O_copy_88 : decode b_O_copy 88 = .ok (.iload_n 3, 1) := by decide +kernel
theorem d_O_copy_89 : decode b_O_copy 89 = .ok (.iload 4, 2) := by decide +kernel
theorem d_O_copy_91 : decode b_O_copy 91 = .ok (.iload 5, 2) := by decide +kernel
theorem d_O_copy_93 : decode b_O_copy 93 = .ok (.invokevirtual 193, 3) := by decide +kernel
theorem d_O_copy_96 : decode b_O_copy 96 = .ok (.ifCond .ne 9, 3) := by decide +kernel
theorem d_O_copy_99 : decode b_O_copy 99 = .ok (.aload_n 0, 1) := by decide +kernel
theorem d_O_copy_100 : decode b_O_copy 100 = .ok (.iconst 2, 1) := by decide +kernel
theorem d_O_copy_101 : decode b_O_copy 101 = .ok (.invokevirtual 110, 3) := by decide +kernel
theorem d_O_copy_104 : decode b_O_copy 104 = .ok (.ireturn, 1) := by decide +kernel
theorem d_O_copy_105 : decode b_O_copy 105 = .ok (.aload_n 0, 1) := by decide +kernel
theorem d_O_copy_106 : decode b_O_copy 106 = .ok (.getfield 35, 3) := by decide +kernel
theorem d_O_copy_109 : decode b_O_copy 109 = .ok (.iload_n 1, 1) := by decide +kernel
theorem d_O_copy_110 : decode b_O_copy 110 = .ok (.iload_n 2, 1) := by decide +kernel
theorem d_O_copy_111 : decode b_O_copy 111 = .ok (.iload_n 3, 1) := by decide +kernel
theorem d_O_copy_112 : decode b_O_copy 112 = .ok (.iload 4, 2) := by decide +kernel
theorem d_O_copy_114 : decode b_O_copy 114 = .ok (.iload 5, 2) := by decide +kernel
theorem d_O_copy_116 : decode b_O_copy 116 = .ok (.invokevirtual 197, 3) := by decide +kernel
theorem d_O_copy_119 : decode b_O_copy 119 = .ok (.iconst 1, 1) := by decide +kernel
theorem d_O_copy_120 : decode b_O_copy 120 = .ok (.ireturn, 1) := by decide +kernel
theorem d_O_write_0 : decode b_O_write 0 = .ok (.iload_n 1, 1) := by decide +kernel
theorem d_O_write_1 : decode b_O_write 1 = .ok (.invokestatic 140, 3) := by decide +kernel
theorem d_O_write_4 : decode b_O_write 4 = .ok (.ifCond .eq 10, 3) := by decide +kernel
theorem d_O_write_7 : decode b_O_write 7 = .ok (.iload_n 2, 1) := by decide +kernel
theorem d_O_write_8 : decode b_O_write 8 = .ok (.invokestatic 104, 3) := by decide +kernel
theorem d_O_write_11 : decode b_O_write 11 = .ok (.ifCond .ne 6, 3) := by decide +kernel
theorem d_O_write_14 : decode b_O_write 14 = .ok (.bipush (-2), 2) := by decide +kernel
theorem d_O_write_16 : decode b_O_write 16 = .ok (.ireturn, 1) := by decide +kernel
theorem d_O_write_17 : decode b_O_write 17 = .ok (.aload_n 0, 1) := by decide +kernel
theorem d_O_write_18 : decode b_O_write 18 = .ok (.getfield 35, 3) := by decide +kernel
theorem d_O_write_21 : decode b_O_write 21 = .ok (.iload_n 2, 1) := by decide +kernel
theorem d_O_write_22 : decode b_O_write 22 = .ok (.invokevirtual 107, 3) := by decide +kernel
theorem d_O_write_25 : decode b_O_write 25 = .ok (.ifCond .eq 9, 3) := by decide +kernel
theorem d_O_write_28 : decode b_O_write 28 = .ok (.aload_n 0, 1) := by decide +kernel
theorem d_O_write_29 : decode b_O_write 29 = .ok (.iconst 1, 1) := by decide +kernel
theorem d_O_write_30 : decode b_O_write 30 = .ok (.invokevirtual 110, 3) := by decide +kernel
theorem d_O_write_33 : decode b_O_write 33 = .ok (.ireturn, 1) := by decide +kernel
theorem d_O_write_34 : decode b_O_write 34 = .ok (.iload_n 1, 1) := by decide +kernel
theorem d_O_write_35 : decode b_O_write 35 = .ok (.i2l, 1) := by decide +kernel
theorem d_O_write_36 : decode b_O_write 36 = .ok (.aload_n 0, 1) := by decide +kernel
theorem d_O_write_37 : decode b_O_write 37 = .ok (.getfield 42, 3) := by decide +kernel
theorem d_O_write_40 : decode b_O_write 40 = .ok (.invokevirtual 123, 3) := by decide +kernel
theorem d_O_write_43 : decode b_O_write 43 = .ok (.lcmp, 1) := by decide +kernel
theorem d_O_write_44 : decode b_O_write 44 = .ok (.ifCond .lt 5, 3) := by decide +kernel
theorem d_O_write_47 : decode b_O_write 47 = .ok (.iconst 0, 1) := by decide +kernel
theorem d_O_write_48 : decode b_O_write 48 = .ok (.ireturn, 1) := by decide +kernel
theorem d_O_write_49 : decode b_O_write 49 = .ok (.aload_n 0, 1) := by decide +kernel
theorem d_O_write_50 : decode b_O_write 50 = .ok (.getfield 42, 3) := by decide +kernel
theorem d_O_write_53 : decode b_O_write 53 = .ok (.iload_n 1, 1) := by decide +kernel
theorem d_O_write_54 : decode b_O_write 54 = .ok (.aload_n 0, 1) := by decide +kernel
theorem d_O_write_55 : decode b_O_write 55 = .ok (.getfield 58, 3) := by decide +kernel
theorem d_O_write_58 : decode b_O_write 58 = .ok (.invokevirtual 143, 3) := by decide +kernel
theorem d_O_write_61 : decode b_O_write 61 = .ok (.aload_n 0, 1) := by decide +kernel
theorem d_O_write_62 : decode b_O_write 62 = .ok (.getfield 35, 3) := by decide +kernel
theorem d_O_write_65 : decode b_O_write 65 = .ok (.iload_n 2, 1) := by decide +kernel
theorem d_O_write_66 : decode b_O_write 66 = .ok (.invokevirtual 113, 3) := by decide +kernel
theorem d_O_write_69 : decode b_O_write 69 = .ok (.aload_n 0, 1) := by decide +kernel
theorem d_O_write_70 : decode b_O_write 70 = .ok (.getfield 9, 3) := by decide +kernel
theorem d_O_write_73 : decode b_O_write 73 = .ok (.invokestatic 201, 3) := by decide +kernel
theorem d_O_write_76 : decode b_O_write 76 = .ok (.istore_n 3, 1) := by decide +kernel
theorem d_O_write_77 : decode b_O_write 77 = .ok (.iconst 0, 1) := by decide +kernel
theorem d_O_write_78 : decode b_O_write 78 = .ok (.istore 4, 2) := by decide +kernel
theorem d_O_write_80 : decode b_O_write 80 = .ok (.iload 4, 2) := by decide +kernel
theorem d_O_write_82 : decode b_O_write 82 = .ok (.iload_n 3, 1) := by decide +kernel
theorem d_O_write_83 : decode b_O_write 83 = .ok (.if_icmp .ge 26, 3) := by decide +kernel
theorem d_O_write_86 : decode b_O_write 86 = .ok (.aload_n 0, 1) := by decide +kernel
theorem d_O_write_87 : decode b_O_write 87 = .ok (.getfield 35, 3) := by decide +kernel
theorem d_O_write_90 : decode b_O_write 90 = .ok (.iload_n 2, 1) := by decide +kernel
theorem d_O_write_91 : decode b_O_write 91 = .ok (.iload 4, 2) := by decide +kernel
theorem d_O_write_93 : decode b_O_write 93 = .ok (.aload_n 0, 1) := by decide +kernel
theorem d_O_write_94 : decode b_O_write 94 = .ok (.getfield 58, 3) := by decide +kernel
theorem d_O_write_97 : decode b_O_write 97 = .ok (.iload 4, 2) := by decide +kernel
theorem d_O_write_99 : decode b_O_write 99 = .ok (.iaload, 1) := by decide +kernel
theorem d_O_write_100 : decode b_O_write 100 = .ok (.invokevirtual 186, 3) := by decide +kernel
theorem d_O_write_103 : decode b_O_write 103 = .ok (.iinc 4 1, 3) := by decide +kernel
theorem d_O_write_106 : decode b_O_write 106 = .ok (.goto (-26), 3) := by decide +kernel
theorem d_O_write_109 : decode b_O_write 109 = .ok (.iload_n 3, 1) := by decide +kernel
theorem d_O_write_110 : decode b_O_write 110 = .ok (.ireturn, 1) := by decide +kernel
theorem d_O_count_0 : decode b_O_count 0 = .ok (.iload_n 1, 1) := by decide +kernel
theorem d_O_count_1 : decode b_O_count 1 = .ok (.tableswitch 109 0 8 #[51, 56, 61, 69, 77, 85, 94, 99, 104], 51) := by decide +kernel
theorem d_O_count_52 : decode b_O_count 52 = .ok (.aload_n 0, 1) := by decide +kernel
theorem d_O_count_53 : decode b_O_count 53 = .ok (.getfield 9, 3) := by decide +kernel
theorem d_O_count_56 : decode b_O_count 56 = .ok (.ireturn, 1) := by decide +kernel
theorem d_O_count_57 : decode b_O_count 57 = .ok (.aload_n 0, 1) := by decide +kernel
theorem d_O_count_58 : decode b_O_count 58 = .ok (.getfield 17, 3) := by decide +kernel
theorem d_O_count_61 : decode b_O_count 61 = .ok (.ireturn, 1) := by decide +kernel
theorem d_O_count_62 : decode b_O_count 62 = .ok (.aload_n 0, 1) := by decide +kernel
theorem d_O_count_63 : decode b_O_count 63 = .ok (.getfield 20, 3) := by decide +kernel
theorem d_O_count_66 : decode b_O_count 66 = .ok (.invokestatic 71, 3) := by decide +kernel
theorem d_O_count_69 : decode b_O_count 69 = .ok (.ireturn, 1) := by decide +kernel
theorem d_O_count_70 : decode b_O_count 70 = .ok (.aload_n 0, 1) := by decide +kernel
theorem d_O_count_71 : decode b_O_count 71 = .ok (.getfield 42, 3) := by decide +kernel
theorem d_O_count_74 : decode b_O_count 74 = .ok (.invokevirtual 127, 3) := by decide +kernel
theorem d_O_count_77 : decode b_O_count 77 = .ok (.ireturn, 1) := by decide +kernel
theorem d_O_count_78 : decode b_O_count 78 = .ok (.aload_n 0, 1) := by decide +kernel
theorem d_O_count_79 : decode b_O_count 79 = .ok (.getfield 42, 3) := by decide +kernel
theorem d_O_count_82 : decode b_O_count 82 = .ok (.invokevirtual 206, 3) := by decide +kernel
theorem d_O_count_85 : decode b_O_count 85 = .ok (.ireturn, 1) := by decide +kernel
theorem d_O_count_86 : decode b_O_count 86 = .ok (.aload_n 0, 1) := by decide +kernel
theorem d_O_count_87 : decode b_O_count 87 = .ok (.getfield 42, 3) := by decide +kernel
theorem d_O_count_90 : decode b_O_count 90 = .ok (.invokevirtual 123, 3) := by decide +kernel
theorem d_O_count_93 : decode b_O_count 93 = .ok (.l2i, 1) := by decide +kernel
theorem d_O_count_94 : decode b_O_count 94 = .ok (.ireturn, 1) := by decide +kernel
theorem d_O_count_95 : decode b_O_count 95 = .ok (.aload_n 0, 1) := by decide +kernel
theorem d_O_count_96 : decode b_O_count 96 = .ok (.getfield 49, 3) := by decide +kernel
theorem d_O_count_99 : decode b_O_count 99 = .ok (.ireturn, 1) := by decide +kernel
theorem d_O_count_100 : decode b_O_count 100 = .ok (.aload_n 0, 1) := by decide +kernel
theorem d_O_count_101 : decode b_O_count 101 = .ok (.getfield 26, 3) := by decide +kernel
theorem d_O_count_104 : decode b_O_count 104 = .ok (.ireturn, 1) := by decide +kernel
theorem d_O_count_105 : decode b_O_count 105 = .ok (.aload_n 0, 1) := by decide +kernel
theorem d_O_count_106 : decode b_O_count 106 = .ok (.getfield 29, 3) := by decide +kernel
theorem d_O_count_109 : decode b_O_count 109 = .ok (.ireturn, 1) := by decide +kernel
theorem d_O_count_110 : decode b_O_count 110 = .ok (.bipush (-2), 2) := by decide +kernel
theorem d_O_count_112 : decode b_O_count 112 = .ok (.ireturn, 1) := by decide +kernel
theorem d_O_digest_0 : decode b_O_digest 0 = .ok (.ldc2_w 209, 3) := by decide +kernel
theorem d_O_digest_3 : decode b_O_digest 3 = .ok (.lstore_n 1, 1) := by decide +kernel
theorem d_O_digest_4 : decode b_O_digest 4 = .ok (.iconst 0, 1) := by decide +kernel
theorem d_O_digest_5 : decode b_O_digest 5 = .ok (.istore_n 3, 1) := by decide +kernel
theorem d_O_digest_6 : decode b_O_digest 6 = .ok (.iload_n 3, 1) := by decide +kernel
theorem d_O_digest_7 : decode b_O_digest 7 = .ok (.bipush 7, 2) := by decide +kernel
theorem d_O_digest_9 : decode b_O_digest 9 = .ok (.if_icmp .gt 22, 3) := by decide +kernel
theorem d_O_digest_12 : decode b_O_digest 12 = .ok (.ldc2_w 211, 3) := by decide +kernel
theorem d_O_digest_15 : decode b_O_digest 15 = .ok (.lload_n 1, 1) := by decide +kernel
theorem d_O_digest_16 : decode b_O_digest 16 = .ok (.lmul, 1) := by decide +kernel
theorem d_O_digest_17 : decode b_O_digest 17 = .ok (.aload_n 0, 1) := by decide +kernel
theorem d_O_digest_18 : decode b_O_digest 18 = .ok (.iload_n 3, 1) := by decide +kernel
theorem d_O_digest_19 : decode b_O_digest 19 = .ok (.invokevirtual 213, 3) := by decide +kernel
theorem d_O_digest_22 : decode b_O_digest 22 = .ok (.i2l, 1) := by decide +kernel
theorem d_O_digest_23 : decode b_O_digest 23 = .ok (.ladd, 1) := by decide +kernel
theorem d_O_digest_24 : decode b_O_digest 24 = .ok (.lstore_n 1, 1) := by decide +kernel
theorem d_O_digest_25 : decode b_O_digest 25 = .ok (.iinc 3 1, 3) := by decide +kernel
theorem d_O_digest_28 : decode b_O_digest 28 = .ok (.goto (-22), 3) := by decide +kernel
theorem d_O_digest_31 : decode b_O_digest 31 = .ok (.iconst 0, 1) := by decide +kernel
theorem d_O_digest_32 : decode b_O_digest 32 = .ok (.istore_n 3, 1) := by decide +kernel
theorem d_O_digest_33 : decode b_O_digest 33 = .ok (.iload_n 3, 1) := by decide +kernel
theorem d_O_digest_34 : decode b_O_digest 34 = .ok (.aload_n 0, 1) := by decide +kernel
theorem d_O_digest_35 : decode b_O_digest 35 = .ok (.getfield 17, 3) := by decide +kernel
theorem d_O_digest_38 : decode b_O_digest 38 = .ok (.if_icmp .ge 35, 3) := by decide +kernel
theorem d_O_digest_41 : decode b_O_digest 41 = .ok (.ldc2_w 211, 3) := by decide +kernel
theorem d_O_digest_44 : decode b_O_digest 44 = .ok (.lload_n 1, 1) := by decide +kernel
theorem d_O_digest_45 : decode b_O_digest 45 = .ok (.lmul, 1) := by decide +kernel
theorem d_O_digest_46 : decode b_O_digest 46 = .ok (.aload_n 0, 1) := by decide +kernel
theorem d_O_digest_47 : decode b_O_digest 47 = .ok (.iload_n 3, 1) := by decide +kernel
theorem d_O_digest_48 : decode b_O_digest 48 = .ok (.invokevirtual 85, 3) := by decide +kernel
theorem d_O_digest_51 : decode b_O_digest 51 = .ok (.i2l, 1) := by decide +kernel
theorem d_O_digest_52 : decode b_O_digest 52 = .ok (.ladd, 1) := by decide +kernel
theorem d_O_digest_53 : decode b_O_digest 53 = .ok (.lstore_n 1, 1) := by decide +kernel
theorem d_O_digest_54 : decode b_O_digest 54 = .ok (.ldc2_w 211, 3) := by decide +kernel
theorem d_O_digest_57 : decode b_O_digest 57 = .ok (.lload_n 1, 1) := by decide +kernel
theorem d_O_digest_58 : decode b_O_digest 58 = .ok (.lmul, 1) := by decide +kernel
theorem d_O_digest_59 : decode b_O_digest 59 = .ok (.aload_n 0, 1) := by decide +kernel
theorem d_O_digest_60 : decode b_O_digest 60 = .ok (.iload_n 3, 1) := by decide +kernel
theorem d_O_digest_61 : decode b_O_digest 61 = .ok (.invokevirtual 216, 3) := by decide +kernel
theorem d_O_digest_64 : decode b_O_digest 64 = .ok (.i2l, 1) := by decide +kernel
theorem d_O_digest_65 : decode b_O_digest 65 = .ok (.ladd, 1) := by decide +kernel
theorem d_O_digest_66 : decode b_O_digest 66 = .ok (.lstore_n 1, 1) := by decide +kernel
theorem d_O_digest_67 : decode b_O_digest 67 = .ok (.iinc 3 1, 3) := by decide +kernel
theorem d_O_digest_70 : decode b_O_digest 70 = .ok (.goto (-37), 3) := by decide +kernel
theorem d_O_digest_73 : decode b_O_digest 73 = .ok (.ldc2_w 211, 3) := by decide +kernel
theorem d_O_digest_76 : decode b_O_digest 76 = .ok (.lload_n 1, 1) := by decide +kernel
theorem d_O_digest_77 : decode b_O_digest 77 = .ok (.lmul, 1) := by decide +kernel
theorem d_O_digest_78 : decode b_O_digest 78 = .ok (.aload_n 0, 1) := by decide +kernel
theorem d_O_digest_79 : decode b_O_digest 79 = .ok (.invokevirtual 219, 3) := by decide +kernel
theorem d_O_digest_82 : decode b_O_digest 82 = .ok (.ladd, 1) := by decide +kernel
theorem d_O_digest_83 : decode b_O_digest 83 = .ok (.lstore_n 1, 1) := by decide +kernel
theorem d_O_digest_84 : decode b_O_digest 84 = .ok (.iconst (-1), 1) := by decide +kernel
theorem d_O_digest_85 : decode b_O_digest 85 = .ok (.istore_n 3, 1) := by decide +kernel
end
section
theorem d_O_digest_86 : decode b_O_digest 86 = .ok (.iload_n 3, 1) := by decide +kernel
theorem d_O_digest_87 : decode b_O_digest 87 = .ok (.bipush 40, 2) := by decide +kernel
theorem d_O_digest_89 : decode b_O_digest 89 = .ok (.if_icmp .ge 22, 3) := by decide +kernel
theorem d_O_digest_92 : decode b_O_digest 92 = .ok (.ldc2_w 211, 3) := by decide +kernel
theorem d_O_digest_95 : decode b_O_digest 95 = .ok (.lload_n 1, 1) := by decide +kernel
theorem d_O_digest_96 : decode b_O_digest 96 = .ok (.lmul, 1) := by decide +kernel
theorem d_O_digest_97 : decode b_O_digest 97 = .ok (.aload_n 0, 1) := by decide +kernel
theorem d_O_digest_98 : decode b_O_digest 98 = .ok (.iload_n 3, 1) := by decide +kernel
theorem d_O_digest_99 : decode b_O_digest 99 = .ok (.invokevirtual 222, 3) := by decide +kernel
theorem d_O_digest_102 : decode b_O_digest 102 = .ok (.i2l, 1) := by decide +kernel
theorem d_O_digest_103 : decode b_O_digest 103 = .ok (.ladd, 1) := by decide +kernel
theorem d_O_digest_104 : decode b_O_digest 104 = .ok (.lstore_n 1, 1) := by decide +kernel
theorem d_O_digest_105 : decode b_O_digest 105 = .ok (.iinc 3 1, 3) := by decide +kernel
theorem d_O_digest_108 : decode b_O_digest 108 = .ok (.goto (-22), 3) := by decide +kernel
theorem d_O_digest_111 : decode b_O_digest 111 = .ok (.iconst 0, 1) := by decide +kernel
theorem d_O_digest_112 : decode b_O_digest 112 = .ok (.istore_n 3, 1) := by decide +kernel
theorem d_O_digest_113 : decode b_O_digest 113 = .ok (.iload_n 3, 1) := by decide +kernel
theorem d_O_digest_114 : decode b_O_digest 114 = .ok (.bipush 7, 2) := by decide +kernel
theorem d_O_digest_116 : decode b_O_digest 116 = .ok (.if_icmp .ge 39, 3) := by decide +kernel
theorem d_O_digest_119 : decode b_O_digest 119 = .ok (.iconst 0, 1) := by decide +kernel
theorem d_O_digest_120 : decode b_O_digest 120 = .ok (.istore 4, 2) := by decide +kernel
theorem d_O_digest_122 : decode b_O_digest 122 = .ok (.iload 4, 2) := by decide +kernel
theorem d_O_digest_124 : decode b_O_digest 124 = .ok (.iconst 2, 1) := by decide +kernel
theorem d_O_digest_125 : decode b_O_digest 125 = .ok (.if_icmp .gt 24, 3) := by decide +kernel
theorem d_O_digest_128 : decode b_O_digest 128 = .ok (.ldc2_w 211, 3) := by decide +kernel
theorem d_O_digest_131 : decode b_O_digest 131 = .ok (.lload_n 1, 1) := by decide +kernel
theorem d_O_digest_132 : decode b_O_digest 132 = .ok (.lmul, 1) := by decide +kernel
theorem d_O_digest_133 : decode b_O_digest 133 = .ok (.aload_n 0, 1) := by decide +kernel
theorem d_O_digest_134 : decode b_O_digest 134 = .ok (.iload_n 3, 1) := by decide +kernel
theorem d_O_digest_135 : decode b_O_digest 135 = .ok (.iload 4, 2) := by decide +kernel
theorem d_O_digest_137 : decode b_O_digest 137 = .ok (.invokevirtual 225, 3) := by decide +kernel
theorem d_O_digest_140 : decode b_O_digest 140 = .ok (.i2l, 1) := by decide +kernel
theorem d_O_digest_141 : decode b_O_digest 141 = .ok (.ladd, 1) := by decide +kernel
theorem d_O_digest_142 : decode b_O_digest 142 = .ok (.lstore_n 1, 1) := by decide +kernel
theorem d_O_digest_143 : decode b_O_digest 143 = .ok (.iinc 4 1, 3) := by decide +kernel
theorem d_O_digest_146 : decode b_O_digest 146 = .ok (.goto (-24), 3) := by decide +kernel
theorem d_O_digest_149 : decode b_O_digest 149 = .ok (.iinc 3 1, 3) := by decide +kernel
theorem d_O_digest_152 : decode b_O_digest 152 = .ok (.goto (-39), 3) := by decide +kernel
theorem d_O_digest_155 : decode b_O_digest 155 = .ok (.getstatic 228, 3) := by decide +kernel
theorem d_O_digest_158 : decode b_O_digest 158 = .ok (.astore_n 3, 1) := by decide +kernel
theorem d_O_digest_159 : decode b_O_digest 159 = .ok (.aload_n 3, 1) := by decide +kernel
theorem d_O_digest_160 : decode b_O_digest 160 = .ok (.arraylength, 1) := by decide +kernel
theorem d_O_digest_161 : decode b_O_digest 161 = .ok (.istore 4, 2) := by decide +kernel
theorem d_O_digest_163 : decode b_O_digest 163 = .ok (.iconst 0, 1) := by decide +kernel
theorem d_O_digest_164 : decode b_O_digest 164 = .ok (.istore 5, 2) := by decide +kernel
theorem d_O_digest_166 : decode b_O_digest 166 = .ok (.iload 5, 2) := by decide +kernel
theorem d_O_digest_168 : decode b_O_digest 168 = .ok (.iload 4, 2) := by decide +kernel
theorem d_O_digest_170 : decode b_O_digest 170 = .ok (.if_icmp .ge 47, 3) := by decide +kernel
theorem d_O_digest_173 : decode b_O_digest 173 = .ok (.aload_n 3, 1) := by decide +kernel
theorem d_O_digest_174 : decode b_O_digest 174 = .ok (.iload 5, 2) := by decide +kernel
theorem d_O_digest_176 : decode b_O_digest 176 = .ok (.iaload, 1) := by decide +kernel
theorem d_O_digest_177 : decode b_O_digest 177 = .ok (.istore 6, 2) := by decide +kernel
theorem d_O_digest_179 : decode b_O_digest 179 = .ok (.iconst 0, 1) := by decide +kernel
theorem d_O_digest_180 : decode b_O_digest 180 = .ok (.istore 7, 2) := by decide +kernel
theorem d_O_digest_182 : decode b_O_digest 182 = .ok (.iload 7, 2) := by decide +kernel
theorem d_O_digest_184 : decode b_O_digest 184 = .ok (.bipush 8, 2) := by decide +kernel
theorem d_O_digest_186 : decode b_O_digest 186 = .ok (.if_icmp .ge 25, 3) := by decide +kernel
theorem d_O_digest_189 : decode b_O_digest 189 = .ok (.ldc2_w 211, 3) := by decide +kernel
theorem d_O_digest_192 : decode b_O_digest 192 = .ok (.lload_n 1, 1) := by decide +kernel
theorem d_O_digest_193 : decode b_O_digest 193 = .ok (.lmul, 1) := by decide +kernel
theorem d_O_digest_194 : decode b_O_digest 194 = .ok (.aload_n 0, 1) := by decide +kernel
theorem d_O_digest_195 : decode b_O_digest 195 = .ok (.iload 6, 2) := by decide +kernel
theorem d_O_digest_197 : decode b_O_digest 197 = .ok (.iload 7, 2) := by decide +kernel
theorem d_O_digest_199 : decode b_O_digest 199 = .ok (.invokevirtual 231, 3) := by decide +kernel
theorem d_O_digest_202 : decode b_O_digest 202 = .ok (.i2l, 1) := by decide +kernel
theorem d_O_digest_203 : decode b_O_digest 203 = .ok (.ladd, 1) := by decide +kernel
theorem d_O_digest_204 : decode b_O_digest 204 = .ok (.lstore_n 1, 1) := by decide +kernel
theorem d_O_digest_205 : decode b_O_digest 205 = .ok (.iinc 7 1, 3) := by decide +kernel
theorem d_O_digest_208 : decode b_O_digest 208 = .ok (.goto (-26), 3) := by decide +kernel
theorem d_O_digest_211 : decode b_O_digest 211 = .ok (.iinc 5 1, 3) := by decide +kernel
theorem d_O_digest_214 : decode b_O_digest 214 = .ok (.goto (-48), 3) := by decide +kernel
theorem d_O_digest_217 : decode b_O_digest 217 = .ok (.getstatic 234, 3) := by decide +kernel
theorem d_O_digest_220 : decode b_O_digest 220 = .ok (.astore_n 3, 1) := by decide +kernel
theorem d_O_digest_221 : decode b_O_digest 221 = .ok (.aload_n 3, 1) := by decide +kernel
theorem d_O_digest_222 : decode b_O_digest 222 = .ok (.arraylength, 1) := by decide +kernel
theorem d_O_digest_223 : decode b_O_digest 223 = .ok (.istore 4, 2) := by decide +kernel
theorem d_O_digest_225 : decode b_O_digest 225 = .ok (.iconst 0, 1) := by decide +kernel
theorem d_O_digest_226 : decode b_O_digest 226 = .ok (.istore 5, 2) := by decide +kernel
theorem d_O_digest_228 : decode b_O_digest 228 = .ok (.iload 5, 2) := by decide +kernel
theorem d_O_digest_230 : decode b_O_digest 230 = .ok (.iload 4, 2) := by decide +kernel
theorem d_O_digest_232 : decode b_O_digest 232 = .ok (.if_icmp .ge 43, 3) := by decide +kernel
theorem d_O_digest_235 : decode b_O_digest 235 = .ok (.aload_n 3, 1) := by decide +kernel
theorem d_O_digest_236 : decode b_O_digest 236 = .ok (.iload 5, 2) := by decide +kernel
theorem d_O_digest_238 : decode b_O_digest 238 = .ok (.iaload, 1) := by decide +kernel
theorem d_O_digest_239 : decode b_O_digest 239 = .ok (.istore 6, 2) := by decide +kernel
theorem d_O_digest_241 : decode b_O_digest 241 = .ok (.ldc2_w 211, 3) := by decide +kernel
theorem d_O_digest_244 : decode b_O_digest 244 = .ok (.lload_n 1, 1) := by decide +kernel
theorem d_O_digest_245 : decode b_O_digest 245 = .ok (.lmul, 1) := by decide +kernel
theorem d_O_digest_246 : decode b_O_digest 246 = .ok (.aload_n 0, 1) := by decide +kernel
theorem d_O_digest_247 : decode b_O_digest 247 = .ok (.iload 6, 2) := by decide +kernel
theorem d_O_digest_249 : decode b_O_digest 249 = .ok (.invokevirtual 237, 3) := by decide +kernel
theorem d_O_digest_252 : decode b_O_digest 252 = .ok (.i2l, 1) := by decide +kernel
theorem d_O_digest_253 : decode b_O_digest 253 = .ok (.ladd, 1) := by decide +kernel
theorem d_O_digest_254 : decode b_O_digest 254 = .ok (.lstore_n 1, 1) := by decide +kernel
theorem d_O_digest_255 : decode b_O_digest 255 = .ok (.ldc2_w 211, 3) := by decide +kernel
theorem d_O_digest_258 : decode b_O_digest 258 = .ok (.lload_n 1, 1) := by decide +kernel
theorem d_O_digest_259 : decode b_O_digest 259 = .ok (.lmul, 1) := by decide +kernel
theorem d_O_digest_260 : decode b_O_digest 260 = .ok (.aload_n 0, 1) := by decide +kernel
theorem d_O_digest_261 : decode b_O_digest 261 = .ok (.iload 6, 2) := by decide +kernel
theorem d_O_digest_263 : decode b_O_digest 263 = .ok (.invokevirtual 240, 3) := by decide +kernel
theorem d_O_digest_266 : decode b_O_digest 266 = .ok (.i2l, 1) := by decide +kernel
theorem d_O_digest_267 : decode b_O_digest 267 = .ok (.ladd, 1) := by decide +kernel
theorem d_O_digest_268 : decode b_O_digest 268 = .ok (.lstore_n 1, 1) := by decide +kernel
theorem d_O_digest_269 : decode b_O_digest 269 = .ok (.iinc 5 1, 3) := by decide +kernel
theorem d_O_digest_272 : decode b_O_digest 272 = .ok (.goto (-44), 3) := by decide +kernel
theorem d_O_digest_275 : decode b_O_digest 275 = .ok (.iconst 0, 1) := by decide +kernel
theorem d_O_digest_276 : decode b_O_digest 276 = .ok (.istore_n 3, 1) := by decide +kernel
theorem d_O_digest_277 : decode b_O_digest 277 = .ok (.iload_n 3, 1) := by decide +kernel
theorem d_O_digest_278 : decode b_O_digest 278 = .ok (.aload_n 0, 1) := by decide +kernel
theorem d_O_digest_279 : decode b_O_digest 279 = .ok (.getfield 9, 3) := by decide +kernel
theorem d_O_digest_282 : decode b_O_digest 282 = .ok (.if_icmp .ge 59, 3) := by decide +kernel
theorem d_O_digest_285 : decode b_O_digest 285 = .ok (.iconst 0, 1) := by decide +kernel
theorem d_O_digest_286 : decode b_O_digest 286 = .ok (.istore 4, 2) := by decide +kernel
theorem d_O_digest_288 : decode b_O_digest 288 = .ok (.iload 4, 2) := by decide +kernel
theorem d_O_digest_290 : decode b_O_digest 290 = .ok (.aload_n 0, 1) := by decide +kernel
theorem d_O_digest_291 : decode b_O_digest 291 = .ok (.getfield 9, 3) := by decide +kernel
theorem d_O_digest_294 : decode b_O_digest 294 = .ok (.if_icmp .ge 41, 3) := by decide +kernel
theorem d_O_digest_297 : decode b_O_digest 297 = .ok (.ldc2_w 211, 3) := by decide +kernel
theorem d_O_digest_300 : decode b_O_digest 300 = .ok (.lload_n 1, 1) := by decide +kernel
theorem d_O_digest_301 : decode b_O_digest 301 = .ok (.lmul, 1) := by decide +kernel
theorem d_O_digest_302 : decode b_O_digest 302 = .ok (.aload_n 0, 1) := by decide +kernel
theorem d_O_digest_303 : decode b_O_digest 303 = .ok (.iload_n 3, 1) := by decide +kernel
theorem d_O_digest_304 : decode b_O_digest 304 = .ok (.iload 4, 2) := by decide +kernel
theorem d_O_digest_306 : decode b_O_digest 306 = .ok (.iconst 0, 1) := by decide +kernel
theorem d_O_digest_307 : decode b_O_digest 307 = .ok (.invokevirtual 243, 3) := by decide +kernel
theorem d_O_digest_310 : decode b_O_digest 310 = .ok (.i2l, 1) := by decide +kernel
theorem d_O_digest_311 : decode b_O_digest 311 = .ok (.ladd, 1) := by decide +kernel
theorem d_O_digest_312 : decode b_O_digest 312 = .ok (.lstore_n 1, 1) := by decide +kernel
theorem d_O_digest_313 : decode b_O_digest 313 = .ok (.ldc2_w 211, 3) := by decide +kernel
theorem d_O_digest_316 : decode b_O_digest 316 = .ok (.lload_n 1, 1) := by decide +kernel
theorem d_O_digest_317 : decode b_O_digest 317 = .ok (.lmul, 1) := by decide +kernel
theorem d_O_digest_318 : decode b_O_digest 318 = .ok (.aload_n 0, 1) := by decide +kernel
theorem d_O_digest_319 : decode b_O_digest 319 = .ok (.iload_n 3, 1) := by decide +kernel
theorem d_O_digest_320 : decode b_O_digest 320 = .ok (.iload 4, 2) := by decide +kernel
theorem d_O_digest_322 : decode b_O_digest 322 = .ok (.iconst 1, 1) := by decide +kernel
theorem d_O_digest_323 : decode b_O_digest 323 = .ok (.invokevirtual 243, 3) := by decide +kernel
theorem d_O_digest_326 : decode b_O_digest 326 = .ok (.i2l, 1) := by decide +kernel
theorem d_O_digest_327 : decode b_O_digest 327 = .ok (.ladd, 1) := by decide +kernel
theorem d_O_digest_328 : decode b_O_digest 328 = .ok (.lstore_n 1, 1) := by decide +kernel
theorem d_O_digest_329 : decode b_O_digest 329 = .ok (.iinc 4 1, 3) := by decide +kernel
theorem d_O_digest_332 : decode b_O_digest 332 = .ok (.goto (-44), 3) := by decide +kernel
theorem d_O_digest_335 : decode b_O_digest 335 = .ok (.iinc 3 1, 3) := by decide +kernel
theorem d_O_digest_338 : decode b_O_digest 338 = .ok (.goto (-61), 3) := by decide +kernel
theorem d_O_digest_341 : decode b_O_digest 341 = .ok (.ldc2_w 211, 3) := by decide +kernel
theorem d_O_digest_344 : decode b_O_digest 344 = .ok (.lload_n 1, 1) := by decide +kernel
theorem d_O_digest_345 : decode b_O_digest 345 = .ok (.lmul, 1) := by decide +kernel
theorem d_O_digest_346 : decode b_O_digest 346 = .ok (.aload_n 0, 1) := by decide +kernel
theorem d_O_digest_347 : decode b_O_digest 347 = .ok (.invokevirtual 246, 3) := by decide +kernel
theorem d_O_digest_350 : decode b_O_digest 350 = .ok (.i2l, 1) := by decide +kernel
theorem d_O_digest_351 : decode b_O_digest 351 = .ok (.ladd, 1) := by decide +kernel
theorem d_O_digest_352 : decode b_O_digest 352 = .ok (.lstore_n 1, 1) := by decide +kernel
theorem d_O_digest_353 : decode b_O_digest 353 = .ok (.ldc2_w 211, 3) := by decide +kernel
theorem d_O_digest_356 : decode b_O_digest 356 = .ok (.lload_n 1, 1) := by decide +kernel
theorem d_O_digest_357 : decode b_O_digest 357 = .ok (.lmul, 1) := by decide +kernel
theorem d_O_digest_358 : decode b_O_digest 358 = .ok (.aload_n 0, 1) := by decide +kernel
theorem d_O_digest_359 : decode b_O_digest 359 = .ok (.invokevirtual 157, 3) := by decide +kernel
theorem d_O_digest_362 : decode b_O_digest 362 = .ok (.i2l, 1) := by decide +kernel
theorem d_O_digest_363 : decode b_O_digest 363 = .ok (.ladd, 1) := by decide +kernel
theorem d_O_digest_364 : decode b_O_digest 364 = .ok (.lstore_n 1, 1) := by decide +kernel
theorem d_O_digest_365 : decode b_O_digest 365 = .ok (.ldc2_w 211, 3) := by decide +kernel
theorem d_O_digest_368 : decode b_O_digest 368 = .ok (.lload_n 1, 1) := by decide +kernel
theorem d_O_digest_369 : decode b_O_digest 369 = .ok (.lmul, 1) := by decide +kernel
theorem d_O_digest_370 : decode b_O_digest 370 = .ok (.aload_n 0, 1) := by decide +kernel
theorem d_O_digest_371 : decode b_O_digest 371 = .ok (.invokevirtual 166, 3) := by decide +kernel
theorem d_O_digest_374 : decode b_O_digest 374 = .ok (.i2l, 1) := by decide +kernel
theorem d_O_digest_375 : decode b_O_digest 375 = .ok (.ladd, 1) := by decide +kernel
theorem d_O_digest_376 : decode b_O_digest 376 = .ok (.lstore_n 1, 1) := by decide +kernel
theorem d_O_digest_377 : decode b_O_digest 377 = .ok (.ldc2_w 211, 3) := by decide +kernel
theorem d_O_digest_380 : decode b_O_digest 380 = .ok (.lload_n 1, 1) := by decide +kernel
theorem d_O_digest_381 : decode b_O_digest 381 = .ok (.lmul, 1) := by decide +kernel
theorem d_O_digest_382 : decode b_O_digest 382 = .ok (.aload_n 0, 1) := by decide +kernel
theorem d_O_digest_383 : decode b_O_digest 383 = .ok (.invokevirtual 249, 3) := by decide +kernel
theorem d_O_digest_386 : decode b_O_digest 386 = .ok (.i2l, 1) := by decide +kernel
theorem d_O_digest_387 : decode b_O_digest 387 = .ok (.ladd, 1) := by decide +kernel
theorem d_O_digest_388 : decode b_O_digest 388 = .ok (.lreturn, 1) := by decide +kernel
theorem d_M_init_0 : decode b_M_init 0 = .ok (.aload_n 0, 1) := by decide +kernel
theorem d_M_init_1 : decode b_M_init 1 = .ok (.invokespecial 1, 3) := by decide +kernel
theorem d_M_init_4 : decode b_M_init 4 = .ok (.aload_n 0, 1) := by decide +kernel
theorem d_M_init_5 : decode b_M_init 5 = .ok (.iconst 5, 1) := by decide +kernel
theorem d_M_init_6 : decode b_M_init 6 = .ok (.putfield 7, 3) := by decide +kernel
theorem d_M_init_9 : decode b_M_init 9 = .ok (.aload_n 0, 1) := by decide +kernel
theorem d_M_init_10 : decode b_M_init 10 = .ok (.bipush 10, 2) := by decide +kernel
theorem d_M_init_12 : decode b_M_init 12 = .ok (.newarray .int, 2) := by decide +kernel
theorem d_M_init_14 : decode b_M_init 14 = .ok (.putfield 13, 3) := by decide +kernel
theorem d_M_init_17 : decode b_M_init 17 = .ok (.aload_n 0, 1) := by decide +kernel
theorem d_M_init_18 : decode b_M_init 18 = .ok (.sipush 256, 3) := by decide +kernel
theorem d_M_init_21 : decode b_M_init 21 = .ok (.newarray .int, 2) := by decide +kernel
theorem d_M_init_23 : decode b_M_init 23 = .ok (.putfield 17, 3) := by decide +kernel
theorem d_M_init_26 : decode b_M_init 26 = .ok (.aload_n 0, 1) := by decide +kernel
theorem d_M_init_27 : decode b_M_init 27 = .ok (.sipush 256, 3) := by decide +kernel
theorem d_M_init_30 : decode b_M_init 30 = .ok (.newarray .int, 2) := by decide +kernel
theorem d_M_init_32 : decode b_M_init 32 = .ok (.putfield 20, 3) := by decide +kernel
theorem d_M_init_35 : decode b_M_init 35 = .ok (.aload_n 0, 1) := by decide +kernel
theorem d_M_init_36 : decode b_M_init 36 = .ok (.sipush 256, 3) := by decide +kernel
theorem d_M_init_39 : decode b_M_init 39 = .ok (.newarray .int, 2) := by decide +kernel
theorem d_M_init_41 : decode b_M_init 41 = .ok (.putfield 23, 3) := by decide +kernel
theorem d_M_init_44 : decode b_M_init 44 = .ok (.aload_n 0, 1) := by decide +kernel
theorem d_M_init_45 : decode b_M_init 45 = .ok (.sipush 256, 3) := by decide +kernel
theorem d_M_init_48 : decode b_M_init 48 = .ok (.newarray .int, 2) := by decide +kernel
theorem d_M_init_50 : decode b_M_init 50 = .ok (.putfield 26, 3) := by decide +kernel
theorem d_M_init_53 : decode b_M_init 53 = .ok (.aload_n 0, 1) := by decide +kernel
theorem d_M_init_54 : decode b_M_init 54 = .ok (.bipush 8, 2) := by decide +kernel
theorem d_M_init_56 : decode b_M_init 56 = .ok (.newarray .int, 2) := by decide +kernel
theorem d_M_init_58 : decode b_M_init 58 = .ok (.putfield 29, 3) := by decide +kernel
theorem d_M_init_61 : decode b_M_init 61 = .ok (.aload_n 0, 1) := by decide +kernel
theorem d_M_init_62 : decode b_M_init 62 = .ok (.bipush 8, 2) := by decide +kernel
theorem d_M_init_64 : decode b_M_init 64 = .ok (.newarray .int, 2) := by decide +kernel
theorem d_M_init_66 : decode b_M_init 66 = .ok (.putfield 32, 3) := by decide +kernel
theorem d_M_init_69 : decode b_M_init 69 = .ok (.aload_n 0, 1) := by decide +kernel
theorem d_M_init_70 : decode b_M_init 70 = .ok (.bipush 8, 2) := by decide +kernel
theorem d_M_init_72 : decode b_M_init 72 = .ok (.newarray .int, 2) := by decide +kernel
theorem d_M_init_74 : decode b_M_init 74 = .ok (.putfield 35, 3) := by decide +kernel
theorem d_M_init_77 : decode b_M_init 77 = .ok (.aload_n 0, 1) := by decide +kernel
theorem d_M_init_78 : decode b_M_init 78 = .ok (.bipush 64, 2) := by decide +kernel
theorem d_M_init_80 : decode b_M_init 80 = .ok (.newarray .int, 2) := by decide +kernel
theorem d_M_init_82 : decode b_M_init 82 = .ok (.putfield 38, 3) := by decide +kernel
theorem d_M_init_85 : decode b_M_init 85 = .ok (.aload_n 0, 1) := by decide +kernel
theorem d_M_init_86 : decode b_M_init 86 = .ok (.bipush 40, 2) := by decide +kernel
theorem d_M_init_88 : decode b_M_init 88 = .ok (.newarray .int, 2) := by decide +kernel
theorem d_M_init_90 : decode b_M_init 90 = .ok (.putfield 41, 3) := by decide +kernel
theorem d_M_init_93 : decode b_M_init 93 = .ok (.aload_n 0, 1) := by decide +kernel
theorem d_M_init_94 : decode b_M_init 94 = .ok (.sipush 256, 3) := by decide +kernel
theorem d_M_init_97 : decode b_M_init 97 = .ok (.newarray .int, 2) := by decide +kernel
theorem d_M_init_99 : decode b_M_init 99 = .ok (.putfield 44, 3) := by decide +kernel
theorem d_M_init_102 : decode b_M_init 102 = .ok (.aload_n 0, 1) := by decide +kernel
theorem d_M_init_103 : decode b_M_init 103 = .ok (.bipush 64, 2) := by decide +kernel
theorem d_M_init_105 : decode b_M_init 105 = .ok (.newarray .int, 2) := by decide +kernel
theorem d_M_init_107 : decode b_M_init 107 = .ok (.putfield 47, 3) := by decide +kernel
theorem d_M_init_110 : decode b_M_init 110 = .ok (.aload_n 0, 1) := by decide +kernel
theorem d_M_init_111 : decode b_M_init 111 = .ok (.bipush 8, 2) := by decide +kernel
theorem d_M_init_113 : decode b_M_init 113 = .ok (.newarray .int, 2) := by decide +kernel
theorem d_M_init_115 : decode b_M_init 115 = .ok (.putfield 50, 3) := by decide +kernel
theorem d_M_init_118 : decode b_M_init 118 = .ok (.aload_n 0, 1) := by decide +kernel
theorem d_M_init_119 : decode b_M_init 119 = .ok (.bipush 8, 2) := by decide +kernel
theorem d_M_init_121 : decode b_M_init 121 = .ok (.newarray .int, 2) := by decide +kernel
theorem d_M_init_123 : decode b_M_init 123 = .ok (.putfield 53, 3) := by decide +kernel
theorem d_M_init_126 : decode b_M_init 126 = .ok (.aload_n 0, 1) := by decide +kernel
theorem d_M_init_127 : decode b_M_init 127 = .ok (.bipush 8, 2) := by decide +kernel
theorem d_M_init_129 : decode b_M_init 129 = .ok (.newarray .int, 2) := by decide +kernel
theorem d_M_init_131 : decode b_M_init 131 = .ok (.putfield 56, 3) := by decide +kernel
theorem d_M_init_134 : decode b_M_init 134 = .ok (.aload_n 0, 1) := by decide +kernel
theorem d_M_init_135 : decode b_M_init 135 = .ok (.sipush 256, 3) := by decide +kernel
theorem d_M_init_138 : decode b_M_init 138 = .ok (.newarray .int, 2) := by decide +kernel
theorem d_M_init_140 : decode b_M_init 140 = .ok (.putfield 59, 3) := by decide +kernel
theorem d_M_init_143 : decode b_M_init 143 = .ok (.aload_n 0, 1) := by decide +kernel
theorem d_M_init_144 : decode b_M_init 144 = .ok (.bipush 8, 2) := by decide +kernel
theorem d_M_init_146 : decode b_M_init 146 = .ok (.newarray .int, 2) := by decide +kernel
theorem d_M_init_148 : decode b_M_init 148 = .ok (.putfield 62, 3) := by decide +kernel
theorem d_M_init_151 : decode b_M_init 151 = .ok (.aload_n 0, 1) := by decide +kernel
theorem d_M_init_152 : decode b_M_init 152 = .ok (.iconst 4, 1) := by decide +kernel
theorem d_M_init_153 : decode b_M_init 153 = .ok (.newarray .boolean, 2) := by decide +kernel
theorem d_M_init_155 : decode b_M_init 155 = .ok (.putfield 65, 3) := by decide +kernel
theorem d_M_init_158 : decode b_M_init 158 = .ok (.aload_n 0, 1) := by decide +kernel
theorem d_M_init_159 : decode b_M_init 159 = .ok (.iconst 4, 1) := by decide +kernel
theorem d_M_init_160 : decode b_M_init 160 = .ok (.newarray .int, 2) := by decide +kernel
theorem d_M_init_162 : decode b_M_init 162 = .ok (.putfield 69, 3) := by decide +kernel
theorem d_M_init_165 : decode b_M_init 165 = .ok (.aload_n 0, 1) := by decide +kernel
theorem d_M_init_166 : decode b_M_init 166 = .ok (.iconst 4, 1) := by decide +kernel
theorem d_M_init_167 : decode b_M_init 167 = .ok (.newarray .int, 2) := by decide +kernel
theorem d_M_init_169 : decode b_M_init 169 = .ok (.putfield 72, 3) := by decide +kernel
theorem d_M_init_172 : decode b_M_init 172 = .ok (.aload_n 0, 1) := by decide +kernel
theorem d_M_init_173 : decode b_M_init 173 = .ok (.sipush 240, 3) := by decide +kernel
theorem d_M_init_176 : decode b_M_init 176 = .ok (.newarray .int, 2) := by decide +kernel
theorem d_M_init_178 : decode b_M_init 178 = .ok (.putfield 75, 3) := by decide +kernel
theorem d_M_init_181 : decode b_M_init 181 = .ok (.aload_n 0, 1) := by decide +kernel
theorem d_M_init_182 : decode b_M_init 182 = .ok (.bipush 60, 2) := by decide +kernel
theorem d_M_init_184 : decode b_M_init 184 = .ok (.newarray .int, 2) := by decide +kernel
theorem d_M_init_186 : decode b_M_init 186 = .ok (.putfield 78, 3) := by decide +kernel
theorem d_M_init_189 : decode b_M_init 189 = .ok (.return_, 1) := by decide +kernel
theorem d_M_in_0 : decode b_M_in 0 = .ok (.iload_n 0, 1) := by decide +kernel
theorem d_M_in_1 : decode b_M_in 1 = .ok (.iload_n 1, 1) := by decide +kernel
theorem d_M_in_2 : decode b_M_in 2 = .ok (.if_icmp .lt 12, 3) := by decide +kernel
theorem d_M_in_5 : decode b_M_in 5 = .ok (.iload_n 0, 1) := by decide +kernel
theorem d_M_in_6 : decode b_M_in 6 = .ok (.iload_n 2, 1) := by decide +kernel
theorem d_M_in_7 : decode b_M_in 7 = .ok (.if_icmp .gt 7, 3) := by decide +kernel
theorem d_M_in_10 : decode b_M_in 10 = .ok (.iconst 1, 1) := by decide +kernel
theorem d_M_in_11 : decode b_M_in 11 = .ok (.goto 4, 3) := by decide +kernel
theorem d_M_in_14 : decode b_M_in 14 = .ok (.iconst 0, 1) := by decide +kernel
theorem d_M_in_15 : decode b_M_in 15 = .ok (.ireturn, 1) := by decide +kernel
theorem d_M_isIn_0 : decode b_M_isIn 0 = .ok (.iload_n 0, 1) := by decide +kernel
theorem d_M_isIn_1 : decode b_M_isIn 1 = .ok (.iload_n 1, 1) := by decide +kernel
theorem d_M_isIn_2 : decode b_M_isIn 2 = .ok (.ishr, 1) := by decide +kernel
theorem d_M_isIn_3 : decode b_M_isIn 3 = .ok (.iconst 1, 1) := by decide +kernel
theorem d_M_isIn_4 : decode b_M_isIn 4 = .ok (.iand, 1) := by decide +kernel
theorem d_M_isIn_5 : decode b_M_isIn 5 = .ok (.iconst 1, 1) := by decide +kernel
theorem d_M_isIn_6 : decode b_M_isIn 6 = .ok (.if_icmp .ne 7, 3) := by decide +kernel
theorem d_M_isIn_9 : decode b_M_isIn 9 = .ok (.iconst 1, 1) := by decide +kernel
theorem d_M_isIn_10 : decode b_M_isIn 10 = .ok (.goto 4, 3) := by decide +kernel
theorem d_M_isIn_13 : decode b_M_isIn 13 = .ok (.iconst 0, 1) := by decide +kernel
theorem d_M_isIn_14 : decode b_M_isIn 14 = .ok (.ireturn, 1) := by decide +kernel
theorem d_M_many_0 : decode b_M_many 0 = .ok (.iconst 0, 1) := by decide +kernel
theorem d_M_many_1 : decode b_M_many 1 = .ok (.istore_n 1, 1) := by decide +kernel
theorem d_M_many_2 : decode b_M_many 2 = .ok (.iconst 0, 1) := by decide +kernel
theorem d_M_many_3 : decode b_M_many 3 = .ok (.istore_n 2, 1) := by decide +kernel
theorem d_M_many_4 : decode b_M_many 4 = .ok (.iload_n 2, 1) := by decide +kernel
theorem d_M_many_5 : decode b_M_many 5 = .ok (.bipush 8, 2) := by decide +kernel
theorem d_M_many_7 : decode b_M_many 7 = .ok (.if_icmp .ge 25, 3) := by decide +kernel
theorem d_M_many_10 : decode b_M_many 10 = .ok (.iload_n 1, 1) := by decide +kernel
theorem d_M_many_11 : decode b_M_many 11 = .ok (.iload_n 0, 1) := by decide +kernel
theorem d_M_many_12 : decode b_M_many 12 = .ok (.iload_n 2, 1) := by decide +kernel
theorem d_M_many_13 : decode b_M_many 13 = .ok (.invokestatic 81, 3) := by decide +kernel
theorem d_M_many_16 : decode b_M_many 16 = .ok (.ifCond .eq 7, 3) := by decide +kernel
theorem d_M_many_19 : decode b_M_many 19 = .ok (.iconst 1, 1) := by decide +kernel
theorem d_M_many_20 : decode b_M_many 20 = .ok (.goto 4, 3) := by decide +kernel
theorem d_M_many_23 : decode b_M_many 23 = .ok (.iconst 0, 1) := by decide +kernel
theorem d_M_many_24 : decode b_M_many 24 = .ok (.iadd, 1) := by decide +kernel
theorem d_M_many_25 : decode b_M_many 25 = .ok (.istore_n 1, 1) := by decide +kernel
theorem d_M_many_26 : decode b_M_many 26 = .ok (.iinc 2 1, 3) := by decide +kernel
theorem d_M_many_29 : decode b_M_many 29 = .ok (.goto (-25), 3) := by decide +kernel
theorem d_M_many_32 : decode b_M_many 32 = .ok (.iload_n 1, 1) := by decide +kernel
theorem d_M_many_33 : decode b_M_many 33 = .ok (.ireturn, 1) := by decide +kernel
theorem d_M_least_0 : decode b_M_least 0 = .ok (.iconst 0, 1) := by decide +kernel
theorem d_M_least_1 : decode b_M_least 1 = .ok (.istore_n 1, 1) := by decide +kernel
theorem d_M_least_2 : decode b_M_least 2 = .ok (.iload_n 0, 1) := by decide +kernel
theorem d_M_least_3 : decode b_M_least 3 = .ok (.iload_n 1, 1) := by decide +kernel
theorem d_M_least_4 : decode b_M_least 4 = .ok (.invokestatic 81, 3) := by decide +kernel
theorem d_M_least_7 : decode b_M_least 7 = .ok (.ifCond .ne 9, 3) := by decide +kernel
theorem d_M_least_10 : decode b_M_least 10 = .ok (.iinc 1 1, 3) := by decide +kernel
theorem d_M_least_13 : decode b_M_least 13 = .ok (.goto (-11), 3) := by decide +kernel
theorem d_M_least_16 : decode b_M_least 16 = .ok (.iload_n 1, 1) := by decide +kernel
theorem d_M_least_17 : decode b_M_least 17 = .ok (.ireturn, 1) := by decide +kernel
theorem d_M_all_0 : decode b_M_all 0 = .ok (.iconst 1, 1) := by decide +kernel
theorem d_M_all_1 : decode b_M_all 1 = .ok (.aload_n 0, 1) := by decide +kernel
theorem d_M_all_2 : decode b_M_all 2 = .ok (.getfield 7, 3) := by decide +kernel
theorem d_M_all_5 : decode b_M_all 5 = .ok (.ishl, 1) := by decide +kernel
theorem d_M_all_6 : decode b_M_all 6 = .ok (.iconst 1, 1) := by decide +kernel
theorem d_M_all_7 : decode b_M_all 7 = .ok (.isub, 1) := by decide +kernel
theorem d_M_all_8 : decode b_M_all 8 = .ok (.ireturn, 1) := by decide +kernel
theorem d_M_things_0 : decode b_M_things 0 = .ok (.iload_n 1, 1) := by decide +kernel
theorem d_M_things_1 : decode b_M_things 1 = .ok (.iconst 1, 1) := by decide +kernel
theorem d_M_things_2 : decode b_M_things 2 = .ok (.bipush 8, 2) := by decide +kernel
theorem d_M_things_4 : decode b_M_things 4 = .ok (.invokestatic 85, 3) := by decide +kernel
theorem d_M_things_7 : decode b_M_things 7 = .ok (.ifCond .ne 6, 3) := by decide +kernel
theorem d_M_things_10 : decode b_M_things 10 = .ok (.bipush (-2), 2) := by decide +kernel
theorem d_M_things_12 : decode b_M_things 12 = .ok (.ireturn, 1) := by decide +kernel
theorem d_M_things_13 : decode b_M_things 13 = .ok (.aload_n 0, 1) := by decide +kernel
theorem d_M_things_14 : decode b_M_things 14 = .ok (.getfield 7, 3) := by decide +kernel
theorem d_M_things_17 : decode b_M_things 17 = .ok (.istore_n 2, 1) := by decide +kernel
theorem d_M_things_18 : decode b_M_things 18 = .ok (.aload_n 0, 1) := by decide +kernel
theorem d_M_things_19 : decode b_M_things 19 = .ok (.iload_n 1, 1) := by decide +kernel
theorem d_M_things_20 : decode b_M_things 20 = .ok (.putfield 7, 3) := by decide +kernel
theorem d_M_things_23 : decode b_M_things 23 = .ok (.iload_n 2, 1) := by decide +kernel
theorem d_M_things_24 : decode b_M_things 24 = .ok (.ireturn, 1) := by decide +kernel
theorem d_M_nexts_0 : decode b_M_nexts 0 = .ok (.aload_n 0, 1) := by decide +kernel
theorem d_M_nexts_1 : decode b_M_nexts 1 = .ok (.invokevirtual 110, 3) := by decide +kernel
theorem d_M_nexts_4 : decode b_M_nexts 4 = .ok (.iload_n 1, 1) := by decide +kernel
theorem d_M_nexts_5 : decode b_M_nexts 5 = .ok (.iconst (-1), 1) := by decide +kernel
theorem d_M_nexts_6 : decode b_M_nexts 6 = .ok (.ixor, 1) := by decide +kernel
theorem d_M_nexts_7 : decode b_M_nexts 7 = .ok (.iand, 1) := by decide +kernel
theorem d_M_nexts_8 : decode b_M_nexts 8 = .ok (.istore 4, 2) := by decide +kernel
theorem d_M_nexts_10 : decode b_M_nexts 10 = .ok (.iconst 0, 1) := by decide +kernel
theorem d_M_nexts_11 : decode b_M_nexts 11 = .ok (.istore 5, 2) := by decide +kernel
theorem d_M_nexts_13 : decode b_M_nexts 13 = .ok (.iload 5, 2) := by decide +kernel
theorem d_M_nexts_15 : decode b_M_nexts 15 = .ok (.bipush 11, 2) := by decide +kernel
theorem d_M_nexts_17 : decode b_M_nexts 17 = .ok (.if_icmp .ge 101, 3) := by decide +kernel
theorem d_M_nexts_20 : decode b_M_nexts 20 = .ok (.iload 5, 2) := by decide +kernel
theorem d_M_nexts_22 : decode b_M_nexts 22 = .ok (.bipush 10, 2) := by decide +kernel
theorem d_M_nexts_24 : decode b_M_nexts 24 = .ok (.if_icmp .eq 12, 3) := by decide +kernel
theorem d_M_nexts_27 : decode b_M_nexts 27 = .ok (.iload_n 2, 1) := by decide +kernel
theorem d_M_nexts_28 : decode b_M_nexts 28 = .ok (.iload 5, 2) := by decide +kernel
theorem d_M_nexts_30 : decode b_M_nexts 30 = .ok (.invokestatic 81, 3) := by decide +kernel
theorem d_M_nexts_33 : decode b_M_nexts 33 = .ok (.ifCond .eq 7, 3) := by decide +kernel
theorem d_M_nexts_36 : decode b_M_nexts 36 = .ok (.iconst 1, 1) := by decide +kernel
theorem d_M_nexts_37 : decode b_M_nexts 37 = .ok (.goto 4, 3) := by decide +kernel
theorem d_M_nexts_40 : decode b_M_nexts 40 = .ok (.iconst 0, 1) := by decide +kernel
theorem d_M_nexts_41 : decode b_M_nexts 41 = .ok (.istore 6, 2) := by decide +kernel
theorem d_M_nexts_43 : decode b_M_nexts 43 = .ok (.iload 5, 2) := by decide +kernel
theorem d_M_nexts_45 : decode b_M_nexts 45 = .ok (.bipush 10, 2) := by decide +kernel
theorem d_M_nexts_47 : decode b_M_nexts 47 = .ok (.if_icmp .ne 7, 3) := by decide +kernel
theorem d_M_nexts_50 : decode b_M_nexts 50 = .ok (.iload_n 3, 1) := by decide +kernel
theorem d_M_nexts_51 : decode b_M_nexts 51 = .ok (.goto 19, 3) := by decide +kernel
theorem d_M_nexts_54 : decode b_M_nexts 54 = .ok (.iload 6, 2) := by decide +kernel
theorem d_M_nexts_56 : decode b_M_nexts 56 = .ok (.ifCond .eq 13, 3) := by decide +kernel
theorem d_M_nexts_59 : decode b_M_nexts 59 = .ok (.aload_n 0, 1) := by decide +kernel
theorem d_M_nexts_60 : decode b_M_nexts 60 = .ok (.getfield 13, 3) := by decide +kernel
theorem d_M_nexts_63 : decode b_M_nexts 63 = .ok (.iload 5, 2) := by decide +kernel
theorem d_M_nexts_65 : decode b_M_nexts 65 = .ok (.iaload, 1) := by decide +kernel
theorem d_M_nexts_66 : decode b_M_nexts 66 = .ok (.goto 4, 3) := by decide +kernel
theorem d_M_nexts_69 : decode b_M_nexts 69 = .ok (.iconst 0, 1) := by decide +kernel
theorem d_M_nexts_70 : decode b_M_nexts 70 = .ok (.aload_n 0, 1) := by decide +kernel
theorem d_M_nexts_71 : decode b_M_nexts 71 = .ok (.invokevirtual 110, 3) := by decide +kernel
theorem d_M_nexts_74 : decode b_M_nexts 74 = .ok (.iand, 1) := by decide +kernel
theorem d_M_nexts_75 : decode b_M_nexts 75 = .ok (.istore 7, 2) := by decide +kernel
theorem d_M_nexts_77 : decode b_M_nexts 77 = .ok (.iload_n 1, 1) := by decide +kernel
theorem d_M_nexts_78 : decode b_M_nexts 78 = .ok (.iload 7, 2) := by decide +kernel
theorem d_M_nexts_80 : decode b_M_nexts 80 = .ok (.iand, 1) := by decide +kernel
theorem d_M_nexts_81 : decode b_M_nexts 81 = .ok (.istore 8, 2) := by decide +kernel
theorem d_M_nexts_83 : decode b_M_nexts 83 = .ok (.iload 6, 2) := by decide +kernel
theorem d_M_nexts_85 : decode b_M_nexts 85 = .ok (.ifCond .eq 23, 3) := by decide +kernel
theorem d_M_nexts_88 : decode b_M_nexts 88 = .ok (.iload 8, 2) := by decide +kernel
theorem d_M_nexts_90 : decode b_M_nexts 90 = .ok (.ifCond .eq 18, 3) := by decide +kernel
theorem d_M_nexts_93 : decode b_M_nexts 93 = .ok (.iload 8, 2) := by decide +kernel
theorem d_M_nexts_95 : decode b_M_nexts 95 = .ok (.iload 7, 2) := by decide +kernel
theorem d_M_nexts_97 : decode b_M_nexts 97 = .ok (.if_icmp .eq 11, 3) := by decide +kernel
theorem d_M_nexts_100 : decode b_M_nexts 100 = .ok (.iload 4, 2) := by decide +kernel
theorem d_M_nexts_102 : decode b_M_nexts 102 = .ok (.iload 7, 2) := by decide +kernel
theorem d_M_nexts_104 : decode b_M_nexts 104 = .ok (.iand, 1) := by decide +kernel
theorem d_M_nexts_105 : decode b_M_nexts 105 = .ok (.goto 5, 3) := by decide +kernel
theorem d_M_nexts_108 : decode b_M_nexts 108 = .ok (.iload 4, 2) := by decide +kernel
theorem d_M_nexts_110 : decode b_M_nexts 110 = .ok (.istore 4, 2) := by decide +kernel
theorem d_M_nexts_112 : decode b_M_nexts 112 = .ok (.iinc 5 1, 3) := by decide +kernel
theorem d_M_nexts_115 : decode b_M_nexts 115 = .ok (.goto (-102), 3) := by decide +kernel
theorem d_M_nexts_118 : decode b_M_nexts 118 = .ok (.iload 4, 2) := by decide +kernel
theorem d_M_nexts_120 : decode b_M_nexts 120 = .ok (.ireturn, 1) := by decide +kernel
theorem d_M_rowsBy_0 : decode b_M_rowsBy 0 = .ok (.iconst 0, 1) := by decide +kernel
theorem d_M_rowsBy_1 : decode b_M_rowsBy 1 = .ok (.istore_n 3, 1) := by decide +kernel
theorem d_M_rowsBy_2 : decode b_M_rowsBy 2 = .ok (.iload_n 3, 1) := by decide +kernel
theorem d_M_rowsBy_3 : decode b_M_rowsBy 3 = .ok (.aload_n 0, 1) := by decide +kernel
theorem d_M_rowsBy_4 : decode b_M_rowsBy 4 = .ok (.invokevirtual 110, 3) := by decide +kernel
theorem d_M_rowsBy_7 : decode b_M_rowsBy 7 = .ok (.if_icmp .gt 24, 3) := by decide +kernel
theorem d_M_rowsBy_10 : decode b_M_rowsBy 10 = .ok (.aload_n 0, 1) := by decide +kernel
theorem d_M_rowsBy_11 : decode b_M_rowsBy 11 = .ok (.getfield 17, 3) := by decide +kernel
theorem d_M_rowsBy_14 : decode b_M_rowsBy 14 = .ok (.iload_n 3, 1) := by decide +kernel
theorem d_M_rowsBy_15 : decode b_M_rowsBy 15 = .ok (.iload_n 3, 1) := by decide +kernel
theorem d_M_rowsBy_16 : decode b_M_rowsBy 16 = .ok (.ifCond .ne 7, 3) := by decide +kernel
theorem d_M_rowsBy_19 : decode b_M_rowsBy 19 = .ok (.iconst 1, 1) := by decide +kernel
theorem d_M_rowsBy_20 : decode b_M_rowsBy 20 = .ok (.goto 4, 3) := by decide +kernel
theorem d_M_rowsBy_23 : decode b_M_rowsBy 23 = .ok (.iconst 0, 1) := by decide +kernel
theorem d_M_rowsBy_24 : decode b_M_rowsBy 24 = .ok (.iastore, 1) := by decide +kernel
theorem d_M_rowsBy_25 : decode b_M_rowsBy 25 = .ok (.iinc 3 1, 3) := by decide +kernel
theorem d_M_rowsBy_28 : decode b_M_rowsBy 28 = .ok (.goto (-26), 3) := by decide +kernel
theorem d_M_rowsBy_31 : decode b_M_rowsBy 31 = .ok (.iconst 0, 1) := by decide +kernel
theorem d_M_rowsBy_32 : decode b_M_rowsBy 32 = .ok (.istore_n 3, 1) := by decide +kernel
theorem d_M_rowsBy_33 : decode b_M_rowsBy 33 = .ok (.iload_n 3, 1) := by decide +kernel
theorem d_M_rowsBy_34 : decode b_M_rowsBy 34 = .ok (.aload_n 0, 1) := by decide +kernel
theorem d_M_rowsBy_35 : decode b_M_rowsBy 35 = .ok (.invokevirtual 110, 3) := by decide +kernel
theorem d_M_rowsBy_38 : decode b_M_rowsBy 38 = .ok (.if_icmp .ge 83, 3) := by decide +kernel
theorem d_M_rowsBy_41 : decode b_M_rowsBy 41 = .ok (.aload_n 0, 1) := by decide +kernel
theorem d_M_rowsBy_42 : decode b_M_rowsBy 42 = .ok (.getfield 17, 3) := by decide +kernel
theorem d_M_rowsBy_45 : decode b_M_rowsBy 45 = .ok (.iload_n 3, 1) := by decide +kernel
theorem d_M_rowsBy_46 : decode b_M_rowsBy 46 = .ok (.iaload, 1) := by decide +kernel
theorem d_M_rowsBy_47 : decode b_M_rowsBy 47 = .ok (.ifCond .ne 7, 3) := by decide +kernel
theorem d_M_rowsBy_50 : decode b_M_rowsBy 50 = .ok (.iconst 0, 1) := by decide +kernel
theorem d_M_rowsBy_51 : decode b_M_rowsBy 51 = .ok (.goto 10, 3) := by decide +kernel
theorem d_M_rowsBy_54 : decode b_M_rowsBy 54 = .ok (.aload_n 0, 1) := by decide +kernel
theorem d_M_rowsBy_55 : decode b_M_rowsBy 55 = .ok (.iload_n 3, 1) := by decide +kernel
theorem d_M_rowsBy_56 : decode b_M_rowsBy 56 = .ok (.iload_n 1, 1) := by decide +kernel
theorem d_M_rowsBy_57 : decode b_M_rowsBy 57 = .ok (.iload_n 2, 1) := by decide +kernel
theorem d_M_rowsBy_58 : decode b_M_rowsBy 58 = .ok (.invokevirtual 113, 3) := by decide +kernel
theorem d_M_rowsBy_61 : decode b_M_rowsBy 61 = .ok (.istore 4, 2) := by decide +kernel
theorem d_M_rowsBy_63 : decode b_M_rowsBy 63 = .ok (.iconst 0, 1) := by decide +kernel
theorem d_M_rowsBy_64 : decode b_M_rowsBy 64 = .ok (.istore 5, 2) := by decide +kernel
theorem d_M_rowsBy_66 : decode b_M_rowsBy 66 = .ok (.iload 5, 2) := by decide +kernel
theorem d_M_rowsBy_68 : decode b_M_rowsBy 68 = .ok (.aload_n 0, 1) := by decide +kernel
theorem d_M_rowsBy_69 : decode b_M_rowsBy 69 = .ok (.getfield 7, 3) := by decide +kernel
theorem d_M_rowsBy_72 : decode b_M_rowsBy 72 = .ok (.if_icmp .ge 43, 3) := by decide +kernel
theorem d_M_rowsBy_75 : decode b_M_rowsBy 75 = .ok (.aload_n 0, 1) := by decide +kernel
theorem d_M_rowsBy_76 : decode b_M_rowsBy 76 = .ok (.getfield 17, 3) := by decide +kernel
theorem d_M_rowsBy_79 : decode b_M_rowsBy 79 = .ok (.iload_n 3, 1) := by decide +kernel
theorem d_M_rowsBy_80 : decode b_M_rowsBy 80 = .ok (.iconst 1, 1) := by decide +kernel
theorem d_M_rowsBy_81 : decode b_M_rowsBy 81 = .ok (.iload 5, 2) := by decide +kernel
theorem d_M_rowsBy_83 : decode b_M_rowsBy 83 = .ok (.ishl, 1) := by decide +kernel
theorem d_M_rowsBy_84 : decode b_M_rowsBy 84 = .ok (.ior, 1) := by decide +kernel
theorem d_M_rowsBy_85 : decode b_M_rowsBy 85 = .ok (.dup2, 1) := by decide +kernel
theorem d_M_rowsBy_86 : decode b_M_rowsBy 86 = .ok (.iaload, 1) := by decide +kernel
theorem d_M_rowsBy_87 : decode b_M_rowsBy 87 = .ok (.iload 4, 2) := by decide +kernel
theorem d_M_rowsBy_89 : decode b_M_rowsBy 89 = .ok (.iload 5, 2) := by decide +kernel
theorem d_M_rowsBy_91 : decode b_M_rowsBy 91 = .ok (.invokestatic 81, 3) := by decide +kernel
theorem d_M_rowsBy_94 : decode b_M_rowsBy 94 = .ok (.ifCond .eq 12, 3) := by decide +kernel
theorem d_M_rowsBy_97 : decode b_M_rowsBy 97 = .ok (.aload_n 0, 1) := by decide +kernel
theorem d_M_rowsBy_98 : decode b_M_rowsBy 98 = .ok (.getfield 17, 3) := by decide +kernel
theorem d_M_rowsBy_101 : decode b_M_rowsBy 101 = .ok (.iload_n 3, 1) := by decide +kernel
theorem d_M_rowsBy_102 : decode b_M_rowsBy 102 = .ok (.iaload, 1) := by decide +kernel
theorem d_M_rowsBy_103 : decode b_M_rowsBy 103 = .ok (.goto 4, 3) := by decide +kernel
theorem d_M_rowsBy_106 : decode b_M_rowsBy 106 = .ok (.iconst 0, 1) := by decide +kernel
theorem d_M_rowsBy_107 : decode b_M_rowsBy 107 = .ok (.iadd, 1) := by decide +kernel
theorem d_M_rowsBy_108 : decode b_M_rowsBy 108 = .ok (.iastore, 1) := by decide +kernel
theorem d_M_rowsBy_109 : decode b_M_rowsBy 109 = .ok (.iinc 5 1, 3) := by decide +kernel
theorem d_M_rowsBy_112 : decode b_M_rowsBy 112 = .ok (.goto (-46), 3) := by decide +kernel
theorem d_M_rowsBy_115 : decode b_M_rowsBy 115 = .ok (.iinc 3 1, 3) := by decide +kernel
theorem d_M_rowsBy_118 : decode b_M_rowsBy 118 = .ok (.goto (-85), 3) := by decide +kernel
theorem d_M_rowsBy_121 : decode b_M_rowsBy 121 = .ok (.aload_n 0, 1) := by decide +kernel
theorem d_M_rowsBy_122 : decode b_M_rowsBy 122 = .ok (.getfield 17, 3) := by decide +kernel
theorem d_M_rowsBy_125 : decode b_M_rowsBy 125 = .ok (.aload_n 0, 1) := by decide +kernel
theorem d_M_rowsBy_126 : decode b_M_rowsBy 126 = .ok (.invokevirtual 110, 3) := by decide +kernel
theorem d_M_rowsBy_129 : decode b_M_rowsBy 129 = .ok (.iaload, 1) := by decide +kernel
theorem d_M_rowsBy_130 : decode b_M_rowsBy 130 = .ok (.ireturn, 1) := by decide +kernel
theorem d_M_takenNow_0 : decode b_M_takenNow 0 = .ok (.iconst 0, 1) := by decide +kernel
theorem d_M_takenNow_1 : decode b_M_takenNow 1 = .ok (.istore_n 1, 1) := by decide +kernel
theorem d_M_takenNow_2 : decode b_M_takenNow 2 = .ok (.iconst 0, 1) := by decide +kernel
theorem d_M_takenNow_3 : decode b_M_takenNow 3 = .ok (.istore_n 2, 1) := by decide +kernel
theorem d_M_takenNow_4 : decode b_M_takenNow 4 = .ok (.iload_n 2, 1) := by decide +kernel
theorem d_M_takenNow_5 : decode b_M_takenNow 5 = .ok (.aload_n 0, 1) := by decide +kernel
theorem d_M_takenNow_6 : decode b_M_takenNow 6 = .ok (.getfield 93, 3) := by decide +kernel
theorem d_M_takenNow_9 : decode b_M_takenNow 9 = .ok (.if_icmp .ge 32, 3) := by decide +kernel
theorem d_M_takenNow_12 : decode b_M_takenNow 12 = .ok (.iload_n 1, 1) := by decide +kernel
theorem d_M_takenNow_13 : decode b_M_takenNow 13 = .ok (.aload_n 0, 1) := by decide +kernel
theorem d_M_takenNow_14 : decode b_M_takenNow 14 = .ok (.iload_n 1, 1) := by decide +kernel
theorem d_M_takenNow_15 : decode b_M_takenNow 15 = .ok (.iconst 1, 1) := by decide +kernel
theorem d_M_takenNow_16 : decode b_M_takenNow 16 = .ok (.iload_n 2, 1) := by decide +kernel
theorem d_M_takenNow_17 : decode b_M_takenNow 17 = .ok (.ishl, 1) := by decide +kernel
theorem d_M_takenNow_18 : decode b_M_takenNow 18 = .ok (.ior, 1) := by decide +kernel
theorem d_M_takenNow_19 : decode b_M_takenNow 19 = .ok (.iconst 0, 1) := by decide +kernel
theorem d_M_takenNow_20 : decode b_M_takenNow 20 = .ok (.invokevirtual 117, 3) := by decide +kernel
theorem d_M_takenNow_23 : decode b_M_takenNow 23 = .ok (.ifCond .le 9, 3) := by decide +kernel
theorem d_M_takenNow_26 : decode b_M_takenNow 26 = .ok (.iconst 1, 1) := by decide +kernel
theorem d_M_takenNow_27 : decode b_M_takenNow 27 = .ok (.iload_n 2, 1) := by decide +kernel
theorem d_M_takenNow_28 : decode b_M_takenNow 28 = .ok (.ishl, 1) := by decide +kernel
theorem d_M_takenNow_29 : decode b_M_takenNow 29 = .ok (.goto 4, 3) := by decide +kernel
theorem d_M_takenNow_32 : decode b_M_takenNow 32 = .ok (.iconst 0, 1) := by decide +kernel
theorem d_M_takenNow_33 : decode b_M_takenNow 33 = .ok (.ior, 1) := by decide +kernel
theorem d_M_takenNow_34 : decode b_M_takenNow 34 = .ok (.istore_n 1, 1) := by decide +kernel
theorem d_M_takenNow_35 : decode b_M_takenNow 35 = .ok (.iinc 2 1, 3) := by decide +kernel
theorem d_M_takenNow_38 : decode b_M_takenNow 38 = .ok (.goto (-34), 3) := by decide +kernel
theorem d_M_takenNow_41 : decode b_M_takenNow 41 = .ok (.iload_n 1, 1) := by decide +kernel
theorem d_M_takenNow_42 : decode b_M_takenNow 42 = .ok (.ireturn, 1) := by decide +kernel
theorem d_M_adds_0 : decode b_M_adds 0 = .ok (.iload_n 1, 1) := by decide +kernel
theorem d_M_adds_1 : decode b_M_adds 1 = .ok (.iconst 0, 1) := by decide +kernel
theorem d_M_adds_2 : decode b_M_adds 2 = .ok (.sipush 255, 3) := by decide +kernel
theorem d_M_adds_5 : decode b_M_adds 5 = .ok (.invokestatic 85, 3) := by decide +kernel
theorem d_M_adds_8 : decode b_M_adds 8 = .ok (.ifCond .eq 11, 3) := by decide +kernel
theorem d_M_adds_11 : decode b_M_adds 11 = .ok (.iload_n 1, 1) := by decide +kernel
theorem d_M_adds_12 : decode b_M_adds 12 = .ok (.invokestatic 89, 3) := by decide +kernel
theorem d_M_adds_15 : decode b_M_adds 15 = .ok (.iconst 2, 1) := by decide +kernel
theorem d_M_adds_16 : decode b_M_adds 16 = .ok (.if_icmp .ge 6, 3) := by decide +kernel
theorem d_M_adds_19 : decode b_M_adds 19 = .ok (.bipush (-2), 2) := by decide +kernel
theorem d_M_adds_21 : decode b_M_adds 21 = .ok (.ireturn, 1) := by decide +kernel
theorem d_M_adds_22 : decode b_M_adds 22 = .ok (.aload_n 0, 1) := by decide +kernel
theorem d_M_adds_23 : decode b_M_adds 23 = .ok (.getfield 93, 3) := by decide +kernel
theorem d_M_adds_26 : decode b_M_adds 26 = .ok (.bipush 10, 2) := by decide +kernel
theorem d_M_adds_28 : decode b_M_adds 28 = .ok (.if_icmp .ne 6, 3) := by decide +kernel
theorem d_M_adds_31 : decode b_M_adds 31 = .ok (.bipush (-4), 2) := by decide +kernel
theorem d_M_adds_33 : decode b_M_adds 33 = .ok (.ireturn, 1) := by decide +kernel
theorem d_M_adds_34 : decode b_M_adds 34 = .ok (.aload_n 0, 1) := by decide +kernel
theorem d_M_adds_35 : decode b_M_adds 35 = .ok (.getfield 13, 3) := by decide +kernel
theorem d_M_adds_38 : decode b_M_adds 38 = .ok (.aload_n 0, 1) := by decide +kernel
theorem d_M_adds_39 : decode b_M_adds 39 = .ok (.getfield 93, 3) := by decide +kernel
theorem d_M_adds_42 : decode b_M_adds 42 = .ok (.iload_n 1, 1) := by decide +kernel
theorem d_M_adds_43 : decode b_M_adds 43 = .ok (.iastore, 1) := by decide +kernel
theorem d_M_adds_44 : decode b_M_adds 44 = .ok (.aload_n 0, 1) := by decide +kernel
theorem d_M_adds_45 : decode b_M_adds 45 = .ok (.dup, 1) := by decide +kernel
theorem d_M_adds_46 : decode b_M_adds 46 = .ok (.getfield 93, 3) := by decide +kernel
theorem d_M_adds_49 : decode b_M_adds 49 = .ok (.iconst 1, 1) := by decide +kernel
theorem d_M_adds_50 : decode b_M_adds 50 = .ok (.iadd, 1) := by decide +kernel
theorem d_M_adds_51 : decode b_M_adds 51 = .ok (.putfield 93, 3) := by decide +kernel
theorem d_M_adds_54 : decode b_M_adds 54 = .ok (.aload_n 0, 1) := by decide +kernel
theorem d_M_adds_55 : decode b_M_adds 55 = .ok (.invokevirtual 96, 3) := by decide +kernel
theorem d_M_adds_58 : decode b_M_adds 58 = .ok (.aload_n 0, 1) := by decide +kernel
theorem d_M_adds_59 : decode b_M_adds 59 = .ok (.getfield 93, 3) := by decide +kernel
theorem d_M_adds_62 : decode b_M_adds 62 = .ok (.iconst 1, 1) := by decide +kernel
theorem d_M_adds_63 : decode b_M_adds 63 = .ok (.isub, 1) := by decide +kernel
theorem d_M_adds_64 : decode b_M_adds 64 = .ok (.invokestatic 81, 3) := by decide +kernel
theorem d_M_adds_67 : decode b_M_adds 67 = .ok (.ifCond .eq 7, 3) := by decide +kernel
theorem d_M_adds_70 : decode b_M_adds 70 = .ok (.iconst 1, 1) := by decide +kernel
theorem d_M_adds_71 : decode b_M_adds 71 = .ok (.goto 4, 3) := by decide +kernel
theorem d_M_adds_74 : decode b_M_adds 74 = .ok (.iconst 0, 1) := by decide +kernel
theorem d_M_adds_75 : decode b_M_adds 75 = .ok (.ireturn, 1) := by decide +kernel
theorem d_M_group_0 : decode b_M_group 0 = .ok (.aload_n 0, 1) := by decide +kernel
theorem d_M_group_1 : decode b_M_group 1 = .ok (.iload_n 1, 1) := by decide +kernel
theorem d_M_group_2 : decode b_M_group 2 = .ok (.invokevirtual 100, 3) := by decide +kernel
theorem d_M_group_5 : decode b_M_group 5 = .ok (.ireturn, 1) := by decide +kernel
theorem d_M_back_0 : decode b_M_back 0 = .ok (.aload_n 0, 1) := by decide +kernel
theorem d_M_back_1 : decode b_M_back 1 = .ok (.getfield 93, 3) := by decide +kernel
theorem d_M_back_4 : decode b_M_back 4 = .ok (.ifCond .ne 6, 3) := by decide +kernel
theorem d_M_back_7 : decode b_M_back 7 = .ok (.bipush (-3), 2) := by decide +kernel
theorem d_M_back_9 : decode b_M_back 9 = .ok (.ireturn, 1) := by decide +kernel
theorem d_M_back_10 : decode b_M_back 10 = .ok (.aload_n 0, 1) := by decide +kernel
theorem d_M_back_11 : decode b_M_back 11 = .ok (.dup, 1) := by decide +kernel
theorem d_M_back_12 : decode b_M_back 12 = .ok (.getfield 93, 3) := by decide +kernel
theorem d_M_back_15 : decode b_M_back 15 = .ok (.iconst 1, 1) := by decide +kernel
theorem d_M_back_16 : decode b_M_back 16 = .ok (.isub, 1) := by decide +kernel
theorem d_M_back_17 : decode b_M_back 17 = .ok (.putfield 93, 3) := by decide +kernel
theorem d_M_back_20 : decode b_M_back 20 = .ok (.aload_n 0, 1) := by decide +kernel
theorem d_M_back_21 : decode b_M_back 21 = .ok (.getfield 93, 3) := by decide +kernel
theorem d_M_back_24 : decode b_M_back 24 = .ok (.ireturn, 1) := by decide +kernel
theorem d_M_isSheet_0 : decode b_M_isSheet 0 = .ok (.iload_n 0, 1) := by decide +kernel
theorem d_M_isSheet_1 : decode b_M_isSheet 1 = .ok (.iconst 0, 1) := by decide +kernel
theorem d_M_isSheet_2 : decode b_M_isSheet 2 = .ok (.iconst 3, 1) := by decide +kernel
theorem d_M_isSheet_3 : decode b_M_isSheet 3 = .ok (.invokestatic 85, 3) := by decide +kernel
theorem d_M_isSheet_6 : decode b_M_isSheet 6 = .ok (.ireturn, 1) := by decide +kernel
theorem d_M_meets_0 : decode b_M_meets 0 = .ok (.aload_n 0, 1) := by decide +kernel
theorem d_M_meets_1 : decode b_M_meets 1 = .ok (.iload_n 1, 1) := by decide +kernel
theorem d_M_meets_2 : decode b_M_meets 2 = .ok (.putfield 248, 3) := by decide +kernel
theorem d_M_meets_5 : decode b_M_meets 5 = .ok (.bipush (-10), 2) := by decide +kernel
theorem d_M_meets_7 : decode b_M_meets 7 = .ok (.iload_n 1, 1) := by decide +kernel
theorem d_M_meets_8 : decode b_M_meets 8 = .ok (.isub, 1) := by decide +kernel
theorem d_M_meets_9 : decode b_M_meets 9 = .ok (.ireturn, 1) := by decide +kernel
theorem d_M_read_0 : decode b_M_read 0 = .ok (.iload_n 1, 1) := by decide +kernel
theorem d_M_read_1 : decode b_M_read 1 = .ok (.invokestatic 103, 3) := by decide +kernel
theorem d_M_read_4 : decode b_M_read 4 = .ok (.ifCond .ne 6, 3) := by decide +kernel
theorem d_M_read_7 : decode b_M_read 7 = .ok (.bipush (-2), 2) := by decide +kernel
theorem d_M_read_9 : decode b_M_read 9 = .ok (.ireturn, 1) := by decide +kernel
theorem d_M_read_10 : decode b_M_read 10 = .ok (.aload_n 0, 1) := by decide +kernel
theorem d_M_read_11 : decode b_M_read 11 = .ok (.getfield 65, 3) := by decide +kernel
theorem d_M_read_14 : decode b_M_read 14 = .ok (.iload_n 1, 1) := by decide +kernel
theorem d_M_read_15 : decode b_M_read 15 = .ok (.baload, 1) := by decide +kernel
theorem d_M_read_16 : decode b_M_read 16 = .ok (.ifCond .ne 9, 3) := by decide +kernel
theorem d_M_read_19 : decode b_M_read 19 = .ok (.aload_n 0, 1) := by decide +kernel
theorem d_M_read_20 : decode b_M_read 20 = .ok (.iconst 1, 1) := by decide +kernel
theorem d_M_read_21 : decode b_M_read 21 = .ok (.invokevirtual 107, 3) := by decide +kernel
theorem d_M_read_24 : decode b_M_read 24 = .ok (.ireturn, 1) := by decide +kernel
theorem d_M_read_25 : decode b_M_read 25 = .ok (.iconst 0, 1) := by decide +kernel
theorem d_M_read_26 : decode b_M_read 26 = .ok (.istore_n 2, 1) := by decide +kernel
theorem d_M_read_27 : decode b_M_read 27 = .ok (.iload_n 2, 1) := by decide +kernel
theorem d_M_read_28 : decode b_M_read 28 = .ok (.aload_n 0, 1) := by decide +kernel
theorem d_M_read_29 : decode b_M_read 29 = .ok (.getfield 72, 3) := by decide +kernel
theorem d_M_read_32 : decode b_M_read 32 = .ok (.iload_n 1, 1) := by decide +kernel
theorem d_M_read_33 : decode b_M_read 33 = .ok (.iaload, 1) := by decide +kernel
theorem d_M_read_34 : decode b_M_read 34 = .ok (.if_icmp .ge 27, 3) := by decide +kernel
theorem d_M_read_37 : decode b_M_read 37 = .ok (.aload_n 0, 1) := by decide +kernel
theorem d_M_read_38 : decode b_M_read 38 = .ok (.aload_n 0, 1) := by decide +kernel
theorem d_M_read_39 : decode b_M_read 39 = .ok (.getfield 75, 3) := by decide +kernel
theorem d_M_read_42 : decode b_M_read 42 = .ok (.bipush 60, 2) := by decide +kernel
theorem d_M_read_44 : decode b_M_read 44 = .ok (.iload_n 1, 1) := by decide +kernel
theorem d_M_read_45 : decode b_M_read 45 = .ok (.imul, 1) := by decide +kernel
theorem d_M_read_46 : decode b_M_read 46 = .ok (.iload_n 2, 1) := by decide +kernel
theorem d_M_read_47 : decode b_M_read 47 = .ok (.iadd, 1) := by decide +kernel
theorem d_M_read_48 : decode b_M_read 48 = .ok (.iaload, 1) := by decide +kernel
theorem d_M_read_49 : decode b_M_read 49 = .ok (.invokevirtual 100, 3) := by decide +kernel
theorem d_M_read_52 : decode b_M_read 52 = .ok (.ifCond .lt 9, 3) := by decide +kernel
theorem d_M_read_55 : decode b_M_read 55 = .ok (.iinc 2 1, 3) := by decide +kernel
theorem d_M_read_58 : decode b_M_read 58 = .ok (.goto (-31), 3) := by decide +kernel
theorem d_M_read_61 : decode b_M_read 61 = .ok (.iload_n 2, 1) := by decide +kernel
theorem d_M_read_62 : decode b_M_read 62 = .ok (.ireturn, 1) := by decide +kernel
theorem d_M_isGroup_0 : decode b_M_isGroup 0 = .ok (.iload_n 1, 1) := by decide +kernel
theorem d_M_isGroup_1 : decode b_M_isGroup 1 = .ok (.iconst 0, 1) := by decide +kernel
theorem d_M_isGroup_2 : decode b_M_isGroup 2 = .ok (.aload_n 0, 1) := by decide +kernel
theorem d_M_isGroup_3 : decode b_M_isGroup 3 = .ok (.getfield 93, 3) := by decide +kernel
theorem d_M_isGroup_6 : decode b_M_isGroup 6 = .ok (.iconst 1, 1) := by decide +kernel
theorem d_M_isGroup_7 : decode b_M_isGroup 7 = .ok (.isub, 1) := by decide +kernel
theorem d_M_isGroup_8 : decode b_M_isGroup 8 = .ok (.invokestatic 85, 3) := by decide +kernel
theorem d_M_isGroup_11 : decode b_M_isGroup 11 = .ok (.ireturn, 1) := by decide +kernel
theorem d_M_taken_0 : decode b_M_taken 0 = .ok (.aload_n 0, 1) := by decide +kernel
theorem d_M_taken_1 : decode b_M_taken 1 = .ok (.iload_n 1, 1) := by decide +kernel
theorem d_M_taken_2 : decode b_M_taken 2 = .ok (.invokevirtual 121, 3) := by decide +kernel
theorem d_M_taken_5 : decode b_M_taken 5 = .ok (.ifCond .eq 14, 3) := by decide +kernel
theorem d_M_taken_8 : decode b_M_taken 8 = .ok (.aload_n 0, 1) := by decide +kernel
theorem d_M_taken_9 : decode b_M_taken 9 = .ok (.invokevirtual 96, 3) := by decide +kernel
theorem d_M_taken_12 : decode b_M_taken 12 = .ok (.iload_n 1, 1) := by decide +kernel
theorem d_M_taken_13 : decode b_M_taken 13 = .ok (.ishr, 1) := by decide +kernel
theorem d_M_taken_14 : decode b_M_taken 14 = .ok (.iconst 1, 1) := by decide +kernel
theorem d_M_taken_15 : decode b_M_taken 15 = .ok (.iand, 1) := by decide +kernel
theorem d_M_taken_16 : decode b_M_taken 16 = .ok (.goto 5, 3) := by decide +kernel
theorem d_M_taken_19 : decode b_M_taken 19 = .ok (.bipush (-2), 2) := by decide +kernel
theorem d_M_taken_21 : decode b_M_taken 21 = .ok (.ireturn, 1) := by decide +kernel
theorem d_M_reasonOf_0 : decode b_M_reasonOf 0 = .ok (.aload_n 0, 1) := by decide +kernel
theorem d_M_reasonOf_1 : decode b_M_reasonOf 1 = .ok (.invokevirtual 96, 3) := by decide +kernel
theorem d_M_reasonOf_4 : decode b_M_reasonOf 4 = .ok (.istore_n 2, 1) := by decide +kernel
theorem d_M_reasonOf_5 : decode b_M_reasonOf 5 = .ok (.iload_n 2, 1) := by decide +kernel
theorem d_M_reasonOf_6 : decode b_M_reasonOf 6 = .ok (.iload_n 1, 1) := by decide +kernel
theorem d_M_reasonOf_7 : decode b_M_reasonOf 7 = .ok (.invokestatic 81, 3) := by decide +kernel
theorem d_M_reasonOf_10 : decode b_M_reasonOf 10 = .ok (.ifCond .eq 6, 3) := by decide +kernel
theorem d_M_reasonOf_13 : decode b_M_reasonOf 13 = .ok (.bipush (-3), 2) := by decide +kernel
theorem d_M_reasonOf_15 : decode b_M_reasonOf 15 = .ok (.ireturn, 1) := by decide +kernel
theorem d_M_reasonOf_16 : decode b_M_reasonOf 16 = .ok (.iload_n 2, 1) := by decide +kernel
theorem d_M_reasonOf_17 : decode b_M_reasonOf 17 = .ok (.iconst 1, 1) := by decide +kernel
theorem d_M_reasonOf_18 : decode b_M_reasonOf 18 = .ok (.iload_n 1, 1) := by decide +kernel
theorem d_M_reasonOf_19 : decode b_M_reasonOf 19 = .ok (.ishl, 1) := by decide +kernel
theorem d_M_reasonOf_20 : decode b_M_reasonOf 20 = .ok (.iconst 1, 1) := by decide +kernel
theorem d_M_reasonOf_21 : decode b_M_reasonOf 21 = .ok (.isub, 1) := by decide +kernel
theorem d_M_reasonOf_22 : decode b_M_reasonOf 22 = .ok (.iand, 1) := by decide +kernel
theorem d_M_reasonOf_23 : decode b_M_reasonOf 23 = .ok (.istore_n 3, 1) := by decide +kernel
theorem d_M_reasonOf_24 : decode b_M_reasonOf 24 = .ok (.iconst 0, 1) := by decide +kernel
theorem d_M_reasonOf_25 : decode b_M_reasonOf 25 = .ok (.istore 4, 2) := by decide +kernel
theorem d_M_reasonOf_27 : decode b_M_reasonOf 27 = .ok (.iload 4, 2) := by decide +kernel
theorem d_M_reasonOf_29 : decode b_M_reasonOf 29 = .ok (.iload_n 1, 1) := by decide +kernel
theorem d_M_reasonOf_30 : decode b_M_reasonOf 30 = .ok (.if_icmp .ge 49, 3) := by decide +kernel
theorem d_M_reasonOf_33 : decode b_M_reasonOf 33 = .ok (.iload_n 3, 1) := by decide +kernel
theorem d_M_reasonOf_34 : decode b_M_reasonOf 34 = .ok (.iconst 1, 1) := by decide +kernel
theorem d_M_reasonOf_35 : decode b_M_reasonOf 35 = .ok (.iload 4, 2) := by decide +kernel
theorem d_M_reasonOf_37 : decode b_M_reasonOf 37 = .ok (.ishl, 1) := by decide +kernel
theorem d_M_reasonOf_38 : decode b_M_reasonOf 38 = .ok (.iconst (-1), 1) := by decide +kernel
theorem d_M_reasonOf_39 : decode b_M_reasonOf 39 = .ok (.ixor, 1) := by decide +kernel
theorem d_M_reasonOf_40 : decode b_M_reasonOf 40 = .ok (.iand, 1) := by decide +kernel
theorem d_M_reasonOf_41 : decode b_M_reasonOf 41 = .ok (.istore 5, 2) := by decide +kernel
theorem d_M_reasonOf_43 : decode b_M_reasonOf 43 = .ok (.iload_n 3, 1) := by decide +kernel
theorem d_M_reasonOf_44 : decode b_M_reasonOf 44 = .ok (.iload 4, 2) := by decide +kernel
theorem d_M_reasonOf_46 : decode b_M_reasonOf 46 = .ok (.invokestatic 81, 3) := by decide +kernel
theorem d_M_reasonOf_49 : decode b_M_reasonOf 49 = .ok (.ifCond .eq 22, 3) := by decide +kernel
theorem d_M_reasonOf_52 : decode b_M_reasonOf 52 = .ok (.aload_n 0, 1) := by decide +kernel
theorem d_M_reasonOf_53 : decode b_M_reasonOf 53 = .ok (.iload 5, 2) := by decide +kernel
theorem d_M_reasonOf_55 : decode b_M_reasonOf 55 = .ok (.iconst 1, 1) := by decide +kernel
theorem d_M_reasonOf_56 : decode b_M_reasonOf 56 = .ok (.iload_n 1, 1) := by decide +kernel
theorem d_M_reasonOf_57 : decode b_M_reasonOf 57 = .ok (.ishl, 1) := by decide +kernel
theorem d_M_reasonOf_58 : decode b_M_reasonOf 58 = .ok (.ior, 1) := by decide +kernel
theorem d_M_reasonOf_59 : decode b_M_reasonOf 59 = .ok (.iconst 0, 1) := by decide +kernel
theorem d_M_reasonOf_60 : decode b_M_reasonOf 60 = .ok (.invokevirtual 117, 3) := by decide +kernel
theorem d_M_reasonOf_63 : decode b_M_reasonOf 63 = .ok (.ifCond .ne 8, 3) := by decide +kernel
theorem d_M_reasonOf_66 : decode b_M_reasonOf 66 = .ok (.iload 5, 2) := by decide +kernel
theorem d_M_reasonOf_68 : decode b_M_reasonOf 68 = .ok (.goto 4, 3) := by decide +kernel
theorem d_M_reasonOf_71 : decode b_M_reasonOf 71 = .ok (.iload_n 3, 1) := by decide +kernel
theorem d_M_reasonOf_72 : decode b_M_reasonOf 72 = .ok (.istore_n 3, 1) := by decide +kernel
theorem d_M_reasonOf_73 : decode b_M_reasonOf 73 = .ok (.iinc 4 1, 3) := by decide +kernel
theorem d_M_reasonOf_76 : decode b_M_reasonOf 76 = .ok (.goto (-49), 3) := by decide +kernel
theorem d_M_reasonOf_79 : decode b_M_reasonOf 79 = .ok (.iload_n 3, 1) := by decide +kernel
theorem d_M_reasonOf_80 : decode b_M_reasonOf 80 = .ok (.ireturn, 1) := by decide +kernel
theorem d_M_reason_0 : decode b_M_reason 0 = .ok (.aload_n 0, 1) := by decide +kernel
theorem d_M_reason_1 : decode b_M_reason 1 = .ok (.iload_n 1, 1) := by decide +kernel
theorem d_M_reason_2 : decode b_M_reason 2 = .ok (.invokevirtual 121, 3) := by decide +kernel
theorem d_M_reason_5 : decode b_M_reason 5 = .ok (.ifCond .eq 11, 3) := by decide +kernel
theorem d_M_reason_8 : decode b_M_reason 8 = .ok (.aload_n 0, 1) := by decide +kernel
theorem d_M_reason_9 : decode b_M_reason 9 = .ok (.iload_n 1, 1) := by decide +kernel
theorem d_M_reason_10 : decode b_M_reason 10 = .ok (.invokevirtual 124, 3) := by decide +kernel
theorem d_M_reason_13 : decode b_M_reason 13 = .ok (.goto 5, 3) := by decide +kernel
theorem d_M_reason_16 : decode b_M_reason 16 = .ok (.bipush (-2), 2) := by decide +kernel
theorem d_M_reason_18 : decode b_M_reason 18 = .ok (.ireturn, 1) := by decide +kernel
theorem d_M_manyNow_0 : decode b_M_manyNow 0 = .ok (.aload_n 0, 1) := by decide +kernel
theorem d_M_manyNow_1 : decode b_M_manyNow 1 = .ok (.aload_n 0, 1) := by decide +kernel
theorem d_M_manyNow_2 : decode b_M_manyNow 2 = .ok (.invokevirtual 96, 3) := by decide +kernel
theorem d_M_manyNow_5 : decode b_M_manyNow 5 = .ok (.iconst 0, 1) := by decide +kernel
theorem d_M_manyNow_6 : decode b_M_manyNow 6 = .ok (.invokevirtual 117, 3) := by decide +kernel
theorem d_M_manyNow_9 : decode b_M_manyNow 9 = .ok (.ireturn, 1) := by decide +kernel
theorem d_M_many__0 : decode b_M_many_ 0 = .ok (.aload_n 0, 1) := by decide +kernel
theorem d_M_many__1 : decode b_M_many_ 1 = .ok (.invokevirtual 127, 3) := by decide +kernel
theorem d_M_many__4 : decode b_M_many_ 4 = .ok (.i2l, 1) := by decide +kernel
theorem d_M_many__5 : decode b_M_many_ 5 = .ok (.lreturn, 1) := by decide +kernel
theorem d_M_findsGo_0 : decode b_M_findsGo 0 = .ok (.aload_n 0, 1) := by decide +kernel
theorem d_M_findsGo_1 : decode b_M_findsGo 1 = .ok (.invokevirtual 96, 3) := by decide +kernel
theorem d_M_findsGo_4 : decode b_M_findsGo 4 = .ok (.istore_n 1, 1) := by decide +kernel
theorem d_M_findsGo_5 : decode b_M_findsGo 5 = .ok (.aload_n 0, 1) := by decide +kernel
theorem d_M_findsGo_6 : decode b_M_findsGo 6 = .ok (.iload_n 1, 1) := by decide +kernel
theorem d_M_findsGo_7 : decode b_M_findsGo 7 = .ok (.iconst 0, 1) := by decide +kernel
theorem d_M_findsGo_8 : decode b_M_findsGo 8 = .ok (.invokevirtual 117, 3) := by decide +kernel
theorem d_M_findsGo_11 : decode b_M_findsGo 11 = .ok (.pop, 1) := by decide +kernel
theorem d_M_findsGo_12 : decode b_M_findsGo 12 = .ok (.aload_n 0, 1) := by decide +kernel
theorem d_M_findsGo_13 : decode b_M_findsGo 13 = .ok (.invokevirtual 110, 3) := by decide +kernel
theorem d_M_findsGo_16 : decode b_M_findsGo 16 = .ok (.istore_n 2, 1) := by decide +kernel
theorem d_M_findsGo_17 : decode b_M_findsGo 17 = .ok (.iload_n 2, 1) := by decide +kernel
theorem d_M_findsGo_18 : decode b_M_findsGo 18 = .ok (.ifCond .lt 118, 3) := by decide +kernel
theorem d_M_findsGo_21 : decode b_M_findsGo 21 = .ok (.aload_n 0, 1) := by decide +kernel
theorem d_M_findsGo_22 : decode b_M_findsGo 22 = .ok (.getfield 17, 3) := by decide +kernel
theorem d_M_findsGo_25 : decode b_M_findsGo 25 = .ok (.iload_n 2, 1) := by decide +kernel
theorem d_M_findsGo_26 : decode b_M_findsGo 26 = .ok (.iaload, 1) := by decide +kernel
theorem d_M_findsGo_27 : decode b_M_findsGo 27 = .ok (.ifCond .ne 7, 3) := by decide +kernel
theorem d_M_findsGo_30 : decode b_M_findsGo 30 = .ok (.iconst 0, 1) := by decide +kernel
theorem d_M_findsGo_31 : decode b_M_findsGo 31 = .ok (.goto 10, 3) := by decide +kernel
theorem d_M_findsGo_34 : decode b_M_findsGo 34 = .ok (.aload_n 0, 1) := by decide +kernel
theorem d_M_findsGo_35 : decode b_M_findsGo 35 = .ok (.iload_n 2, 1) := by decide +kernel
theorem d_M_findsGo_36 : decode b_M_findsGo 36 = .ok (.iload_n 1, 1) := by decide +kernel
theorem d_M_findsGo_37 : decode b_M_findsGo 37 = .ok (.iconst 0, 1) := by decide +kernel
theorem d_M_findsGo_38 : decode b_M_findsGo 38 = .ok (.invokevirtual 113, 3) := by decide +kernel
theorem d_M_findsGo_41 : decode b_M_findsGo 41 = .ok (.istore_n 3, 1) := by decide +kernel
theorem d_M_findsGo_42 : decode b_M_findsGo 42 = .ok (.aload_n 0, 1) := by decide +kernel
theorem d_M_findsGo_43 : decode b_M_findsGo 43 = .ok (.getfield 20, 3) := by decide +kernel
theorem d_M_findsGo_46 : decode b_M_findsGo 46 = .ok (.iload_n 2, 1) := by decide +kernel
theorem d_M_findsGo_47 : decode b_M_findsGo 47 = .ok (.iconst 0, 1) := by decide +kernel
theorem d_M_findsGo_48 : decode b_M_findsGo 48 = .ok (.iastore, 1) := by decide +kernel
theorem d_M_findsGo_49 : decode b_M_findsGo 49 = .ok (.aload_n 0, 1) := by decide +kernel
theorem d_M_findsGo_50 : decode b_M_findsGo 50 = .ok (.getfield 23, 3) := by decide +kernel
theorem d_M_findsGo_53 : decode b_M_findsGo 53 = .ok (.iload_n 2, 1) := by decide +kernel
theorem d_M_findsGo_54 : decode b_M_findsGo 54 = .ok (.iload_n 2, 1) := by decide +kernel
theorem d_M_findsGo_55 : decode b_M_findsGo 55 = .ok (.aload_n 0, 1) := by decide +kernel
theorem d_M_findsGo_56 : decode b_M_findsGo 56 = .ok (.invokevirtual 110, 3) := by decide +kernel
theorem d_M_findsGo_59 : decode b_M_findsGo 59 = .ok (.if_icmp .ne 7, 3) := by decide +kernel
theorem d_M_findsGo_62 : decode b_M_findsGo 62 = .ok (.iconst 1, 1) := by decide +kernel
theorem d_M_findsGo_63 : decode b_M_findsGo 63 = .ok (.goto 4, 3) := by decide +kernel
theorem d_M_findsGo_66 : decode b_M_findsGo 66 = .ok (.iconst 0, 1) := by decide +kernel
theorem d_M_findsGo_67 : decode b_M_findsGo 67 = .ok (.iastore, 1) := by decide +kernel
theorem d_M_findsGo_68 : decode b_M_findsGo 68 = .ok (.iconst 0, 1) := by decide +kernel
theorem d_M_findsGo_69 : decode b_M_findsGo 69 = .ok (.istore 4, 2) := by decide +kernel
theorem d_M_findsGo_71 : decode b_M_findsGo 71 = .ok (.iload 4, 2) := by decide +kernel
theorem d_M_findsGo_73 : decode b_M_findsGo 73 = .ok (.aload_n 0, 1) := by decide +kernel
theorem d_M_findsGo_74 : decode b_M_findsGo 74 = .ok (.getfield 7, 3) := by decide +kernel
theorem d_M_findsGo_77 : decode b_M_findsGo 77 = .ok (.if_icmp .ge 53, 3) := by decide +kernel
theorem d_M_findsGo_80 : decode b_M_findsGo 80 = .ok (.iload_n 3, 1) := by decide +kernel
theorem d_M_findsGo_81 : decode b_M_findsGo 81 = .ok (.iload 4, 2) := by decide +kernel
theorem d_M_findsGo_83 : decode b_M_findsGo 83 = .ok (.invokestatic 81, 3) := by decide +kernel
theorem d_M_findsGo_86 : decode b_M_findsGo 86 = .ok (.ifCond .eq 38, 3) := by decide +kernel
theorem d_M_findsGo_89 : decode b_M_findsGo 89 = .ok (.aload_n 0, 1) := by decide +kernel
theorem d_M_findsGo_90 : decode b_M_findsGo 90 = .ok (.getfield 23, 3) := by decide +kernel
theorem d_M_findsGo_93 : decode b_M_findsGo 93 = .ok (.iload_n 2, 1) := by decide +kernel
theorem d_M_findsGo_94 : decode b_M_findsGo 94 = .ok (.iconst 1, 1) := by decide +kernel
theorem d_M_findsGo_95 : decode b_M_findsGo 95 = .ok (.iload 4, 2) := by decide +kernel
theorem d_M_findsGo_97 : decode b_M_findsGo 97 = .ok (.ishl, 1) := by decide +kernel
theorem d_M_findsGo_98 : decode b_M_findsGo 98 = .ok (.ior, 1) := by decide +kernel
theorem d_M_findsGo_99 : decode b_M_findsGo 99 = .ok (.iaload, 1) := by decide +kernel
theorem d_M_findsGo_100 : decode b_M_findsGo 100 = .ok (.iconst 1, 1) := by decide +kernel
theorem d_M_findsGo_101 : decode b_M_findsGo 101 = .ok (.if_icmp .ne 23, 3) := by decide +kernel
theorem d_M_findsGo_104 : decode b_M_findsGo 104 = .ok (.aload_n 0, 1) := by decide +kernel
theorem d_M_findsGo_105 : decode b_M_findsGo 105 = .ok (.getfield 20, 3) := by decide +kernel
theorem d_M_findsGo_108 : decode b_M_findsGo 108 = .ok (.iload_n 2, 1) := by decide +kernel
theorem d_M_findsGo_109 : decode b_M_findsGo 109 = .ok (.dup2, 1) := by decide +kernel
theorem d_M_findsGo_110 : decode b_M_findsGo 110 = .ok (.iaload, 1) := by decide +kernel
theorem d_M_findsGo_111 : decode b_M_findsGo 111 = .ok (.iconst 1, 1) := by decide +kernel
theorem d_M_findsGo_112 : decode b_M_findsGo 112 = .ok (.iload 4, 2) := by decide +kernel
theorem d_M_findsGo_114 : decode b_M_findsGo 114 = .ok (.ishl, 1) := by decide +kernel
theorem d_M_findsGo_115 : decode b_M_findsGo 115 = .ok (.ior, 1) := by decide +kernel
theorem d_M_findsGo_116 : decode b_M_findsGo 116 = .ok (.iastore, 1) := by decide +kernel
theorem d_M_findsGo_117 : decode b_M_findsGo 117 = .ok (.aload_n 0, 1) := by decide +kernel
theorem d_M_findsGo_118 : decode b_M_findsGo 118 = .ok (.getfield 23, 3) := by decide +kernel
theorem d_M_findsGo_121 : decode b_M_findsGo 121 = .ok (.iload_n 2, 1) := by decide +kernel
theorem d_M_findsGo_122 : decode b_M_findsGo 122 = .ok (.iconst 1, 1) := by decide +kernel
theorem d_M_findsGo_123 : decode b_M_findsGo 123 = .ok (.iastore, 1) := by decide +kernel
theorem d_M_findsGo_124 : decode b_M_findsGo 124 = .ok (.iinc 4 1, 3) := by decide +kernel
theorem d_M_findsGo_127 : decode b_M_findsGo 127 = .ok (.goto (-56), 3) := by decide +kernel
theorem d_M_findsGo_130 : decode b_M_findsGo 130 = .ok (.iinc 2 (-1), 3) := by decide +kernel
theorem d_M_findsGo_133 : decode b_M_findsGo 133 = .ok (.goto (-116), 3) := by decide +kernel
theorem d_M_findsGo_136 : decode b_M_findsGo 136 = .ok (.return_, 1) := by decide +kernel
theorem d_M_isSure_0 : decode b_M_isSure 0 = .ok (.iconst 0, 1) := by decide +kernel
theorem d_M_isSure_1 : decode b_M_isSure 1 = .ok (.istore_n 2, 1) := by decide +kernel
theorem d_M_isSure_2 : decode b_M_isSure 2 = .ok (.iload_n 2, 1) := by decide +kernel
theorem d_M_isSure_3 : decode b_M_isSure 3 = .ok (.aload_n 0, 1) := by decide +kernel
theorem d_M_isSure_4 : decode b_M_isSure 4 = .ok (.invokevirtual 110, 3) := by decide +kernel
theorem d_M_isSure_7 : decode b_M_isSure 7 = .ok (.if_icmp .ge 37, 3) := by decide +kernel
theorem d_M_isSure_10 : decode b_M_isSure 10 = .ok (.iload_n 2, 1) := by decide +kernel
theorem d_M_isSure_11 : decode b_M_isSure 11 = .ok (.iload_n 1, 1) := by decide +kernel
theorem d_M_isSure_12 : decode b_M_isSure 12 = .ok (.iand, 1) := by decide +kernel
theorem d_M_isSure_13 : decode b_M_isSure 13 = .ok (.istore_n 3, 1) := by decide +kernel
theorem d_M_isSure_14 : decode b_M_isSure 14 = .ok (.iload_n 3, 1) := by decide +kernel
theorem d_M_isSure_15 : decode b_M_isSure 15 = .ok (.ifCond .eq 23, 3) := by decide +kernel
theorem d_M_isSure_18 : decode b_M_isSure 18 = .ok (.iload_n 3, 1) := by decide +kernel
theorem d_M_isSure_19 : decode b_M_isSure 19 = .ok (.iload_n 1, 1) := by decide +kernel
theorem d_M_isSure_20 : decode b_M_isSure 20 = .ok (.if_icmp .eq 18, 3) := by decide +kernel
theorem d_M_isSure_23 : decode b_M_isSure 23 = .ok (.aload_n 0, 1) := by decide +kernel
theorem d_M_isSure_24 : decode b_M_isSure 24 = .ok (.getfield 20, 3) := by decide +kernel
theorem d_M_isSure_27 : decode b_M_isSure 27 = .ok (.iload_n 2, 1) := by decide +kernel
theorem d_M_isSure_28 : decode b_M_isSure 28 = .ok (.iaload, 1) := by decide +kernel
theorem d_M_isSure_29 : decode b_M_isSure 29 = .ok (.iload_n 1, 1) := by decide +kernel
theorem d_M_isSure_30 : decode b_M_isSure 30 = .ok (.iconst (-1), 1) := by decide +kernel
theorem d_M_isSure_31 : decode b_M_isSure 31 = .ok (.ixor, 1) := by decide +kernel
theorem d_M_isSure_32 : decode b_M_isSure 32 = .ok (.iand, 1) := by decide +kernel
theorem d_M_isSure_33 : decode b_M_isSure 33 = .ok (.ifCond .eq 5, 3) := by decide +kernel
theorem d_M_isSure_36 : decode b_M_isSure 36 = .ok (.iconst 0, 1) := by decide +kernel
theorem d_M_isSure_37 : decode b_M_isSure 37 = .ok (.ireturn, 1) := by decide +kernel
theorem d_M_isSure_38 : decode b_M_isSure 38 = .ok (.iinc 2 1, 3) := by decide +kernel
theorem d_M_isSure_41 : decode b_M_isSure 41 = .ok (.goto (-39), 3) := by decide +kernel
theorem d_M_isSure_44 : decode b_M_isSure 44 = .ok (.iconst 1, 1) := by decide +kernel
theorem d_M_isSure_45 : decode b_M_isSure 45 = .ok (.ireturn, 1) := by decide +kernel
theorem d_M_areCrossing_0 : decode b_M_areCrossing 0 = .ok (.iload_n 0, 1) := by decide +kernel
theorem d_M_areCrossing_1 : decode b_M_areCrossing 1 = .ok (.iload_n 1, 1) := by decide +kernel
theorem d_M_areCrossing_2 : decode b_M_areCrossing 2 = .ok (.iand, 1) := by decide +kernel
theorem d_M_areCrossing_3 : decode b_M_areCrossing 3 = .ok (.ifCond .eq 23, 3) := by decide +kernel
theorem d_M_areCrossing_6 : decode b_M_areCrossing 6 = .ok (.iload_n 0, 1) := by decide +kernel
theorem d_M_areCrossing_7 : decode b_M_areCrossing 7 = .ok (.iload_n 1, 1) := by decide +kernel
theorem d_M_areCrossing_8 : decode b_M_areCrossing 8 = .ok (.iconst (-1), 1) := by decide +kernel
theorem d_M_areCrossing_9 : decode b_M_areCrossing 9 = .ok (.ixor, 1) := by decide +kernel
theorem d_M_areCrossing_10 : decode b_M_areCrossing 10 = .ok (.iand, 1) := by decide +kernel
theorem d_M_areCrossing_11 : decode b_M_areCrossing 11 = .ok (.ifCond .eq 15, 3) := by decide +kernel
theorem d_M_areCrossing_14 : decode b_M_areCrossing 14 = .ok (.iload_n 1, 1) := by decide +kernel
theorem d_M_areCrossing_15 : decode b_M_areCrossing 15 = .ok (.iload_n 0, 1) := by decide +kernel
theorem d_M_areCrossing_16 : decode b_M_areCrossing 16 = .ok (.iconst (-1), 1) := by decide +kernel
theorem d_M_areCrossing_17 : decode b_M_areCrossing 17 = .ok (.ixor, 1) := by decide +kernel
theorem d_M_areCrossing_18 : decode b_M_areCrossing 18 = .ok (.iand, 1) := by decide +kernel
theorem d_M_areCrossing_19 : decode b_M_areCrossing 19 = .ok (.ifCond .eq 7, 3) := by decide +kernel
theorem d_M_areCrossing_22 : decode b_M_areCrossing 22 = .ok (.iconst 1, 1) := by decide +kernel
theorem d_M_areCrossing_23 : decode b_M_areCrossing 23 = .ok (.goto 4, 3) := by decide +kernel
theorem d_M_areCrossing_26 : decode b_M_areCrossing 26 = .ok (.iconst 0, 1) := by decide +kernel
theorem d_M_areCrossing_27 : decode b_M_areCrossing 27 = .ok (.ireturn, 1) := by decide +kernel
theorem d_M_findsStrong_0 : decode b_M_findsStrong 0 = .ok (.aload_n 0, 1) := by decide +kernel
theorem d_M_findsStrong_1 : decode b_M_findsStrong 1 = .ok (.invokevirtual 130, 3) := by decide +kernel
theorem d_M_findsStrong_4 : decode b_M_findsStrong 4 = .ok (.iconst 0, 1) := by decide +kernel
theorem d_M_findsStrong_5 : decode b_M_findsStrong 5 = .ok (.istore_n 1, 1) := by decide +kernel
theorem d_M_findsStrong_6 : decode b_M_findsStrong 6 = .ok (.iload_n 1, 1) := by decide +kernel
theorem d_M_findsStrong_7 : decode b_M_findsStrong 7 = .ok (.aload_n 0, 1) := by decide +kernel
theorem d_M_findsStrong_8 : decode b_M_findsStrong 8 = .ok (.invokevirtual 110, 3) := by decide +kernel
theorem d_M_findsStrong_11 : decode b_M_findsStrong 11 = .ok (.if_icmp .gt 36, 3) := by decide +kernel
theorem d_M_findsStrong_14 : decode b_M_findsStrong 14 = .ok (.aload_n 0, 1) := by decide +kernel
theorem d_M_findsStrong_15 : decode b_M_findsStrong 15 = .ok (.getfield 26, 3) := by decide +kernel
theorem d_M_findsStrong_18 : decode b_M_findsStrong 18 = .ok (.iload_n 1, 1) := by decide +kernel
theorem d_M_findsStrong_19 : decode b_M_findsStrong 19 = .ok (.iload_n 1, 1) := by decide +kernel
theorem d_M_findsStrong_20 : decode b_M_findsStrong 20 = .ok (.invokestatic 89, 3) := by decide +kernel
theorem d_M_findsStrong_23 : decode b_M_findsStrong 23 = .ok (.iconst 1, 1) := by decide +kernel
theorem d_M_findsStrong_24 : decode b_M_findsStrong 24 = .ok (.if_icmp .le 15, 3) := by decide +kernel
theorem d_M_findsStrong_27 : decode b_M_findsStrong 27 = .ok (.aload_n 0, 1) := by decide +kernel
theorem d_M_findsStrong_28 : decode b_M_findsStrong 28 = .ok (.iload_n 1, 1) := by decide +kernel
theorem d_M_findsStrong_29 : decode b_M_findsStrong 29 = .ok (.invokevirtual 133, 3) := by decide +kernel
theorem d_M_findsStrong_32 : decode b_M_findsStrong 32 = .ok (.ifCond .eq 7, 3) := by decide +kernel
theorem d_M_findsStrong_35 : decode b_M_findsStrong 35 = .ok (.iconst 1, 1) := by decide +kernel
theorem d_M_findsStrong_36 : decode b_M_findsStrong 36 = .ok (.goto 4, 3) := by decide +kernel
theorem d_M_findsStrong_39 : decode b_M_findsStrong 39 = .ok (.iconst 0, 1) := by decide +kernel
theorem d_M_findsStrong_40 : decode b_M_findsStrong 40 = .ok (.iastore, 1) := by decide +kernel
theorem d_M_findsStrong_41 : decode b_M_findsStrong 41 = .ok (.iinc 1 1, 3) := by decide +kernel
theorem d_M_findsStrong_44 : decode b_M_findsStrong 44 = .ok (.goto (-38), 3) := by decide +kernel
theorem d_M_findsStrong_47 : decode b_M_findsStrong 47 = .ok (.iconst 0, 1) := by decide +kernel
theorem d_M_findsStrong_48 : decode b_M_findsStrong 48 = .ok (.istore_n 1, 1) := by decide +kernel
theorem d_M_findsStrong_49 : decode b_M_findsStrong 49 = .ok (.iload_n 1, 1) := by decide +kernel
theorem d_M_findsStrong_50 : decode b_M_findsStrong 50 = .ok (.aload_n 0, 1) := by decide +kernel
theorem d_M_findsStrong_51 : decode b_M_findsStrong 51 = .ok (.invokevirtual 110, 3) := by decide +kernel
theorem d_M_findsStrong_54 : decode b_M_findsStrong 54 = .ok (.if_icmp .gt 83, 3) := by decide +kernel
theorem d_M_findsStrong_57 : decode b_M_findsStrong 57 = .ok (.aload_n 0, 1) := by decide +kernel
theorem d_M_findsStrong_58 : decode b_M_findsStrong 58 = .ok (.getfield 26, 3) := by decide +kernel
theorem d_M_findsStrong_61 : decode b_M_findsStrong 61 = .ok (.iload_n 1, 1) := by decide +kernel
theorem d_M_findsStrong_62 : decode b_M_findsStrong 62 = .ok (.iaload, 1) := by decide +kernel
theorem d_M_findsStrong_63 : decode b_M_findsStrong 63 = .ok (.iconst 1, 1) := by decide +kernel
theorem d_M_findsStrong_64 : decode b_M_findsStrong 64 = .ok (.if_icmp .ne 7, 3) := by decide +kernel
theorem d_M_findsStrong_67 : decode b_M_findsStrong 67 = .ok (.iconst 1, 1) := by decide +kernel
theorem d_M_findsStrong_68 : decode b_M_findsStrong 68 = .ok (.goto 4, 3) := by decide +kernel
theorem d_M_findsStrong_71 : decode b_M_findsStrong 71 = .ok (.iconst 0, 1) := by decide +kernel
theorem d_M_findsStrong_72 : decode b_M_findsStrong 72 = .ok (.istore_n 2, 1) := by decide +kernel
theorem d_M_findsStrong_73 : decode b_M_findsStrong 73 = .ok (.iconst 0, 1) := by decide +kernel
theorem d_M_findsStrong_74 : decode b_M_findsStrong 74 = .ok (.istore_n 3, 1) := by decide +kernel
theorem d_M_findsStrong_75 : decode b_M_findsStrong 75 = .ok (.iload_n 3, 1) := by decide +kernel
theorem d_M_findsStrong_76 : decode b_M_findsStrong 76 = .ok (.aload_n 0, 1) := by decide +kernel
theorem d_M_findsStrong_77 : decode b_M_findsStrong 77 = .ok (.invokevirtual 110, 3) := by decide +kernel
theorem d_M_findsStrong_80 : decode b_M_findsStrong 80 = .ok (.if_icmp .gt 36, 3) := by decide +kernel
theorem d_M_findsStrong_83 : decode b_M_findsStrong 83 = .ok (.iload_n 2, 1) := by decide +kernel
theorem d_M_findsStrong_84 : decode b_M_findsStrong 84 = .ok (.ifCond .eq 32, 3) := by decide +kernel
theorem d_M_findsStrong_87 : decode b_M_findsStrong 87 = .ok (.aload_n 0, 1) := by decide +kernel
theorem d_M_findsStrong_88 : decode b_M_findsStrong 88 = .ok (.getfield 26, 3) := by decide +kernel
theorem d_M_findsStrong_91 : decode b_M_findsStrong 91 = .ok (.iload_n 3, 1) := by decide +kernel
theorem d_M_findsStrong_92 : decode b_M_findsStrong 92 = .ok (.iaload, 1) := by decide +kernel
theorem d_M_findsStrong_93 : decode b_M_findsStrong 93 = .ok (.ifCond .eq 11, 3) := by decide +kernel
theorem d_M_findsStrong_96 : decode b_M_findsStrong 96 = .ok (.iload_n 1, 1) := by decide +kernel
theorem d_M_findsStrong_97 : decode b_M_findsStrong 97 = .ok (.iload_n 3, 1) := by decide +kernel
theorem d_M_findsStrong_98 : decode b_M_findsStrong 98 = .ok (.invokestatic 136, 3) := by decide +kernel
theorem d_M_findsStrong_101 : decode b_M_findsStrong 101 = .ok (.ifCond .ne 7, 3) := by decide +kernel
theorem d_M_findsStrong_104 : decode b_M_findsStrong 104 = .ok (.iconst 1, 1) := by decide +kernel
theorem d_M_findsStrong_105 : decode b_M_findsStrong 105 = .ok (.goto 4, 3) := by decide +kernel
theorem d_M_findsStrong_108 : decode b_M_findsStrong 108 = .ok (.iconst 0, 1) := by decide +kernel
theorem d_M_findsStrong_109 : decode b_M_findsStrong 109 = .ok (.istore_n 2, 1) := by decide +kernel
theorem d_M_findsStrong_110 : decode b_M_findsStrong 110 = .ok (.iinc 3 1, 3) := by decide +kernel
theorem d_M_findsStrong_113 : decode b_M_findsStrong 113 = .ok (.goto (-38), 3) := by decide +kernel
theorem d_M_findsStrong_116 : decode b_M_findsStrong 116 = .ok (.aload_n 0, 1) := by decide +kernel
theorem d_M_findsStrong_117 : decode b_M_findsStrong 117 = .ok (.getfield 44, 3) := by decide +kernel
theorem d_M_findsStrong_120 : decode b_M_findsStrong 120 = .ok (.iload_n 1, 1) := by decide +kernel
theorem d_M_findsStrong_121 : decode b_M_findsStrong 121 = .ok (.iload_n 2, 1) := by decide +kernel
theorem d_M_findsStrong_122 : decode b_M_findsStrong 122 = .ok (.ifCond .eq 7, 3) := by decide +kernel
theorem d_M_findsStrong_125 : decode b_M_findsStrong 125 = .ok (.iconst 1, 1) := by decide +kernel
theorem d_M_findsStrong_126 : decode b_M_findsStrong 126 = .ok (.goto 4, 3) := by decide +kernel
theorem d_M_findsStrong_129 : decode b_M_findsStrong 129 = .ok (.iconst 0, 1) := by decide +kernel
theorem d_M_findsStrong_130 : decode b_M_findsStrong 130 = .ok (.iastore, 1) := by decide +kernel
theorem d_M_findsStrong_131 : decode b_M_findsStrong 131 = .ok (.iinc 1 1, 3) := by decide +kernel
theorem d_M_findsStrong_134 : decode b_M_findsStrong 134 = .ok (.goto (-85), 3) := by decide +kernel
theorem d_M_findsStrong_137 : decode b_M_findsStrong 137 = .ok (.return_, 1) := by decide +kernel
theorem d_M_partWith_0 : decode b_M_partWith 0 = .ok (.iconst 1, 1) := by decide +kernel
theorem d_M_partWith_1 : decode b_M_partWith 1 = .ok (.iload_n 2, 1) := by decide +kernel
theorem d_M_partWith_2 : decode b_M_partWith 2 = .ok (.ishl, 1) := by decide +kernel
theorem d_M_partWith_3 : decode b_M_partWith 3 = .ok (.istore_n 3, 1) := by decide +kernel
theorem d_M_partWith_4 : decode b_M_partWith 4 = .ok (.iconst 0, 1) := by decide +kernel
theorem d_M_partWith_5 : decode b_M_partWith 5 = .ok (.istore 4, 2) := by decide +kernel
theorem d_M_partWith_7 : decode b_M_partWith 7 = .ok (.iload 4, 2) := by decide +kernel
theorem d_M_partWith_9 : decode b_M_partWith 9 = .ok (.iload_n 1, 1) := by decide +kernel
theorem d_M_partWith_10 : decode b_M_partWith 10 = .ok (.if_icmp .ge 69, 3) := by decide +kernel
theorem d_M_partWith_13 : decode b_M_partWith 13 = .ok (.aload_n 0, 1) := by decide +kernel
theorem d_M_partWith_14 : decode b_M_partWith 14 = .ok (.getfield 44, 3) := by decide +kernel
theorem d_M_partWith_17 : decode b_M_partWith 17 = .ok (.iload 4, 2) := by decide +kernel
theorem d_M_partWith_19 : decode b_M_partWith 19 = .ok (.iaload, 1) := by decide +kernel
theorem d_M_partWith_20 : decode b_M_partWith 20 = .ok (.iconst 1, 1) := by decide +kernel
theorem d_M_partWith_21 : decode b_M_partWith 21 = .ok (.if_icmp .ne 25, 3) := by decide +kernel
theorem d_M_partWith_24 : decode b_M_partWith 24 = .ok (.iload 4, 2) := by decide +kernel
theorem d_M_partWith_26 : decode b_M_partWith 26 = .ok (.iload_n 1, 1) := by decide +kernel
theorem d_M_partWith_27 : decode b_M_partWith 27 = .ok (.iconst (-1), 1) := by decide +kernel
theorem d_M_partWith_28 : decode b_M_partWith 28 = .ok (.ixor, 1) := by decide +kernel
theorem d_M_partWith_29 : decode b_M_partWith 29 = .ok (.iand, 1) := by decide +kernel
theorem d_M_partWith_30 : decode b_M_partWith 30 = .ok (.ifCond .ne 16, 3) := by decide +kernel
theorem d_M_partWith_33 : decode b_M_partWith 33 = .ok (.iload 4, 2) := by decide +kernel
theorem d_M_partWith_35 : decode b_M_partWith 35 = .ok (.iload_n 2, 1) := by decide +kernel
theorem d_M_partWith_36 : decode b_M_partWith 36 = .ok (.invokestatic 81, 3) := by decide +kernel
theorem d_M_partWith_39 : decode b_M_partWith 39 = .ok (.ifCond .eq 7, 3) := by decide +kernel
theorem d_M_partWith_42 : decode b_M_partWith 42 = .ok (.iconst 1, 1) := by decide +kernel
theorem d_M_partWith_43 : decode b_M_partWith 43 = .ok (.goto 4, 3) := by decide +kernel
theorem d_M_partWith_46 : decode b_M_partWith 46 = .ok (.iconst 0, 1) := by decide +kernel
theorem d_M_partWith_47 : decode b_M_partWith 47 = .ok (.istore 5, 2) := by decide +kernel
theorem d_M_partWith_49 : decode b_M_partWith 49 = .ok (.iload 5, 2) := by decide +kernel
theorem d_M_partWith_51 : decode b_M_partWith 51 = .ok (.ifCond .eq 20, 3) := by decide +kernel
theorem d_M_partWith_54 : decode b_M_partWith 54 = .ok (.iload 4, 2) := by decide +kernel
theorem d_M_partWith_56 : decode b_M_partWith 56 = .ok (.invokestatic 89, 3) := by decide +kernel
theorem d_M_partWith_59 : decode b_M_partWith 59 = .ok (.iload_n 3, 1) := by decide +kernel
theorem d_M_partWith_60 : decode b_M_partWith 60 = .ok (.invokestatic 89, 3) := by decide +kernel
theorem d_M_partWith_63 : decode b_M_partWith 63 = .ok (.if_icmp .le 8, 3) := by decide +kernel
theorem d_M_partWith_66 : decode b_M_partWith 66 = .ok (.iload 4, 2) := by decide +kernel
theorem d_M_partWith_68 : decode b_M_partWith 68 = .ok (.goto 4, 3) := by decide +kernel
theorem d_M_partWith_71 : decode b_M_partWith 71 = .ok (.iload_n 3, 1) := by decide +kernel
theorem d_M_partWith_72 : decode b_M_partWith 72 = .ok (.istore_n 3, 1) := by decide +kernel
theorem d_M_partWith_73 : decode b_M_partWith 73 = .ok (.iinc 4 1, 3) := by decide +kernel
theorem d_M_partWith_76 : decode b_M_partWith 76 = .ok (.goto (-69), 3) := by decide +kernel
theorem d_M_partWith_79 : decode b_M_partWith 79 = .ok (.iload_n 3, 1) := by decide +kernel
theorem d_M_partWith_80 : decode b_M_partWith 80 = .ok (.ireturn, 1) := by decide +kernel
theorem d_M_areBeside_0 : decode b_M_areBeside 0 = .ok (.iload_n 1, 1) := by decide +kernel
theorem d_M_areBeside_1 : decode b_M_areBeside 1 = .ok (.iload_n 2, 1) := by decide +kernel
theorem d_M_areBeside_2 : decode b_M_areBeside 2 = .ok (.if_icmp .eq 19, 3) := by decide +kernel
theorem d_M_areBeside_5 : decode b_M_areBeside 5 = .ok (.aload_n 0, 1) := by decide +kernel
theorem d_M_areBeside_6 : decode b_M_areBeside 6 = .ok (.getfield 26, 3) := by decide +kernel
theorem d_M_areBeside_9 : decode b_M_areBeside 9 = .ok (.iload_n 1, 1) := by decide +kernel
theorem d_M_areBeside_10 : decode b_M_areBeside 10 = .ok (.iload_n 2, 1) := by decide +kernel
theorem d_M_areBeside_11 : decode b_M_areBeside 11 = .ok (.ior, 1) := by decide +kernel
theorem d_M_areBeside_12 : decode b_M_areBeside 12 = .ok (.iaload, 1) := by decide +kernel
theorem d_M_areBeside_13 : decode b_M_areBeside 13 = .ok (.iconst 1, 1) := by decide +kernel
theorem d_M_areBeside_14 : decode b_M_areBeside 14 = .ok (.if_icmp .ne 7, 3) := by decide +kernel
theorem d_M_areBeside_17 : decode b_M_areBeside 17 = .ok (.iconst 1, 1) := by decide +kernel
theorem d_M_areBeside_18 : decode b_M_areBeside 18 = .ok (.goto 4, 3) := by decide +kernel
theorem d_M_areBeside_21 : decode b_M_areBeside 21 = .ok (.iconst 0, 1) := by decide +kernel
theorem d_M_areBeside_22 : decode b_M_areBeside 22 = .ok (.ireturn, 1) := by decide +kernel
theorem d_M_swaps_0 : decode b_M_swaps 0 = .ok (.aload_n 0, 1) := by decide +kernel
theorem d_M_swaps_1 : decode b_M_swaps 1 = .ok (.getfield 38, 3) := by decide +kernel
theorem d_M_swaps_4 : decode b_M_swaps 4 = .ok (.iload_n 1, 1) := by decide +kernel
theorem d_M_swaps_5 : decode b_M_swaps 5 = .ok (.iaload, 1) := by decide +kernel
theorem d_M_swaps_6 : decode b_M_swaps 6 = .ok (.istore_n 3, 1) := by decide +kernel
theorem d_M_swaps_7 : decode b_M_swaps 7 = .ok (.aload_n 0, 1) := by decide +kernel
theorem d_M_swaps_8 : decode b_M_swaps 8 = .ok (.getfield 38, 3) := by decide +kernel
theorem d_M_swaps_11 : decode b_M_swaps 11 = .ok (.iload_n 1, 1) := by decide +kernel
theorem d_M_swaps_12 : decode b_M_swaps 12 = .ok (.aload_n 0, 1) := by decide +kernel
theorem d_M_swaps_13 : decode b_M_swaps 13 = .ok (.getfield 38, 3) := by decide +kernel
theorem d_M_swaps_16 : decode b_M_swaps 16 = .ok (.iload_n 2, 1) := by decide +kernel
theorem d_M_swaps_17 : decode b_M_swaps 17 = .ok (.iaload, 1) := by decide +kernel
theorem d_M_swaps_18 : decode b_M_swaps 18 = .ok (.iastore, 1) := by decide +kernel
theorem d_M_swaps_19 : decode b_M_swaps 19 = .ok (.aload_n 0, 1) := by decide +kernel
theorem d_M_swaps_20 : decode b_M_swaps 20 = .ok (.getfield 38, 3) := by decide +kernel
theorem d_M_swaps_23 : decode b_M_swaps 23 = .ok (.iload_n 2, 1) := by decide +kernel
theorem d_M_swaps_24 : decode b_M_swaps 24 = .ok (.iload_n 3, 1) := by decide +kernel
theorem d_M_swaps_25 : decode b_M_swaps 25 = .ok (.iastore, 1) := by decide +kernel
theorem d_M_swaps_26 : decode b_M_swaps 26 = .ok (.return_, 1) := by decide +kernel
theorem d_M_turnsRight_0 : decode b_M_turnsRight 0 = .ok (.aload_n 0, 1) := by decide +kernel
theorem d_M_turnsRight_1 : decode b_M_turnsRight 1 = .ok (.getfield 35, 3) := by decide +kernel
theorem d_M_turnsRight_4 : decode b_M_turnsRight 4 = .ok (.iload_n 1, 1) := by decide +kernel
theorem d_M_turnsRight_5 : decode b_M_turnsRight 5 = .ok (.iaload, 1) := by decide +kernel
theorem d_M_turnsRight_6 : decode b_M_turnsRight 6 = .ok (.istore_n 2, 1) := by decide +kernel
theorem d_M_turnsRight_7 : decode b_M_turnsRight 7 = .ok (.bipush 8, 2) := by decide +kernel
theorem d_M_turnsRight_9 : decode b_M_turnsRight 9 = .ok (.iload_n 1, 1) := by decide +kernel
theorem d_M_turnsRight_10 : decode b_M_turnsRight 10 = .ok (.imul, 1) := by decide +kernel
theorem d_M_turnsRight_11 : decode b_M_turnsRight 11 = .ok (.istore_n 3, 1) := by decide +kernel
theorem d_M_turnsRight_12 : decode b_M_turnsRight 12 = .ok (.iconst (-1), 1) := by decide +kernel
theorem d_M_turnsRight_13 : decode b_M_turnsRight 13 = .ok (.istore 4, 2) := by decide +kernel
theorem d_M_turnsRight_15 : decode b_M_turnsRight 15 = .ok (.iconst 0, 1) := by decide +kernel
theorem d_M_turnsRight_16 : decode b_M_turnsRight 16 = .ok (.istore 5, 2) := by decide +kernel
theorem d_M_turnsRight_18 : decode b_M_turnsRight 18 = .ok (.iload 5, 2) := by decide +kernel
theorem d_M_turnsRight_20 : decode b_M_turnsRight 20 = .ok (.iload_n 2, 1) := by decide +kernel
theorem d_M_turnsRight_21 : decode b_M_turnsRight 21 = .ok (.if_icmp .ge 83, 3) := by decide +kernel
theorem d_M_turnsRight_24 : decode b_M_turnsRight 24 = .ok (.iconst 0, 1) := by decide +kernel
theorem d_M_turnsRight_25 : decode b_M_turnsRight 25 = .ok (.istore 6, 2) := by decide +kernel
theorem d_M_turnsRight_27 : decode b_M_turnsRight 27 = .ok (.iconst 0, 1) := by decide +kernel
theorem d_M_turnsRight_28 : decode b_M_turnsRight 28 = .ok (.istore 7, 2) := by decide +kernel
theorem d_M_turnsRight_30 : decode b_M_turnsRight 30 = .ok (.iload 7, 2) := by decide +kernel
theorem d_M_turnsRight_32 : decode b_M_turnsRight 32 = .ok (.iload_n 2, 1) := by decide +kernel
theorem d_M_turnsRight_33 : decode b_M_turnsRight 33 = .ok (.if_icmp .ge 44, 3) := by decide +kernel
theorem d_M_turnsRight_36 : decode b_M_turnsRight 36 = .ok (.iload 6, 2) := by decide +kernel
theorem d_M_turnsRight_38 : decode b_M_turnsRight 38 = .ok (.aload_n 0, 1) := by decide +kernel
theorem d_M_turnsRight_39 : decode b_M_turnsRight 39 = .ok (.aload_n 0, 1) := by decide +kernel
theorem d_M_turnsRight_40 : decode b_M_turnsRight 40 = .ok (.getfield 38, 3) := by decide +kernel
theorem d_M_turnsRight_43 : decode b_M_turnsRight 43 = .ok (.iload_n 3, 1) := by decide +kernel
theorem d_M_turnsRight_44 : decode b_M_turnsRight 44 = .ok (.iload 5, 2) := by decide +kernel
theorem d_M_turnsRight_46 : decode b_M_turnsRight 46 = .ok (.iadd, 1) := by decide +kernel
theorem d_M_turnsRight_47 : decode b_M_turnsRight 47 = .ok (.iaload, 1) := by decide +kernel
theorem d_M_turnsRight_48 : decode b_M_turnsRight 48 = .ok (.aload_n 0, 1) := by decide +kernel
theorem d_M_turnsRight_49 : decode b_M_turnsRight 49 = .ok (.getfield 38, 3) := by decide +kernel
theorem d_M_turnsRight_52 : decode b_M_turnsRight 52 = .ok (.iload_n 3, 1) := by decide +kernel
theorem d_M_turnsRight_53 : decode b_M_turnsRight 53 = .ok (.iload 7, 2) := by decide +kernel
theorem d_M_turnsRight_55 : decode b_M_turnsRight 55 = .ok (.iadd, 1) := by decide +kernel
theorem d_M_turnsRight_56 : decode b_M_turnsRight 56 = .ok (.iaload, 1) := by decide +kernel
theorem d_M_turnsRight_57 : decode b_M_turnsRight 57 = .ok (.invokevirtual 149, 3) := by decide +kernel
theorem d_M_turnsRight_60 : decode b_M_turnsRight 60 = .ok (.ifCond .eq 7, 3) := by decide +kernel
theorem d_M_turnsRight_63 : decode b_M_turnsRight 63 = .ok (.iconst 1, 1) := by decide +kernel
theorem d_M_turnsRight_64 : decode b_M_turnsRight 64 = .ok (.goto 4, 3) := by decide +kernel
theorem d_M_turnsRight_67 : decode b_M_turnsRight 67 = .ok (.iconst 0, 1) := by decide +kernel
theorem d_M_turnsRight_68 : decode b_M_turnsRight 68 = .ok (.iadd, 1) := by decide +kernel
theorem d_M_turnsRight_69 : decode b_M_turnsRight 69 = .ok (.istore 6, 2) := by decide +kernel
theorem d_M_turnsRight_71 : decode b_M_turnsRight 71 = .ok (.iinc 7 1, 3) := by decide +kernel
theorem d_M_turnsRight_74 : decode b_M_turnsRight 74 = .ok (.goto (-44), 3) := by decide +kernel
theorem d_M_turnsRight_77 : decode b_M_turnsRight 77 = .ok (.iload 6, 2) := by decide +kernel
theorem d_M_turnsRight_79 : decode b_M_turnsRight 79 = .ok (.iconst 1, 1) := by decide +kernel
theorem d_M_turnsRight_80 : decode b_M_turnsRight 80 = .ok (.if_icmp .ne 14, 3) := by decide +kernel
theorem d_M_turnsRight_83 : decode b_M_turnsRight 83 = .ok (.iload 4, 2) := by decide +kernel
theorem d_M_turnsRight_85 : decode b_M_turnsRight 85 = .ok (.iconst (-1), 1) := by decide +kernel
theorem d_M_turnsRight_86 : decode b_M_turnsRight 86 = .ok (.if_icmp .ne 8, 3) := by decide +kernel
theorem d_M_turnsRight_89 : decode b_M_turnsRight 89 = .ok (.iload 5, 2) := by decide +kernel
theorem d_M_turnsRight_91 : decode b_M_turnsRight 91 = .ok (.goto 5, 3) := by decide +kernel
theorem d_M_turnsRight_94 : decode b_M_turnsRight 94 = .ok (.iload 4, 2) := by decide +kernel
theorem d_M_turnsRight_96 : decode b_M_turnsRight 96 = .ok (.istore 4, 2) := by decide +kernel
theorem d_M_turnsRight_98 : decode b_M_turnsRight 98 = .ok (.iinc 5 1, 3) := by decide +kernel
theorem d_M_turnsRight_101 : decode b_M_turnsRight 101 = .ok (.goto (-83), 3) := by decide +kernel
theorem d_M_turnsRight_104 : decode b_M_turnsRight 104 = .ok (.aload_n 0, 1) := by decide +kernel
theorem d_M_turnsRight_105 : decode b_M_turnsRight 105 = .ok (.iload_n 3, 1) := by decide +kernel
theorem d_M_turnsRight_106 : decode b_M_turnsRight 106 = .ok (.iload_n 3, 1) := by decide +kernel
theorem d_M_turnsRight_107 : decode b_M_turnsRight 107 = .ok (.iload 4, 2) := by decide +kernel
theorem d_M_turnsRight_109 : decode b_M_turnsRight 109 = .ok (.iadd, 1) := by decide +kernel
theorem d_M_turnsRight_110 : decode b_M_turnsRight 110 = .ok (.invokevirtual 152, 3) := by decide +kernel
theorem d_M_turnsRight_113 : decode b_M_turnsRight 113 = .ok (.iconst 1, 1) := by decide +kernel
theorem d_M_turnsRight_114 : decode b_M_turnsRight 114 = .ok (.istore 5, 2) := by decide +kernel
theorem d_M_turnsRight_116 : decode b_M_turnsRight 116 = .ok (.iload 5, 2) := by decide +kernel
theorem d_M_turnsRight_118 : decode b_M_turnsRight 118 = .ok (.iload_n 2, 1) := by decide +kernel
theorem d_M_turnsRight_119 : decode b_M_turnsRight 119 = .ok (.if_icmp .ge 76, 3) := by decide +kernel
theorem d_M_turnsRight_122 : decode b_M_turnsRight 122 = .ok (.iconst 0, 1) := by decide +kernel
theorem d_M_turnsRight_123 : decode b_M_turnsRight 123 = .ok (.istore 6, 2) := by decide +kernel
theorem d_M_turnsRight_125 : decode b_M_turnsRight 125 = .ok (.iload 5, 2) := by decide +kernel
theorem d_M_turnsRight_127 : decode b_M_turnsRight 127 = .ok (.istore 7, 2) := by decide +kernel
theorem d_M_turnsRight_129 : decode b_M_turnsRight 129 = .ok (.iload 7, 2) := by decide +kernel
theorem d_M_turnsRight_131 : decode b_M_turnsRight 131 = .ok (.iload_n 2, 1) := by decide +kernel
theorem d_M_turnsRight_132 : decode b_M_turnsRight 132 = .ok (.if_icmp .ge 57, 3) := by decide +kernel
theorem d_M_turnsRight_135 : decode b_M_turnsRight 135 = .ok (.iload 6, 2) := by decide +kernel
theorem d_M_turnsRight_137 : decode b_M_turnsRight 137 = .ok (.ifCond .ne 52, 3) := by decide +kernel
theorem d_M_turnsRight_140 : decode b_M_turnsRight 140 = .ok (.aload_n 0, 1) := by decide +kernel
theorem d_M_turnsRight_141 : decode b_M_turnsRight 141 = .ok (.aload_n 0, 1) := by decide +kernel
theorem d_M_turnsRight_142 : decode b_M_turnsRight 142 = .ok (.getfield 38, 3) := by decide +kernel
theorem d_M_turnsRight_145 : decode b_M_turnsRight 145 = .ok (.iload_n 3, 1) := by decide +kernel
theorem d_M_turnsRight_146 : decode b_M_turnsRight 146 = .ok (.iload 5, 2) := by decide +kernel
theorem d_M_turnsRight_148 : decode b_M_turnsRight 148 = .ok (.iadd, 1) := by decide +kernel
theorem d_M_turnsRight_149 : decode b_M_turnsRight 149 = .ok (.iconst 1, 1) := by decide +kernel
theorem d_M_turnsRight_150 : decode b_M_turnsRight 150 = .ok (.isub, 1) := by decide +kernel
theorem d_M_turnsRight_151 : decode b_M_turnsRight 151 = .ok (.iaload, 1) := by decide +kernel
theorem d_M_turnsRight_152 : decode b_M_turnsRight 152 = .ok (.aload_n 0, 1) := by decide +kernel
theorem d_M_turnsRight_153 : decode b_M_turnsRight 153 = .ok (.getfield 38, 3) := by decide +kernel
theorem d_M_turnsRight_156 : decode b_M_turnsRight 156 = .ok (.iload_n 3, 1) := by decide +kernel
theorem d_M_turnsRight_157 : decode b_M_turnsRight 157 = .ok (.iload 7, 2) := by decide +kernel
theorem d_M_turnsRight_159 : decode b_M_turnsRight 159 = .ok (.iadd, 1) := by decide +kernel
theorem d_M_turnsRight_160 : decode b_M_turnsRight 160 = .ok (.iaload, 1) := by decide +kernel
theorem d_M_turnsRight_161 : decode b_M_turnsRight 161 = .ok (.invokevirtual 149, 3) := by decide +kernel
theorem d_M_turnsRight_164 : decode b_M_turnsRight 164 = .ok (.istore 6, 2) := by decide +kernel
theorem d_M_turnsRight_166 : decode b_M_turnsRight 166 = .ok (.iload 6, 2) := by decide +kernel
theorem d_M_turnsRight_168 : decode b_M_turnsRight 168 = .ok (.ifCond .eq 15, 3) := by decide +kernel
theorem d_M_turnsRight_171 : decode b_M_turnsRight 171 = .ok (.aload_n 0, 1) := by decide +kernel
theorem d_M_turnsRight_172 : decode b_M_turnsRight 172 = .ok (.iload_n 3, 1) := by decide +kernel
theorem d_M_turnsRight_173 : decode b_M_turnsRight 173 = .ok (.iload 5, 2) := by decide +kernel
theorem d_M_turnsRight_175 : decode b_M_turnsRight 175 = .ok (.iadd, 1) := by decide +kernel
theorem d_M_turnsRight_176 : decode b_M_turnsRight 176 = .ok (.iload_n 3, 1) := by decide +kernel
theorem d_M_turnsRight_177 : decode b_M_turnsRight 177 = .ok (.iload 7, 2) := by decide +kernel
theorem d_M_turnsRight_179 : decode b_M_turnsRight 179 = .ok (.iadd, 1) := by decide +kernel
theorem d_M_turnsRight_180 : decode b_M_turnsRight 180 = .ok (.invokevirtual 152, 3) := by decide +kernel
theorem d_M_turnsRight_183 : decode b_M_turnsRight 183 = .ok (.iinc 7 1, 3) := by decide +kernel
theorem d_M_turnsRight_186 : decode b_M_turnsRight 186 = .ok (.goto (-57), 3) := by decide +kernel
theorem d_M_turnsRight_189 : decode b_M_turnsRight 189 = .ok (.iinc 5 1, 3) := by decide +kernel
theorem d_M_turnsRight_192 : decode b_M_turnsRight 192 = .ok (.goto (-76), 3) := by decide +kernel
theorem d_M_turnsRight_195 : decode b_M_turnsRight 195 = .ok (.aload_n 0, 1) := by decide +kernel
theorem d_M_turnsRight_196 : decode b_M_turnsRight 196 = .ok (.getfield 38, 3) := by decide +kernel
theorem d_M_turnsRight_199 : decode b_M_turnsRight 199 = .ok (.iload_n 3, 1) := by decide +kernel
theorem d_M_turnsRight_200 : decode b_M_turnsRight 200 = .ok (.iaload, 1) := by decide +kernel
theorem d_M_turnsRight_201 : decode b_M_turnsRight 201 = .ok (.invokestatic 142, 3) := by decide +kernel
theorem d_M_turnsRight_204 : decode b_M_turnsRight 204 = .ok (.aload_n 0, 1) := by decide +kernel
theorem d_M_turnsRight_205 : decode b_M_turnsRight 205 = .ok (.getfield 38, 3) := by decide +kernel
theorem d_M_turnsRight_208 : decode b_M_turnsRight 208 = .ok (.iload_n 3, 1) := by decide +kernel
theorem d_M_turnsRight_209 : decode b_M_turnsRight 209 = .ok (.iload_n 2, 1) := by decide +kernel
theorem d_M_turnsRight_210 : decode b_M_turnsRight 210 = .ok (.iadd, 1) := by decide +kernel
theorem d_M_turnsRight_211 : decode b_M_turnsRight 211 = .ok (.iconst 1, 1) := by decide +kernel
theorem d_M_turnsRight_212 : decode b_M_turnsRight 212 = .ok (.isub, 1) := by decide +kernel
theorem d_M_turnsRight_213 : decode b_M_turnsRight 213 = .ok (.iaload, 1) := by decide +kernel
theorem d_M_turnsRight_214 : decode b_M_turnsRight 214 = .ok (.invokestatic 142, 3) := by decide +kernel
theorem d_M_turnsRight_217 : decode b_M_turnsRight 217 = .ok (.if_icmp .le 7, 3) := by decide +kernel
theorem d_M_turnsRight_220 : decode b_M_turnsRight 220 = .ok (.iconst 1, 1) := by decide +kernel
theorem d_M_turnsRight_221 : decode b_M_turnsRight 221 = .ok (.goto 4, 3) := by decide +kernel
theorem d_M_turnsRight_224 : decode b_M_turnsRight 224 = .ok (.iconst 0, 1) := by decide +kernel
theorem d_M_turnsRight_225 : decode b_M_turnsRight 225 = .ok (.istore 5, 2) := by decide +kernel
theorem d_M_turnsRight_227 : decode b_M_turnsRight 227 = .ok (.iconst 0, 1) := by decide +kernel
theorem d_M_turnsRight_228 : decode b_M_turnsRight 228 = .ok (.istore 6, 2) := by decide +kernel
theorem d_M_turnsRight_230 : decode b_M_turnsRight 230 = .ok (.iload 6, 2) := by decide +kernel
theorem d_M_turnsRight_232 : decode b_M_turnsRight 232 = .ok (.iload_n 2, 1) := by decide +kernel
theorem d_M_turnsRight_233 : decode b_M_turnsRight 233 = .ok (.iconst 2, 1) := by decide +kernel
theorem d_M_turnsRight_234 : decode b_M_turnsRight 234 = .ok (.idiv, 1) := by decide +kernel
theorem d_M_turnsRight_235 : decode b_M_turnsRight 235 = .ok (.if_icmp .ge 30, 3) := by decide +kernel
theorem d_M_turnsRight_238 : decode b_M_turnsRight 238 = .ok (.iload 5, 2) := by decide +kernel
theorem d_M_turnsRight_240 : decode b_M_turnsRight 240 = .ok (.ifCond .eq 25, 3) := by decide +kernel
theorem d_M_turnsRight_243 : decode b_M_turnsRight 243 = .ok (.aload_n 0, 1) := by decide +kernel
theorem d_M_turnsRight_244 : decode b_M_turnsRight 244 = .ok (.iload_n 3, 1) := by decide +kernel
theorem d_M_turnsRight_245 : decode b_M_turnsRight 245 = .ok (.iload 6, 2) := by decide +kernel
theorem d_M_turnsRight_247 : decode b_M_turnsRight 247 = .ok (.iadd, 1) := by decide +kernel
theorem d_M_turnsRight_248 : decode b_M_turnsRight 248 = .ok (.iload_n 3, 1) := by decide +kernel
theorem d_M_turnsRight_249 : decode b_M_turnsRight 249 = .ok (.iload_n 2, 1) := by decide +kernel
theorem d_M_turnsRight_250 : decode b_M_turnsRight 250 = .ok (.iadd, 1) := by decide +kernel
theorem d_M_turnsRight_251 : decode b_M_turnsRight 251 = .ok (.iconst 1, 1) := by decide +kernel
theorem d_M_turnsRight_252 : decode b_M_turnsRight 252 = .ok (.isub, 1) := by decide +kernel
theorem d_M_turnsRight_253 : decode b_M_turnsRight 253 = .ok (.iload 6, 2) := by decide +kernel
theorem d_M_turnsRight_255 : decode b_M_turnsRight 255 = .ok (.isub, 1) := by decide +kernel
theorem d_M_turnsRight_256 : decode b_M_turnsRight 256 = .ok (.invokevirtual 152, 3) := by decide +kernel
theorem d_M_turnsRight_259 : decode b_M_turnsRight 259 = .ok (.iinc 6 1, 3) := by decide +kernel
theorem d_M_turnsRight_262 : decode b_M_turnsRight 262 = .ok (.goto (-32), 3) := by decide +kernel
theorem d_M_turnsRight_265 : decode b_M_turnsRight 265 = .ok (.return_, 1) := by decide +kernel
theorem d_M_findsParts_0 : decode b_M_findsParts 0 = .ok (.aload_n 0, 1) := by decide +kernel
theorem d_M_findsParts_1 : decode b_M_findsParts 1 = .ok (.getfield 29, 3) := by decide +kernel
theorem d_M_findsParts_4 : decode b_M_findsParts 4 = .ok (.iload_n 1, 1) := by decide +kernel
theorem d_M_findsParts_5 : decode b_M_findsParts 5 = .ok (.iaload, 1) := by decide +kernel
theorem d_M_findsParts_6 : decode b_M_findsParts 6 = .ok (.istore_n 2, 1) := by decide +kernel
theorem d_M_findsParts_7 : decode b_M_findsParts 7 = .ok (.iconst 0, 1) := by decide +kernel
theorem d_M_findsParts_8 : decode b_M_findsParts 8 = .ok (.istore_n 3, 1) := by decide +kernel
theorem d_M_findsParts_9 : decode b_M_findsParts 9 = .ok (.iconst 0, 1) := by decide +kernel
theorem d_M_findsParts_10 : decode b_M_findsParts 10 = .ok (.istore 4, 2) := by decide +kernel
theorem d_M_findsParts_12 : decode b_M_findsParts 12 = .ok (.iload 4, 2) := by decide +kernel
theorem d_M_findsParts_14 : decode b_M_findsParts 14 = .ok (.bipush 8, 2) := by decide +kernel
theorem d_M_findsParts_16 : decode b_M_findsParts 16 = .ok (.if_icmp .ge 53, 3) := by decide +kernel
theorem d_M_findsParts_19 : decode b_M_findsParts 19 = .ok (.iload_n 2, 1) := by decide +kernel
theorem d_M_findsParts_20 : decode b_M_findsParts 20 = .ok (.iload 4, 2) := by decide +kernel
theorem d_M_findsParts_22 : decode b_M_findsParts 22 = .ok (.invokestatic 81, 3) := by decide +kernel
theorem d_M_findsParts_25 : decode b_M_findsParts 25 = .ok (.ifCond .eq 38, 3) := by decide +kernel
theorem d_M_findsParts_28 : decode b_M_findsParts 28 = .ok (.aload_n 0, 1) := by decide +kernel
theorem d_M_findsParts_29 : decode b_M_findsParts 29 = .ok (.iload_n 2, 1) := by decide +kernel
theorem d_M_findsParts_30 : decode b_M_findsParts 30 = .ok (.iload 4, 2) := by decide +kernel
theorem d_M_findsParts_32 : decode b_M_findsParts 32 = .ok (.invokevirtual 139, 3) := by decide +kernel
theorem d_M_findsParts_35 : decode b_M_findsParts 35 = .ok (.istore 5, 2) := by decide +kernel
theorem d_M_findsParts_37 : decode b_M_findsParts 37 = .ok (.iload 5, 2) := by decide +kernel
theorem d_M_findsParts_39 : decode b_M_findsParts 39 = .ok (.invokestatic 142, 3) := by decide +kernel
theorem d_M_findsParts_42 : decode b_M_findsParts 42 = .ok (.iload 4, 2) := by decide +kernel
theorem d_M_findsParts_44 : decode b_M_findsParts 44 = .ok (.if_icmp .ne 19, 3) := by decide +kernel
theorem d_M_findsParts_47 : decode b_M_findsParts 47 = .ok (.aload_n 0, 1) := by decide +kernel
theorem d_M_findsParts_48 : decode b_M_findsParts 48 = .ok (.getfield 38, 3) := by decide +kernel
theorem d_M_findsParts_51 : decode b_M_findsParts 51 = .ok (.bipush 8, 2) := by decide +kernel
theorem d_M_findsParts_53 : decode b_M_findsParts 53 = .ok (.iload_n 1, 1) := by decide +kernel
theorem d_M_findsParts_54 : decode b_M_findsParts 54 = .ok (.imul, 1) := by decide +kernel
theorem d_M_findsParts_55 : decode b_M_findsParts 55 = .ok (.iload_n 3, 1) := by decide +kernel
theorem d_M_findsParts_56 : decode b_M_findsParts 56 = .ok (.iadd, 1) := by decide +kernel
theorem d_M_findsParts_57 : decode b_M_findsParts 57 = .ok (.iload 5, 2) := by decide +kernel
theorem d_M_findsParts_59 : decode b_M_findsParts 59 = .ok (.iastore, 1) := by decide +kernel
theorem d_M_findsParts_60 : decode b_M_findsParts 60 = .ok (.iinc 3 1, 3) := by decide +kernel
theorem d_M_findsParts_63 : decode b_M_findsParts 63 = .ok (.iinc 4 1, 3) := by decide +kernel
theorem d_M_findsParts_66 : decode b_M_findsParts 66 = .ok (.goto (-54), 3) := by decide +kernel
theorem d_M_findsParts_69 : decode b_M_findsParts 69 = .ok (.aload_n 0, 1) := by decide +kernel
theorem d_M_findsParts_70 : decode b_M_findsParts 70 = .ok (.getfield 35, 3) := by decide +kernel
theorem d_M_findsParts_73 : decode b_M_findsParts 73 = .ok (.iload_n 1, 1) := by decide +kernel
theorem d_M_findsParts_74 : decode b_M_findsParts 74 = .ok (.iload_n 3, 1) := by decide +kernel
theorem d_M_findsParts_75 : decode b_M_findsParts 75 = .ok (.iastore, 1) := by decide +kernel
theorem d_M_findsParts_76 : decode b_M_findsParts 76 = .ok (.aload_n 0, 1) := by decide +kernel
theorem d_M_findsParts_77 : decode b_M_findsParts 77 = .ok (.getfield 32, 3) := by decide +kernel
theorem d_M_findsParts_80 : decode b_M_findsParts 80 = .ok (.iload_n 1, 1) := by decide +kernel
theorem d_M_findsParts_81 : decode b_M_findsParts 81 = .ok (.iconst 0, 1) := by decide +kernel
theorem d_M_findsParts_82 : decode b_M_findsParts 82 = .ok (.iastore, 1) := by decide +kernel
theorem d_M_findsParts_83 : decode b_M_findsParts 83 = .ok (.iconst 0, 1) := by decide +kernel
theorem d_M_findsParts_84 : decode b_M_findsParts 84 = .ok (.istore 4, 2) := by decide +kernel
theorem d_M_findsParts_86 : decode b_M_findsParts 86 = .ok (.iload 4, 2) := by decide +kernel
theorem d_M_findsParts_88 : decode b_M_findsParts 88 = .ok (.iload_n 3, 1) := by decide +kernel
theorem d_M_findsParts_89 : decode b_M_findsParts 89 = .ok (.if_icmp .ge 82, 3) := by decide +kernel
theorem d_M_findsParts_92 : decode b_M_findsParts 92 = .ok (.iload_n 3, 1) := by decide +kernel
theorem d_M_findsParts_93 : decode b_M_findsParts 93 = .ok (.iconst 2, 1) := by decide +kernel
theorem d_M_findsParts_94 : decode b_M_findsParts 94 = .ok (.if_icmp .le 77, 3) := by decide +kernel
theorem d_M_findsParts_97 : decode b_M_findsParts 97 = .ok (.iload 4, 2) := by decide +kernel
theorem d_M_findsParts_99 : decode b_M_findsParts 99 = .ok (.iconst 1, 1) := by decide +kernel
theorem d_M_findsParts_100 : decode b_M_findsParts 100 = .ok (.iadd, 1) := by decide +kernel
theorem d_M_findsParts_101 : decode b_M_findsParts 101 = .ok (.istore 5, 2) := by decide +kernel
theorem d_M_findsParts_103 : decode b_M_findsParts 103 = .ok (.iload 5, 2) := by decide +kernel
theorem d_M_findsParts_105 : decode b_M_findsParts 105 = .ok (.iload_n 3, 1) := by decide +kernel
theorem d_M_findsParts_106 : decode b_M_findsParts 106 = .ok (.if_icmp .ge 59, 3) := by decide +kernel
theorem d_M_findsParts_109 : decode b_M_findsParts 109 = .ok (.aload_n 0, 1) := by decide +kernel
theorem d_M_findsParts_110 : decode b_M_findsParts 110 = .ok (.getfield 32, 3) := by decide +kernel
theorem d_M_findsParts_113 : decode b_M_findsParts 113 = .ok (.iload_n 1, 1) := by decide +kernel
theorem d_M_findsParts_114 : decode b_M_findsParts 114 = .ok (.aload_n 0, 1) := by decide +kernel
theorem d_M_findsParts_115 : decode b_M_findsParts 115 = .ok (.getfield 26, 3) := by decide +kernel
theorem d_M_findsParts_118 : decode b_M_findsParts 118 = .ok (.aload_n 0, 1) := by decide +kernel
theorem d_M_findsParts_119 : decode b_M_findsParts 119 = .ok (.getfield 38, 3) := by decide +kernel
theorem d_M_findsParts_122 : decode b_M_findsParts 122 = .ok (.bipush 8, 2) := by decide +kernel
theorem d_M_findsParts_124 : decode b_M_findsParts 124 = .ok (.iload_n 1, 1) := by decide +kernel
theorem d_M_findsParts_125 : decode b_M_findsParts 125 = .ok (.imul, 1) := by decide +kernel
theorem d_M_findsParts_126 : decode b_M_findsParts 126 = .ok (.iload 4, 2) := by decide +kernel
theorem d_M_findsParts_128 : decode b_M_findsParts 128 = .ok (.iadd, 1) := by decide +kernel
theorem d_M_findsParts_129 : decode b_M_findsParts 129 = .ok (.iaload, 1) := by decide +kernel
theorem d_M_findsParts_130 : decode b_M_findsParts 130 = .ok (.aload_n 0, 1) := by decide +kernel
theorem d_M_findsParts_131 : decode b_M_findsParts 131 = .ok (.getfield 38, 3) := by decide +kernel
theorem d_M_findsParts_134 : decode b_M_findsParts 134 = .ok (.bipush 8, 2) := by decide +kernel
theorem d_M_findsParts_136 : decode b_M_findsParts 136 = .ok (.iload_n 1, 1) := by decide +kernel
theorem d_M_findsParts_137 : decode b_M_findsParts 137 = .ok (.imul, 1) := by decide +kernel
theorem d_M_findsParts_138 : decode b_M_findsParts 138 = .ok (.iload 5, 2) := by decide +kernel
theorem d_M_findsParts_140 : decode b_M_findsParts 140 = .ok (.iadd, 1) := by decide +kernel
theorem d_M_findsParts_141 : decode b_M_findsParts 141 = .ok (.iaload, 1) := by decide +kernel
theorem d_M_findsParts_142 : decode b_M_findsParts 142 = .ok (.ior, 1) := by decide +kernel
theorem d_M_findsParts_143 : decode b_M_findsParts 143 = .ok (.iaload, 1) := by decide +kernel
theorem d_M_findsParts_144 : decode b_M_findsParts 144 = .ok (.iconst 1, 1) := by decide +kernel
theorem d_M_findsParts_145 : decode b_M_findsParts 145 = .ok (.if_icmp .ne 7, 3) := by decide +kernel
theorem d_M_findsParts_148 : decode b_M_findsParts 148 = .ok (.iconst 1, 1) := by decide +kernel
theorem d_M_findsParts_149 : decode b_M_findsParts 149 = .ok (.goto 9, 3) := by decide +kernel
theorem d_M_findsParts_152 : decode b_M_findsParts 152 = .ok (.aload_n 0, 1) := by decide +kernel
theorem d_M_findsParts_153 : decode b_M_findsParts 153 = .ok (.getfield 32, 3) := by decide +kernel
theorem d_M_findsParts_156 : decode b_M_findsParts 156 = .ok (.iload_n 1, 1) := by decide +kernel
theorem d_M_findsParts_157 : decode b_M_findsParts 157 = .ok (.iaload, 1) := by decide +kernel
theorem d_M_findsParts_158 : decode b_M_findsParts 158 = .ok (.iastore, 1) := by decide +kernel
theorem d_M_findsParts_159 : decode b_M_findsParts 159 = .ok (.iinc 5 1, 3) := by decide +kernel
theorem d_M_findsParts_162 : decode b_M_findsParts 162 = .ok (.goto (-59), 3) := by decide +kernel
theorem d_M_findsParts_165 : decode b_M_findsParts 165 = .ok (.iinc 4 1, 3) := by decide +kernel
theorem d_M_findsParts_168 : decode b_M_findsParts 168 = .ok (.goto (-82), 3) := by decide +kernel
theorem d_M_findsParts_171 : decode b_M_findsParts 171 = .ok (.aload_n 0, 1) := by decide +kernel
theorem d_M_findsParts_172 : decode b_M_findsParts 172 = .ok (.getfield 32, 3) := by decide +kernel
theorem d_M_findsParts_175 : decode b_M_findsParts 175 = .ok (.iload_n 1, 1) := by decide +kernel
theorem d_M_findsParts_176 : decode b_M_findsParts 176 = .ok (.iaload, 1) := by decide +kernel
theorem d_M_findsParts_177 : decode b_M_findsParts 177 = .ok (.iconst 1, 1) := by decide +kernel
theorem d_M_findsParts_178 : decode b_M_findsParts 178 = .ok (.if_icmp .ne 8, 3) := by decide +kernel
theorem d_M_findsParts_181 : decode b_M_findsParts 181 = .ok (.aload_n 0, 1) := by decide +kernel
theorem d_M_findsParts_182 : decode b_M_findsParts 182 = .ok (.iload_n 1, 1) := by decide +kernel
theorem d_M_findsParts_183 : decode b_M_findsParts 183 = .ok (.invokevirtual 145, 3) := by decide +kernel
theorem d_M_findsParts_186 : decode b_M_findsParts 186 = .ok (.return_, 1) := by decide +kernel
theorem d_M_nodeOf_0 : decode b_M_nodeOf 0 = .ok (.iconst (-1), 1) := by decide +kernel
theorem d_M_nodeOf_1 : decode b_M_nodeOf 1 = .ok (.istore_n 2, 1) := by decide +kernel
theorem d_M_nodeOf_2 : decode b_M_nodeOf 2 = .ok (.iconst 0, 1) := by decide +kernel
theorem d_M_nodeOf_3 : decode b_M_nodeOf 3 = .ok (.istore_n 3, 1) := by decide +kernel
theorem d_M_nodeOf_4 : decode b_M_nodeOf 4 = .ok (.iload_n 3, 1) := by decide +kernel
theorem d_M_nodeOf_5 : decode b_M_nodeOf 5 = .ok (.aload_n 0, 1) := by decide +kernel
theorem d_M_nodeOf_6 : decode b_M_nodeOf 6 = .ok (.getfield 156, 3) := by decide +kernel
theorem d_M_nodeOf_9 : decode b_M_nodeOf 9 = .ok (.if_icmp .ge 25, 3) := by decide +kernel
theorem d_M_nodeOf_12 : decode b_M_nodeOf 12 = .ok (.aload_n 0, 1) := by decide +kernel
theorem d_M_nodeOf_13 : decode b_M_nodeOf 13 = .ok (.getfield 29, 3) := by decide +kernel
theorem d_M_nodeOf_16 : decode b_M_nodeOf 16 = .ok (.iload_n 3, 1) := by decide +kernel
theorem d_M_nodeOf_17 : decode b_M_nodeOf 17 = .ok (.iaload, 1) := by decide +kernel
theorem d_M_nodeOf_18 : decode b_M_nodeOf 18 = .ok (.iload_n 1, 1) := by decide +kernel
theorem d_M_nodeOf_19 : decode b_M_nodeOf 19 = .ok (.if_icmp .ne 7, 3) := by decide +kernel
theorem d_M_nodeOf_22 : decode b_M_nodeOf 22 = .ok (.iload_n 3, 1) := by decide +kernel
theorem d_M_nodeOf_23 : decode b_M_nodeOf 23 = .ok (.goto 4, 3) := by decide +kernel
theorem d_M_nodeOf_26 : decode b_M_nodeOf 26 = .ok (.iload_n 2, 1) := by decide +kernel
theorem d_M_nodeOf_27 : decode b_M_nodeOf 27 = .ok (.istore_n 2, 1) := by decide +kernel
theorem d_M_nodeOf_28 : decode b_M_nodeOf 28 = .ok (.iinc 3 1, 3) := by decide +kernel
theorem d_M_nodeOf_31 : decode b_M_nodeOf 31 = .ok (.goto (-27), 3) := by decide +kernel
theorem d_M_nodeOf_34 : decode b_M_nodeOf 34 = .ok (.iload_n 2, 1) := by decide +kernel
theorem d_M_nodeOf_35 : decode b_M_nodeOf 35 = .ok (.ireturn, 1) := by decide +kernel
theorem d_M_shows_0 : decode b_M_shows 0 = .ok (.aload_n 0, 1) := by decide +kernel
theorem d_M_shows_1 : decode b_M_shows 1 = .ok (.getfield 41, 3) := by decide +kernel
theorem d_M_shows_4 : decode b_M_shows 4 = .ok (.aload_n 0, 1) := by decide +kernel
theorem d_M_shows_5 : decode b_M_shows 5 = .ok (.getfield 159, 3) := by decide +kernel
theorem d_M_shows_8 : decode b_M_shows 8 = .ok (.iload_n 1, 1) := by decide +kernel
theorem d_M_shows_9 : decode b_M_shows 9 = .ok (.iastore, 1) := by decide +kernel
theorem d_M_shows_10 : decode b_M_shows 10 = .ok (.aload_n 0, 1) := by decide +kernel
theorem d_M_shows_11 : decode b_M_shows 11 = .ok (.dup, 1) := by decide +kernel
theorem d_M_shows_12 : decode b_M_shows 12 = .ok (.getfield 159, 3) := by decide +kernel
theorem d_M_shows_15 : decode b_M_shows 15 = .ok (.iconst 1, 1) := by decide +kernel
theorem d_M_shows_16 : decode b_M_shows 16 = .ok (.iadd, 1) := by decide +kernel
theorem d_M_shows_17 : decode b_M_shows 17 = .ok (.putfield 159, 3) := by decide +kernel
theorem d_M_shows_20 : decode b_M_shows 20 = .ok (.return_, 1) := by decide +kernel
theorem d_M_findsTree_0 : decode b_M_findsTree 0 = .ok (.aload_n 0, 1) := by decide +kernel
theorem d_M_findsTree_1 : decode b_M_findsTree 1 = .ok (.invokevirtual 162, 3) := by decide +kernel
theorem d_M_findsTree_4 : decode b_M_findsTree 4 = .ok (.aload_n 0, 1) := by decide +kernel
theorem d_M_findsTree_5 : decode b_M_findsTree 5 = .ok (.iconst 0, 1) := by decide +kernel
theorem d_M_findsTree_6 : decode b_M_findsTree 6 = .ok (.putfield 156, 3) := by decide +kernel
theorem d_M_findsTree_9 : decode b_M_findsTree 9 = .ok (.aload_n 0, 1) := by decide +kernel
theorem d_M_findsTree_10 : decode b_M_findsTree 10 = .ok (.iconst 0, 1) := by decide +kernel
theorem d_M_findsTree_11 : decode b_M_findsTree 11 = .ok (.putfield 159, 3) := by decide +kernel
theorem d_M_findsTree_14 : decode b_M_findsTree 14 = .ok (.aload_n 0, 1) := by decide +kernel
theorem d_M_findsTree_15 : decode b_M_findsTree 15 = .ok (.getfield 47, 3) := by decide +kernel
theorem d_M_findsTree_18 : decode b_M_findsTree 18 = .ok (.iconst 0, 1) := by decide +kernel
theorem d_M_findsTree_19 : decode b_M_findsTree 19 = .ok (.aload_n 0, 1) := by decide +kernel
theorem d_M_findsTree_20 : decode b_M_findsTree 20 = .ok (.invokevirtual 110, 3) := by decide +kernel
theorem d_M_findsTree_23 : decode b_M_findsTree 23 = .ok (.iastore, 1) := by decide +kernel
theorem d_M_findsTree_24 : decode b_M_findsTree 24 = .ok (.iconst 1, 1) := by decide +kernel
theorem d_M_findsTree_25 : decode b_M_findsTree 25 = .ok (.istore_n 1, 1) := by decide +kernel
theorem d_M_findsTree_26 : decode b_M_findsTree 26 = .ok (.iload_n 1, 1) := by decide +kernel
theorem d_M_findsTree_27 : decode b_M_findsTree 27 = .ok (.ifCond .le 177, 3) := by decide +kernel
theorem d_M_findsTree_30 : decode b_M_findsTree 30 = .ok (.iinc 1 (-1), 3) := by decide +kernel
theorem d_M_findsTree_33 : decode b_M_findsTree 33 = .ok (.aload_n 0, 1) := by decide +kernel
theorem d_M_findsTree_34 : decode b_M_findsTree 34 = .ok (.getfield 47, 3) := by decide +kernel
theorem d_M_findsTree_37 : decode b_M_findsTree 37 = .ok (.iload_n 1, 1) := by decide +kernel
theorem d_M_findsTree_38 : decode b_M_findsTree 38 = .ok (.iaload, 1) := by decide +kernel
theorem d_M_findsTree_39 : decode b_M_findsTree 39 = .ok (.istore_n 2, 1) := by decide +kernel
theorem d_M_findsTree_40 : decode b_M_findsTree 40 = .ok (.iload_n 2, 1) := by decide +kernel
theorem d_M_findsTree_41 : decode b_M_findsTree 41 = .ok (.sipush 1000, 3) := by decide +kernel
theorem d_M_findsTree_44 : decode b_M_findsTree 44 = .ok (.if_icmp .lt 15, 3) := by decide +kernel
theorem d_M_findsTree_47 : decode b_M_findsTree 47 = .ok (.aload_n 0, 1) := by decide +kernel
theorem d_M_findsTree_48 : decode b_M_findsTree 48 = .ok (.iload_n 2, 1) := by decide +kernel
theorem d_M_findsTree_49 : decode b_M_findsTree 49 = .ok (.sipush 1000, 3) := by decide +kernel
theorem d_M_findsTree_52 : decode b_M_findsTree 52 = .ok (.isub, 1) := by decide +kernel
theorem d_M_findsTree_53 : decode b_M_findsTree 53 = .ok (.invokevirtual 165, 3) := by decide +kernel
theorem d_M_findsTree_56 : decode b_M_findsTree 56 = .ok (.goto 145, 3) := by decide +kernel
theorem d_M_findsTree_59 : decode b_M_findsTree 59 = .ok (.iload_n 2, 1) := by decide +kernel
theorem d_M_findsTree_60 : decode b_M_findsTree 60 = .ok (.invokestatic 89, 3) := by decide +kernel
theorem d_M_findsTree_63 : decode b_M_findsTree 63 = .ok (.iconst 1, 1) := by decide +kernel
theorem d_M_findsTree_64 : decode b_M_findsTree 64 = .ok (.if_icmp .ne 17, 3) := by decide +kernel
theorem d_M_findsTree_67 : decode b_M_findsTree 67 = .ok (.aload_n 0, 1) := by decide +kernel
theorem d_M_findsTree_68 : decode b_M_findsTree 68 = .ok (.bipush 97, 2) := by decide +kernel
theorem d_M_findsTree_70 : decode b_M_findsTree 70 = .ok (.iload_n 2, 1) := by decide +kernel
theorem d_M_findsTree_71 : decode b_M_findsTree 71 = .ok (.invokestatic 142, 3) := by decide +kernel
theorem d_M_findsTree_74 : decode b_M_findsTree 74 = .ok (.iadd, 1) := by decide +kernel
theorem d_M_findsTree_75 : decode b_M_findsTree 75 = .ok (.invokevirtual 165, 3) := by decide +kernel
theorem d_M_findsTree_78 : decode b_M_findsTree 78 = .ok (.goto 123, 3) := by decide +kernel
theorem d_M_findsTree_81 : decode b_M_findsTree 81 = .ok (.aload_n 0, 1) := by decide +kernel
theorem d_M_findsTree_82 : decode b_M_findsTree 82 = .ok (.getfield 156, 3) := by decide +kernel
theorem d_M_findsTree_85 : decode b_M_findsTree 85 = .ok (.istore_n 3, 1) := by decide +kernel
theorem d_M_findsTree_86 : decode b_M_findsTree 86 = .ok (.aload_n 0, 1) := by decide +kernel
theorem d_M_findsTree_87 : decode b_M_findsTree 87 = .ok (.getfield 29, 3) := by decide +kernel
theorem d_M_findsTree_90 : decode b_M_findsTree 90 = .ok (.iload_n 3, 1) := by decide +kernel
theorem d_M_findsTree_91 : decode b_M_findsTree 91 = .ok (.iload_n 2, 1) := by decide +kernel
theorem d_M_findsTree_92 : decode b_M_findsTree 92 = .ok (.iastore, 1) := by decide +kernel
theorem d_M_findsTree_93 : decode b_M_findsTree 93 = .ok (.aload_n 0, 1) := by decide +kernel
theorem d_M_findsTree_94 : decode b_M_findsTree 94 = .ok (.dup, 1) := by decide +kernel
theorem d_M_findsTree_95 : decode b_M_findsTree 95 = .ok (.getfield 156, 3) := by decide +kernel
theorem d_M_findsTree_98 : decode b_M_findsTree 98 = .ok (.iconst 1, 1) := by decide +kernel
theorem d_M_findsTree_99 : decode b_M_findsTree 99 = .ok (.iadd, 1) := by decide +kernel
theorem d_M_findsTree_100 : decode b_M_findsTree 100 = .ok (.putfield 156, 3) := by decide +kernel
theorem d_M_findsTree_103 : decode b_M_findsTree 103 = .ok (.aload_n 0, 1) := by decide +kernel
theorem d_M_findsTree_104 : decode b_M_findsTree 104 = .ok (.iload_n 3, 1) := by decide +kernel
theorem d_M_findsTree_105 : decode b_M_findsTree 105 = .ok (.invokevirtual 168, 3) := by decide +kernel
theorem d_M_findsTree_108 : decode b_M_findsTree 108 = .ok (.aload_n 0, 1) := by decide +kernel
theorem d_M_findsTree_109 : decode b_M_findsTree 109 = .ok (.aload_n 0, 1) := by decide +kernel
theorem d_M_findsTree_110 : decode b_M_findsTree 110 = .ok (.getfield 32, 3) := by decide +kernel
theorem d_M_findsTree_113 : decode b_M_findsTree 113 = .ok (.iload_n 3, 1) := by decide +kernel
theorem d_M_findsTree_114 : decode b_M_findsTree 114 = .ok (.iaload, 1) := by decide +kernel
theorem d_M_findsTree_115 : decode b_M_findsTree 115 = .ok (.iconst 1, 1) := by decide +kernel
theorem d_M_findsTree_116 : decode b_M_findsTree 116 = .ok (.if_icmp .ne 8, 3) := by decide +kernel
theorem d_M_findsTree_119 : decode b_M_findsTree 119 = .ok (.bipush 91, 2) := by decide +kernel
theorem d_M_findsTree_121 : decode b_M_findsTree 121 = .ok (.goto 5, 3) := by decide +kernel
theorem d_M_findsTree_124 : decode b_M_findsTree 124 = .ok (.bipush 40, 2) := by decide +kernel
theorem d_M_findsTree_126 : decode b_M_findsTree 126 = .ok (.invokevirtual 165, 3) := by decide +kernel
theorem d_M_findsTree_129 : decode b_M_findsTree 129 = .ok (.aload_n 0, 1) := by decide +kernel
theorem d_M_findsTree_130 : decode b_M_findsTree 130 = .ok (.getfield 47, 3) := by decide +kernel
theorem d_M_findsTree_133 : decode b_M_findsTree 133 = .ok (.iload_n 1, 1) := by decide +kernel
theorem d_M_findsTree_134 : decode b_M_findsTree 134 = .ok (.sipush 1000, 3) := by decide +kernel
theorem d_M_findsTree_137 : decode b_M_findsTree 137 = .ok (.aload_n 0, 1) := by decide +kernel
theorem d_M_findsTree_138 : decode b_M_findsTree 138 = .ok (.getfield 32, 3) := by decide +kernel
theorem d_M_findsTree_141 : decode b_M_findsTree 141 = .ok (.iload_n 3, 1) := by decide +kernel
theorem d_M_findsTree_142 : decode b_M_findsTree 142 = .ok (.iaload, 1) := by decide +kernel
theorem d_M_findsTree_143 : decode b_M_findsTree 143 = .ok (.iconst 1, 1) := by decide +kernel
theorem d_M_findsTree_144 : decode b_M_findsTree 144 = .ok (.if_icmp .ne 8, 3) := by decide +kernel
theorem d_M_findsTree_147 : decode b_M_findsTree 147 = .ok (.bipush 93, 2) := by decide +kernel
theorem d_M_findsTree_149 : decode b_M_findsTree 149 = .ok (.goto 5, 3) := by decide +kernel
theorem d_M_findsTree_152 : decode b_M_findsTree 152 = .ok (.bipush 41, 2) := by decide +kernel
theorem d_M_findsTree_154 : decode b_M_findsTree 154 = .ok (.iadd, 1) := by decide +kernel
theorem d_M_findsTree_155 : decode b_M_findsTree 155 = .ok (.iastore, 1) := by decide +kernel
theorem d_M_findsTree_156 : decode b_M_findsTree 156 = .ok (.iinc 1 1, 3) := by decide +kernel
theorem d_M_findsTree_159 : decode b_M_findsTree 159 = .ok (.aload_n 0, 1) := by decide +kernel
theorem d_M_findsTree_160 : decode b_M_findsTree 160 = .ok (.getfield 35, 3) := by decide +kernel
theorem d_M_findsTree_163 : decode b_M_findsTree 163 = .ok (.iload_n 3, 1) := by decide +kernel
theorem d_M_findsTree_164 : decode b_M_findsTree 164 = .ok (.iaload, 1) := by decide +kernel
theorem d_M_findsTree_165 : decode b_M_findsTree 165 = .ok (.iconst 1, 1) := by decide +kernel
theorem d_M_findsTree_166 : decode b_M_findsTree 166 = .ok (.isub, 1) := by decide +kernel
theorem d_M_findsTree_167 : decode b_M_findsTree 167 = .ok (.istore 4, 2) := by decide +kernel
theorem d_M_findsTree_169 : decode b_M_findsTree 169 = .ok (.iload 4, 2) := by decide +kernel
theorem d_M_findsTree_171 : decode b_M_findsTree 171 = .ok (.ifCond .lt 30, 3) := by decide +kernel
theorem d_M_findsTree_174 : decode b_M_findsTree 174 = .ok (.aload_n 0, 1) := by decide +kernel
theorem d_M_findsTree_175 : decode b_M_findsTree 175 = .ok (.getfield 47, 3) := by decide +kernel
theorem d_M_findsTree_178 : decode b_M_findsTree 178 = .ok (.iload_n 1, 1) := by decide +kernel
theorem d_M_findsTree_179 : decode b_M_findsTree 179 = .ok (.aload_n 0, 1) := by decide +kernel
theorem d_M_findsTree_180 : decode b_M_findsTree 180 = .ok (.getfield 38, 3) := by decide +kernel
theorem d_M_findsTree_183 : decode b_M_findsTree 183 = .ok (.bipush 8, 2) := by decide +kernel
theorem d_M_findsTree_185 : decode b_M_findsTree 185 = .ok (.iload_n 3, 1) := by decide +kernel
theorem d_M_findsTree_186 : decode b_M_findsTree 186 = .ok (.imul, 1) := by decide +kernel
theorem d_M_findsTree_187 : decode b_M_findsTree 187 = .ok (.iload 4, 2) := by decide +kernel
theorem d_M_findsTree_189 : decode b_M_findsTree 189 = .ok (.iadd, 1) := by decide +kernel
theorem d_M_findsTree_190 : decode b_M_findsTree 190 = .ok (.iaload, 1) := by decide +kernel
theorem d_M_findsTree_191 : decode b_M_findsTree 191 = .ok (.iastore, 1) := by decide +kernel
theorem d_M_findsTree_192 : decode b_M_findsTree 192 = .ok (.iinc 1 1, 3) := by decide +kernel
theorem d_M_findsTree_195 : decode b_M_findsTree 195 = .ok (.iinc 4 (-1), 3) := by decide +kernel
theorem d_M_findsTree_198 : decode b_M_findsTree 198 = .ok (.goto (-29), 3) := by decide +kernel
theorem d_M_findsTree_201 : decode b_M_findsTree 201 = .ok (.goto (-175), 3) := by decide +kernel
theorem d_M_findsTree_204 : decode b_M_findsTree 204 = .ok (.return_, 1) := by decide +kernel
theorem d_M_treeOf_0 : decode b_M_treeOf 0 = .ok (.aload_n 0, 1) := by decide +kernel
theorem d_M_treeOf_1 : decode b_M_treeOf 1 = .ok (.invokevirtual 171, 3) := by decide +kernel
theorem d_M_treeOf_4 : decode b_M_treeOf 4 = .ok (.iload_n 1, 1) := by decide +kernel
theorem d_M_treeOf_5 : decode b_M_treeOf 5 = .ok (.iconst (-1), 1) := by decide +kernel
theorem d_M_treeOf_6 : decode b_M_treeOf 6 = .ok (.if_icmp .ne 10, 3) := by decide +kernel
theorem d_M_treeOf_9 : decode b_M_treeOf 9 = .ok (.aload_n 0, 1) := by decide +kernel
theorem d_M_treeOf_10 : decode b_M_treeOf 10 = .ok (.getfield 159, 3) := by decide +kernel
theorem d_M_treeOf_13 : decode b_M_treeOf 13 = .ok (.goto 21, 3) := by decide +kernel
theorem d_M_treeOf_16 : decode b_M_treeOf 16 = .ok (.iload_n 1, 1) := by decide +kernel
theorem d_M_treeOf_17 : decode b_M_treeOf 17 = .ok (.aload_n 0, 1) := by decide +kernel
theorem d_M_treeOf_18 : decode b_M_treeOf 18 = .ok (.getfield 159, 3) := by decide +kernel
theorem d_M_treeOf_21 : decode b_M_treeOf 21 = .ok (.if_icmp .ge 12, 3) := by decide +kernel
theorem d_M_treeOf_24 : decode b_M_treeOf 24 = .ok (.aload_n 0, 1) := by decide +kernel
theorem d_M_treeOf_25 : decode b_M_treeOf 25 = .ok (.getfield 41, 3) := by decide +kernel
theorem d_M_treeOf_28 : decode b_M_treeOf 28 = .ok (.iload_n 1, 1) := by decide +kernel
theorem d_M_treeOf_29 : decode b_M_treeOf 29 = .ok (.iaload, 1) := by decide +kernel
theorem d_M_treeOf_30 : decode b_M_treeOf 30 = .ok (.goto 4, 3) := by decide +kernel
theorem d_M_treeOf_33 : decode b_M_treeOf 33 = .ok (.iconst (-1), 1) := by decide +kernel
theorem d_M_treeOf_34 : decode b_M_treeOf 34 = .ok (.ireturn, 1) := by decide +kernel
theorem d_M_tree_0 : decode b_M_tree 0 = .ok (.iload_n 1, 1) := by decide +kernel
theorem d_M_tree_1 : decode b_M_tree 1 = .ok (.iconst (-1), 1) := by decide +kernel
theorem d_M_tree_2 : decode b_M_tree 2 = .ok (.bipush 39, 2) := by decide +kernel
theorem d_M_tree_4 : decode b_M_tree 4 = .ok (.invokestatic 85, 3) := by decide +kernel
theorem d_M_tree_7 : decode b_M_tree 7 = .ok (.ifCond .eq 11, 3) := by decide +kernel
theorem d_M_tree_10 : decode b_M_tree 10 = .ok (.aload_n 0, 1) := by decide +kernel
theorem d_M_tree_11 : decode b_M_tree 11 = .ok (.iload_n 1, 1) := by decide +kernel
theorem d_M_tree_12 : decode b_M_tree 12 = .ok (.invokevirtual 174, 3) := by decide +kernel
theorem d_M_tree_15 : decode b_M_tree 15 = .ok (.goto 5, 3) := by decide +kernel
theorem d_M_tree_18 : decode b_M_tree 18 = .ok (.bipush (-2), 2) := by decide +kernel
theorem d_M_tree_20 : decode b_M_tree 20 = .ok (.ireturn, 1) := by decide +kernel
theorem d_M_nodeFor_0 : decode b_M_nodeFor 0 = .ok (.aload_n 0, 1) := by decide +kernel
theorem d_M_nodeFor_1 : decode b_M_nodeFor 1 = .ok (.invokevirtual 171, 3) := by decide +kernel
theorem d_M_nodeFor_4 : decode b_M_nodeFor 4 = .ok (.iload_n 1, 1) := by decide +kernel
theorem d_M_nodeFor_5 : decode b_M_nodeFor 5 = .ok (.aload_n 0, 1) := by decide +kernel
theorem d_M_nodeFor_6 : decode b_M_nodeFor 6 = .ok (.getfield 156, 3) := by decide +kernel
theorem d_M_nodeFor_9 : decode b_M_nodeFor 9 = .ok (.if_icmp .lt 7, 3) := by decide +kernel
theorem d_M_nodeFor_12 : decode b_M_nodeFor 12 = .ok (.iconst (-1), 1) := by decide +kernel
theorem d_M_nodeFor_13 : decode b_M_nodeFor 13 = .ok (.goto 36, 3) := by decide +kernel
theorem d_M_nodeFor_16 : decode b_M_nodeFor 16 = .ok (.iload_n 2, 1) := by decide +kernel
theorem d_M_nodeFor_17 : decode b_M_nodeFor 17 = .ok (.ifCond .ne 12, 3) := by decide +kernel
theorem d_M_nodeFor_20 : decode b_M_nodeFor 20 = .ok (.aload_n 0, 1) := by decide +kernel
theorem d_M_nodeFor_21 : decode b_M_nodeFor 21 = .ok (.getfield 32, 3) := by decide +kernel
theorem d_M_nodeFor_24 : decode b_M_nodeFor 24 = .ok (.iload_n 1, 1) := by decide +kernel
theorem d_M_nodeFor_25 : decode b_M_nodeFor 25 = .ok (.iaload, 1) := by decide +kernel
theorem d_M_nodeFor_26 : decode b_M_nodeFor 26 = .ok (.goto 23, 3) := by decide +kernel
theorem d_M_nodeFor_29 : decode b_M_nodeFor 29 = .ok (.iload_n 2, 1) := by decide +kernel
theorem d_M_nodeFor_30 : decode b_M_nodeFor 30 = .ok (.iconst 1, 1) := by decide +kernel
theorem d_M_nodeFor_31 : decode b_M_nodeFor 31 = .ok (.if_icmp .ne 12, 3) := by decide +kernel
theorem d_M_nodeFor_34 : decode b_M_nodeFor 34 = .ok (.aload_n 0, 1) := by decide +kernel
theorem d_M_nodeFor_35 : decode b_M_nodeFor 35 = .ok (.getfield 35, 3) := by decide +kernel
theorem d_M_nodeFor_38 : decode b_M_nodeFor 38 = .ok (.iload_n 1, 1) := by decide +kernel
theorem d_M_nodeFor_39 : decode b_M_nodeFor 39 = .ok (.iaload, 1) := by decide +kernel
theorem d_M_nodeFor_40 : decode b_M_nodeFor 40 = .ok (.goto 9, 3) := by decide +kernel
theorem d_M_nodeFor_43 : decode b_M_nodeFor 43 = .ok (.aload_n 0, 1) := by decide +kernel
theorem d_M_nodeFor_44 : decode b_M_nodeFor 44 = .ok (.getfield 29, 3) := by decide +kernel
theorem d_M_nodeFor_47 : decode b_M_nodeFor 47 = .ok (.iload_n 1, 1) := by decide +kernel
theorem d_M_nodeFor_48 : decode b_M_nodeFor 48 = .ok (.iaload, 1) := by decide +kernel
theorem d_M_nodeFor_49 : decode b_M_nodeFor 49 = .ok (.ireturn, 1) := by decide +kernel
theorem d_M_node_0 : decode b_M_node 0 = .ok (.iload_n 1, 1) := by decide +kernel
theorem d_M_node_1 : decode b_M_node 1 = .ok (.iconst 0, 1) := by decide +kernel
theorem d_M_node_2 : decode b_M_node 2 = .ok (.bipush 6, 2) := by decide +kernel
theorem d_M_node_4 : decode b_M_node 4 = .ok (.invokestatic 85, 3) := by decide +kernel
theorem d_M_node_7 : decode b_M_node 7 = .ok (.ifCond .eq 21, 3) := by decide +kernel
theorem d_M_node_10 : decode b_M_node 10 = .ok (.iload_n 2, 1) := by decide +kernel
theorem d_M_node_11 : decode b_M_node 11 = .ok (.iconst 0, 1) := by decide +kernel
theorem d_M_node_12 : decode b_M_node 12 = .ok (.iconst 2, 1) := by decide +kernel
theorem d_M_node_13 : decode b_M_node 13 = .ok (.invokestatic 85, 3) := by decide +kernel
theorem d_M_node_16 : decode b_M_node 16 = .ok (.ifCond .eq 12, 3) := by decide +kernel
theorem d_M_node_19 : decode b_M_node 19 = .ok (.aload_n 0, 1) := by decide +kernel
theorem d_M_node_20 : decode b_M_node 20 = .ok (.iload_n 1, 1) := by decide +kernel
theorem d_M_node_21 : decode b_M_node 21 = .ok (.iload_n 2, 1) := by decide +kernel
theorem d_M_node_22 : decode b_M_node 22 = .ok (.invokevirtual 177, 3) := by decide +kernel
theorem d_M_node_25 : decode b_M_node 25 = .ok (.goto 5, 3) := by decide +kernel
theorem d_M_node_28 : decode b_M_node 28 = .ok (.bipush (-2), 2) := by decide +kernel
theorem d_M_node_30 : decode b_M_node 30 = .ok (.ireturn, 1) := by decide +kernel
theorem d_M_factorial_0 : decode b_M_factorial 0 = .ok (.iconst 1, 1) := by decide +kernel
theorem d_M_factorial_1 : decode b_M_factorial 1 = .ok (.istore_n 1, 1) := by decide +kernel
theorem d_M_factorial_2 : decode b_M_factorial 2 = .ok (.iconst 2, 1) := by decide +kernel
theorem d_M_factorial_3 : decode b_M_factorial 3 = .ok (.istore_n 2, 1) := by decide +kernel
theorem d_M_factorial_4 : decode b_M_factorial 4 = .ok (.iload_n 2, 1) := by decide +kernel
theorem d_M_factorial_5 : decode b_M_factorial 5 = .ok (.iload_n 0, 1) := by decide +kernel
theorem d_M_factorial_6 : decode b_M_factorial 6 = .ok (.if_icmp .gt 13, 3) := by decide +kernel
theorem d_M_factorial_9 : decode b_M_factorial 9 = .ok (.iload_n 1, 1) := by decide +kernel
theorem d_M_factorial_10 : decode b_M_factorial 10 = .ok (.iload_n 2, 1) := by decide +kernel
theorem d_M_factorial_11 : decode b_M_factorial 11 = .ok (.imul, 1) := by decide +kernel
theorem d_M_factorial_12 : decode b_M_factorial 12 = .ok (.istore_n 1, 1) := by decide +kernel
theorem d_M_factorial_13 : decode b_M_factorial 13 = .ok (.iinc 2 1, 3) := by decide +kernel
theorem d_M_factorial_16 : decode b_M_factorial 16 = .ok (.goto (-12), 3) := by decide +kernel
theorem d_M_factorial_19 : decode b_M_factorial 19 = .ok (.iload_n 1, 1) := by decide +kernel
theorem d_M_factorial_20 : decode b_M_factorial 20 = .ok (.ireturn, 1) := by decide +kernel
theorem d_M_waysAt_0 : decode b_M_waysAt 0 = .ok (.aload_n 0, 1) := by decide +kernel
theorem d_M_waysAt_1 : decode b_M_waysAt 1 = .ok (.getfield 32, 3) := by decide +kernel
theorem d_M_waysAt_4 : decode b_M_waysAt 4 = .ok (.iload_n 1, 1) := by decide +kernel
theorem d_M_waysAt_5 : decode b_M_waysAt 5 = .ok (.iaload, 1) := by decide +kernel
theorem d_M_waysAt_6 : decode b_M_waysAt 6 = .ok (.iconst 1, 1) := by decide +kernel
theorem d_M_waysAt_7 : decode b_M_waysAt 7 = .ok (.if_icmp .ne 7, 3) := by decide +kernel
theorem d_M_waysAt_10 : decode b_M_waysAt 10 = .ok (.iconst 2, 1) := by decide +kernel
theorem d_M_waysAt_11 : decode b_M_waysAt 11 = .ok (.goto 12, 3) := by decide +kernel
theorem d_M_waysAt_14 : decode b_M_waysAt 14 = .ok (.aload_n 0, 1) := by decide +kernel
theorem d_M_waysAt_15 : decode b_M_waysAt 15 = .ok (.getfield 35, 3) := by decide +kernel
theorem d_M_waysAt_18 : decode b_M_waysAt 18 = .ok (.iload_n 1, 1) := by decide +kernel
theorem d_M_waysAt_19 : decode b_M_waysAt 19 = .ok (.iaload, 1) := by decide +kernel
theorem d_M_waysAt_20 : decode b_M_waysAt 20 = .ok (.invokestatic 180, 3) := by decide +kernel
theorem d_M_waysAt_23 : decode b_M_waysAt 23 = .ok (.ireturn, 1) := by decide +kernel
theorem d_M_orders_0 : decode b_M_orders 0 = .ok (.aload_n 0, 1) := by decide +kernel
theorem d_M_orders_1 : decode b_M_orders 1 = .ok (.getfield 35, 3) := by decide +kernel
theorem d_M_orders_4 : decode b_M_orders 4 = .ok (.iload_n 1, 1) := by decide +kernel
theorem d_M_orders_5 : decode b_M_orders 5 = .ok (.iaload, 1) := by decide +kernel
theorem d_M_orders_6 : decode b_M_orders 6 = .ok (.istore_n 2, 1) := by decide +kernel
theorem d_M_orders_7 : decode b_M_orders 7 = .ok (.aload_n 0, 1) := by decide +kernel
theorem d_M_orders_8 : decode b_M_orders 8 = .ok (.getfield 50, 3) := by decide +kernel
theorem d_M_orders_11 : decode b_M_orders 11 = .ok (.iload_n 1, 1) := by decide +kernel
theorem d_M_orders_12 : decode b_M_orders 12 = .ok (.iaload, 1) := by decide +kernel
theorem d_M_orders_13 : decode b_M_orders 13 = .ok (.istore_n 3, 1) := by decide +kernel
theorem d_M_orders_14 : decode b_M_orders 14 = .ok (.iconst 0, 1) := by decide +kernel
theorem d_M_orders_15 : decode b_M_orders 15 = .ok (.istore 4, 2) := by decide +kernel
theorem d_M_orders_17 : decode b_M_orders 17 = .ok (.iconst 0, 1) := by decide +kernel
theorem d_M_orders_18 : decode b_M_orders 18 = .ok (.istore 5, 2) := by decide +kernel
theorem d_M_orders_20 : decode b_M_orders 20 = .ok (.iload 5, 2) := by decide +kernel
theorem d_M_orders_22 : decode b_M_orders 22 = .ok (.iload_n 2, 1) := by decide +kernel
theorem d_M_orders_23 : decode b_M_orders 23 = .ok (.if_icmp .ge 128, 3) := by decide +kernel
theorem d_M_orders_26 : decode b_M_orders 26 = .ok (.aload_n 0, 1) := by decide +kernel
theorem d_M_orders_27 : decode b_M_orders 27 = .ok (.getfield 32, 3) := by decide +kernel
theorem d_M_orders_30 : decode b_M_orders 30 = .ok (.iload_n 1, 1) := by decide +kernel
theorem d_M_orders_31 : decode b_M_orders 31 = .ok (.iaload, 1) := by decide +kernel
theorem d_M_orders_32 : decode b_M_orders 32 = .ok (.iconst 1, 1) := by decide +kernel
theorem d_M_orders_33 : decode b_M_orders 33 = .ok (.if_icmp .ne 28, 3) := by decide +kernel
theorem d_M_orders_36 : decode b_M_orders 36 = .ok (.aload_n 0, 1) := by decide +kernel
theorem d_M_orders_37 : decode b_M_orders 37 = .ok (.getfield 56, 3) := by decide +kernel
theorem d_M_orders_40 : decode b_M_orders 40 = .ok (.iload 5, 2) := by decide +kernel
theorem d_M_orders_42 : decode b_M_orders 42 = .ok (.iload_n 3, 1) := by decide +kernel
theorem d_M_orders_43 : decode b_M_orders 43 = .ok (.ifCond .ne 8, 3) := by decide +kernel
theorem d_M_orders_46 : decode b_M_orders 46 = .ok (.iload 5, 2) := by decide +kernel
theorem d_M_orders_48 : decode b_M_orders 48 = .ok (.goto 9, 3) := by decide +kernel
theorem d_M_orders_51 : decode b_M_orders 51 = .ok (.iload_n 2, 1) := by decide +kernel
theorem d_M_orders_52 : decode b_M_orders 52 = .ok (.iconst 1, 1) := by decide +kernel
theorem d_M_orders_53 : decode b_M_orders 53 = .ok (.isub, 1) := by decide +kernel
theorem d_M_orders_54 : decode b_M_orders 54 = .ok (.iload 5, 2) := by decide +kernel
theorem d_M_orders_56 : decode b_M_orders 56 = .ok (.isub, 1) := by decide +kernel
theorem d_M_orders_57 : decode b_M_orders 57 = .ok (.iastore, 1) := by decide +kernel
theorem d_M_orders_58 : decode b_M_orders 58 = .ok (.goto 87, 3) := by decide +kernel
theorem d_M_orders_61 : decode b_M_orders 61 = .ok (.iload_n 2, 1) := by decide +kernel
theorem d_M_orders_62 : decode b_M_orders 62 = .ok (.iconst 1, 1) := by decide +kernel
theorem d_M_orders_63 : decode b_M_orders 63 = .ok (.isub, 1) := by decide +kernel
theorem d_M_orders_64 : decode b_M_orders 64 = .ok (.iload 5, 2) := by decide +kernel
theorem d_M_orders_66 : decode b_M_orders 66 = .ok (.isub, 1) := by decide +kernel
theorem d_M_orders_67 : decode b_M_orders 67 = .ok (.invokestatic 180, 3) := by decide +kernel
theorem d_M_orders_70 : decode b_M_orders 70 = .ok (.istore 6, 2) := by decide +kernel
theorem d_M_orders_72 : decode b_M_orders 72 = .ok (.iload_n 3, 1) := by decide +kernel
theorem d_M_orders_73 : decode b_M_orders 73 = .ok (.iload 6, 2) := by decide +kernel
theorem d_M_orders_75 : decode b_M_orders 75 = .ok (.idiv, 1) := by decide +kernel
theorem d_M_orders_76 : decode b_M_orders 76 = .ok (.istore 7, 2) := by decide +kernel
theorem d_M_orders_78 : decode b_M_orders 78 = .ok (.iload_n 3, 1) := by decide +kernel
theorem d_M_orders_79 : decode b_M_orders 79 = .ok (.iload 6, 2) := by decide +kernel
theorem d_M_orders_81 : decode b_M_orders 81 = .ok (.irem, 1) := by decide +kernel
theorem d_M_orders_82 : decode b_M_orders 82 = .ok (.istore_n 3, 1) := by decide +kernel
theorem d_M_orders_83 : decode b_M_orders 83 = .ok (.iconst 0, 1) := by decide +kernel
theorem d_M_orders_84 : decode b_M_orders 84 = .ok (.istore 8, 2) := by decide +kernel
theorem d_M_orders_86 : decode b_M_orders 86 = .ok (.iload 4, 2) := by decide +kernel
theorem d_M_orders_88 : decode b_M_orders 88 = .ok (.iload 8, 2) := by decide +kernel
theorem d_M_orders_90 : decode b_M_orders 90 = .ok (.invokestatic 81, 3) := by decide +kernel
theorem d_M_orders_93 : decode b_M_orders 93 = .ok (.ifCond .ne 8, 3) := by decide +kernel
theorem d_M_orders_96 : decode b_M_orders 96 = .ok (.iload 7, 2) := by decide +kernel
theorem d_M_orders_98 : decode b_M_orders 98 = .ok (.ifCond .le 29, 3) := by decide +kernel
theorem d_M_orders_101 : decode b_M_orders 101 = .ok (.iload 7, 2) := by decide +kernel
theorem d_M_orders_103 : decode b_M_orders 103 = .ok (.iload 4, 2) := by decide +kernel
theorem d_M_orders_105 : decode b_M_orders 105 = .ok (.iload 8, 2) := by decide +kernel
theorem d_M_orders_107 : decode b_M_orders 107 = .ok (.invokestatic 81, 3) := by decide +kernel
theorem d_M_orders_110 : decode b_M_orders 110 = .ok (.ifCond .eq 7, 3) := by decide +kernel
theorem d_M_orders_113 : decode b_M_orders 113 = .ok (.iconst 0, 1) := by decide +kernel
theorem d_M_orders_114 : decode b_M_orders 114 = .ok (.goto 4, 3) := by decide +kernel
theorem d_M_orders_117 : decode b_M_orders 117 = .ok (.iconst 1, 1) := by decide +kernel
theorem d_M_orders_118 : decode b_M_orders 118 = .ok (.isub, 1) := by decide +kernel
theorem d_M_orders_119 : decode b_M_orders 119 = .ok (.istore 7, 2) := by decide +kernel
theorem d_M_orders_121 : decode b_M_orders 121 = .ok (.iinc 8 1, 3) := by decide +kernel
theorem d_M_orders_124 : decode b_M_orders 124 = .ok (.goto (-38), 3) := by decide +kernel
theorem d_M_orders_127 : decode b_M_orders 127 = .ok (.iload 4, 2) := by decide +kernel
theorem d_M_orders_129 : decode b_M_orders 129 = .ok (.iconst 1, 1) := by decide +kernel
theorem d_M_orders_130 : decode b_M_orders 130 = .ok (.iload 8, 2) := by decide +kernel
theorem d_M_orders_132 : decode b_M_orders 132 = .ok (.ishl, 1) := by decide +kernel
theorem d_M_orders_133 : decode b_M_orders 133 = .ok (.ior, 1) := by decide +kernel
theorem d_M_orders_134 : decode b_M_orders 134 = .ok (.istore 4, 2) := by decide +kernel
theorem d_M_orders_136 : decode b_M_orders 136 = .ok (.aload_n 0, 1) := by decide +kernel
theorem d_M_orders_137 : decode b_M_orders 137 = .ok (.getfield 56, 3) := by decide +kernel
theorem d_M_orders_140 : decode b_M_orders 140 = .ok (.iload 5, 2) := by decide +kernel
theorem d_M_orders_142 : decode b_M_orders 142 = .ok (.iload 8, 2) := by decide +kernel
theorem d_M_orders_144 : decode b_M_orders 144 = .ok (.iastore, 1) := by decide +kernel
theorem d_M_orders_145 : decode b_M_orders 145 = .ok (.iinc 5 1, 3) := by decide +kernel
theorem d_M_orders_148 : decode b_M_orders 148 = .ok (.goto (-128), 3) := by decide +kernel
theorem d_M_orders_151 : decode b_M_orders 151 = .ok (.return_, 1) := by decide +kernel
theorem d_M_findsRow_0 : decode b_M_findsRow 0 = .ok (.iload_n 1, 1) := by decide +kernel
theorem d_M_findsRow_1 : decode b_M_findsRow 1 = .ok (.istore_n 2, 1) := by decide +kernel
theorem d_M_findsRow_2 : decode b_M_findsRow 2 = .ok (.aload_n 0, 1) := by decide +kernel
theorem d_M_findsRow_3 : decode b_M_findsRow 3 = .ok (.getfield 156, 3) := by decide +kernel
theorem d_M_findsRow_6 : decode b_M_findsRow 6 = .ok (.iconst 1, 1) := by decide +kernel
theorem d_M_findsRow_7 : decode b_M_findsRow 7 = .ok (.isub, 1) := by decide +kernel
theorem d_M_findsRow_8 : decode b_M_findsRow 8 = .ok (.istore_n 3, 1) := by decide +kernel
theorem d_M_findsRow_9 : decode b_M_findsRow 9 = .ok (.iload_n 3, 1) := by decide +kernel
theorem d_M_findsRow_10 : decode b_M_findsRow 10 = .ok (.ifCond .lt 30, 3) := by decide +kernel
theorem d_M_findsRow_13 : decode b_M_findsRow 13 = .ok (.aload_n 0, 1) := by decide +kernel
theorem d_M_findsRow_14 : decode b_M_findsRow 14 = .ok (.getfield 50, 3) := by decide +kernel
theorem d_M_findsRow_17 : decode b_M_findsRow 17 = .ok (.iload_n 3, 1) := by decide +kernel
theorem d_M_findsRow_18 : decode b_M_findsRow 18 = .ok (.iload_n 2, 1) := by decide +kernel
theorem d_M_findsRow_19 : decode b_M_findsRow 19 = .ok (.aload_n 0, 1) := by decide +kernel
theorem d_M_findsRow_20 : decode b_M_findsRow 20 = .ok (.iload_n 3, 1) := by decide +kernel
theorem d_M_findsRow_21 : decode b_M_findsRow 21 = .ok (.invokevirtual 183, 3) := by decide +kernel
theorem d_M_findsRow_24 : decode b_M_findsRow 24 = .ok (.irem, 1) := by decide +kernel
theorem d_M_findsRow_25 : decode b_M_findsRow 25 = .ok (.iastore, 1) := by decide +kernel
theorem d_M_findsRow_26 : decode b_M_findsRow 26 = .ok (.iload_n 2, 1) := by decide +kernel
theorem d_M_findsRow_27 : decode b_M_findsRow 27 = .ok (.aload_n 0, 1) := by decide +kernel
theorem d_M_findsRow_28 : decode b_M_findsRow 28 = .ok (.iload_n 3, 1) := by decide +kernel
theorem d_M_findsRow_29 : decode b_M_findsRow 29 = .ok (.invokevirtual 183, 3) := by decide +kernel
theorem d_M_findsRow_32 : decode b_M_findsRow 32 = .ok (.idiv, 1) := by decide +kernel
theorem d_M_findsRow_33 : decode b_M_findsRow 33 = .ok (.istore_n 2, 1) := by decide +kernel
theorem d_M_findsRow_34 : decode b_M_findsRow 34 = .ok (.iinc 3 (-1), 3) := by decide +kernel
theorem d_M_findsRow_37 : decode b_M_findsRow 37 = .ok (.goto (-28), 3) := by decide +kernel
theorem d_M_findsRow_40 : decode b_M_findsRow 40 = .ok (.aload_n 0, 1) := by decide +kernel
theorem d_M_findsRow_41 : decode b_M_findsRow 41 = .ok (.getfield 47, 3) := by decide +kernel
theorem d_M_findsRow_44 : decode b_M_findsRow 44 = .ok (.iconst 0, 1) := by decide +kernel
theorem d_M_findsRow_45 : decode b_M_findsRow 45 = .ok (.aload_n 0, 1) := by decide +kernel
theorem d_M_findsRow_46 : decode b_M_findsRow 46 = .ok (.invokevirtual 110, 3) := by decide +kernel
theorem d_M_findsRow_49 : decode b_M_findsRow 49 = .ok (.iastore, 1) := by decide +kernel
theorem d_M_findsRow_50 : decode b_M_findsRow 50 = .ok (.iconst 1, 1) := by decide +kernel
theorem d_M_findsRow_51 : decode b_M_findsRow 51 = .ok (.istore_n 3, 1) := by decide +kernel
theorem d_M_findsRow_52 : decode b_M_findsRow 52 = .ok (.iconst 0, 1) := by decide +kernel
theorem d_M_findsRow_53 : decode b_M_findsRow 53 = .ok (.istore 4, 2) := by decide +kernel
theorem d_M_findsRow_55 : decode b_M_findsRow 55 = .ok (.iload_n 3, 1) := by decide +kernel
theorem d_M_findsRow_56 : decode b_M_findsRow 56 = .ok (.ifCond .le 107, 3) := by decide +kernel
theorem d_M_findsRow_59 : decode b_M_findsRow 59 = .ok (.iinc 3 (-1), 3) := by decide +kernel
theorem d_M_findsRow_62 : decode b_M_findsRow 62 = .ok (.aload_n 0, 1) := by decide +kernel
theorem d_M_findsRow_63 : decode b_M_findsRow 63 = .ok (.getfield 47, 3) := by decide +kernel
theorem d_M_findsRow_66 : decode b_M_findsRow 66 = .ok (.iload_n 3, 1) := by decide +kernel
theorem d_M_findsRow_67 : decode b_M_findsRow 67 = .ok (.iaload, 1) := by decide +kernel
theorem d_M_findsRow_68 : decode b_M_findsRow 68 = .ok (.istore 5, 2) := by decide +kernel
theorem d_M_findsRow_70 : decode b_M_findsRow 70 = .ok (.iload 5, 2) := by decide +kernel
theorem d_M_findsRow_72 : decode b_M_findsRow 72 = .ok (.invokestatic 89, 3) := by decide +kernel
theorem d_M_findsRow_75 : decode b_M_findsRow 75 = .ok (.iconst 1, 1) := by decide +kernel
theorem d_M_findsRow_76 : decode b_M_findsRow 76 = .ok (.if_icmp .ne 21, 3) := by decide +kernel
theorem d_M_findsRow_79 : decode b_M_findsRow 79 = .ok (.aload_n 0, 1) := by decide +kernel
theorem d_M_findsRow_80 : decode b_M_findsRow 80 = .ok (.getfield 53, 3) := by decide +kernel
theorem d_M_findsRow_83 : decode b_M_findsRow 83 = .ok (.iload 4, 2) := by decide +kernel
theorem d_M_findsRow_85 : decode b_M_findsRow 85 = .ok (.iload 5, 2) := by decide +kernel
theorem d_M_findsRow_87 : decode b_M_findsRow 87 = .ok (.invokestatic 142, 3) := by decide +kernel
theorem d_M_findsRow_90 : decode b_M_findsRow 90 = .ok (.iastore, 1) := by decide +kernel
theorem d_M_findsRow_91 : decode b_M_findsRow 91 = .ok (.iinc 4 1, 3) := by decide +kernel
theorem d_M_findsRow_94 : decode b_M_findsRow 94 = .ok (.goto 66, 3) := by decide +kernel
theorem d_M_findsRow_97 : decode b_M_findsRow 97 = .ok (.aload_n 0, 1) := by decide +kernel
theorem d_M_findsRow_98 : decode b_M_findsRow 98 = .ok (.iload 5, 2) := by decide +kernel
theorem d_M_findsRow_100 : decode b_M_findsRow 100 = .ok (.invokevirtual 186, 3) := by decide +kernel
theorem d_M_findsRow_103 : decode b_M_findsRow 103 = .ok (.istore 6, 2) := by decide +kernel
theorem d_M_findsRow_105 : decode b_M_findsRow 105 = .ok (.aload_n 0, 1) := by decide +kernel
theorem d_M_findsRow_106 : decode b_M_findsRow 106 = .ok (.iload 6, 2) := by decide +kernel
theorem d_M_findsRow_108 : decode b_M_findsRow 108 = .ok (.invokevirtual 189, 3) := by decide +kernel
theorem d_M_findsRow_111 : decode b_M_findsRow 111 = .ok (.aload_n 0, 1) := by decide +kernel
theorem d_M_findsRow_112 : decode b_M_findsRow 112 = .ok (.getfield 35, 3) := by decide +kernel
theorem d_M_findsRow_115 : decode b_M_findsRow 115 = .ok (.iload 6, 2) := by decide +kernel
theorem d_M_findsRow_117 : decode b_M_findsRow 117 = .ok (.iaload, 1) := by decide +kernel
theorem d_M_findsRow_118 : decode b_M_findsRow 118 = .ok (.iconst 1, 1) := by decide +kernel
theorem d_M_findsRow_119 : decode b_M_findsRow 119 = .ok (.isub, 1) := by decide +kernel
theorem d_M_findsRow_120 : decode b_M_findsRow 120 = .ok (.istore 7, 2) := by decide +kernel
theorem d_M_findsRow_122 : decode b_M_findsRow 122 = .ok (.iload 7, 2) := by decide +kernel
theorem d_M_findsRow_124 : decode b_M_findsRow 124 = .ok (.ifCond .lt 36, 3) := by decide +kernel
theorem d_M_findsRow_127 : decode b_M_findsRow 127 = .ok (.aload_n 0, 1) := by decide +kernel
theorem d_M_findsRow_128 : decode b_M_findsRow 128 = .ok (.getfield 47, 3) := by decide +kernel
theorem d_M_findsRow_131 : decode b_M_findsRow 131 = .ok (.iload_n 3, 1) := by decide +kernel
theorem d_M_findsRow_132 : decode b_M_findsRow 132 = .ok (.aload_n 0, 1) := by decide +kernel
theorem d_M_findsRow_133 : decode b_M_findsRow 133 = .ok (.getfield 38, 3) := by decide +kernel
theorem d_M_findsRow_136 : decode b_M_findsRow 136 = .ok (.bipush 8, 2) := by decide +kernel
theorem d_M_findsRow_138 : decode b_M_findsRow 138 = .ok (.iload 6, 2) := by decide +kernel
theorem d_M_findsRow_140 : decode b_M_findsRow 140 = .ok (.imul, 1) := by decide +kernel
theorem d_M_findsRow_141 : decode b_M_findsRow 141 = .ok (.aload_n 0, 1) := by decide +kernel
theorem d_M_findsRow_142 : decode b_M_findsRow 142 = .ok (.getfield 56, 3) := by decide +kernel
theorem d_M_findsRow_145 : decode b_M_findsRow 145 = .ok (.iload 7, 2) := by decide +kernel
theorem d_M_findsRow_147 : decode b_M_findsRow 147 = .ok (.iaload, 1) := by decide +kernel
theorem d_M_findsRow_148 : decode b_M_findsRow 148 = .ok (.iadd, 1) := by decide +kernel
theorem d_M_findsRow_149 : decode b_M_findsRow 149 = .ok (.iaload, 1) := by decide +kernel
theorem d_M_findsRow_150 : decode b_M_findsRow 150 = .ok (.iastore, 1) := by decide +kernel
theorem d_M_findsRow_151 : decode b_M_findsRow 151 = .ok (.iinc 3 1, 3) := by decide +kernel
theorem d_M_findsRow_154 : decode b_M_findsRow 154 = .ok (.iinc 7 (-1), 3) := by decide +kernel
theorem d_M_findsRow_157 : decode b_M_findsRow 157 = .ok (.goto (-35), 3) := by decide +kernel
theorem d_M_findsRow_160 : decode b_M_findsRow 160 = .ok (.goto (-105), 3) := by decide +kernel
theorem d_M_findsRow_163 : decode b_M_findsRow 163 = .ok (.return_, 1) := by decide +kernel
theorem d_M_rowOf_0 : decode b_M_rowOf 0 = .ok (.iload_n 1, 1) := by decide +kernel
theorem d_M_rowOf_1 : decode b_M_rowOf 1 = .ok (.aload_n 0, 1) := by decide +kernel
theorem d_M_rowOf_2 : decode b_M_rowOf 2 = .ok (.invokevirtual 127, 3) := by decide +kernel
theorem d_M_rowOf_5 : decode b_M_rowOf 5 = .ok (.if_icmp .ge 11, 3) := by decide +kernel
theorem d_M_rowOf_8 : decode b_M_rowOf 8 = .ok (.iload_n 2, 1) := by decide +kernel
theorem d_M_rowOf_9 : decode b_M_rowOf 9 = .ok (.aload_n 0, 1) := by decide +kernel
theorem d_M_rowOf_10 : decode b_M_rowOf 10 = .ok (.getfield 7, 3) := by decide +kernel
theorem d_M_rowOf_13 : decode b_M_rowOf 13 = .ok (.if_icmp .lt 5, 3) := by decide +kernel
theorem d_M_rowOf_16 : decode b_M_rowOf 16 = .ok (.iconst (-1), 1) := by decide +kernel
theorem d_M_rowOf_17 : decode b_M_rowOf 17 = .ok (.ireturn, 1) := by decide +kernel
theorem d_M_rowOf_18 : decode b_M_rowOf 18 = .ok (.aload_n 0, 1) := by decide +kernel
theorem d_M_rowOf_19 : decode b_M_rowOf 19 = .ok (.invokevirtual 171, 3) := by decide +kernel
theorem d_M_rowOf_22 : decode b_M_rowOf 22 = .ok (.aload_n 0, 1) := by decide +kernel
theorem d_M_rowOf_23 : decode b_M_rowOf 23 = .ok (.iload_n 1, 1) := by decide +kernel
theorem d_M_rowOf_24 : decode b_M_rowOf 24 = .ok (.invokevirtual 192, 3) := by decide +kernel
theorem d_M_rowOf_27 : decode b_M_rowOf 27 = .ok (.aload_n 0, 1) := by decide +kernel
theorem d_M_rowOf_28 : decode b_M_rowOf 28 = .ok (.getfield 53, 3) := by decide +kernel
end
section
theorem d_M_rowOf_31 : decode b_M_rowOf 31 = .ok (.iload_n 2, 1) := by decide +kernel
theorem d_M_rowOf_32 : decode b_M_rowOf 32 = .ok (.iaload, 1) := by decide +kernel
theorem d_M_rowOf_33 : decode b_M_rowOf 33 = .ok (.ireturn, 1) := by decide +kernel
theorem d_M_row_0 : decode b_M_row 0 = .ok (.iload_n 1, 1) := by decide +kernel
theorem d_M_row_1 : decode b_M_row 1 = .ok (.iconst 0, 1) := by decide +kernel
theorem d_M_row_2 : decode b_M_row 2 = .ok (.ldc 195, 2) := by decide +kernel
theorem d_M_row_4 : decode b_M_row 4 = .ok (.invokestatic 85, 3) := by decide +kernel
theorem d_M_row_7 : decode b_M_row 7 = .ok (.ifCond .eq 22, 3) := by decide +kernel
theorem d_M_row_10 : decode b_M_row 10 = .ok (.iload_n 2, 1) := by decide +kernel
theorem d_M_row_11 : decode b_M_row 11 = .ok (.iconst 0, 1) := by decide +kernel
theorem d_M_row_12 : decode b_M_row 12 = .ok (.bipush 7, 2) := by decide +kernel
theorem d_M_row_14 : decode b_M_row 14 = .ok (.invokestatic 85, 3) := by decide +kernel
theorem d_M_row_17 : decode b_M_row 17 = .ok (.ifCond .eq 12, 3) := by decide +kernel
theorem d_M_row_20 : decode b_M_row 20 = .ok (.aload_n 0, 1) := by decide +kernel
theorem d_M_row_21 : decode b_M_row 21 = .ok (.iload_n 1, 1) := by decide +kernel
theorem d_M_row_22 : decode b_M_row 22 = .ok (.iload_n 2, 1) := by decide +kernel
theorem d_M_row_23 : decode b_M_row 23 = .ok (.invokevirtual 196, 3) := by decide +kernel
theorem d_M_row_26 : decode b_M_row 26 = .ok (.goto 5, 3) := by decide +kernel
theorem d_M_row_29 : decode b_M_row 29 = .ok (.bipush (-2), 2) := by decide +kernel
theorem d_M_row_31 : decode b_M_row 31 = .ok (.ireturn, 1) := by decide +kernel
theorem d_M_isSet_0 : decode b_M_isSet 0 = .ok (.iload_n 1, 1) := by decide +kernel
theorem d_M_isSet_1 : decode b_M_isSet 1 = .ok (.iconst 0, 1) := by decide +kernel
theorem d_M_isSet_2 : decode b_M_isSet 2 = .ok (.sipush 255, 3) := by decide +kernel
theorem d_M_isSet_5 : decode b_M_isSet 5 = .ok (.invokestatic 85, 3) := by decide +kernel
theorem d_M_isSet_8 : decode b_M_isSet 8 = .ok (.ifCond .eq 18, 3) := by decide +kernel
theorem d_M_isSet_11 : decode b_M_isSet 11 = .ok (.iload_n 1, 1) := by decide +kernel
theorem d_M_isSet_12 : decode b_M_isSet 12 = .ok (.aload_n 0, 1) := by decide +kernel
theorem d_M_isSet_13 : decode b_M_isSet 13 = .ok (.invokevirtual 110, 3) := by decide +kernel
theorem d_M_isSet_16 : decode b_M_isSet 16 = .ok (.iconst (-1), 1) := by decide +kernel
theorem d_M_isSet_17 : decode b_M_isSet 17 = .ok (.ixor, 1) := by decide +kernel
theorem d_M_isSet_18 : decode b_M_isSet 18 = .ok (.iand, 1) := by decide +kernel
theorem d_M_isSet_19 : decode b_M_isSet 19 = .ok (.ifCond .ne 7, 3) := by decide +kernel
theorem d_M_isSet_22 : decode b_M_isSet 22 = .ok (.iconst 1, 1) := by decide +kernel
theorem d_M_isSet_23 : decode b_M_isSet 23 = .ok (.goto 4, 3) := by decide +kernel
theorem d_M_isSet_26 : decode b_M_isSet 26 = .ok (.iconst 0, 1) := by decide +kernel
theorem d_M_isSet_27 : decode b_M_isSet 27 = .ok (.ireturn, 1) := by decide +kernel
theorem d_M_may_0 : decode b_M_may 0 = .ok (.aload_n 0, 1) := by decide +kernel
theorem d_M_may_1 : decode b_M_may 1 = .ok (.iload_n 1, 1) := by decide +kernel
theorem d_M_may_2 : decode b_M_may 2 = .ok (.invokevirtual 199, 3) := by decide +kernel
theorem d_M_may_5 : decode b_M_may 5 = .ok (.ifCond .eq 23, 3) := by decide +kernel
theorem d_M_may_8 : decode b_M_may 8 = .ok (.aload_n 0, 1) := by decide +kernel
theorem d_M_may_9 : decode b_M_may 9 = .ok (.aload_n 0, 1) := by decide +kernel
theorem d_M_may_10 : decode b_M_may 10 = .ok (.invokevirtual 96, 3) := by decide +kernel
theorem d_M_may_13 : decode b_M_may 13 = .ok (.iload_n 1, 1) := by decide +kernel
theorem d_M_may_14 : decode b_M_may 14 = .ok (.invokevirtual 117, 3) := by decide +kernel
theorem d_M_may_17 : decode b_M_may 17 = .ok (.ifCond .le 7, 3) := by decide +kernel
theorem d_M_may_20 : decode b_M_may 20 = .ok (.iconst 1, 1) := by decide +kernel
theorem d_M_may_21 : decode b_M_may 21 = .ok (.goto 9, 3) := by decide +kernel
theorem d_M_may_24 : decode b_M_may 24 = .ok (.iconst 0, 1) := by decide +kernel
theorem d_M_may_25 : decode b_M_may 25 = .ok (.goto 5, 3) := by decide +kernel
theorem d_M_may_28 : decode b_M_may 28 = .ok (.bipush (-2), 2) := by decide +kernel
theorem d_M_may_30 : decode b_M_may 30 = .ok (.ireturn, 1) := by decide +kernel
theorem d_M_mustOf_0 : decode b_M_mustOf 0 = .ok (.aload_n 0, 1) := by decide +kernel
theorem d_M_mustOf_1 : decode b_M_mustOf 1 = .ok (.invokevirtual 96, 3) := by decide +kernel
theorem d_M_mustOf_4 : decode b_M_mustOf 4 = .ok (.istore_n 2, 1) := by decide +kernel
theorem d_M_mustOf_5 : decode b_M_mustOf 5 = .ok (.aload_n 0, 1) := by decide +kernel
theorem d_M_mustOf_6 : decode b_M_mustOf 6 = .ok (.iload_n 2, 1) := by decide +kernel
theorem d_M_mustOf_7 : decode b_M_mustOf 7 = .ok (.iconst 0, 1) := by decide +kernel
theorem d_M_mustOf_8 : decode b_M_mustOf 8 = .ok (.invokevirtual 117, 3) := by decide +kernel
theorem d_M_mustOf_11 : decode b_M_mustOf 11 = .ok (.istore_n 3, 1) := by decide +kernel
theorem d_M_mustOf_12 : decode b_M_mustOf 12 = .ok (.aload_n 0, 1) := by decide +kernel
theorem d_M_mustOf_13 : decode b_M_mustOf 13 = .ok (.iload_n 2, 1) := by decide +kernel
theorem d_M_mustOf_14 : decode b_M_mustOf 14 = .ok (.iload_n 1, 1) := by decide +kernel
theorem d_M_mustOf_15 : decode b_M_mustOf 15 = .ok (.invokevirtual 117, 3) := by decide +kernel
theorem d_M_mustOf_18 : decode b_M_mustOf 18 = .ok (.iload_n 3, 1) := by decide +kernel
theorem d_M_mustOf_19 : decode b_M_mustOf 19 = .ok (.if_icmp .ne 7, 3) := by decide +kernel
theorem d_M_mustOf_22 : decode b_M_mustOf 22 = .ok (.iconst 1, 1) := by decide +kernel
theorem d_M_mustOf_23 : decode b_M_mustOf 23 = .ok (.goto 4, 3) := by decide +kernel
theorem d_M_mustOf_26 : decode b_M_mustOf 26 = .ok (.iconst 0, 1) := by decide +kernel
theorem d_M_mustOf_27 : decode b_M_mustOf 27 = .ok (.ireturn, 1) := by decide +kernel
theorem d_M_must_0 : decode b_M_must 0 = .ok (.aload_n 0, 1) := by decide +kernel
theorem d_M_must_1 : decode b_M_must 1 = .ok (.iload_n 1, 1) := by decide +kernel
theorem d_M_must_2 : decode b_M_must 2 = .ok (.invokevirtual 199, 3) := by decide +kernel
theorem d_M_must_5 : decode b_M_must 5 = .ok (.ifCond .eq 11, 3) := by decide +kernel
theorem d_M_must_8 : decode b_M_must 8 = .ok (.aload_n 0, 1) := by decide +kernel
theorem d_M_must_9 : decode b_M_must 9 = .ok (.iload_n 1, 1) := by decide +kernel
theorem d_M_must_10 : decode b_M_must 10 = .ok (.invokevirtual 202, 3) := by decide +kernel
theorem d_M_must_13 : decode b_M_must 13 = .ok (.goto 5, 3) := by decide +kernel
theorem d_M_must_16 : decode b_M_must 16 = .ok (.bipush (-2), 2) := by decide +kernel
theorem d_M_must_18 : decode b_M_must 18 = .ok (.ireturn, 1) := by decide +kernel
theorem d_M_spansFrom_0 : decode b_M_spansFrom 0 = .ok (.iconst 0, 1) := by decide +kernel
theorem d_M_spansFrom_1 : decode b_M_spansFrom 1 = .ok (.istore_n 3, 1) := by decide +kernel
theorem d_M_spansFrom_2 : decode b_M_spansFrom 2 = .ok (.iload_n 3, 1) := by decide +kernel
theorem d_M_spansFrom_3 : decode b_M_spansFrom 3 = .ok (.aload_n 0, 1) := by decide +kernel
theorem d_M_spansFrom_4 : decode b_M_spansFrom 4 = .ok (.invokevirtual 110, 3) := by decide +kernel
theorem d_M_spansFrom_7 : decode b_M_spansFrom 7 = .ok (.if_icmp .gt 16, 3) := by decide +kernel
theorem d_M_spansFrom_10 : decode b_M_spansFrom 10 = .ok (.aload_n 0, 1) := by decide +kernel
theorem d_M_spansFrom_11 : decode b_M_spansFrom 11 = .ok (.getfield 59, 3) := by decide +kernel
theorem d_M_spansFrom_14 : decode b_M_spansFrom 14 = .ok (.iload_n 3, 1) := by decide +kernel
theorem d_M_spansFrom_15 : decode b_M_spansFrom 15 = .ok (.iconst 0, 1) := by decide +kernel
theorem d_M_spansFrom_16 : decode b_M_spansFrom 16 = .ok (.iastore, 1) := by decide +kernel
theorem d_M_spansFrom_17 : decode b_M_spansFrom 17 = .ok (.iinc 3 1, 3) := by decide +kernel
theorem d_M_spansFrom_20 : decode b_M_spansFrom 20 = .ok (.goto (-18), 3) := by decide +kernel
theorem d_M_spansFrom_23 : decode b_M_spansFrom 23 = .ok (.iconst 0, 1) := by decide +kernel
theorem d_M_spansFrom_24 : decode b_M_spansFrom 24 = .ok (.istore_n 3, 1) := by decide +kernel
theorem d_M_spansFrom_25 : decode b_M_spansFrom 25 = .ok (.iload_n 3, 1) := by decide +kernel
theorem d_M_spansFrom_26 : decode b_M_spansFrom 26 = .ok (.aload_n 0, 1) := by decide +kernel
theorem d_M_spansFrom_27 : decode b_M_spansFrom 27 = .ok (.invokevirtual 110, 3) := by decide +kernel
theorem d_M_spansFrom_30 : decode b_M_spansFrom 30 = .ok (.if_icmp .ge 220, 3) := by decide +kernel
theorem d_M_spansFrom_33 : decode b_M_spansFrom 33 = .ok (.iconst 0, 1) := by decide +kernel
theorem d_M_spansFrom_34 : decode b_M_spansFrom 34 = .ok (.istore 4, 2) := by decide +kernel
theorem d_M_spansFrom_36 : decode b_M_spansFrom 36 = .ok (.iload 4, 2) := by decide +kernel
theorem d_M_spansFrom_38 : decode b_M_spansFrom 38 = .ok (.aload_n 0, 1) := by decide +kernel
theorem d_M_spansFrom_39 : decode b_M_spansFrom 39 = .ok (.getfield 7, 3) := by decide +kernel
theorem d_M_spansFrom_42 : decode b_M_spansFrom 42 = .ok (.if_icmp .ge 98, 3) := by decide +kernel
theorem d_M_spansFrom_45 : decode b_M_spansFrom 45 = .ok (.iload_n 3, 1) := by decide +kernel
theorem d_M_spansFrom_46 : decode b_M_spansFrom 46 = .ok (.iconst 1, 1) := by decide +kernel
theorem d_M_spansFrom_47 : decode b_M_spansFrom 47 = .ok (.iload 4, 2) := by decide +kernel
theorem d_M_spansFrom_49 : decode b_M_spansFrom 49 = .ok (.ishl, 1) := by decide +kernel
theorem d_M_spansFrom_50 : decode b_M_spansFrom 50 = .ok (.ior, 1) := by decide +kernel
theorem d_M_spansFrom_51 : decode b_M_spansFrom 51 = .ok (.istore 5, 2) := by decide +kernel
theorem d_M_spansFrom_53 : decode b_M_spansFrom 53 = .ok (.aload_n 0, 1) := by decide +kernel
theorem d_M_spansFrom_54 : decode b_M_spansFrom 54 = .ok (.getfield 20, 3) := by decide +kernel
theorem d_M_spansFrom_57 : decode b_M_spansFrom 57 = .ok (.iload_n 3, 1) := by decide +kernel
theorem d_M_spansFrom_58 : decode b_M_spansFrom 58 = .ok (.iaload, 1) := by decide +kernel
theorem d_M_spansFrom_59 : decode b_M_spansFrom 59 = .ok (.iload 4, 2) := by decide +kernel
theorem d_M_spansFrom_61 : decode b_M_spansFrom 61 = .ok (.invokestatic 81, 3) := by decide +kernel
theorem d_M_spansFrom_64 : decode b_M_spansFrom 64 = .ok (.ifCond .eq 21, 3) := by decide +kernel
theorem d_M_spansFrom_67 : decode b_M_spansFrom 67 = .ok (.iload_n 3, 1) := by decide +kernel
theorem d_M_spansFrom_68 : decode b_M_spansFrom 68 = .ok (.iload_n 2, 1) := by decide +kernel
theorem d_M_spansFrom_69 : decode b_M_spansFrom 69 = .ok (.invokestatic 81, 3) := by decide +kernel
theorem d_M_spansFrom_72 : decode b_M_spansFrom 72 = .ok (.ifCond .ne 13, 3) := by decide +kernel
theorem d_M_spansFrom_75 : decode b_M_spansFrom 75 = .ok (.iload 4, 2) := by decide +kernel
theorem d_M_spansFrom_77 : decode b_M_spansFrom 77 = .ok (.iload_n 2, 1) := by decide +kernel
theorem d_M_spansFrom_78 : decode b_M_spansFrom 78 = .ok (.if_icmp .eq 7, 3) := by decide +kernel
theorem d_M_spansFrom_81 : decode b_M_spansFrom 81 = .ok (.iconst 1, 1) := by decide +kernel
theorem d_M_spansFrom_82 : decode b_M_spansFrom 82 = .ok (.goto 4, 3) := by decide +kernel
theorem d_M_spansFrom_85 : decode b_M_spansFrom 85 = .ok (.iconst 0, 1) := by decide +kernel
theorem d_M_spansFrom_86 : decode b_M_spansFrom 86 = .ok (.istore 6, 2) := by decide +kernel
theorem d_M_spansFrom_88 : decode b_M_spansFrom 88 = .ok (.aload_n 0, 1) := by decide +kernel
theorem d_M_spansFrom_89 : decode b_M_spansFrom 89 = .ok (.getfield 59, 3) := by decide +kernel
theorem d_M_spansFrom_92 : decode b_M_spansFrom 92 = .ok (.iload 5, 2) := by decide +kernel
theorem d_M_spansFrom_94 : decode b_M_spansFrom 94 = .ok (.dup2, 1) := by decide +kernel
theorem d_M_spansFrom_95 : decode b_M_spansFrom 95 = .ok (.iaload, 1) := by decide +kernel
theorem d_M_spansFrom_96 : decode b_M_spansFrom 96 = .ok (.iload 6, 2) := by decide +kernel
theorem d_M_spansFrom_98 : decode b_M_spansFrom 98 = .ok (.ifCond .eq 19, 3) := by decide +kernel
theorem d_M_spansFrom_101 : decode b_M_spansFrom 101 = .ok (.iload 4, 2) := by decide +kernel
theorem d_M_spansFrom_103 : decode b_M_spansFrom 103 = .ok (.iload_n 1, 1) := by decide +kernel
theorem d_M_spansFrom_104 : decode b_M_spansFrom 104 = .ok (.if_icmp .ne 13, 3) := by decide +kernel
theorem d_M_spansFrom_107 : decode b_M_spansFrom 107 = .ok (.iconst 1, 1) := by decide +kernel
theorem d_M_spansFrom_108 : decode b_M_spansFrom 108 = .ok (.iload 5, 2) := by decide +kernel
theorem d_M_spansFrom_110 : decode b_M_spansFrom 110 = .ok (.invokestatic 89, 3) := by decide +kernel
theorem d_M_spansFrom_113 : decode b_M_spansFrom 113 = .ok (.ishl, 1) := by decide +kernel
theorem d_M_spansFrom_114 : decode b_M_spansFrom 114 = .ok (.goto 18, 3) := by decide +kernel
theorem d_M_spansFrom_117 : decode b_M_spansFrom 117 = .ok (.iload 6, 2) := by decide +kernel
theorem d_M_spansFrom_119 : decode b_M_spansFrom 119 = .ok (.ifCond .eq 12, 3) := by decide +kernel
theorem d_M_spansFrom_122 : decode b_M_spansFrom 122 = .ok (.aload_n 0, 1) := by decide +kernel
theorem d_M_spansFrom_123 : decode b_M_spansFrom 123 = .ok (.getfield 59, 3) := by decide +kernel
theorem d_M_spansFrom_126 : decode b_M_spansFrom 126 = .ok (.iload_n 3, 1) := by decide +kernel
theorem d_M_spansFrom_127 : decode b_M_spansFrom 127 = .ok (.iaload, 1) := by decide +kernel
theorem d_M_spansFrom_128 : decode b_M_spansFrom 128 = .ok (.goto 4, 3) := by decide +kernel
theorem d_M_spansFrom_131 : decode b_M_spansFrom 131 = .ok (.iconst 0, 1) := by decide +kernel
theorem d_M_spansFrom_132 : decode b_M_spansFrom 132 = .ok (.ior, 1) := by decide +kernel
theorem d_M_spansFrom_133 : decode b_M_spansFrom 133 = .ok (.iastore, 1) := by decide +kernel
theorem d_M_spansFrom_134 : decode b_M_spansFrom 134 = .ok (.iinc 4 1, 3) := by decide +kernel
theorem d_M_spansFrom_137 : decode b_M_spansFrom 137 = .ok (.goto (-101), 3) := by decide +kernel
theorem d_M_spansFrom_140 : decode b_M_spansFrom 140 = .ok (.iconst 0, 1) := by decide +kernel
theorem d_M_spansFrom_141 : decode b_M_spansFrom 141 = .ok (.istore 4, 2) := by decide +kernel
theorem d_M_spansFrom_143 : decode b_M_spansFrom 143 = .ok (.iload 4, 2) := by decide +kernel
theorem d_M_spansFrom_145 : decode b_M_spansFrom 145 = .ok (.bipush 9, 2) := by decide +kernel
theorem d_M_spansFrom_147 : decode b_M_spansFrom 147 = .ok (.if_icmp .ge 97, 3) := by decide +kernel
theorem d_M_spansFrom_150 : decode b_M_spansFrom 150 = .ok (.aload_n 0, 1) := by decide +kernel
theorem d_M_spansFrom_151 : decode b_M_spansFrom 151 = .ok (.getfield 20, 3) := by decide +kernel
theorem d_M_spansFrom_154 : decode b_M_spansFrom 154 = .ok (.iload_n 3, 1) := by decide +kernel
theorem d_M_spansFrom_155 : decode b_M_spansFrom 155 = .ok (.iaload, 1) := by decide +kernel
theorem d_M_spansFrom_156 : decode b_M_spansFrom 156 = .ok (.iload_n 2, 1) := by decide +kernel
theorem d_M_spansFrom_157 : decode b_M_spansFrom 157 = .ok (.invokestatic 81, 3) := by decide +kernel
theorem d_M_spansFrom_160 : decode b_M_spansFrom 160 = .ok (.ifCond .eq 84, 3) := by decide +kernel
theorem d_M_spansFrom_163 : decode b_M_spansFrom 163 = .ok (.aload_n 0, 1) := by decide +kernel
theorem d_M_spansFrom_164 : decode b_M_spansFrom 164 = .ok (.getfield 59, 3) := by decide +kernel
theorem d_M_spansFrom_167 : decode b_M_spansFrom 167 = .ok (.iload_n 3, 1) := by decide +kernel
theorem d_M_spansFrom_168 : decode b_M_spansFrom 168 = .ok (.iaload, 1) := by decide +kernel
theorem d_M_spansFrom_169 : decode b_M_spansFrom 169 = .ok (.iload 4, 2) := by decide +kernel
theorem d_M_spansFrom_171 : decode b_M_spansFrom 171 = .ok (.invokestatic 81, 3) := by decide +kernel
theorem d_M_spansFrom_174 : decode b_M_spansFrom 174 = .ok (.ifCond .eq 64, 3) := by decide +kernel
theorem d_M_spansFrom_177 : decode b_M_spansFrom 177 = .ok (.iload_n 3, 1) := by decide +kernel
theorem d_M_spansFrom_178 : decode b_M_spansFrom 178 = .ok (.invokestatic 89, 3) := by decide +kernel
theorem d_M_spansFrom_181 : decode b_M_spansFrom 181 = .ok (.iload 4, 2) := by decide +kernel
theorem d_M_spansFrom_183 : decode b_M_spansFrom 183 = .ok (.isub, 1) := by decide +kernel
theorem d_M_spansFrom_184 : decode b_M_spansFrom 184 = .ok (.istore 5, 2) := by decide +kernel
theorem d_M_spansFrom_186 : decode b_M_spansFrom 186 = .ok (.aload_n 0, 1) := by decide +kernel
theorem d_M_spansFrom_187 : decode b_M_spansFrom 187 = .ok (.aload_n 0, 1) := by decide +kernel
theorem d_M_spansFrom_188 : decode b_M_spansFrom 188 = .ok (.getfield 205, 3) := by decide +kernel
theorem d_M_spansFrom_191 : decode b_M_spansFrom 191 = .ok (.iconst (-1), 1) := by decide +kernel
theorem d_M_spansFrom_192 : decode b_M_spansFrom 192 = .ok (.if_icmp .eq 12, 3) := by decide +kernel
theorem d_M_spansFrom_195 : decode b_M_spansFrom 195 = .ok (.iload 5, 2) := by decide +kernel
theorem d_M_spansFrom_197 : decode b_M_spansFrom 197 = .ok (.aload_n 0, 1) := by decide +kernel
theorem d_M_spansFrom_198 : decode b_M_spansFrom 198 = .ok (.getfield 205, 3) := by decide +kernel
theorem d_M_spansFrom_201 : decode b_M_spansFrom 201 = .ok (.if_icmp .ge 8, 3) := by decide +kernel
theorem d_M_spansFrom_204 : decode b_M_spansFrom 204 = .ok (.iload 5, 2) := by decide +kernel
theorem d_M_spansFrom_206 : decode b_M_spansFrom 206 = .ok (.goto 7, 3) := by decide +kernel
theorem d_M_spansFrom_209 : decode b_M_spansFrom 209 = .ok (.aload_n 0, 1) := by decide +kernel
theorem d_M_spansFrom_210 : decode b_M_spansFrom 210 = .ok (.getfield 205, 3) := by decide +kernel
theorem d_M_spansFrom_213 : decode b_M_spansFrom 213 = .ok (.putfield 205, 3) := by decide +kernel
theorem d_M_spansFrom_216 : decode b_M_spansFrom 216 = .ok (.aload_n 0, 1) := by decide +kernel
theorem d_M_spansFrom_217 : decode b_M_spansFrom 217 = .ok (.iload 5, 2) := by decide +kernel
theorem d_M_spansFrom_219 : decode b_M_spansFrom 219 = .ok (.aload_n 0, 1) := by decide +kernel
theorem d_M_spansFrom_220 : decode b_M_spansFrom 220 = .ok (.getfield 208, 3) := by decide +kernel
theorem d_M_spansFrom_223 : decode b_M_spansFrom 223 = .ok (.if_icmp .le 8, 3) := by decide +kernel
theorem d_M_spansFrom_226 : decode b_M_spansFrom 226 = .ok (.iload 5, 2) := by decide +kernel
theorem d_M_spansFrom_228 : decode b_M_spansFrom 228 = .ok (.goto 7, 3) := by decide +kernel
theorem d_M_spansFrom_231 : decode b_M_spansFrom 231 = .ok (.aload_n 0, 1) := by decide +kernel
theorem d_M_spansFrom_232 : decode b_M_spansFrom 232 = .ok (.getfield 208, 3) := by decide +kernel
theorem d_M_spansFrom_235 : decode b_M_spansFrom 235 = .ok (.putfield 208, 3) := by decide +kernel
theorem d_M_spansFrom_238 : decode b_M_spansFrom 238 = .ok (.iinc 4 1, 3) := by decide +kernel
theorem d_M_spansFrom_241 : decode b_M_spansFrom 241 = .ok (.goto (-98), 3) := by decide +kernel
theorem d_M_spansFrom_244 : decode b_M_spansFrom 244 = .ok (.iinc 3 1, 3) := by decide +kernel
theorem d_M_spansFrom_247 : decode b_M_spansFrom 247 = .ok (.goto (-222), 3) := by decide +kernel
theorem d_M_spansFrom_250 : decode b_M_spansFrom 250 = .ok (.return_, 1) := by decide +kernel
theorem d_M_apartOf_0 : decode b_M_apartOf 0 = .ok (.aload_n 0, 1) := by decide +kernel
theorem d_M_apartOf_1 : decode b_M_apartOf 1 = .ok (.invokevirtual 130, 3) := by decide +kernel
theorem d_M_apartOf_4 : decode b_M_apartOf 4 = .ok (.aload_n 0, 1) := by decide +kernel
theorem d_M_apartOf_5 : decode b_M_apartOf 5 = .ok (.iconst (-1), 1) := by decide +kernel
theorem d_M_apartOf_6 : decode b_M_apartOf 6 = .ok (.putfield 205, 3) := by decide +kernel
theorem d_M_apartOf_9 : decode b_M_apartOf 9 = .ok (.aload_n 0, 1) := by decide +kernel
theorem d_M_apartOf_10 : decode b_M_apartOf 10 = .ok (.iconst (-1), 1) := by decide +kernel
theorem d_M_apartOf_11 : decode b_M_apartOf 11 = .ok (.putfield 208, 3) := by decide +kernel
theorem d_M_apartOf_14 : decode b_M_apartOf 14 = .ok (.aload_n 0, 1) := by decide +kernel
theorem d_M_apartOf_15 : decode b_M_apartOf 15 = .ok (.iload_n 1, 1) := by decide +kernel
theorem d_M_apartOf_16 : decode b_M_apartOf 16 = .ok (.iload_n 2, 1) := by decide +kernel
theorem d_M_apartOf_17 : decode b_M_apartOf 17 = .ok (.invokevirtual 211, 3) := by decide +kernel
theorem d_M_apartOf_20 : decode b_M_apartOf 20 = .ok (.aload_n 0, 1) := by decide +kernel
theorem d_M_apartOf_21 : decode b_M_apartOf 21 = .ok (.iload_n 2, 1) := by decide +kernel
theorem d_M_apartOf_22 : decode b_M_apartOf 22 = .ok (.iload_n 1, 1) := by decide +kernel
theorem d_M_apartOf_23 : decode b_M_apartOf 23 = .ok (.invokevirtual 211, 3) := by decide +kernel
theorem d_M_apartOf_26 : decode b_M_apartOf 26 = .ok (.iload_n 3, 1) := by decide +kernel
theorem d_M_apartOf_27 : decode b_M_apartOf 27 = .ok (.ifCond .ne 10, 3) := by decide +kernel
theorem d_M_apartOf_30 : decode b_M_apartOf 30 = .ok (.aload_n 0, 1) := by decide +kernel
theorem d_M_apartOf_31 : decode b_M_apartOf 31 = .ok (.getfield 205, 3) := by decide +kernel
theorem d_M_apartOf_34 : decode b_M_apartOf 34 = .ok (.goto 7, 3) := by decide +kernel
theorem d_M_apartOf_37 : decode b_M_apartOf 37 = .ok (.aload_n 0, 1) := by decide +kernel
theorem d_M_apartOf_38 : decode b_M_apartOf 38 = .ok (.getfield 208, 3) := by decide +kernel
theorem d_M_apartOf_41 : decode b_M_apartOf 41 = .ok (.ireturn, 1) := by decide +kernel
theorem d_M_isThing_0 : decode b_M_isThing 0 = .ok (.iload_n 1, 1) := by decide +kernel
theorem d_M_isThing_1 : decode b_M_isThing 1 = .ok (.iconst 0, 1) := by decide +kernel
theorem d_M_isThing_2 : decode b_M_isThing 2 = .ok (.aload_n 0, 1) := by decide +kernel
theorem d_M_isThing_3 : decode b_M_isThing 3 = .ok (.getfield 7, 3) := by decide +kernel
theorem d_M_isThing_6 : decode b_M_isThing 6 = .ok (.iconst 1, 1) := by decide +kernel
theorem d_M_isThing_7 : decode b_M_isThing 7 = .ok (.isub, 1) := by decide +kernel
theorem d_M_isThing_8 : decode b_M_isThing 8 = .ok (.invokestatic 85, 3) := by decide +kernel
theorem d_M_isThing_11 : decode b_M_isThing 11 = .ok (.ireturn, 1) := by decide +kernel
theorem d_M_apart_0 : decode b_M_apart 0 = .ok (.aload_n 0, 1) := by decide +kernel
theorem d_M_apart_1 : decode b_M_apart 1 = .ok (.iload_n 1, 1) := by decide +kernel
theorem d_M_apart_2 : decode b_M_apart 2 = .ok (.invokevirtual 214, 3) := by decide +kernel
theorem d_M_apart_5 : decode b_M_apart 5 = .ok (.ifCond .eq 35, 3) := by decide +kernel
theorem d_M_apart_8 : decode b_M_apart 8 = .ok (.aload_n 0, 1) := by decide +kernel
theorem d_M_apart_9 : decode b_M_apart 9 = .ok (.iload_n 2, 1) := by decide +kernel
theorem d_M_apart_10 : decode b_M_apart 10 = .ok (.invokevirtual 214, 3) := by decide +kernel
theorem d_M_apart_13 : decode b_M_apart 13 = .ok (.ifCond .eq 27, 3) := by decide +kernel
theorem d_M_apart_16 : decode b_M_apart 16 = .ok (.iload_n 1, 1) := by decide +kernel
theorem d_M_apart_17 : decode b_M_apart 17 = .ok (.iload_n 2, 1) := by decide +kernel
theorem d_M_apart_18 : decode b_M_apart 18 = .ok (.if_icmp .eq 22, 3) := by decide +kernel
theorem d_M_apart_21 : decode b_M_apart 21 = .ok (.iload_n 3, 1) := by decide +kernel
theorem d_M_apart_22 : decode b_M_apart 22 = .ok (.iconst 0, 1) := by decide +kernel
theorem d_M_apart_23 : decode b_M_apart 23 = .ok (.iconst 1, 1) := by decide +kernel
theorem d_M_apart_24 : decode b_M_apart 24 = .ok (.invokestatic 85, 3) := by decide +kernel
theorem d_M_apart_27 : decode b_M_apart 27 = .ok (.ifCond .eq 13, 3) := by decide +kernel
theorem d_M_apart_30 : decode b_M_apart 30 = .ok (.aload_n 0, 1) := by decide +kernel
theorem d_M_apart_31 : decode b_M_apart 31 = .ok (.iload_n 1, 1) := by decide +kernel
theorem d_M_apart_32 : decode b_M_apart 32 = .ok (.iload_n 2, 1) := by decide +kernel
theorem d_M_apart_33 : decode b_M_apart 33 = .ok (.iload_n 3, 1) := by decide +kernel
theorem d_M_apart_34 : decode b_M_apart 34 = .ok (.invokevirtual 217, 3) := by decide +kernel
theorem d_M_apart_37 : decode b_M_apart 37 = .ok (.goto 5, 3) := by decide +kernel
theorem d_M_apart_40 : decode b_M_apart 40 = .ok (.bipush (-2), 2) := by decide +kernel
theorem d_M_apart_42 : decode b_M_apart 42 = .ok (.ireturn, 1) := by decide +kernel
theorem d_M_spareOf_0 : decode b_M_spareOf 0 = .ok (.aload_n 0, 1) := by decide +kernel
theorem d_M_spareOf_1 : decode b_M_spareOf 1 = .ok (.invokevirtual 96, 3) := by decide +kernel
theorem d_M_spareOf_4 : decode b_M_spareOf 4 = .ok (.istore_n 1, 1) := by decide +kernel
theorem d_M_spareOf_5 : decode b_M_spareOf 5 = .ok (.aload_n 0, 1) := by decide +kernel
theorem d_M_spareOf_6 : decode b_M_spareOf 6 = .ok (.iload_n 1, 1) := by decide +kernel
theorem d_M_spareOf_7 : decode b_M_spareOf 7 = .ok (.iconst 0, 1) := by decide +kernel
theorem d_M_spareOf_8 : decode b_M_spareOf 8 = .ok (.invokevirtual 117, 3) := by decide +kernel
theorem d_M_spareOf_11 : decode b_M_spareOf 11 = .ok (.istore_n 2, 1) := by decide +kernel
theorem d_M_spareOf_12 : decode b_M_spareOf 12 = .ok (.iconst 0, 1) := by decide +kernel
theorem d_M_spareOf_13 : decode b_M_spareOf 13 = .ok (.istore_n 3, 1) := by decide +kernel
theorem d_M_spareOf_14 : decode b_M_spareOf 14 = .ok (.iconst 0, 1) := by decide +kernel
theorem d_M_spareOf_15 : decode b_M_spareOf 15 = .ok (.istore 4, 2) := by decide +kernel
theorem d_M_spareOf_17 : decode b_M_spareOf 17 = .ok (.iload 4, 2) := by decide +kernel
theorem d_M_spareOf_19 : decode b_M_spareOf 19 = .ok (.aload_n 0, 1) := by decide +kernel
theorem d_M_spareOf_20 : decode b_M_spareOf 20 = .ok (.getfield 93, 3) := by decide +kernel
theorem d_M_spareOf_23 : decode b_M_spareOf 23 = .ok (.if_icmp .ge 46, 3) := by decide +kernel
theorem d_M_spareOf_26 : decode b_M_spareOf 26 = .ok (.iload_n 3, 1) := by decide +kernel
theorem d_M_spareOf_27 : decode b_M_spareOf 27 = .ok (.iload_n 1, 1) := by decide +kernel
theorem d_M_spareOf_28 : decode b_M_spareOf 28 = .ok (.iload 4, 2) := by decide +kernel
theorem d_M_spareOf_30 : decode b_M_spareOf 30 = .ok (.invokestatic 81, 3) := by decide +kernel
theorem d_M_spareOf_33 : decode b_M_spareOf 33 = .ok (.ifCond .eq 27, 3) := by decide +kernel
theorem d_M_spareOf_36 : decode b_M_spareOf 36 = .ok (.aload_n 0, 1) := by decide +kernel
theorem d_M_spareOf_37 : decode b_M_spareOf 37 = .ok (.iload_n 1, 1) := by decide +kernel
theorem d_M_spareOf_38 : decode b_M_spareOf 38 = .ok (.iconst 1, 1) := by decide +kernel
theorem d_M_spareOf_39 : decode b_M_spareOf 39 = .ok (.iload 4, 2) := by decide +kernel
theorem d_M_spareOf_41 : decode b_M_spareOf 41 = .ok (.ishl, 1) := by decide +kernel
theorem d_M_spareOf_42 : decode b_M_spareOf 42 = .ok (.iconst (-1), 1) := by decide +kernel
theorem d_M_spareOf_43 : decode b_M_spareOf 43 = .ok (.ixor, 1) := by decide +kernel
theorem d_M_spareOf_44 : decode b_M_spareOf 44 = .ok (.iand, 1) := by decide +kernel
theorem d_M_spareOf_45 : decode b_M_spareOf 45 = .ok (.iconst 0, 1) := by decide +kernel
theorem d_M_spareOf_46 : decode b_M_spareOf 46 = .ok (.invokevirtual 117, 3) := by decide +kernel
theorem d_M_spareOf_49 : decode b_M_spareOf 49 = .ok (.iload_n 2, 1) := by decide +kernel
theorem d_M_spareOf_50 : decode b_M_spareOf 50 = .ok (.if_icmp .ne 10, 3) := by decide +kernel
theorem d_M_spareOf_53 : decode b_M_spareOf 53 = .ok (.iconst 1, 1) := by decide +kernel
theorem d_M_spareOf_54 : decode b_M_spareOf 54 = .ok (.iload 4, 2) := by decide +kernel
theorem d_M_spareOf_56 : decode b_M_spareOf 56 = .ok (.ishl, 1) := by decide +kernel
theorem d_M_spareOf_57 : decode b_M_spareOf 57 = .ok (.goto 4, 3) := by decide +kernel
theorem d_M_spareOf_60 : decode b_M_spareOf 60 = .ok (.iconst 0, 1) := by decide +kernel
theorem d_M_spareOf_61 : decode b_M_spareOf 61 = .ok (.ior, 1) := by decide +kernel
theorem d_M_spareOf_62 : decode b_M_spareOf 62 = .ok (.istore_n 3, 1) := by decide +kernel
theorem d_M_spareOf_63 : decode b_M_spareOf 63 = .ok (.iinc 4 1, 3) := by decide +kernel
theorem d_M_spareOf_66 : decode b_M_spareOf 66 = .ok (.goto (-49), 3) := by decide +kernel
theorem d_M_spareOf_69 : decode b_M_spareOf 69 = .ok (.iload_n 3, 1) := by decide +kernel
theorem d_M_spareOf_70 : decode b_M_spareOf 70 = .ok (.ireturn, 1) := by decide +kernel
theorem d_M_spare_0 : decode b_M_spare 0 = .ok (.aload_n 0, 1) := by decide +kernel
theorem d_M_spare_1 : decode b_M_spare 1 = .ok (.invokevirtual 220, 3) := by decide +kernel
theorem d_M_spare_4 : decode b_M_spare 4 = .ok (.ireturn, 1) := by decide +kernel
theorem d_M_type_0 : decode b_M_type 0 = .ok (.iload_n 1, 1) := by decide +kernel
theorem d_M_type_1 : decode b_M_type 1 = .ok (.iconst 0, 1) := by decide +kernel
theorem d_M_type_2 : decode b_M_type 2 = .ok (.sipush 255, 3) := by decide +kernel
theorem d_M_type_5 : decode b_M_type 5 = .ok (.invokestatic 85, 3) := by decide +kernel
theorem d_M_type_8 : decode b_M_type 8 = .ok (.ifCond .ne 6, 3) := by decide +kernel
theorem d_M_type_11 : decode b_M_type 11 = .ok (.bipush (-2), 2) := by decide +kernel
theorem d_M_type_13 : decode b_M_type 13 = .ok (.ireturn, 1) := by decide +kernel
theorem d_M_type_14 : decode b_M_type 14 = .ok (.aload_n 0, 1) := by decide +kernel
theorem d_M_type_15 : decode b_M_type 15 = .ok (.getfield 223, 3) := by decide +kernel
theorem d_M_type_18 : decode b_M_type 18 = .ok (.bipush 8, 2) := by decide +kernel
theorem d_M_type_20 : decode b_M_type 20 = .ok (.if_icmp .ne 6, 3) := by decide +kernel
theorem d_M_type_23 : decode b_M_type 23 = .ok (.bipush (-4), 2) := by decide +kernel
theorem d_M_type_25 : decode b_M_type 25 = .ok (.ireturn, 1) := by decide +kernel
theorem d_M_type_26 : decode b_M_type 26 = .ok (.aload_n 0, 1) := by decide +kernel
theorem d_M_type_27 : decode b_M_type 27 = .ok (.getfield 62, 3) := by decide +kernel
theorem d_M_type_30 : decode b_M_type 30 = .ok (.aload_n 0, 1) := by decide +kernel
theorem d_M_type_31 : decode b_M_type 31 = .ok (.getfield 223, 3) := by decide +kernel
theorem d_M_type_34 : decode b_M_type 34 = .ok (.iload_n 1, 1) := by decide +kernel
theorem d_M_type_35 : decode b_M_type 35 = .ok (.iastore, 1) := by decide +kernel
theorem d_M_type_36 : decode b_M_type 36 = .ok (.aload_n 0, 1) := by decide +kernel
theorem d_M_type_37 : decode b_M_type 37 = .ok (.dup, 1) := by decide +kernel
theorem d_M_type_38 : decode b_M_type 38 = .ok (.getfield 223, 3) := by decide +kernel
theorem d_M_type_41 : decode b_M_type 41 = .ok (.iconst 1, 1) := by decide +kernel
theorem d_M_type_42 : decode b_M_type 42 = .ok (.iadd, 1) := by decide +kernel
theorem d_M_type_43 : decode b_M_type 43 = .ok (.putfield 223, 3) := by decide +kernel
theorem d_M_type_46 : decode b_M_type 46 = .ok (.aload_n 0, 1) := by decide +kernel
theorem d_M_type_47 : decode b_M_type 47 = .ok (.getfield 223, 3) := by decide +kernel
theorem d_M_type_50 : decode b_M_type 50 = .ok (.ireturn, 1) := by decide +kernel
theorem d_M_wipe_0 : decode b_M_wipe 0 = .ok (.aload_n 0, 1) := by decide +kernel
theorem d_M_wipe_1 : decode b_M_wipe 1 = .ok (.getfield 223, 3) := by decide +kernel
theorem d_M_wipe_4 : decode b_M_wipe 4 = .ok (.istore_n 1, 1) := by decide +kernel
theorem d_M_wipe_5 : decode b_M_wipe 5 = .ok (.aload_n 0, 1) := by decide +kernel
theorem d_M_wipe_6 : decode b_M_wipe 6 = .ok (.iconst 0, 1) := by decide +kernel
theorem d_M_wipe_7 : decode b_M_wipe 7 = .ok (.putfield 223, 3) := by decide +kernel
theorem d_M_wipe_10 : decode b_M_wipe 10 = .ok (.iload_n 1, 1) := by decide +kernel
theorem d_M_wipe_11 : decode b_M_wipe 11 = .ok (.ireturn, 1) := by decide +kernel
theorem d_M_undo_0 : decode b_M_undo 0 = .ok (.aload_n 0, 1) := by decide +kernel
theorem d_M_undo_1 : decode b_M_undo 1 = .ok (.getfield 223, 3) := by decide +kernel
theorem d_M_undo_4 : decode b_M_undo 4 = .ok (.ifCond .ne 6, 3) := by decide +kernel
theorem d_M_undo_7 : decode b_M_undo 7 = .ok (.bipush (-3), 2) := by decide +kernel
theorem d_M_undo_9 : decode b_M_undo 9 = .ok (.ireturn, 1) := by decide +kernel
theorem d_M_undo_10 : decode b_M_undo 10 = .ok (.aload_n 0, 1) := by decide +kernel
theorem d_M_undo_11 : decode b_M_undo 11 = .ok (.dup, 1) := by decide +kernel
theorem d_M_undo_12 : decode b_M_undo 12 = .ok (.getfield 223, 3) := by decide +kernel
theorem d_M_undo_15 : decode b_M_undo 15 = .ok (.iconst 1, 1) := by decide +kernel
theorem d_M_undo_16 : decode b_M_undo 16 = .ok (.isub, 1) := by decide +kernel
theorem d_M_undo_17 : decode b_M_undo 17 = .ok (.putfield 223, 3) := by decide +kernel
theorem d_M_undo_20 : decode b_M_undo 20 = .ok (.aload_n 0, 1) := by decide +kernel
theorem d_M_undo_21 : decode b_M_undo 21 = .ok (.getfield 223, 3) := by decide +kernel
theorem d_M_undo_24 : decode b_M_undo 24 = .ok (.ireturn, 1) := by decide +kernel
theorem d_M_faultOf_0 : decode b_M_faultOf 0 = .ok (.iconst 0, 1) := by decide +kernel
theorem d_M_faultOf_1 : decode b_M_faultOf 1 = .ok (.istore_n 1, 1) := by decide +kernel
theorem d_M_faultOf_2 : decode b_M_faultOf 2 = .ok (.iconst 0, 1) := by decide +kernel
theorem d_M_faultOf_3 : decode b_M_faultOf 3 = .ok (.istore_n 2, 1) := by decide +kernel
theorem d_M_faultOf_4 : decode b_M_faultOf 4 = .ok (.iload_n 2, 1) := by decide +kernel
theorem d_M_faultOf_5 : decode b_M_faultOf 5 = .ok (.aload_n 0, 1) := by decide +kernel
theorem d_M_faultOf_6 : decode b_M_faultOf 6 = .ok (.getfield 223, 3) := by decide +kernel
theorem d_M_faultOf_9 : decode b_M_faultOf 9 = .ok (.if_icmp .ge 43, 3) := by decide +kernel
theorem d_M_faultOf_12 : decode b_M_faultOf 12 = .ok (.aload_n 0, 1) := by decide +kernel
theorem d_M_faultOf_13 : decode b_M_faultOf 13 = .ok (.getfield 62, 3) := by decide +kernel
theorem d_M_faultOf_16 : decode b_M_faultOf 16 = .ok (.iload_n 2, 1) := by decide +kernel
theorem d_M_faultOf_17 : decode b_M_faultOf 17 = .ok (.iaload, 1) := by decide +kernel
theorem d_M_faultOf_18 : decode b_M_faultOf 18 = .ok (.bipush 97, 2) := by decide +kernel
theorem d_M_faultOf_20 : decode b_M_faultOf 20 = .ok (.isub, 1) := by decide +kernel
theorem d_M_faultOf_21 : decode b_M_faultOf 21 = .ok (.istore_n 3, 1) := by decide +kernel
theorem d_M_faultOf_22 : decode b_M_faultOf 22 = .ok (.aload_n 0, 1) := by decide +kernel
theorem d_M_faultOf_23 : decode b_M_faultOf 23 = .ok (.iload_n 3, 1) := by decide +kernel
theorem d_M_faultOf_24 : decode b_M_faultOf 24 = .ok (.invokevirtual 214, 3) := by decide +kernel
theorem d_M_faultOf_27 : decode b_M_faultOf 27 = .ok (.ifCond .eq 11, 3) := by decide +kernel
theorem d_M_faultOf_30 : decode b_M_faultOf 30 = .ok (.iload_n 1, 1) := by decide +kernel
theorem d_M_faultOf_31 : decode b_M_faultOf 31 = .ok (.iload_n 3, 1) := by decide +kernel
theorem d_M_faultOf_32 : decode b_M_faultOf 32 = .ok (.invokestatic 81, 3) := by decide +kernel
theorem d_M_faultOf_35 : decode b_M_faultOf 35 = .ok (.ifCond .eq 5, 3) := by decide +kernel
theorem d_M_faultOf_38 : decode b_M_faultOf 38 = .ok (.iload_n 2, 1) := by decide +kernel
theorem d_M_faultOf_39 : decode b_M_faultOf 39 = .ok (.ireturn, 1) := by decide +kernel
theorem d_M_faultOf_40 : decode b_M_faultOf 40 = .ok (.iload_n 1, 1) := by decide +kernel
theorem d_M_faultOf_41 : decode b_M_faultOf 41 = .ok (.iconst 1, 1) := by decide +kernel
theorem d_M_faultOf_42 : decode b_M_faultOf 42 = .ok (.iload_n 3, 1) := by decide +kernel
theorem d_M_faultOf_43 : decode b_M_faultOf 43 = .ok (.ishl, 1) := by decide +kernel
theorem d_M_faultOf_44 : decode b_M_faultOf 44 = .ok (.ior, 1) := by decide +kernel
theorem d_M_faultOf_45 : decode b_M_faultOf 45 = .ok (.istore_n 1, 1) := by decide +kernel
theorem d_M_faultOf_46 : decode b_M_faultOf 46 = .ok (.iinc 2 1, 3) := by decide +kernel
theorem d_M_faultOf_49 : decode b_M_faultOf 49 = .ok (.goto (-45), 3) := by decide +kernel
theorem d_M_faultOf_52 : decode b_M_faultOf 52 = .ok (.aload_n 0, 1) := by decide +kernel
theorem d_M_faultOf_53 : decode b_M_faultOf 53 = .ok (.getfield 223, 3) := by decide +kernel
theorem d_M_faultOf_56 : decode b_M_faultOf 56 = .ok (.ifCond .le 21, 3) := by decide +kernel
theorem d_M_faultOf_59 : decode b_M_faultOf 59 = .ok (.aload_n 0, 1) := by decide +kernel
theorem d_M_faultOf_60 : decode b_M_faultOf 60 = .ok (.getfield 223, 3) := by decide +kernel
theorem d_M_faultOf_63 : decode b_M_faultOf 63 = .ok (.aload_n 0, 1) := by decide +kernel
theorem d_M_faultOf_64 : decode b_M_faultOf 64 = .ok (.getfield 7, 3) := by decide +kernel
theorem d_M_faultOf_67 : decode b_M_faultOf 67 = .ok (.if_icmp .ge 10, 3) := by decide +kernel
theorem d_M_faultOf_70 : decode b_M_faultOf 70 = .ok (.aload_n 0, 1) := by decide +kernel
theorem d_M_faultOf_71 : decode b_M_faultOf 71 = .ok (.getfield 223, 3) := by decide +kernel
theorem d_M_faultOf_74 : decode b_M_faultOf 74 = .ok (.goto 4, 3) := by decide +kernel
theorem d_M_faultOf_77 : decode b_M_faultOf 77 = .ok (.iconst (-1), 1) := by decide +kernel
theorem d_M_faultOf_78 : decode b_M_faultOf 78 = .ok (.ireturn, 1) := by decide +kernel
theorem d_M_fault_0 : decode b_M_fault 0 = .ok (.aload_n 0, 1) := by decide +kernel
theorem d_M_fault_1 : decode b_M_fault 1 = .ok (.invokevirtual 226, 3) := by decide +kernel
theorem d_M_fault_4 : decode b_M_fault 4 = .ok (.ireturn, 1) := by decide +kernel
theorem d_M_isRow_0 : decode b_M_isRow 0 = .ok (.aload_n 0, 1) := by decide +kernel
theorem d_M_isRow_1 : decode b_M_isRow 1 = .ok (.getfield 223, 3) := by decide +kernel
theorem d_M_isRow_4 : decode b_M_isRow 4 = .ok (.ifCond .le 15, 3) := by decide +kernel
theorem d_M_isRow_7 : decode b_M_isRow 7 = .ok (.aload_n 0, 1) := by decide +kernel
theorem d_M_isRow_8 : decode b_M_isRow 8 = .ok (.invokevirtual 226, 3) := by decide +kernel
theorem d_M_isRow_11 : decode b_M_isRow 11 = .ok (.iconst (-1), 1) := by decide +kernel
theorem d_M_isRow_12 : decode b_M_isRow 12 = .ok (.if_icmp .ne 7, 3) := by decide +kernel
theorem d_M_isRow_15 : decode b_M_isRow 15 = .ok (.iconst 1, 1) := by decide +kernel
theorem d_M_isRow_16 : decode b_M_isRow 16 = .ok (.goto 4, 3) := by decide +kernel
theorem d_M_isRow_19 : decode b_M_isRow 19 = .ok (.iconst 0, 1) := by decide +kernel
theorem d_M_isRow_20 : decode b_M_isRow 20 = .ok (.ireturn, 1) := by decide +kernel
theorem d_M_isHad_0 : decode b_M_isHad 0 = .ok (.iconst 0, 1) := by decide +kernel
theorem d_M_isHad_1 : decode b_M_isHad 1 = .ok (.istore_n 2, 1) := by decide +kernel
theorem d_M_isHad_2 : decode b_M_isHad 2 = .ok (.iconst 1, 1) := by decide +kernel
theorem d_M_isHad_3 : decode b_M_isHad 3 = .ok (.istore_n 3, 1) := by decide +kernel
theorem d_M_isHad_4 : decode b_M_isHad 4 = .ok (.iconst 0, 1) := by decide +kernel
theorem d_M_isHad_5 : decode b_M_isHad 5 = .ok (.istore 4, 2) := by decide +kernel
theorem d_M_isHad_7 : decode b_M_isHad 7 = .ok (.iload 4, 2) := by decide +kernel
theorem d_M_isHad_9 : decode b_M_isHad 9 = .ok (.aload_n 0, 1) := by decide +kernel
theorem d_M_isHad_10 : decode b_M_isHad 10 = .ok (.getfield 223, 3) := by decide +kernel
theorem d_M_isHad_13 : decode b_M_isHad 13 = .ok (.if_icmp .ge 61, 3) := by decide +kernel
theorem d_M_isHad_16 : decode b_M_isHad 16 = .ok (.iconst 1, 1) := by decide +kernel
theorem d_M_isHad_17 : decode b_M_isHad 17 = .ok (.aload_n 0, 1) := by decide +kernel
theorem d_M_isHad_18 : decode b_M_isHad 18 = .ok (.getfield 62, 3) := by decide +kernel
theorem d_M_isHad_21 : decode b_M_isHad 21 = .ok (.iload 4, 2) := by decide +kernel
theorem d_M_isHad_23 : decode b_M_isHad 23 = .ok (.iaload, 1) := by decide +kernel
theorem d_M_isHad_24 : decode b_M_isHad 24 = .ok (.bipush 97, 2) := by decide +kernel
theorem d_M_isHad_26 : decode b_M_isHad 26 = .ok (.isub, 1) := by decide +kernel
theorem d_M_isHad_27 : decode b_M_isHad 27 = .ok (.ishl, 1) := by decide +kernel
theorem d_M_isHad_28 : decode b_M_isHad 28 = .ok (.istore 5, 2) := by decide +kernel
theorem d_M_isHad_30 : decode b_M_isHad 30 = .ok (.iload_n 2, 1) := by decide +kernel
theorem d_M_isHad_31 : decode b_M_isHad 31 = .ok (.iload_n 1, 1) := by decide +kernel
theorem d_M_isHad_32 : decode b_M_isHad 32 = .ok (.iand, 1) := by decide +kernel
theorem d_M_isHad_33 : decode b_M_isHad 33 = .ok (.istore 6, 2) := by decide +kernel
theorem d_M_isHad_35 : decode b_M_isHad 35 = .ok (.iload_n 3, 1) := by decide +kernel
theorem d_M_isHad_36 : decode b_M_isHad 36 = .ok (.ifCond .eq 25, 3) := by decide +kernel
theorem d_M_isHad_39 : decode b_M_isHad 39 = .ok (.iload 6, 2) := by decide +kernel
theorem d_M_isHad_41 : decode b_M_isHad 41 = .ok (.ifCond .eq 16, 3) := by decide +kernel
theorem d_M_isHad_44 : decode b_M_isHad 44 = .ok (.iload 6, 2) := by decide +kernel
theorem d_M_isHad_46 : decode b_M_isHad 46 = .ok (.iload_n 1, 1) := by decide +kernel
theorem d_M_isHad_47 : decode b_M_isHad 47 = .ok (.if_icmp .eq 10, 3) := by decide +kernel
theorem d_M_isHad_50 : decode b_M_isHad 50 = .ok (.iload 5, 2) := by decide +kernel
theorem d_M_isHad_52 : decode b_M_isHad 52 = .ok (.iload_n 1, 1) := by decide +kernel
theorem d_M_isHad_53 : decode b_M_isHad 53 = .ok (.iand, 1) := by decide +kernel
theorem d_M_isHad_54 : decode b_M_isHad 54 = .ok (.ifCond .eq 7, 3) := by decide +kernel
theorem d_M_isHad_57 : decode b_M_isHad 57 = .ok (.iconst 1, 1) := by decide +kernel
theorem d_M_isHad_58 : decode b_M_isHad 58 = .ok (.goto 4, 3) := by decide +kernel
theorem d_M_isHad_61 : decode b_M_isHad 61 = .ok (.iconst 0, 1) := by decide +kernel
theorem d_M_isHad_62 : decode b_M_isHad 62 = .ok (.istore_n 3, 1) := by decide +kernel
theorem d_M_isHad_63 : decode b_M_isHad 63 = .ok (.iload_n 2, 1) := by decide +kernel
theorem d_M_isHad_64 : decode b_M_isHad 64 = .ok (.iload 5, 2) := by decide +kernel
theorem d_M_isHad_66 : decode b_M_isHad 66 = .ok (.ior, 1) := by decide +kernel
theorem d_M_isHad_67 : decode b_M_isHad 67 = .ok (.istore_n 2, 1) := by decide +kernel
theorem d_M_isHad_68 : decode b_M_isHad 68 = .ok (.iinc 4 1, 3) := by decide +kernel
theorem d_M_isHad_71 : decode b_M_isHad 71 = .ok (.goto (-64), 3) := by decide +kernel
theorem d_M_isHad_74 : decode b_M_isHad 74 = .ok (.iload_n 3, 1) := by decide +kernel
theorem d_M_isHad_75 : decode b_M_isHad 75 = .ok (.ireturn, 1) := by decide +kernel
theorem d_M_missesOf_0 : decode b_M_missesOf 0 = .ok (.iconst 0, 1) := by decide +kernel
theorem d_M_missesOf_1 : decode b_M_missesOf 1 = .ok (.istore_n 1, 1) := by decide +kernel
theorem d_M_missesOf_2 : decode b_M_missesOf 2 = .ok (.iconst 0, 1) := by decide +kernel
theorem d_M_missesOf_3 : decode b_M_missesOf 3 = .ok (.istore_n 2, 1) := by decide +kernel
theorem d_M_missesOf_4 : decode b_M_missesOf 4 = .ok (.iload_n 2, 1) := by decide +kernel
theorem d_M_missesOf_5 : decode b_M_missesOf 5 = .ok (.aload_n 0, 1) := by decide +kernel
theorem d_M_missesOf_6 : decode b_M_missesOf 6 = .ok (.getfield 93, 3) := by decide +kernel
theorem d_M_missesOf_9 : decode b_M_missesOf 9 = .ok (.if_icmp .ge 37, 3) := by decide +kernel
theorem d_M_missesOf_12 : decode b_M_missesOf 12 = .ok (.iload_n 1, 1) := by decide +kernel
theorem d_M_missesOf_13 : decode b_M_missesOf 13 = .ok (.aload_n 0, 1) := by decide +kernel
theorem d_M_missesOf_14 : decode b_M_missesOf 14 = .ok (.aload_n 0, 1) := by decide +kernel
theorem d_M_missesOf_15 : decode b_M_missesOf 15 = .ok (.getfield 13, 3) := by decide +kernel
theorem d_M_missesOf_18 : decode b_M_missesOf 18 = .ok (.iload_n 2, 1) := by decide +kernel
theorem d_M_missesOf_19 : decode b_M_missesOf 19 = .ok (.iaload, 1) := by decide +kernel
theorem d_M_missesOf_20 : decode b_M_missesOf 20 = .ok (.aload_n 0, 1) := by decide +kernel
theorem d_M_missesOf_21 : decode b_M_missesOf 21 = .ok (.invokevirtual 110, 3) := by decide +kernel
theorem d_M_missesOf_24 : decode b_M_missesOf 24 = .ok (.iand, 1) := by decide +kernel
theorem d_M_missesOf_25 : decode b_M_missesOf 25 = .ok (.invokevirtual 229, 3) := by decide +kernel
theorem d_M_missesOf_28 : decode b_M_missesOf 28 = .ok (.ifCond .eq 7, 3) := by decide +kernel
theorem d_M_missesOf_31 : decode b_M_missesOf 31 = .ok (.iconst 0, 1) := by decide +kernel
theorem d_M_missesOf_32 : decode b_M_missesOf 32 = .ok (.goto 6, 3) := by decide +kernel
theorem d_M_missesOf_35 : decode b_M_missesOf 35 = .ok (.iconst 1, 1) := by decide +kernel
theorem d_M_missesOf_36 : decode b_M_missesOf 36 = .ok (.iload_n 2, 1) := by decide +kernel
theorem d_M_missesOf_37 : decode b_M_missesOf 37 = .ok (.ishl, 1) := by decide +kernel
theorem d_M_missesOf_38 : decode b_M_missesOf 38 = .ok (.ior, 1) := by decide +kernel
theorem d_M_missesOf_39 : decode b_M_missesOf 39 = .ok (.istore_n 1, 1) := by decide +kernel
theorem d_M_missesOf_40 : decode b_M_missesOf 40 = .ok (.iinc 2 1, 3) := by decide +kernel
theorem d_M_missesOf_43 : decode b_M_missesOf 43 = .ok (.goto (-39), 3) := by decide +kernel
theorem d_M_missesOf_46 : decode b_M_missesOf 46 = .ok (.iload_n 1, 1) := by decide +kernel
theorem d_M_missesOf_47 : decode b_M_missesOf 47 = .ok (.ireturn, 1) := by decide +kernel
theorem d_M_misses_0 : decode b_M_misses 0 = .ok (.aload_n 0, 1) := by decide +kernel
theorem d_M_misses_1 : decode b_M_misses 1 = .ok (.invokevirtual 232, 3) := by decide +kernel
theorem d_M_misses_4 : decode b_M_misses 4 = .ok (.ifCond .eq 10, 3) := by decide +kernel
theorem d_M_misses_7 : decode b_M_misses 7 = .ok (.aload_n 0, 1) := by decide +kernel
theorem d_M_misses_8 : decode b_M_misses 8 = .ok (.invokevirtual 236, 3) := by decide +kernel
theorem d_M_misses_11 : decode b_M_misses 11 = .ok (.goto 5, 3) := by decide +kernel
theorem d_M_misses_14 : decode b_M_misses 14 = .ok (.bipush (-3), 2) := by decide +kernel
theorem d_M_misses_16 : decode b_M_misses 16 = .ok (.ireturn, 1) := by decide +kernel
theorem d_M_placeOf_0 : decode b_M_placeOf 0 = .ok (.iconst 0, 1) := by decide +kernel
theorem d_M_placeOf_1 : decode b_M_placeOf 1 = .ok (.istore_n 2, 1) := by decide +kernel
theorem d_M_placeOf_2 : decode b_M_placeOf 2 = .ok (.iload_n 1, 1) := by decide +kernel
theorem d_M_placeOf_3 : decode b_M_placeOf 3 = .ok (.aload_n 0, 1) := by decide +kernel
theorem d_M_placeOf_4 : decode b_M_placeOf 4 = .ok (.getfield 62, 3) := by decide +kernel
theorem d_M_placeOf_7 : decode b_M_placeOf 7 = .ok (.iload_n 2, 1) := by decide +kernel
theorem d_M_placeOf_8 : decode b_M_placeOf 8 = .ok (.iaload, 1) := by decide +kernel
theorem d_M_placeOf_9 : decode b_M_placeOf 9 = .ok (.bipush 97, 2) := by decide +kernel
theorem d_M_placeOf_11 : decode b_M_placeOf 11 = .ok (.isub, 1) := by decide +kernel
theorem d_M_placeOf_12 : decode b_M_placeOf 12 = .ok (.invokestatic 81, 3) := by decide +kernel
theorem d_M_placeOf_15 : decode b_M_placeOf 15 = .ok (.ifCond .ne 9, 3) := by decide +kernel
theorem d_M_placeOf_18 : decode b_M_placeOf 18 = .ok (.iinc 2 1, 3) := by decide +kernel
theorem d_M_placeOf_21 : decode b_M_placeOf 21 = .ok (.goto (-19), 3) := by decide +kernel
theorem d_M_placeOf_24 : decode b_M_placeOf 24 = .ok (.iload_n 2, 1) := by decide +kernel
theorem d_M_placeOf_25 : decode b_M_placeOf 25 = .ok (.ireturn, 1) := by decide +kernel
theorem d_M_wayTold_0 : decode b_M_wayTold 0 = .ok (.aload_n 0, 1) := by decide +kernel
theorem d_M_wayTold_1 : decode b_M_wayTold 1 = .ok (.getfield 35, 3) := by decide +kernel
theorem d_M_wayTold_4 : decode b_M_wayTold 4 = .ok (.iload_n 1, 1) := by decide +kernel
theorem d_M_wayTold_5 : decode b_M_wayTold 5 = .ok (.iaload, 1) := by decide +kernel
theorem d_M_wayTold_6 : decode b_M_wayTold 6 = .ok (.istore_n 2, 1) := by decide +kernel
theorem d_M_wayTold_7 : decode b_M_wayTold 7 = .ok (.bipush 8, 2) := by decide +kernel
theorem d_M_wayTold_9 : decode b_M_wayTold 9 = .ok (.iload_n 1, 1) := by decide +kernel
theorem d_M_wayTold_10 : decode b_M_wayTold 10 = .ok (.imul, 1) := by decide +kernel
theorem d_M_wayTold_11 : decode b_M_wayTold 11 = .ok (.istore_n 3, 1) := by decide +kernel
theorem d_M_wayTold_12 : decode b_M_wayTold 12 = .ok (.aload_n 0, 1) := by decide +kernel
theorem d_M_wayTold_13 : decode b_M_wayTold 13 = .ok (.getfield 32, 3) := by decide +kernel
theorem d_M_wayTold_16 : decode b_M_wayTold 16 = .ok (.iload_n 1, 1) := by decide +kernel
theorem d_M_wayTold_17 : decode b_M_wayTold 17 = .ok (.iaload, 1) := by decide +kernel
theorem d_M_wayTold_18 : decode b_M_wayTold 18 = .ok (.iconst 1, 1) := by decide +kernel
theorem d_M_wayTold_19 : decode b_M_wayTold 19 = .ok (.if_icmp .ne 36, 3) := by decide +kernel
theorem d_M_wayTold_22 : decode b_M_wayTold 22 = .ok (.aload_n 0, 1) := by decide +kernel
theorem d_M_wayTold_23 : decode b_M_wayTold 23 = .ok (.aload_n 0, 1) := by decide +kernel
theorem d_M_wayTold_24 : decode b_M_wayTold 24 = .ok (.getfield 38, 3) := by decide +kernel
theorem d_M_wayTold_27 : decode b_M_wayTold 27 = .ok (.iload_n 3, 1) := by decide +kernel
theorem d_M_wayTold_28 : decode b_M_wayTold 28 = .ok (.iaload, 1) := by decide +kernel
theorem d_M_wayTold_29 : decode b_M_wayTold 29 = .ok (.invokevirtual 239, 3) := by decide +kernel
theorem d_M_wayTold_32 : decode b_M_wayTold 32 = .ok (.aload_n 0, 1) := by decide +kernel
theorem d_M_wayTold_33 : decode b_M_wayTold 33 = .ok (.aload_n 0, 1) := by decide +kernel
theorem d_M_wayTold_34 : decode b_M_wayTold 34 = .ok (.getfield 38, 3) := by decide +kernel
theorem d_M_wayTold_37 : decode b_M_wayTold 37 = .ok (.iload_n 3, 1) := by decide +kernel
theorem d_M_wayTold_38 : decode b_M_wayTold 38 = .ok (.iload_n 2, 1) := by decide +kernel
theorem d_M_wayTold_39 : decode b_M_wayTold 39 = .ok (.iadd, 1) := by decide +kernel
theorem d_M_wayTold_40 : decode b_M_wayTold 40 = .ok (.iconst 1, 1) := by decide +kernel
theorem d_M_wayTold_41 : decode b_M_wayTold 41 = .ok (.isub, 1) := by decide +kernel
theorem d_M_wayTold_42 : decode b_M_wayTold 42 = .ok (.iaload, 1) := by decide +kernel
theorem d_M_wayTold_43 : decode b_M_wayTold 43 = .ok (.invokevirtual 239, 3) := by decide +kernel
theorem d_M_wayTold_46 : decode b_M_wayTold 46 = .ok (.if_icmp .ge 7, 3) := by decide +kernel
theorem d_M_wayTold_49 : decode b_M_wayTold 49 = .ok (.iconst 0, 1) := by decide +kernel
theorem d_M_wayTold_50 : decode b_M_wayTold 50 = .ok (.goto 4, 3) := by decide +kernel
theorem d_M_wayTold_53 : decode b_M_wayTold 53 = .ok (.iconst 1, 1) := by decide +kernel
theorem d_M_wayTold_54 : decode b_M_wayTold 54 = .ok (.ireturn, 1) := by decide +kernel
theorem d_M_wayTold_55 : decode b_M_wayTold 55 = .ok (.iconst 0, 1) := by decide +kernel
theorem d_M_wayTold_56 : decode b_M_wayTold 56 = .ok (.istore 4, 2) := by decide +kernel
theorem d_M_wayTold_58 : decode b_M_wayTold 58 = .ok (.iconst 0, 1) := by decide +kernel
theorem d_M_wayTold_59 : decode b_M_wayTold 59 = .ok (.istore 5, 2) := by decide +kernel
theorem d_M_wayTold_61 : decode b_M_wayTold 61 = .ok (.iload 5, 2) := by decide +kernel
theorem d_M_wayTold_63 : decode b_M_wayTold 63 = .ok (.iload_n 2, 1) := by decide +kernel
theorem d_M_wayTold_64 : decode b_M_wayTold 64 = .ok (.if_icmp .ge 175, 3) := by decide +kernel
theorem d_M_wayTold_67 : decode b_M_wayTold 67 = .ok (.iconst 0, 1) := by decide +kernel
theorem d_M_wayTold_68 : decode b_M_wayTold 68 = .ok (.istore 6, 2) := by decide +kernel
theorem d_M_wayTold_70 : decode b_M_wayTold 70 = .ok (.iconst 0, 1) := by decide +kernel
theorem d_M_wayTold_71 : decode b_M_wayTold 71 = .ok (.istore 7, 2) := by decide +kernel
theorem d_M_wayTold_73 : decode b_M_wayTold 73 = .ok (.iload 7, 2) := by decide +kernel
theorem d_M_wayTold_75 : decode b_M_wayTold 75 = .ok (.iload_n 2, 1) := by decide +kernel
theorem d_M_wayTold_76 : decode b_M_wayTold 76 = .ok (.if_icmp .ge 82, 3) := by decide +kernel
theorem d_M_wayTold_79 : decode b_M_wayTold 79 = .ok (.iconst 0, 1) := by decide +kernel
theorem d_M_wayTold_80 : decode b_M_wayTold 80 = .ok (.istore 8, 2) := by decide +kernel
theorem d_M_wayTold_82 : decode b_M_wayTold 82 = .ok (.iconst 0, 1) := by decide +kernel
theorem d_M_wayTold_83 : decode b_M_wayTold 83 = .ok (.istore 9, 2) := by decide +kernel
theorem d_M_wayTold_85 : decode b_M_wayTold 85 = .ok (.iload 9, 2) := by decide +kernel
theorem d_M_wayTold_87 : decode b_M_wayTold 87 = .ok (.iload_n 2, 1) := by decide +kernel
theorem d_M_wayTold_88 : decode b_M_wayTold 88 = .ok (.if_icmp .ge 48, 3) := by decide +kernel
theorem d_M_wayTold_91 : decode b_M_wayTold 91 = .ok (.iload 8, 2) := by decide +kernel
theorem d_M_wayTold_93 : decode b_M_wayTold 93 = .ok (.aload_n 0, 1) := by decide +kernel
theorem d_M_wayTold_94 : decode b_M_wayTold 94 = .ok (.aload_n 0, 1) := by decide +kernel
theorem d_M_wayTold_95 : decode b_M_wayTold 95 = .ok (.getfield 38, 3) := by decide +kernel
theorem d_M_wayTold_98 : decode b_M_wayTold 98 = .ok (.iload_n 3, 1) := by decide +kernel
theorem d_M_wayTold_99 : decode b_M_wayTold 99 = .ok (.iload 9, 2) := by decide +kernel
theorem d_M_wayTold_101 : decode b_M_wayTold 101 = .ok (.iadd, 1) := by decide +kernel
theorem d_M_wayTold_102 : decode b_M_wayTold 102 = .ok (.iaload, 1) := by decide +kernel
theorem d_M_wayTold_103 : decode b_M_wayTold 103 = .ok (.invokevirtual 239, 3) := by decide +kernel
theorem d_M_wayTold_106 : decode b_M_wayTold 106 = .ok (.aload_n 0, 1) := by decide +kernel
theorem d_M_wayTold_107 : decode b_M_wayTold 107 = .ok (.aload_n 0, 1) := by decide +kernel
theorem d_M_wayTold_108 : decode b_M_wayTold 108 = .ok (.getfield 38, 3) := by decide +kernel
theorem d_M_wayTold_111 : decode b_M_wayTold 111 = .ok (.iload_n 3, 1) := by decide +kernel
theorem d_M_wayTold_112 : decode b_M_wayTold 112 = .ok (.iload 7, 2) := by decide +kernel
theorem d_M_wayTold_114 : decode b_M_wayTold 114 = .ok (.iadd, 1) := by decide +kernel
theorem d_M_wayTold_115 : decode b_M_wayTold 115 = .ok (.iaload, 1) := by decide +kernel
theorem d_M_wayTold_116 : decode b_M_wayTold 116 = .ok (.invokevirtual 239, 3) := by decide +kernel
theorem d_M_wayTold_119 : decode b_M_wayTold 119 = .ok (.if_icmp .ge 7, 3) := by decide +kernel
theorem d_M_wayTold_122 : decode b_M_wayTold 122 = .ok (.iconst 1, 1) := by decide +kernel
theorem d_M_wayTold_123 : decode b_M_wayTold 123 = .ok (.goto 4, 3) := by decide +kernel
theorem d_M_wayTold_126 : decode b_M_wayTold 126 = .ok (.iconst 0, 1) := by decide +kernel
theorem d_M_wayTold_127 : decode b_M_wayTold 127 = .ok (.iadd, 1) := by decide +kernel
theorem d_M_wayTold_128 : decode b_M_wayTold 128 = .ok (.istore 8, 2) := by decide +kernel
theorem d_M_wayTold_130 : decode b_M_wayTold 130 = .ok (.iinc 9 1, 3) := by decide +kernel
theorem d_M_wayTold_133 : decode b_M_wayTold 133 = .ok (.goto (-48), 3) := by decide +kernel
theorem d_M_wayTold_136 : decode b_M_wayTold 136 = .ok (.iload 8, 2) := by decide +kernel
theorem d_M_wayTold_138 : decode b_M_wayTold 138 = .ok (.iload 5, 2) := by decide +kernel
theorem d_M_wayTold_140 : decode b_M_wayTold 140 = .ok (.if_icmp .ne 8, 3) := by decide +kernel
theorem d_M_wayTold_143 : decode b_M_wayTold 143 = .ok (.iload 7, 2) := by decide +kernel
theorem d_M_wayTold_145 : decode b_M_wayTold 145 = .ok (.goto 5, 3) := by decide +kernel
theorem d_M_wayTold_148 : decode b_M_wayTold 148 = .ok (.iload 6, 2) := by decide +kernel
theorem d_M_wayTold_150 : decode b_M_wayTold 150 = .ok (.istore 6, 2) := by decide +kernel
theorem d_M_wayTold_152 : decode b_M_wayTold 152 = .ok (.iinc 7 1, 3) := by decide +kernel
theorem d_M_wayTold_155 : decode b_M_wayTold 155 = .ok (.goto (-82), 3) := by decide +kernel
theorem d_M_wayTold_158 : decode b_M_wayTold 158 = .ok (.iconst 0, 1) := by decide +kernel
theorem d_M_wayTold_159 : decode b_M_wayTold 159 = .ok (.istore 7, 2) := by decide +kernel
theorem d_M_wayTold_161 : decode b_M_wayTold 161 = .ok (.iconst 0, 1) := by decide +kernel
theorem d_M_wayTold_162 : decode b_M_wayTold 162 = .ok (.istore 8, 2) := by decide +kernel
theorem d_M_wayTold_164 : decode b_M_wayTold 164 = .ok (.iload 8, 2) := by decide +kernel
theorem d_M_wayTold_166 : decode b_M_wayTold 166 = .ok (.iload 6, 2) := by decide +kernel
theorem d_M_wayTold_168 : decode b_M_wayTold 168 = .ok (.if_icmp .ge 48, 3) := by decide +kernel
theorem d_M_wayTold_171 : decode b_M_wayTold 171 = .ok (.iload 7, 2) := by decide +kernel
theorem d_M_wayTold_173 : decode b_M_wayTold 173 = .ok (.aload_n 0, 1) := by decide +kernel
theorem d_M_wayTold_174 : decode b_M_wayTold 174 = .ok (.aload_n 0, 1) := by decide +kernel
theorem d_M_wayTold_175 : decode b_M_wayTold 175 = .ok (.getfield 38, 3) := by decide +kernel
theorem d_M_wayTold_178 : decode b_M_wayTold 178 = .ok (.iload_n 3, 1) := by decide +kernel
theorem d_M_wayTold_179 : decode b_M_wayTold 179 = .ok (.iload 8, 2) := by decide +kernel
theorem d_M_wayTold_181 : decode b_M_wayTold 181 = .ok (.iadd, 1) := by decide +kernel
theorem d_M_wayTold_182 : decode b_M_wayTold 182 = .ok (.iaload, 1) := by decide +kernel
theorem d_M_wayTold_183 : decode b_M_wayTold 183 = .ok (.invokevirtual 239, 3) := by decide +kernel
theorem d_M_wayTold_186 : decode b_M_wayTold 186 = .ok (.aload_n 0, 1) := by decide +kernel
theorem d_M_wayTold_187 : decode b_M_wayTold 187 = .ok (.aload_n 0, 1) := by decide +kernel
theorem d_M_wayTold_188 : decode b_M_wayTold 188 = .ok (.getfield 38, 3) := by decide +kernel
theorem d_M_wayTold_191 : decode b_M_wayTold 191 = .ok (.iload_n 3, 1) := by decide +kernel
theorem d_M_wayTold_192 : decode b_M_wayTold 192 = .ok (.iload 6, 2) := by decide +kernel
theorem d_M_wayTold_194 : decode b_M_wayTold 194 = .ok (.iadd, 1) := by decide +kernel
theorem d_M_wayTold_195 : decode b_M_wayTold 195 = .ok (.iaload, 1) := by decide +kernel
theorem d_M_wayTold_196 : decode b_M_wayTold 196 = .ok (.invokevirtual 239, 3) := by decide +kernel
theorem d_M_wayTold_199 : decode b_M_wayTold 199 = .ok (.if_icmp .le 7, 3) := by decide +kernel
theorem d_M_wayTold_202 : decode b_M_wayTold 202 = .ok (.iconst 1, 1) := by decide +kernel
theorem d_M_wayTold_203 : decode b_M_wayTold 203 = .ok (.goto 4, 3) := by decide +kernel
theorem d_M_wayTold_206 : decode b_M_wayTold 206 = .ok (.iconst 0, 1) := by decide +kernel
theorem d_M_wayTold_207 : decode b_M_wayTold 207 = .ok (.iadd, 1) := by decide +kernel
theorem d_M_wayTold_208 : decode b_M_wayTold 208 = .ok (.istore 7, 2) := by decide +kernel
theorem d_M_wayTold_210 : decode b_M_wayTold 210 = .ok (.iinc 8 1, 3) := by decide +kernel
theorem d_M_wayTold_213 : decode b_M_wayTold 213 = .ok (.goto (-49), 3) := by decide +kernel
theorem d_M_wayTold_216 : decode b_M_wayTold 216 = .ok (.iload 4, 2) := by decide +kernel
theorem d_M_wayTold_218 : decode b_M_wayTold 218 = .ok (.iload 7, 2) := by decide +kernel
theorem d_M_wayTold_220 : decode b_M_wayTold 220 = .ok (.iload_n 2, 1) := by decide +kernel
theorem d_M_wayTold_221 : decode b_M_wayTold 221 = .ok (.iconst 1, 1) := by decide +kernel
theorem d_M_wayTold_222 : decode b_M_wayTold 222 = .ok (.isub, 1) := by decide +kernel
theorem d_M_wayTold_223 : decode b_M_wayTold 223 = .ok (.iload 5, 2) := by decide +kernel
theorem d_M_wayTold_225 : decode b_M_wayTold 225 = .ok (.isub, 1) := by decide +kernel
theorem d_M_wayTold_226 : decode b_M_wayTold 226 = .ok (.invokestatic 180, 3) := by decide +kernel
theorem d_M_wayTold_229 : decode b_M_wayTold 229 = .ok (.imul, 1) := by decide +kernel
theorem d_M_wayTold_230 : decode b_M_wayTold 230 = .ok (.iadd, 1) := by decide +kernel
theorem d_M_wayTold_231 : decode b_M_wayTold 231 = .ok (.istore 4, 2) := by decide +kernel
theorem d_M_wayTold_233 : decode b_M_wayTold 233 = .ok (.iinc 5 1, 3) := by decide +kernel
theorem d_M_wayTold_236 : decode b_M_wayTold 236 = .ok (.goto (-175), 3) := by decide +kernel
theorem d_M_wayTold_239 : decode b_M_wayTold 239 = .ok (.iload 4, 2) := by decide +kernel
theorem d_M_wayTold_241 : decode b_M_wayTold 241 = .ok (.ireturn, 1) := by decide +kernel
theorem d_M_numberOf_0 : decode b_M_numberOf 0 = .ok (.aload_n 0, 1) := by decide +kernel
theorem d_M_numberOf_1 : decode b_M_numberOf 1 = .ok (.invokevirtual 236, 3) := by decide +kernel
theorem d_M_numberOf_4 : decode b_M_numberOf 4 = .ok (.aload_n 0, 1) := by decide +kernel
theorem d_M_numberOf_5 : decode b_M_numberOf 5 = .ok (.invokevirtual 96, 3) := by decide +kernel
theorem d_M_numberOf_8 : decode b_M_numberOf 8 = .ok (.iand, 1) := by decide +kernel
theorem d_M_numberOf_9 : decode b_M_numberOf 9 = .ok (.ifCond .eq 5, 3) := by decide +kernel
theorem d_M_numberOf_12 : decode b_M_numberOf 12 = .ok (.iconst (-1), 1) := by decide +kernel
theorem d_M_numberOf_13 : decode b_M_numberOf 13 = .ok (.ireturn, 1) := by decide +kernel
theorem d_M_numberOf_14 : decode b_M_numberOf 14 = .ok (.aload_n 0, 1) := by decide +kernel
theorem d_M_numberOf_15 : decode b_M_numberOf 15 = .ok (.invokevirtual 171, 3) := by decide +kernel
theorem d_M_numberOf_18 : decode b_M_numberOf 18 = .ok (.iconst 0, 1) := by decide +kernel
theorem d_M_numberOf_19 : decode b_M_numberOf 19 = .ok (.istore_n 1, 1) := by decide +kernel
theorem d_M_numberOf_20 : decode b_M_numberOf 20 = .ok (.iconst 0, 1) := by decide +kernel
theorem d_M_numberOf_21 : decode b_M_numberOf 21 = .ok (.istore_n 2, 1) := by decide +kernel
theorem d_M_numberOf_22 : decode b_M_numberOf 22 = .ok (.iload_n 2, 1) := by decide +kernel
theorem d_M_numberOf_23 : decode b_M_numberOf 23 = .ok (.aload_n 0, 1) := by decide +kernel
theorem d_M_numberOf_24 : decode b_M_numberOf 24 = .ok (.getfield 156, 3) := by decide +kernel
theorem d_M_numberOf_27 : decode b_M_numberOf 27 = .ok (.if_icmp .ge 23, 3) := by decide +kernel
theorem d_M_numberOf_30 : decode b_M_numberOf 30 = .ok (.iload_n 1, 1) := by decide +kernel
theorem d_M_numberOf_31 : decode b_M_numberOf 31 = .ok (.aload_n 0, 1) := by decide +kernel
theorem d_M_numberOf_32 : decode b_M_numberOf 32 = .ok (.iload_n 2, 1) := by decide +kernel
theorem d_M_numberOf_33 : decode b_M_numberOf 33 = .ok (.invokevirtual 183, 3) := by decide +kernel
theorem d_M_numberOf_36 : decode b_M_numberOf 36 = .ok (.imul, 1) := by decide +kernel
theorem d_M_numberOf_37 : decode b_M_numberOf 37 = .ok (.aload_n 0, 1) := by decide +kernel
theorem d_M_numberOf_38 : decode b_M_numberOf 38 = .ok (.iload_n 2, 1) := by decide +kernel
theorem d_M_numberOf_39 : decode b_M_numberOf 39 = .ok (.invokevirtual 242, 3) := by decide +kernel
theorem d_M_numberOf_42 : decode b_M_numberOf 42 = .ok (.iadd, 1) := by decide +kernel
theorem d_M_numberOf_43 : decode b_M_numberOf 43 = .ok (.istore_n 1, 1) := by decide +kernel
theorem d_M_numberOf_44 : decode b_M_numberOf 44 = .ok (.iinc 2 1, 3) := by decide +kernel
theorem d_M_numberOf_47 : decode b_M_numberOf 47 = .ok (.goto (-25), 3) := by decide +kernel
theorem d_M_numberOf_50 : decode b_M_numberOf 50 = .ok (.iload_n 1, 1) := by decide +kernel
theorem d_M_numberOf_51 : decode b_M_numberOf 51 = .ok (.ireturn, 1) := by decide +kernel
theorem d_M_number_0 : decode b_M_number 0 = .ok (.aload_n 0, 1) := by decide +kernel
theorem d_M_number_1 : decode b_M_number 1 = .ok (.invokevirtual 232, 3) := by decide +kernel
theorem d_M_number_4 : decode b_M_number 4 = .ok (.ifCond .eq 10, 3) := by decide +kernel
theorem d_M_number_7 : decode b_M_number 7 = .ok (.aload_n 0, 1) := by decide +kernel
theorem d_M_number_8 : decode b_M_number 8 = .ok (.invokevirtual 245, 3) := by decide +kernel
theorem d_M_number_11 : decode b_M_number 11 = .ok (.goto 5, 3) := by decide +kernel
theorem d_M_number_14 : decode b_M_number 14 = .ok (.bipush (-3), 2) := by decide +kernel
theorem d_M_number_16 : decode b_M_number 16 = .ok (.ireturn, 1) := by decide +kernel
theorem d_M_sheet_0 : decode b_M_sheet 0 = .ok (.iload_n 1, 1) := by decide +kernel
theorem d_M_sheet_1 : decode b_M_sheet 1 = .ok (.invokestatic 103, 3) := by decide +kernel
theorem d_M_sheet_4 : decode b_M_sheet 4 = .ok (.ifCond .eq 18, 3) := by decide +kernel
theorem d_M_sheet_7 : decode b_M_sheet 7 = .ok (.iload_n 2, 1) := by decide +kernel
theorem d_M_sheet_8 : decode b_M_sheet 8 = .ok (.iconst 0, 1) := by decide +kernel
theorem d_M_sheet_9 : decode b_M_sheet 9 = .ok (.iconst 2, 1) := by decide +kernel
theorem d_M_sheet_10 : decode b_M_sheet 10 = .ok (.invokestatic 85, 3) := by decide +kernel
theorem d_M_sheet_13 : decode b_M_sheet 13 = .ok (.ifCond .eq 9, 3) := by decide +kernel
theorem d_M_sheet_16 : decode b_M_sheet 16 = .ok (.iload_n 3, 1) := by decide +kernel
theorem d_M_sheet_17 : decode b_M_sheet 17 = .ok (.bipush 60, 2) := by decide +kernel
theorem d_M_sheet_19 : decode b_M_sheet 19 = .ok (.if_icmp .le 6, 3) := by decide +kernel
theorem d_M_sheet_22 : decode b_M_sheet 22 = .ok (.bipush (-2), 2) := by decide +kernel
theorem d_M_sheet_24 : decode b_M_sheet 24 = .ok (.ireturn, 1) := by decide +kernel
theorem d_M_sheet_25 : decode b_M_sheet 25 = .ok (.iload_n 3, 1) := by decide +kernel
theorem d_M_sheet_26 : decode b_M_sheet 26 = .ok (.ifCond .ge 9, 3) := by decide +kernel
theorem d_M_sheet_29 : decode b_M_sheet 29 = .ok (.aload_n 0, 1) := by decide +kernel
theorem d_M_sheet_30 : decode b_M_sheet 30 = .ok (.iconst 5, 1) := by decide +kernel
theorem d_M_sheet_31 : decode b_M_sheet 31 = .ok (.invokevirtual 107, 3) := by decide +kernel
theorem d_M_sheet_34 : decode b_M_sheet 34 = .ok (.ireturn, 1) := by decide +kernel
theorem d_M_sheet_35 : decode b_M_sheet 35 = .ok (.aload_n 0, 1) := by decide +kernel
theorem d_M_sheet_36 : decode b_M_sheet 36 = .ok (.getfield 65, 3) := by decide +kernel
theorem d_M_sheet_39 : decode b_M_sheet 39 = .ok (.iload_n 1, 1) := by decide +kernel
theorem d_M_sheet_40 : decode b_M_sheet 40 = .ok (.iconst 1, 1) := by decide +kernel
theorem d_M_sheet_41 : decode b_M_sheet 41 = .ok (.bastore, 1) := by decide +kernel
theorem d_M_sheet_42 : decode b_M_sheet 42 = .ok (.aload_n 0, 1) := by decide +kernel
theorem d_M_sheet_43 : decode b_M_sheet 43 = .ok (.getfield 69, 3) := by decide +kernel
theorem d_M_sheet_46 : decode b_M_sheet 46 = .ok (.iload_n 1, 1) := by decide +kernel
theorem d_M_sheet_47 : decode b_M_sheet 47 = .ok (.iload_n 2, 1) := by decide +kernel
theorem d_M_sheet_48 : decode b_M_sheet 48 = .ok (.iastore, 1) := by decide +kernel
theorem d_M_sheet_49 : decode b_M_sheet 49 = .ok (.aload_n 0, 1) := by decide +kernel
theorem d_M_sheet_50 : decode b_M_sheet 50 = .ok (.getfield 72, 3) := by decide +kernel
theorem d_M_sheet_53 : decode b_M_sheet 53 = .ok (.iload_n 1, 1) := by decide +kernel
theorem d_M_sheet_54 : decode b_M_sheet 54 = .ok (.iload_n 3, 1) := by decide +kernel
theorem d_M_sheet_55 : decode b_M_sheet 55 = .ok (.iastore, 1) := by decide +kernel
theorem d_M_sheet_56 : decode b_M_sheet 56 = .ok (.iconst 0, 1) := by decide +kernel
theorem d_M_sheet_57 : decode b_M_sheet 57 = .ok (.istore 4, 2) := by decide +kernel
theorem d_M_sheet_59 : decode b_M_sheet 59 = .ok (.iload 4, 2) := by decide +kernel
theorem d_M_sheet_61 : decode b_M_sheet 61 = .ok (.bipush 60, 2) := by decide +kernel
theorem d_M_sheet_63 : decode b_M_sheet 63 = .ok (.if_icmp .ge 22, 3) := by decide +kernel
theorem d_M_sheet_66 : decode b_M_sheet 66 = .ok (.aload_n 0, 1) := by decide +kernel
theorem d_M_sheet_67 : decode b_M_sheet 67 = .ok (.getfield 75, 3) := by decide +kernel
theorem d_M_sheet_70 : decode b_M_sheet 70 = .ok (.bipush 60, 2) := by decide +kernel
theorem d_M_sheet_72 : decode b_M_sheet 72 = .ok (.iload_n 1, 1) := by decide +kernel
theorem d_M_sheet_73 : decode b_M_sheet 73 = .ok (.imul, 1) := by decide +kernel
theorem d_M_sheet_74 : decode b_M_sheet 74 = .ok (.iload 4, 2) := by decide +kernel
theorem d_M_sheet_76 : decode b_M_sheet 76 = .ok (.iadd, 1) := by decide +kernel
theorem d_M_sheet_77 : decode b_M_sheet 77 = .ok (.iconst 0, 1) := by decide +kernel
theorem d_M_sheet_78 : decode b_M_sheet 78 = .ok (.iastore, 1) := by decide +kernel
theorem d_M_sheet_79 : decode b_M_sheet 79 = .ok (.iinc 4 1, 3) := by decide +kernel
theorem d_M_sheet_82 : decode b_M_sheet 82 = .ok (.goto (-23), 3) := by decide +kernel
theorem d_M_sheet_85 : decode b_M_sheet 85 = .ok (.iload_n 3, 1) := by decide +kernel
theorem d_M_sheet_86 : decode b_M_sheet 86 = .ok (.ireturn, 1) := by decide +kernel
theorem d_M_lose_0 : decode b_M_lose 0 = .ok (.iload_n 1, 1) := by decide +kernel
theorem d_M_lose_1 : decode b_M_lose 1 = .ok (.invokestatic 103, 3) := by decide +kernel
theorem d_M_lose_4 : decode b_M_lose 4 = .ok (.ifCond .ne 6, 3) := by decide +kernel
theorem d_M_lose_7 : decode b_M_lose 7 = .ok (.bipush (-2), 2) := by decide +kernel
theorem d_M_lose_9 : decode b_M_lose 9 = .ok (.ireturn, 1) := by decide +kernel
theorem d_M_lose_10 : decode b_M_lose 10 = .ok (.aload_n 0, 1) := by decide +kernel
theorem d_M_lose_11 : decode b_M_lose 11 = .ok (.getfield 65, 3) := by decide +kernel
theorem d_M_lose_14 : decode b_M_lose 14 = .ok (.iload_n 1, 1) := by decide +kernel
theorem d_M_lose_15 : decode b_M_lose 15 = .ok (.baload, 1) := by decide +kernel
theorem d_M_lose_16 : decode b_M_lose 16 = .ok (.ifCond .ne 9, 3) := by decide +kernel
theorem d_M_lose_19 : decode b_M_lose 19 = .ok (.aload_n 0, 1) := by decide +kernel
theorem d_M_lose_20 : decode b_M_lose 20 = .ok (.iconst 1, 1) := by decide +kernel
theorem d_M_lose_21 : decode b_M_lose 21 = .ok (.invokevirtual 107, 3) := by decide +kernel
theorem d_M_lose_24 : decode b_M_lose 24 = .ok (.ireturn, 1) := by decide +kernel
theorem d_M_lose_25 : decode b_M_lose 25 = .ok (.aload_n 0, 1) := by decide +kernel
theorem d_M_lose_26 : decode b_M_lose 26 = .ok (.getfield 65, 3) := by decide +kernel
theorem d_M_lose_29 : decode b_M_lose 29 = .ok (.iload_n 1, 1) := by decide +kernel
theorem d_M_lose_30 : decode b_M_lose 30 = .ok (.iconst 0, 1) := by decide +kernel
theorem d_M_lose_31 : decode b_M_lose 31 = .ok (.bastore, 1) := by decide +kernel
theorem d_M_lose_32 : decode b_M_lose 32 = .ok (.aload_n 0, 1) := by decide +kernel
theorem d_M_lose_33 : decode b_M_lose 33 = .ok (.getfield 72, 3) := by decide +kernel
theorem d_M_lose_36 : decode b_M_lose 36 = .ok (.iload_n 1, 1) := by decide +kernel
theorem d_M_lose_37 : decode b_M_lose 37 = .ok (.iaload, 1) := by decide +kernel
theorem d_M_lose_38 : decode b_M_lose 38 = .ok (.ireturn, 1) := by decide +kernel
theorem d_M_lacks_0 : decode b_M_lacks 0 = .ok (.aload_n 0, 1) := by decide +kernel
theorem d_M_lacks_1 : decode b_M_lacks 1 = .ok (.getfield 65, 3) := by decide +kernel
theorem d_M_lacks_4 : decode b_M_lacks 4 = .ok (.iload_n 1, 1) := by decide +kernel
theorem d_M_lacks_5 : decode b_M_lacks 5 = .ok (.baload, 1) := by decide +kernel
theorem d_M_lacks_6 : decode b_M_lacks 6 = .ok (.ifCond .ne 7, 3) := by decide +kernel
theorem d_M_lacks_9 : decode b_M_lacks 9 = .ok (.iconst 1, 1) := by decide +kernel
theorem d_M_lacks_10 : decode b_M_lacks 10 = .ok (.goto 38, 3) := by decide +kernel
theorem d_M_lacks_13 : decode b_M_lacks 13 = .ok (.aload_n 0, 1) := by decide +kernel
theorem d_M_lacks_14 : decode b_M_lacks 14 = .ok (.getfield 69, 3) := by decide +kernel
theorem d_M_lacks_17 : decode b_M_lacks 17 = .ok (.iload_n 1, 1) := by decide +kernel
theorem d_M_lacks_18 : decode b_M_lacks 18 = .ok (.iaload, 1) := by decide +kernel
theorem d_M_lacks_19 : decode b_M_lacks 19 = .ok (.iload_n 2, 1) := by decide +kernel
theorem d_M_lacks_20 : decode b_M_lacks 20 = .ok (.if_icmp .eq 7, 3) := by decide +kernel
theorem d_M_lacks_23 : decode b_M_lacks 23 = .ok (.iconst 3, 1) := by decide +kernel
theorem d_M_lacks_24 : decode b_M_lacks 24 = .ok (.goto 24, 3) := by decide +kernel
theorem d_M_lacks_27 : decode b_M_lacks 27 = .ok (.iload_n 3, 1) := by decide +kernel
theorem d_M_lacks_28 : decode b_M_lacks 28 = .ok (.iconst 0, 1) := by decide +kernel
theorem d_M_lacks_29 : decode b_M_lacks 29 = .ok (.aload_n 0, 1) := by decide +kernel
theorem d_M_lacks_30 : decode b_M_lacks 30 = .ok (.getfield 72, 3) := by decide +kernel
theorem d_M_lacks_33 : decode b_M_lacks 33 = .ok (.iload_n 1, 1) := by decide +kernel
theorem d_M_lacks_34 : decode b_M_lacks 34 = .ok (.iaload, 1) := by decide +kernel
theorem d_M_lacks_35 : decode b_M_lacks 35 = .ok (.iconst 1, 1) := by decide +kernel
theorem d_M_lacks_36 : decode b_M_lacks 36 = .ok (.isub, 1) := by decide +kernel
theorem d_M_lacks_37 : decode b_M_lacks 37 = .ok (.invokestatic 85, 3) := by decide +kernel
theorem d_M_lacks_40 : decode b_M_lacks 40 = .ok (.ifCond .eq 7, 3) := by decide +kernel
theorem d_M_lacks_43 : decode b_M_lacks 43 = .ok (.iconst 0, 1) := by decide +kernel
theorem d_M_lacks_44 : decode b_M_lacks 44 = .ok (.goto 4, 3) := by decide +kernel
theorem d_M_lacks_47 : decode b_M_lacks 47 = .ok (.iconst 2, 1) := by decide +kernel
theorem d_M_lacks_48 : decode b_M_lacks 48 = .ok (.ireturn, 1) := by decide +kernel
theorem d_M_keep_0 : decode b_M_keep 0 = .ok (.aload_n 0, 1) := by decide +kernel
theorem d_M_keep_1 : decode b_M_keep 1 = .ok (.getfield 75, 3) := by decide +kernel
theorem d_M_keep_4 : decode b_M_keep 4 = .ok (.bipush 60, 2) := by decide +kernel
theorem d_M_keep_6 : decode b_M_keep 6 = .ok (.iload_n 1, 1) := by decide +kernel
theorem d_M_keep_7 : decode b_M_keep 7 = .ok (.imul, 1) := by decide +kernel
theorem d_M_keep_8 : decode b_M_keep 8 = .ok (.iload_n 2, 1) := by decide +kernel
theorem d_M_keep_9 : decode b_M_keep 9 = .ok (.iadd, 1) := by decide +kernel
theorem d_M_keep_10 : decode b_M_keep 10 = .ok (.aload_n 0, 1) := by decide +kernel
theorem d_M_keep_11 : decode b_M_keep 11 = .ok (.getfield 69, 3) := by decide +kernel
theorem d_M_keep_14 : decode b_M_keep 14 = .ok (.iload_n 1, 1) := by decide +kernel
theorem d_M_keep_15 : decode b_M_keep 15 = .ok (.iaload, 1) := by decide +kernel
theorem d_M_keep_16 : decode b_M_keep 16 = .ok (.ifCond .ne 8, 3) := by decide +kernel
theorem d_M_keep_19 : decode b_M_keep 19 = .ok (.iload_n 3, 1) := by decide +kernel
theorem d_M_keep_20 : decode b_M_keep 20 = .ok (.i2b, 1) := by decide +kernel
theorem d_M_keep_21 : decode b_M_keep 21 = .ok (.goto 19, 3) := by decide +kernel
theorem d_M_keep_24 : decode b_M_keep 24 = .ok (.aload_n 0, 1) := by decide +kernel
theorem d_M_keep_25 : decode b_M_keep 25 = .ok (.getfield 69, 3) := by decide +kernel
theorem d_M_keep_28 : decode b_M_keep 28 = .ok (.iload_n 1, 1) := by decide +kernel
theorem d_M_keep_29 : decode b_M_keep 29 = .ok (.iaload, 1) := by decide +kernel
theorem d_M_keep_30 : decode b_M_keep 30 = .ok (.iconst 1, 1) := by decide +kernel
theorem d_M_keep_31 : decode b_M_keep 31 = .ok (.if_icmp .ne 8, 3) := by decide +kernel
theorem d_M_keep_34 : decode b_M_keep 34 = .ok (.iload_n 3, 1) := by decide +kernel
theorem d_M_keep_35 : decode b_M_keep 35 = .ok (.i2s, 1) := by decide +kernel
theorem d_M_keep_36 : decode b_M_keep 36 = .ok (.goto 4, 3) := by decide +kernel
theorem d_M_keep_39 : decode b_M_keep 39 = .ok (.iload_n 3, 1) := by decide +kernel
theorem d_M_keep_40 : decode b_M_keep 40 = .ok (.iastore, 1) := by decide +kernel
theorem d_M_keep_41 : decode b_M_keep 41 = .ok (.return_, 1) := by decide +kernel
theorem d_M_put_0 : decode b_M_put 0 = .ok (.iload_n 1, 1) := by decide +kernel
theorem d_M_put_1 : decode b_M_put 1 = .ok (.invokestatic 103, 3) := by decide +kernel
theorem d_M_put_4 : decode b_M_put 4 = .ok (.ifCond .eq 12, 3) := by decide +kernel
theorem d_M_put_7 : decode b_M_put 7 = .ok (.iload_n 2, 1) := by decide +kernel
theorem d_M_put_8 : decode b_M_put 8 = .ok (.iconst 0, 1) := by decide +kernel
theorem d_M_put_9 : decode b_M_put 9 = .ok (.iconst 2, 1) := by decide +kernel
theorem d_M_put_10 : decode b_M_put 10 = .ok (.invokestatic 85, 3) := by decide +kernel
theorem d_M_put_13 : decode b_M_put 13 = .ok (.ifCond .ne 6, 3) := by decide +kernel
theorem d_M_put_16 : decode b_M_put 16 = .ok (.bipush (-2), 2) := by decide +kernel
theorem d_M_put_18 : decode b_M_put 18 = .ok (.ireturn, 1) := by decide +kernel
theorem d_M_put_19 : decode b_M_put 19 = .ok (.aload_n 0, 1) := by decide +kernel
theorem d_M_put_20 : decode b_M_put 20 = .ok (.iload_n 1, 1) := by decide +kernel
theorem d_M_put_21 : decode b_M_put 21 = .ok (.iload_n 2, 1) := by decide +kernel
theorem d_M_put_22 : decode b_M_put 22 = .ok (.iload_n 3, 1) := by decide +kernel
theorem d_M_put_23 : decode b_M_put 23 = .ok (.invokevirtual 251, 3) := by decide +kernel
theorem d_M_put_26 : decode b_M_put 26 = .ok (.istore 5, 2) := by decide +kernel
theorem d_M_put_28 : decode b_M_put 28 = .ok (.iload 5, 2) := by decide +kernel
theorem d_M_put_30 : decode b_M_put 30 = .ok (.ifCond .le 10, 3) := by decide +kernel
theorem d_M_put_33 : decode b_M_put 33 = .ok (.aload_n 0, 1) := by decide +kernel
theorem d_M_put_34 : decode b_M_put 34 = .ok (.iload 5, 2) := by decide +kernel
theorem d_M_put_36 : decode b_M_put 36 = .ok (.invokevirtual 107, 3) := by decide +kernel
theorem d_M_put_39 : decode b_M_put 39 = .ok (.ireturn, 1) := by decide +kernel
theorem d_M_put_40 : decode b_M_put 40 = .ok (.aload_n 0, 1) := by decide +kernel
theorem d_M_put_41 : decode b_M_put 41 = .ok (.iload_n 1, 1) := by decide +kernel
theorem d_M_put_42 : decode b_M_put 42 = .ok (.iload_n 3, 1) := by decide +kernel
theorem d_M_put_43 : decode b_M_put 43 = .ok (.iload 4, 2) := by decide +kernel
theorem d_M_put_45 : decode b_M_put 45 = .ok (.invokevirtual 254, 3) := by decide +kernel
theorem d_M_put_48 : decode b_M_put 48 = .ok (.iconst 1, 1) := by decide +kernel
theorem d_M_put_49 : decode b_M_put 49 = .ok (.ireturn, 1) := by decide +kernel
theorem d_M_get_0 : decode b_M_get 0 = .ok (.iload_n 1, 1) := by decide +kernel
theorem d_M_get_1 : decode b_M_get 1 = .ok (.invokestatic 103, 3) := by decide +kernel
theorem d_M_get_4 : decode b_M_get 4 = .ok (.ifCond .eq 12, 3) := by decide +kernel
theorem d_M_get_7 : decode b_M_get 7 = .ok (.iload_n 2, 1) := by decide +kernel
theorem d_M_get_8 : decode b_M_get 8 = .ok (.iconst 0, 1) := by decide +kernel
theorem d_M_get_9 : decode b_M_get 9 = .ok (.iconst 2, 1) := by decide +kernel
theorem d_M_get_10 : decode b_M_get 10 = .ok (.invokestatic 85, 3) := by decide +kernel
theorem d_M_get_13 : decode b_M_get 13 = .ok (.ifCond .ne 7, 3) := by decide +kernel
theorem d_M_get_16 : decode b_M_get 16 = .ok (.ldc_w 258, 3) := by decide +kernel
theorem d_M_get_19 : decode b_M_get 19 = .ok (.ireturn, 1) := by decide +kernel
theorem d_M_get_20 : decode b_M_get 20 = .ok (.aload_n 0, 1) := by decide +kernel
theorem d_M_get_21 : decode b_M_get 21 = .ok (.iload_n 1, 1) := by decide +kernel
theorem d_M_get_22 : decode b_M_get 22 = .ok (.iload_n 2, 1) := by decide +kernel
theorem d_M_get_23 : decode b_M_get 23 = .ok (.iload_n 3, 1) := by decide +kernel
theorem d_M_get_24 : decode b_M_get 24 = .ok (.invokevirtual 251, 3) := by decide +kernel
theorem d_M_get_27 : decode b_M_get 27 = .ok (.istore 4, 2) := by decide +kernel
theorem d_M_get_29 : decode b_M_get 29 = .ok (.iload 4, 2) := by decide +kernel
theorem d_M_get_31 : decode b_M_get 31 = .ok (.ifCond .le 13, 3) := by decide +kernel
theorem d_M_get_34 : decode b_M_get 34 = .ok (.aload_n 0, 1) := by decide +kernel
theorem d_M_get_35 : decode b_M_get 35 = .ok (.iload 4, 2) := by decide +kernel
theorem d_M_get_37 : decode b_M_get 37 = .ok (.putfield 248, 3) := by decide +kernel
theorem d_M_get_40 : decode b_M_get 40 = .ok (.ldc_w 258, 3) := by decide +kernel
theorem d_M_get_43 : decode b_M_get 43 = .ok (.ireturn, 1) := by decide +kernel
theorem d_M_get_44 : decode b_M_get 44 = .ok (.aload_n 0, 1) := by decide +kernel
theorem d_M_get_45 : decode b_M_get 45 = .ok (.getfield 75, 3) := by decide +kernel
theorem d_M_get_48 : decode b_M_get 48 = .ok (.bipush 60, 2) := by decide +kernel
theorem d_M_get_50 : decode b_M_get 50 = .ok (.iload_n 1, 1) := by decide +kernel
theorem d_M_get_51 : decode b_M_get 51 = .ok (.imul, 1) := by decide +kernel
theorem d_M_get_52 : decode b_M_get 52 = .ok (.iload_n 3, 1) := by decide +kernel
theorem d_M_get_53 : decode b_M_get 53 = .ok (.iadd, 1) := by decide +kernel
theorem d_M_get_54 : decode b_M_get 54 = .ok (.iaload, 1) := by decide +kernel
theorem d_M_get_55 : decode b_M_get 55 = .ok (.ireturn, 1) := by decide +kernel
theorem d_M_copy_0 : decode b_M_copy 0 = .ok (.iload_n 1, 1) := by decide +kernel
theorem d_M_copy_1 : decode b_M_copy 1 = .ok (.invokestatic 103, 3) := by decide +kernel
theorem d_M_copy_4 : decode b_M_copy 4 = .ok (.ifCond .eq 10, 3) := by decide +kernel
theorem d_M_copy_7 : decode b_M_copy 7 = .ok (.iload_n 3, 1) := by decide +kernel
theorem d_M_copy_8 : decode b_M_copy 8 = .ok (.invokestatic 103, 3) := by decide +kernel
theorem d_M_copy_11 : decode b_M_copy 11 = .ok (.ifCond .ne 6, 3) := by decide +kernel
theorem d_M_copy_14 : decode b_M_copy 14 = .ok (.bipush (-2), 2) := by decide +kernel
theorem d_M_copy_16 : decode b_M_copy 16 = .ok (.ireturn, 1) := by decide +kernel
theorem d_M_copy_17 : decode b_M_copy 17 = .ok (.aload_n 0, 1) := by decide +kernel
theorem d_M_copy_18 : decode b_M_copy 18 = .ok (.getfield 65, 3) := by decide +kernel
theorem d_M_copy_21 : decode b_M_copy 21 = .ok (.iload_n 1, 1) := by decide +kernel
theorem d_M_copy_22 : decode b_M_copy 22 = .ok (.baload, 1) := by decide +kernel
theorem d_M_copy_23 : decode b_M_copy 23 = .ok (.ifCond .eq 12, 3) := by decide +kernel
theorem d_M_copy_26 : decode b_M_copy 26 = .ok (.aload_n 0, 1) := by decide +kernel
theorem d_M_copy_27 : decode b_M_copy 27 = .ok (.getfield 65, 3) := by decide +kernel
theorem d_M_copy_30 : decode b_M_copy 30 = .ok (.iload_n 3, 1) := by decide +kernel
theorem d_M_copy_31 : decode b_M_copy 31 = .ok (.baload, 1) := by decide +kernel
theorem d_M_copy_32 : decode b_M_copy 32 = .ok (.ifCond .ne 9, 3) := by decide +kernel
theorem d_M_copy_35 : decode b_M_copy 35 = .ok (.aload_n 0, 1) := by decide +kernel
theorem d_M_copy_36 : decode b_M_copy 36 = .ok (.iconst 1, 1) := by decide +kernel
theorem d_M_copy_37 : decode b_M_copy 37 = .ok (.invokevirtual 107, 3) := by decide +kernel
theorem d_M_copy_40 : decode b_M_copy 40 = .ok (.ireturn, 1) := by decide +kernel
theorem d_M_copy_41 : decode b_M_copy 41 = .ok (.aload_n 0, 1) := by decide +kernel
theorem d_M_copy_42 : decode b_M_copy 42 = .ok (.getfield 69, 3) := by decide +kernel
theorem d_M_copy_45 : decode b_M_copy 45 = .ok (.iload_n 1, 1) := by decide +kernel
theorem d_M_copy_46 : decode b_M_copy 46 = .ok (.iaload, 1) := by decide +kernel
theorem d_M_copy_47 : decode b_M_copy 47 = .ok (.aload_n 0, 1) := by decide +kernel
theorem d_M_copy_48 : decode b_M_copy 48 = .ok (.getfield 69, 3) := by decide +kernel
theorem d_M_copy_51 : decode b_M_copy 51 = .ok (.iload_n 3, 1) := by decide +kernel
theorem d_M_copy_52 : decode b_M_copy 52 = .ok (.iaload, 1) := by decide +kernel
theorem d_M_copy_53 : decode b_M_copy 53 = .ok (.if_icmp .eq 9, 3) := by decide +kernel
theorem d_M_copy_56 : decode b_M_copy 56 = .ok (.aload_n 0, 1) := by decide +kernel
theorem d_M_copy_57 : decode b_M_copy 57 = .ok (.iconst 4, 1) := by decide +kernel
theorem d_M_copy_58 : decode b_M_copy 58 = .ok (.invokevirtual 107, 3) := by decide +kernel
theorem d_M_copy_61 : decode b_M_copy 61 = .ok (.ireturn, 1) := by decide +kernel
theorem d_M_copy_62 : decode b_M_copy 62 = .ok (.iload_n 2, 1) := by decide +kernel
theorem d_M_copy_63 : decode b_M_copy 63 = .ok (.ifCond .lt 48, 3) := by decide +kernel
theorem d_M_copy_66 : decode b_M_copy 66 = .ok (.iload 4, 2) := by decide +kernel
theorem d_M_copy_68 : decode b_M_copy 68 = .ok (.ifCond .lt 43, 3) := by decide +kernel
theorem d_M_copy_71 : decode b_M_copy 71 = .ok (.iload 5, 2) := by decide +kernel
theorem d_M_copy_73 : decode b_M_copy 73 = .ok (.ifCond .lt 38, 3) := by decide +kernel
theorem d_M_copy_76 : decode b_M_copy 76 = .ok (.iload_n 2, 1) := by decide +kernel
theorem d_M_copy_77 : decode b_M_copy 77 = .ok (.i2l, 1) := by decide +kernel
theorem d_M_copy_78 : decode b_M_copy 78 = .ok (.iload 5, 2) := by decide +kernel
theorem d_M_copy_80 : decode b_M_copy 80 = .ok (.i2l, 1) := by decide +kernel
theorem d_M_copy_81 : decode b_M_copy 81 = .ok (.ladd, 1) := by decide +kernel
theorem d_M_copy_82 : decode b_M_copy 82 = .ok (.aload_n 0, 1) := by decide +kernel
theorem d_M_copy_83 : decode b_M_copy 83 = .ok (.getfield 72, 3) := by decide +kernel
theorem d_M_copy_86 : decode b_M_copy 86 = .ok (.iload_n 1, 1) := by decide +kernel
theorem d_M_copy_87 : decode b_M_copy 87 = .ok (.iaload, 1) := by decide +kernel
theorem d_M_copy_88 : decode b_M_copy 88 = .ok (.i2l, 1) := by decide +kernel
theorem d_M_copy_89 : decode b_M_copy 89 = .ok (.lcmp, 1) := by decide +kernel
theorem d_M_copy_90 : decode b_M_copy 90 = .ok (.ifCond .gt 21, 3) := by decide +kernel
theorem d_M_copy_93 : decode b_M_copy 93 = .ok (.iload 4, 2) := by decide +kernel
theorem d_M_copy_95 : decode b_M_copy 95 = .ok (.i2l, 1) := by decide +kernel
theorem d_M_copy_96 : decode b_M_copy 96 = .ok (.iload 5, 2) := by decide +kernel
theorem d_M_copy_98 : decode b_M_copy 98 = .ok (.i2l, 1) := by decide +kernel
theorem d_M_copy_99 : decode b_M_copy 99 = .ok (.ladd, 1) := by decide +kernel
theorem d_M_copy_100 : decode b_M_copy 100 = .ok (.aload_n 0, 1) := by decide +kernel
theorem d_M_copy_101 : decode b_M_copy 101 = .ok (.getfield 72, 3) := by decide +kernel
theorem d_M_copy_104 : decode b_M_copy 104 = .ok (.iload_n 3, 1) := by decide +kernel
theorem d_M_copy_105 : decode b_M_copy 105 = .ok (.iaload, 1) := by decide +kernel
theorem d_M_copy_106 : decode b_M_copy 106 = .ok (.i2l, 1) := by decide +kernel
theorem d_M_copy_107 : decode b_M_copy 107 = .ok (.lcmp, 1) := by decide +kernel
theorem d_M_copy_108 : decode b_M_copy 108 = .ok (.ifCond .le 9, 3) := by decide +kernel
theorem d_M_copy_111 : decode b_M_copy 111 = .ok (.aload_n 0, 1) := by decide +kernel
theorem d_M_copy_112 : decode b_M_copy 112 = .ok (.iconst 2, 1) := by decide +kernel
theorem d_M_copy_113 : decode b_M_copy 113 = .ok (.invokevirtual 107, 3) := by decide +kernel
theorem d_M_copy_116 : decode b_M_copy 116 = .ok (.ireturn, 1) := by decide +kernel
theorem d_M_copy_117 : decode b_M_copy 117 = .ok (.iconst 0, 1) := by decide +kernel
theorem d_M_copy_118 : decode b_M_copy 118 = .ok (.istore 6, 2) := by decide +kernel
theorem d_M_copy_120 : decode b_M_copy 120 = .ok (.iload 6, 2) := by decide +kernel
theorem d_M_copy_122 : decode b_M_copy 122 = .ok (.iload 5, 2) := by decide +kernel
theorem d_M_copy_124 : decode b_M_copy 124 = .ok (.if_icmp .ge 30, 3) := by decide +kernel
theorem d_M_copy_127 : decode b_M_copy 127 = .ok (.aload_n 0, 1) := by decide +kernel
theorem d_M_copy_128 : decode b_M_copy 128 = .ok (.getfield 78, 3) := by decide +kernel
theorem d_M_copy_131 : decode b_M_copy 131 = .ok (.iload 6, 2) := by decide +kernel
theorem d_M_copy_133 : decode b_M_copy 133 = .ok (.aload_n 0, 1) := by decide +kernel
theorem d_M_copy_134 : decode b_M_copy 134 = .ok (.getfield 75, 3) := by decide +kernel
theorem d_M_copy_137 : decode b_M_copy 137 = .ok (.bipush 60, 2) := by decide +kernel
theorem d_M_copy_139 : decode b_M_copy 139 = .ok (.iload_n 1, 1) := by decide +kernel
theorem d_M_copy_140 : decode b_M_copy 140 = .ok (.imul, 1) := by decide +kernel
theorem d_M_copy_141 : decode b_M_copy 141 = .ok (.iload_n 2, 1) := by decide +kernel
theorem d_M_copy_142 : decode b_M_copy 142 = .ok (.iadd, 1) := by decide +kernel
theorem d_M_copy_143 : decode b_M_copy 143 = .ok (.iload 6, 2) := by decide +kernel
theorem d_M_copy_145 : decode b_M_copy 145 = .ok (.iadd, 1) := by decide +kernel
theorem d_M_copy_146 : decode b_M_copy 146 = .ok (.iaload, 1) := by decide +kernel
theorem d_M_copy_147 : decode b_M_copy 147 = .ok (.iastore, 1) := by decide +kernel
theorem d_M_copy_148 : decode b_M_copy 148 = .ok (.iinc 6 1, 3) := by decide +kernel
theorem d_M_copy_151 : decode b_M_copy 151 = .ok (.goto (-31), 3) := by decide +kernel
theorem d_M_copy_154 : decode b_M_copy 154 = .ok (.iconst 0, 1) := by decide +kernel
theorem d_M_copy_155 : decode b_M_copy 155 = .ok (.istore 6, 2) := by decide +kernel
theorem d_M_copy_157 : decode b_M_copy 157 = .ok (.iload 6, 2) := by decide +kernel
theorem d_M_copy_159 : decode b_M_copy 159 = .ok (.iload 5, 2) := by decide +kernel
theorem d_M_copy_161 : decode b_M_copy 161 = .ok (.if_icmp .ge 31, 3) := by decide +kernel
theorem d_M_copy_164 : decode b_M_copy 164 = .ok (.aload_n 0, 1) := by decide +kernel
theorem d_M_copy_165 : decode b_M_copy 165 = .ok (.getfield 75, 3) := by decide +kernel
theorem d_M_copy_168 : decode b_M_copy 168 = .ok (.bipush 60, 2) := by decide +kernel
theorem d_M_copy_170 : decode b_M_copy 170 = .ok (.iload_n 3, 1) := by decide +kernel
theorem d_M_copy_171 : decode b_M_copy 171 = .ok (.imul, 1) := by decide +kernel
theorem d_M_copy_172 : decode b_M_copy 172 = .ok (.iload 4, 2) := by decide +kernel
theorem d_M_copy_174 : decode b_M_copy 174 = .ok (.iadd, 1) := by decide +kernel
theorem d_M_copy_175 : decode b_M_copy 175 = .ok (.iload 6, 2) := by decide +kernel
theorem d_M_copy_177 : decode b_M_copy 177 = .ok (.iadd, 1) := by decide +kernel
theorem d_M_copy_178 : decode b_M_copy 178 = .ok (.aload_n 0, 1) := by decide +kernel
theorem d_M_copy_179 : decode b_M_copy 179 = .ok (.getfield 78, 3) := by decide +kernel
theorem d_M_copy_182 : decode b_M_copy 182 = .ok (.iload 6, 2) := by decide +kernel
theorem d_M_copy_184 : decode b_M_copy 184 = .ok (.iaload, 1) := by decide +kernel
theorem d_M_copy_185 : decode b_M_copy 185 = .ok (.iastore, 1) := by decide +kernel
theorem d_M_copy_186 : decode b_M_copy 186 = .ok (.iinc 6 1, 3) := by decide +kernel
theorem d_M_copy_189 : decode b_M_copy 189 = .ok (.goto (-32), 3) := by decide +kernel
theorem d_M_copy_192 : decode b_M_copy 192 = .ok (.iconst 1, 1) := by decide +kernel
theorem d_M_copy_193 : decode b_M_copy 193 = .ok (.ireturn, 1) := by decide +kernel
theorem d_M_write_0 : decode b_M_write 0 = .ok (.iload_n 1, 1) := by decide +kernel
theorem d_M_write_1 : decode b_M_write 1 = .ok (.iconst 0, 1) := by decide +kernel
theorem d_M_write_2 : decode b_M_write 2 = .ok (.ldc 195, 2) := by decide +kernel
theorem d_M_write_4 : decode b_M_write 4 = .ok (.invokestatic 85, 3) := by decide +kernel
theorem d_M_write_7 : decode b_M_write 7 = .ok (.ifCond .eq 10, 3) := by decide +kernel
theorem d_M_write_10 : decode b_M_write 10 = .ok (.iload_n 2, 1) := by decide +kernel
theorem d_M_write_11 : decode b_M_write 11 = .ok (.invokestatic 103, 3) := by decide +kernel
theorem d_M_write_14 : decode b_M_write 14 = .ok (.ifCond .ne 6, 3) := by decide +kernel
theorem d_M_write_17 : decode b_M_write 17 = .ok (.bipush (-2), 2) := by decide +kernel
theorem d_M_write_19 : decode b_M_write 19 = .ok (.ireturn, 1) := by decide +kernel
theorem d_M_write_20 : decode b_M_write 20 = .ok (.aload_n 0, 1) := by decide +kernel
theorem d_M_write_21 : decode b_M_write 21 = .ok (.getfield 65, 3) := by decide +kernel
theorem d_M_write_24 : decode b_M_write 24 = .ok (.iload_n 2, 1) := by decide +kernel
theorem d_M_write_25 : decode b_M_write 25 = .ok (.baload, 1) := by decide +kernel
theorem d_M_write_26 : decode b_M_write 26 = .ok (.ifCond .ne 9, 3) := by decide +kernel
theorem d_M_write_29 : decode b_M_write 29 = .ok (.aload_n 0, 1) := by decide +kernel
theorem d_M_write_30 : decode b_M_write 30 = .ok (.iconst 1, 1) := by decide +kernel
theorem d_M_write_31 : decode b_M_write 31 = .ok (.invokevirtual 107, 3) := by decide +kernel
theorem d_M_write_34 : decode b_M_write 34 = .ok (.ireturn, 1) := by decide +kernel
theorem d_M_write_35 : decode b_M_write 35 = .ok (.iload_n 1, 1) := by decide +kernel
theorem d_M_write_36 : decode b_M_write 36 = .ok (.aload_n 0, 1) := by decide +kernel
theorem d_M_write_37 : decode b_M_write 37 = .ok (.invokevirtual 127, 3) := by decide +kernel
theorem d_M_write_40 : decode b_M_write 40 = .ok (.if_icmp .lt 5, 3) := by decide +kernel
theorem d_M_write_43 : decode b_M_write 43 = .ok (.iconst 0, 1) := by decide +kernel
theorem d_M_write_44 : decode b_M_write 44 = .ok (.ireturn, 1) := by decide +kernel
theorem d_M_write_45 : decode b_M_write 45 = .ok (.aload_n 0, 1) := by decide +kernel
theorem d_M_write_46 : decode b_M_write 46 = .ok (.invokevirtual 171, 3) := by decide +kernel
theorem d_M_write_49 : decode b_M_write 49 = .ok (.aload_n 0, 1) := by decide +kernel
theorem d_M_write_50 : decode b_M_write 50 = .ok (.iload_n 1, 1) := by decide +kernel
theorem d_M_write_51 : decode b_M_write 51 = .ok (.invokevirtual 192, 3) := by decide +kernel
theorem d_M_write_54 : decode b_M_write 54 = .ok (.iconst 0, 1) := by decide +kernel
theorem d_M_write_55 : decode b_M_write 55 = .ok (.istore_n 3, 1) := by decide +kernel
theorem d_M_write_56 : decode b_M_write 56 = .ok (.iload_n 3, 1) := by decide +kernel
theorem d_M_write_57 : decode b_M_write 57 = .ok (.aload_n 0, 1) := by decide +kernel
theorem d_M_write_58 : decode b_M_write 58 = .ok (.getfield 72, 3) := by decide +kernel
theorem d_M_write_61 : decode b_M_write 61 = .ok (.iload_n 2, 1) := by decide +kernel
theorem d_M_write_62 : decode b_M_write 62 = .ok (.iaload, 1) := by decide +kernel
theorem d_M_write_63 : decode b_M_write 63 = .ok (.if_icmp .ge 29, 3) := by decide +kernel
theorem d_M_write_66 : decode b_M_write 66 = .ok (.iload_n 3, 1) := by decide +kernel
theorem d_M_write_67 : decode b_M_write 67 = .ok (.aload_n 0, 1) := by decide +kernel
theorem d_M_write_68 : decode b_M_write 68 = .ok (.getfield 7, 3) := by decide +kernel
theorem d_M_write_71 : decode b_M_write 71 = .ok (.if_icmp .ge 21, 3) := by decide +kernel
theorem d_M_write_74 : decode b_M_write 74 = .ok (.aload_n 0, 1) := by decide +kernel
theorem d_M_write_75 : decode b_M_write 75 = .ok (.iload_n 2, 1) := by decide +kernel
theorem d_M_write_76 : decode b_M_write 76 = .ok (.iload_n 3, 1) := by decide +kernel
theorem d_M_write_77 : decode b_M_write 77 = .ok (.aload_n 0, 1) := by decide +kernel
theorem d_M_write_78 : decode b_M_write 78 = .ok (.getfield 53, 3) := by decide +kernel
theorem d_M_write_81 : decode b_M_write 81 = .ok (.iload_n 3, 1) := by decide +kernel
theorem d_M_write_82 : decode b_M_write 82 = .ok (.iaload, 1) := by decide +kernel
theorem d_M_write_83 : decode b_M_write 83 = .ok (.invokevirtual 254, 3) := by decide +kernel
theorem d_M_write_86 : decode b_M_write 86 = .ok (.iinc 3 1, 3) := by decide +kernel
theorem d_M_write_89 : decode b_M_write 89 = .ok (.goto (-33), 3) := by decide +kernel
theorem d_M_write_92 : decode b_M_write 92 = .ok (.iload_n 3, 1) := by decide +kernel
theorem d_M_write_93 : decode b_M_write 93 = .ok (.ireturn, 1) := by decide +kernel
theorem d_M_takenMany_0 : decode b_M_takenMany 0 = .ok (.aload_n 0, 1) := by decide +kernel
theorem d_M_takenMany_1 : decode b_M_takenMany 1 = .ok (.invokevirtual 96, 3) := by decide +kernel
theorem d_M_takenMany_4 : decode b_M_takenMany 4 = .ok (.istore_n 1, 1) := by decide +kernel
theorem d_M_takenMany_5 : decode b_M_takenMany 5 = .ok (.iconst 0, 1) := by decide +kernel
theorem d_M_takenMany_6 : decode b_M_takenMany 6 = .ok (.istore_n 2, 1) := by decide +kernel
theorem d_M_takenMany_7 : decode b_M_takenMany 7 = .ok (.iconst 0, 1) := by decide +kernel
theorem d_M_takenMany_8 : decode b_M_takenMany 8 = .ok (.istore_n 3, 1) := by decide +kernel
theorem d_M_takenMany_9 : decode b_M_takenMany 9 = .ok (.iload_n 3, 1) := by decide +kernel
theorem d_M_takenMany_10 : decode b_M_takenMany 10 = .ok (.aload_n 0, 1) := by decide +kernel
theorem d_M_takenMany_11 : decode b_M_takenMany 11 = .ok (.getfield 93, 3) := by decide +kernel
theorem d_M_takenMany_14 : decode b_M_takenMany 14 = .ok (.if_icmp .ge 25, 3) := by decide +kernel
theorem d_M_takenMany_17 : decode b_M_takenMany 17 = .ok (.iload_n 2, 1) := by decide +kernel
theorem d_M_takenMany_18 : decode b_M_takenMany 18 = .ok (.iload_n 1, 1) := by decide +kernel
theorem d_M_takenMany_19 : decode b_M_takenMany 19 = .ok (.iload_n 3, 1) := by decide +kernel
theorem d_M_takenMany_20 : decode b_M_takenMany 20 = .ok (.invokestatic 81, 3) := by decide +kernel
theorem d_M_takenMany_23 : decode b_M_takenMany 23 = .ok (.ifCond .eq 7, 3) := by decide +kernel
theorem d_M_takenMany_26 : decode b_M_takenMany 26 = .ok (.iconst 1, 1) := by decide +kernel
theorem d_M_takenMany_27 : decode b_M_takenMany 27 = .ok (.goto 4, 3) := by decide +kernel
theorem d_M_takenMany_30 : decode b_M_takenMany 30 = .ok (.iconst 0, 1) := by decide +kernel
theorem d_M_takenMany_31 : decode b_M_takenMany 31 = .ok (.iadd, 1) := by decide +kernel
theorem d_M_takenMany_32 : decode b_M_takenMany 32 = .ok (.istore_n 2, 1) := by decide +kernel
theorem d_M_takenMany_33 : decode b_M_takenMany 33 = .ok (.iinc 3 1, 3) := by decide +kernel
theorem d_M_takenMany_36 : decode b_M_takenMany 36 = .ok (.goto (-27), 3) := by decide +kernel
theorem d_M_takenMany_39 : decode b_M_takenMany 39 = .ok (.iload_n 2, 1) := by decide +kernel
theorem d_M_takenMany_40 : decode b_M_takenMany 40 = .ok (.ireturn, 1) := by decide +kernel
theorem d_M_nodesOf_0 : decode b_M_nodesOf 0 = .ok (.aload_n 0, 1) := by decide +kernel
theorem d_M_nodesOf_1 : decode b_M_nodesOf 1 = .ok (.invokevirtual 171, 3) := by decide +kernel
theorem d_M_nodesOf_4 : decode b_M_nodesOf 4 = .ok (.iconst 0, 1) := by decide +kernel
theorem d_M_nodesOf_5 : decode b_M_nodesOf 5 = .ok (.istore_n 2, 1) := by decide +kernel
theorem d_M_nodesOf_6 : decode b_M_nodesOf 6 = .ok (.iconst 0, 1) := by decide +kernel
theorem d_M_nodesOf_7 : decode b_M_nodesOf 7 = .ok (.istore_n 3, 1) := by decide +kernel
theorem d_M_nodesOf_8 : decode b_M_nodesOf 8 = .ok (.iload_n 3, 1) := by decide +kernel
theorem d_M_nodesOf_9 : decode b_M_nodesOf 9 = .ok (.aload_n 0, 1) := by decide +kernel
theorem d_M_nodesOf_10 : decode b_M_nodesOf 10 = .ok (.getfield 156, 3) := by decide +kernel
theorem d_M_nodesOf_13 : decode b_M_nodesOf 13 = .ok (.if_icmp .ge 26, 3) := by decide +kernel
theorem d_M_nodesOf_16 : decode b_M_nodesOf 16 = .ok (.iload_n 2, 1) := by decide +kernel
theorem d_M_nodesOf_17 : decode b_M_nodesOf 17 = .ok (.iload_n 1, 1) := by decide +kernel
theorem d_M_nodesOf_18 : decode b_M_nodesOf 18 = .ok (.ifCond .eq 12, 3) := by decide +kernel
theorem d_M_nodesOf_21 : decode b_M_nodesOf 21 = .ok (.aload_n 0, 1) := by decide +kernel
theorem d_M_nodesOf_22 : decode b_M_nodesOf 22 = .ok (.getfield 32, 3) := by decide +kernel
theorem d_M_nodesOf_25 : decode b_M_nodesOf 25 = .ok (.iload_n 3, 1) := by decide +kernel
theorem d_M_nodesOf_26 : decode b_M_nodesOf 26 = .ok (.iaload, 1) := by decide +kernel
theorem d_M_nodesOf_27 : decode b_M_nodesOf 27 = .ok (.goto 4, 3) := by decide +kernel
theorem d_M_nodesOf_30 : decode b_M_nodesOf 30 = .ok (.iconst 1, 1) := by decide +kernel
theorem d_M_nodesOf_31 : decode b_M_nodesOf 31 = .ok (.iadd, 1) := by decide +kernel
theorem d_M_nodesOf_32 : decode b_M_nodesOf 32 = .ok (.istore_n 2, 1) := by decide +kernel
theorem d_M_nodesOf_33 : decode b_M_nodesOf 33 = .ok (.iinc 3 1, 3) := by decide +kernel
theorem d_M_nodesOf_36 : decode b_M_nodesOf 36 = .ok (.goto (-28), 3) := by decide +kernel
theorem d_M_nodesOf_39 : decode b_M_nodesOf 39 = .ok (.iload_n 2, 1) := by decide +kernel
theorem d_M_nodesOf_40 : decode b_M_nodesOf 40 = .ok (.ireturn, 1) := by decide +kernel
theorem d_M_count_0 : decode b_M_count 0 = .ok (.iload_n 1, 1) := by decide +kernel
theorem d_M_count_1 : decode b_M_count 1 = .ok (.tableswitch 99 0 8 #[51, 56, 61, 66, 72, 78, 83, 89, 94], 51) := by decide +kernel
theorem d_M_count_52 : decode b_M_count 52 = .ok (.aload_n 0, 1) := by decide +kernel
theorem d_M_count_53 : decode b_M_count 53 = .ok (.getfield 7, 3) := by decide +kernel
theorem d_M_count_56 : decode b_M_count 56 = .ok (.ireturn, 1) := by decide +kernel
theorem d_M_count_57 : decode b_M_count 57 = .ok (.aload_n 0, 1) := by decide +kernel
theorem d_M_count_58 : decode b_M_count 58 = .ok (.getfield 93, 3) := by decide +kernel
theorem d_M_count_61 : decode b_M_count 61 = .ok (.ireturn, 1) := by decide +kernel
theorem d_M_count_62 : decode b_M_count 62 = .ok (.aload_n 0, 1) := by decide +kernel
theorem d_M_count_63 : decode b_M_count 63 = .ok (.invokevirtual 259, 3) := by decide +kernel
theorem d_M_count_66 : decode b_M_count 66 = .ok (.ireturn, 1) := by decide +kernel
theorem d_M_count_67 : decode b_M_count 67 = .ok (.aload_n 0, 1) := by decide +kernel
theorem d_M_count_68 : decode b_M_count 68 = .ok (.iconst 0, 1) := by decide +kernel
theorem d_M_count_69 : decode b_M_count 69 = .ok (.invokevirtual 262, 3) := by decide +kernel
theorem d_M_count_72 : decode b_M_count 72 = .ok (.ireturn, 1) := by decide +kernel
theorem d_M_count_73 : decode b_M_count 73 = .ok (.aload_n 0, 1) := by decide +kernel
theorem d_M_count_74 : decode b_M_count 74 = .ok (.iconst 1, 1) := by decide +kernel
theorem d_M_count_75 : decode b_M_count 75 = .ok (.invokevirtual 262, 3) := by decide +kernel
theorem d_M_count_78 : decode b_M_count 78 = .ok (.ireturn, 1) := by decide +kernel
theorem d_M_count_79 : decode b_M_count 79 = .ok (.aload_n 0, 1) := by decide +kernel
theorem d_M_count_80 : decode b_M_count 80 = .ok (.invokevirtual 127, 3) := by decide +kernel
theorem d_M_count_83 : decode b_M_count 83 = .ok (.ireturn, 1) := by decide +kernel
theorem d_M_count_84 : decode b_M_count 84 = .ok (.aload_n 0, 1) := by decide +kernel
theorem d_M_count_85 : decode b_M_count 85 = .ok (.iconst (-1), 1) := by decide +kernel
theorem d_M_count_86 : decode b_M_count 86 = .ok (.invokevirtual 174, 3) := by decide +kernel
theorem d_M_count_89 : decode b_M_count 89 = .ok (.ireturn, 1) := by decide +kernel
theorem d_M_count_90 : decode b_M_count 90 = .ok (.aload_n 0, 1) := by decide +kernel
theorem d_M_count_91 : decode b_M_count 91 = .ok (.getfield 223, 3) := by decide +kernel
theorem d_M_count_94 : decode b_M_count 94 = .ok (.ireturn, 1) := by decide +kernel
theorem d_M_count_95 : decode b_M_count 95 = .ok (.aload_n 0, 1) := by decide +kernel
theorem d_M_count_96 : decode b_M_count 96 = .ok (.getfield 248, 3) := by decide +kernel
theorem d_M_count_99 : decode b_M_count 99 = .ok (.ireturn, 1) := by decide +kernel
theorem d_M_count_100 : decode b_M_count 100 = .ok (.bipush (-2), 2) := by decide +kernel
theorem d_M_count_102 : decode b_M_count 102 = .ok (.ireturn, 1) := by decide +kernel
theorem d_M_rowDigest_0 : decode b_M_rowDigest 0 = .ok (.lload_n 1, 1) := by decide +kernel
theorem d_M_rowDigest_1 : decode b_M_rowDigest 1 = .ok (.lstore 4, 2) := by decide +kernel
theorem d_M_rowDigest_3 : decode b_M_rowDigest 3 = .ok (.iconst 0, 1) := by decide +kernel
theorem d_M_rowDigest_4 : decode b_M_rowDigest 4 = .ok (.istore 6, 2) := by decide +kernel
theorem d_M_rowDigest_6 : decode b_M_rowDigest 6 = .ok (.iload 6, 2) := by decide +kernel
theorem d_M_rowDigest_8 : decode b_M_rowDigest 8 = .ok (.bipush 8, 2) := by decide +kernel
theorem d_M_rowDigest_10 : decode b_M_rowDigest 10 = .ok (.if_icmp .ge 26, 3) := by decide +kernel
theorem d_M_rowDigest_13 : decode b_M_rowDigest 13 = .ok (.ldc2_w 266, 3) := by decide +kernel
theorem d_M_rowDigest_16 : decode b_M_rowDigest 16 = .ok (.lload 4, 2) := by decide +kernel
theorem d_M_rowDigest_18 : decode b_M_rowDigest 18 = .ok (.lmul, 1) := by decide +kernel
theorem d_M_rowDigest_19 : decode b_M_rowDigest 19 = .ok (.aload_n 0, 1) := by decide +kernel
theorem d_M_rowDigest_20 : decode b_M_rowDigest 20 = .ok (.iload_n 3, 1) := by decide +kernel
theorem d_M_rowDigest_21 : decode b_M_rowDigest 21 = .ok (.iload 6, 2) := by decide +kernel
theorem d_M_rowDigest_23 : decode b_M_rowDigest 23 = .ok (.invokevirtual 196, 3) := by decide +kernel
theorem d_M_rowDigest_26 : decode b_M_rowDigest 26 = .ok (.i2l, 1) := by decide +kernel
theorem d_M_rowDigest_27 : decode b_M_rowDigest 27 = .ok (.ladd, 1) := by decide +kernel
theorem d_M_rowDigest_28 : decode b_M_rowDigest 28 = .ok (.lstore 4, 2) := by decide +kernel
theorem d_M_rowDigest_30 : decode b_M_rowDigest 30 = .ok (.iinc 6 1, 3) := by decide +kernel
theorem d_M_rowDigest_33 : decode b_M_rowDigest 33 = .ok (.goto (-27), 3) := by decide +kernel
theorem d_M_rowDigest_36 : decode b_M_rowDigest 36 = .ok (.lload 4, 2) := by decide +kernel
theorem d_M_rowDigest_38 : decode b_M_rowDigest 38 = .ok (.lreturn, 1) := by decide +kernel
theorem d_M_setDigest_0 : decode b_M_setDigest 0 = .ok (.ldc2_w 266, 3) := by decide +kernel
theorem d_M_setDigest_3 : decode b_M_setDigest 3 = .ok (.lload_n 1, 1) := by decide +kernel
theorem d_M_setDigest_4 : decode b_M_setDigest 4 = .ok (.lmul, 1) := by decide +kernel
theorem d_M_setDigest_5 : decode b_M_setDigest 5 = .ok (.aload_n 0, 1) := by decide +kernel
theorem d_M_setDigest_6 : decode b_M_setDigest 6 = .ok (.iload_n 3, 1) := by decide +kernel
theorem d_M_setDigest_7 : decode b_M_setDigest 7 = .ok (.invokevirtual 268, 3) := by decide +kernel
theorem d_M_setDigest_10 : decode b_M_setDigest 10 = .ok (.i2l, 1) := by decide +kernel
theorem d_M_setDigest_11 : decode b_M_setDigest 11 = .ok (.ladd, 1) := by decide +kernel
theorem d_M_setDigest_12 : decode b_M_setDigest 12 = .ok (.lstore 4, 2) := by decide +kernel
theorem d_M_setDigest_14 : decode b_M_setDigest 14 = .ok (.ldc2_w 266, 3) := by decide +kernel
theorem d_M_setDigest_17 : decode b_M_setDigest 17 = .ok (.lload 4, 2) := by decide +kernel
theorem d_M_setDigest_19 : decode b_M_setDigest 19 = .ok (.lmul, 1) := by decide +kernel
theorem d_M_setDigest_20 : decode b_M_setDigest 20 = .ok (.aload_n 0, 1) := by decide +kernel
theorem d_M_setDigest_21 : decode b_M_setDigest 21 = .ok (.iload_n 3, 1) := by decide +kernel
theorem d_M_setDigest_22 : decode b_M_setDigest 22 = .ok (.invokevirtual 271, 3) := by decide +kernel
theorem d_M_setDigest_25 : decode b_M_setDigest 25 = .ok (.i2l, 1) := by decide +kernel
theorem d_M_setDigest_26 : decode b_M_setDigest 26 = .ok (.ladd, 1) := by decide +kernel
theorem d_M_setDigest_27 : decode b_M_setDigest 27 = .ok (.lreturn, 1) := by decide +kernel
theorem d_M_digest_0 : decode b_M_digest 0 = .ok (.ldc2_w 274, 3) := by decide +kernel
theorem d_M_digest_3 : decode b_M_digest 3 = .ok (.lstore_n 1, 1) := by decide +kernel
theorem d_M_digest_4 : decode b_M_digest 4 = .ok (.iconst 0, 1) := by decide +kernel
theorem d_M_digest_5 : decode b_M_digest 5 = .ok (.istore_n 3, 1) := by decide +kernel
theorem d_M_digest_6 : decode b_M_digest 6 = .ok (.iload_n 3, 1) := by decide +kernel
theorem d_M_digest_7 : decode b_M_digest 7 = .ok (.bipush 8, 2) := by decide +kernel
theorem d_M_digest_9 : decode b_M_digest 9 = .ok (.if_icmp .ge 22, 3) := by decide +kernel
theorem d_M_digest_12 : decode b_M_digest 12 = .ok (.ldc2_w 266, 3) := by decide +kernel
theorem d_M_digest_15 : decode b_M_digest 15 = .ok (.lload_n 1, 1) := by decide +kernel
theorem d_M_digest_16 : decode b_M_digest 16 = .ok (.lmul, 1) := by decide +kernel
theorem d_M_digest_17 : decode b_M_digest 17 = .ok (.aload_n 0, 1) := by decide +kernel
theorem d_M_digest_18 : decode b_M_digest 18 = .ok (.iload_n 3, 1) := by decide +kernel
theorem d_M_digest_19 : decode b_M_digest 19 = .ok (.invokevirtual 276, 3) := by decide +kernel
theorem d_M_digest_22 : decode b_M_digest 22 = .ok (.i2l, 1) := by decide +kernel
theorem d_M_digest_23 : decode b_M_digest 23 = .ok (.ladd, 1) := by decide +kernel
theorem d_M_digest_24 : decode b_M_digest 24 = .ok (.lstore_n 1, 1) := by decide +kernel
theorem d_M_digest_25 : decode b_M_digest 25 = .ok (.iinc 3 1, 3) := by decide +kernel
theorem d_M_digest_28 : decode b_M_digest 28 = .ok (.goto (-22), 3) := by decide +kernel
theorem d_M_digest_31 : decode b_M_digest 31 = .ok (.iconst 0, 1) := by decide +kernel
theorem d_M_digest_32 : decode b_M_digest 32 = .ok (.istore_n 3, 1) := by decide +kernel
theorem d_M_digest_33 : decode b_M_digest 33 = .ok (.iload_n 3, 1) := by decide +kernel
theorem d_M_digest_34 : decode b_M_digest 34 = .ok (.aload_n 0, 1) := by decide +kernel
theorem d_M_digest_35 : decode b_M_digest 35 = .ok (.getfield 93, 3) := by decide +kernel
theorem d_M_digest_38 : decode b_M_digest 38 = .ok (.if_icmp .ge 35, 3) := by decide +kernel
theorem d_M_digest_41 : decode b_M_digest 41 = .ok (.ldc2_w 266, 3) := by decide +kernel
theorem d_M_digest_44 : decode b_M_digest 44 = .ok (.lload_n 1, 1) := by decide +kernel
theorem d_M_digest_45 : decode b_M_digest 45 = .ok (.lmul, 1) := by decide +kernel
theorem d_M_digest_46 : decode b_M_digest 46 = .ok (.aload_n 0, 1) := by decide +kernel
theorem d_M_digest_47 : decode b_M_digest 47 = .ok (.iload_n 3, 1) := by decide +kernel
theorem d_M_digest_48 : decode b_M_digest 48 = .ok (.invokevirtual 279, 3) := by decide +kernel
theorem d_M_digest_51 : decode b_M_digest 51 = .ok (.i2l, 1) := by decide +kernel
theorem d_M_digest_52 : decode b_M_digest 52 = .ok (.ladd, 1) := by decide +kernel
theorem d_M_digest_53 : decode b_M_digest 53 = .ok (.lstore_n 1, 1) := by decide +kernel
theorem d_M_digest_54 : decode b_M_digest 54 = .ok (.ldc2_w 266, 3) := by decide +kernel
theorem d_M_digest_57 : decode b_M_digest 57 = .ok (.lload_n 1, 1) := by decide +kernel
theorem d_M_digest_58 : decode b_M_digest 58 = .ok (.lmul, 1) := by decide +kernel
theorem d_M_digest_59 : decode b_M_digest 59 = .ok (.aload_n 0, 1) := by decide +kernel
theorem d_M_digest_60 : decode b_M_digest 60 = .ok (.iload_n 3, 1) := by decide +kernel
theorem d_M_digest_61 : decode b_M_digest 61 = .ok (.invokevirtual 282, 3) := by decide +kernel
theorem d_M_digest_64 : decode b_M_digest 64 = .ok (.i2l, 1) := by decide +kernel
theorem d_M_digest_65 : decode b_M_digest 65 = .ok (.ladd, 1) := by decide +kernel
theorem d_M_digest_66 : decode b_M_digest 66 = .ok (.lstore_n 1, 1) := by decide +kernel
theorem d_M_digest_67 : decode b_M_digest 67 = .ok (.iinc 3 1, 3) := by decide +kernel
theorem d_M_digest_70 : decode b_M_digest 70 = .ok (.goto (-37), 3) := by decide +kernel
theorem d_M_digest_73 : decode b_M_digest 73 = .ok (.ldc2_w 266, 3) := by decide +kernel
theorem d_M_digest_76 : decode b_M_digest 76 = .ok (.lload_n 1, 1) := by decide +kernel
theorem d_M_digest_77 : decode b_M_digest 77 = .ok (.lmul, 1) := by decide +kernel
theorem d_M_digest_78 : decode b_M_digest 78 = .ok (.aload_n 0, 1) := by decide +kernel
theorem d_M_digest_79 : decode b_M_digest 79 = .ok (.invokevirtual 127, 3) := by decide +kernel
theorem d_M_digest_82 : decode b_M_digest 82 = .ok (.i2l, 1) := by decide +kernel
theorem d_M_digest_83 : decode b_M_digest 83 = .ok (.ladd, 1) := by decide +kernel
theorem d_M_digest_84 : decode b_M_digest 84 = .ok (.lstore_n 1, 1) := by decide +kernel
theorem d_M_digest_85 : decode b_M_digest 85 = .ok (.iconst (-1), 1) := by decide +kernel
theorem d_M_digest_86 : decode b_M_digest 86 = .ok (.istore_n 3, 1) := by decide +kernel
theorem d_M_digest_87 : decode b_M_digest 87 = .ok (.iload_n 3, 1) := by decide +kernel
theorem d_M_digest_88 : decode b_M_digest 88 = .ok (.bipush 40, 2) := by decide +kernel
theorem d_M_digest_90 : decode b_M_digest 90 = .ok (.if_icmp .ge 22, 3) := by decide +kernel
theorem d_M_digest_93 : decode b_M_digest 93 = .ok (.ldc2_w 266, 3) := by decide +kernel
theorem d_M_digest_96 : decode b_M_digest 96 = .ok (.lload_n 1, 1) := by decide +kernel
theorem d_M_digest_97 : decode b_M_digest 97 = .ok (.lmul, 1) := by decide +kernel
theorem d_M_digest_98 : decode b_M_digest 98 = .ok (.aload_n 0, 1) := by decide +kernel
theorem d_M_digest_99 : decode b_M_digest 99 = .ok (.iload_n 3, 1) := by decide +kernel
theorem d_M_digest_100 : decode b_M_digest 100 = .ok (.invokevirtual 174, 3) := by decide +kernel
theorem d_M_digest_103 : decode b_M_digest 103 = .ok (.i2l, 1) := by decide +kernel
theorem d_M_digest_104 : decode b_M_digest 104 = .ok (.ladd, 1) := by decide +kernel
theorem d_M_digest_105 : decode b_M_digest 105 = .ok (.lstore_n 1, 1) := by decide +kernel
theorem d_M_digest_106 : decode b_M_digest 106 = .ok (.iinc 3 1, 3) := by decide +kernel
theorem d_M_digest_109 : decode b_M_digest 109 = .ok (.goto (-22), 3) := by decide +kernel
theorem d_M_digest_112 : decode b_M_digest 112 = .ok (.iconst 0, 1) := by decide +kernel
theorem d_M_digest_113 : decode b_M_digest 113 = .ok (.istore_n 3, 1) := by decide +kernel
theorem d_M_digest_114 : decode b_M_digest 114 = .ok (.iload_n 3, 1) := by decide +kernel
theorem d_M_digest_115 : decode b_M_digest 115 = .ok (.bipush 7, 2) := by decide +kernel
theorem d_M_digest_117 : decode b_M_digest 117 = .ok (.if_icmp .ge 39, 3) := by decide +kernel
theorem d_M_digest_120 : decode b_M_digest 120 = .ok (.iconst 0, 1) := by decide +kernel
theorem d_M_digest_121 : decode b_M_digest 121 = .ok (.istore 4, 2) := by decide +kernel
theorem d_M_digest_123 : decode b_M_digest 123 = .ok (.iload 4, 2) := by decide +kernel
theorem d_M_digest_125 : decode b_M_digest 125 = .ok (.iconst 3, 1) := by decide +kernel
theorem d_M_digest_126 : decode b_M_digest 126 = .ok (.if_icmp .ge 24, 3) := by decide +kernel
theorem d_M_digest_129 : decode b_M_digest 129 = .ok (.ldc2_w 266, 3) := by decide +kernel
theorem d_M_digest_132 : decode b_M_digest 132 = .ok (.lload_n 1, 1) := by decide +kernel
theorem d_M_digest_133 : decode b_M_digest 133 = .ok (.lmul, 1) := by decide +kernel
theorem d_M_digest_134 : decode b_M_digest 134 = .ok (.aload_n 0, 1) := by decide +kernel
theorem d_M_digest_135 : decode b_M_digest 135 = .ok (.iload_n 3, 1) := by decide +kernel
theorem d_M_digest_136 : decode b_M_digest 136 = .ok (.iload 4, 2) := by decide +kernel
theorem d_M_digest_138 : decode b_M_digest 138 = .ok (.invokevirtual 177, 3) := by decide +kernel
theorem d_M_digest_141 : decode b_M_digest 141 = .ok (.i2l, 1) := by decide +kernel
theorem d_M_digest_142 : decode b_M_digest 142 = .ok (.ladd, 1) := by decide +kernel
theorem d_M_digest_143 : decode b_M_digest 143 = .ok (.lstore_n 1, 1) := by decide +kernel
theorem d_M_digest_144 : decode b_M_digest 144 = .ok (.iinc 4 1, 3) := by decide +kernel
theorem d_M_digest_147 : decode b_M_digest 147 = .ok (.goto (-24), 3) := by decide +kernel
theorem d_M_digest_150 : decode b_M_digest 150 = .ok (.iinc 3 1, 3) := by decide +kernel
theorem d_M_digest_153 : decode b_M_digest 153 = .ok (.goto (-39), 3) := by decide +kernel
theorem d_M_digest_156 : decode b_M_digest 156 = .ok (.aload_n 0, 1) := by decide +kernel
theorem d_M_digest_157 : decode b_M_digest 157 = .ok (.lload_n 1, 1) := by decide +kernel
theorem d_M_digest_158 : decode b_M_digest 158 = .ok (.iconst 0, 1) := by decide +kernel
theorem d_M_digest_159 : decode b_M_digest 159 = .ok (.invokevirtual 285, 3) := by decide +kernel
theorem d_M_digest_162 : decode b_M_digest 162 = .ok (.lstore_n 1, 1) := by decide +kernel
theorem d_M_digest_163 : decode b_M_digest 163 = .ok (.aload_n 0, 1) := by decide +kernel
theorem d_M_digest_164 : decode b_M_digest 164 = .ok (.lload_n 1, 1) := by decide +kernel
theorem d_M_digest_165 : decode b_M_digest 165 = .ok (.iconst 1, 1) := by decide +kernel
theorem d_M_digest_166 : decode b_M_digest 166 = .ok (.invokevirtual 285, 3) := by decide +kernel
theorem d_M_digest_169 : decode b_M_digest 169 = .ok (.lstore_n 1, 1) := by decide +kernel
theorem d_M_digest_170 : decode b_M_digest 170 = .ok (.aload_n 0, 1) := by decide +kernel
theorem d_M_digest_171 : decode b_M_digest 171 = .ok (.lload_n 1, 1) := by decide +kernel
theorem d_M_digest_172 : decode b_M_digest 172 = .ok (.iconst 2, 1) := by decide +kernel
theorem d_M_digest_173 : decode b_M_digest 173 = .ok (.invokevirtual 285, 3) := by decide +kernel
theorem d_M_digest_176 : decode b_M_digest 176 = .ok (.lstore_n 1, 1) := by decide +kernel
theorem d_M_digest_177 : decode b_M_digest 177 = .ok (.aload_n 0, 1) := by decide +kernel
theorem d_M_digest_178 : decode b_M_digest 178 = .ok (.lload_n 1, 1) := by decide +kernel
theorem d_M_digest_179 : decode b_M_digest 179 = .ok (.iconst 5, 1) := by decide +kernel
theorem d_M_digest_180 : decode b_M_digest 180 = .ok (.invokevirtual 285, 3) := by decide +kernel
theorem d_M_digest_183 : decode b_M_digest 183 = .ok (.lstore_n 1, 1) := by decide +kernel
theorem d_M_digest_184 : decode b_M_digest 184 = .ok (.aload_n 0, 1) := by decide +kernel
theorem d_M_digest_185 : decode b_M_digest 185 = .ok (.lload_n 1, 1) := by decide +kernel
theorem d_M_digest_186 : decode b_M_digest 186 = .ok (.bipush 100, 2) := by decide +kernel
theorem d_M_digest_188 : decode b_M_digest 188 = .ok (.invokevirtual 285, 3) := by decide +kernel
theorem d_M_digest_191 : decode b_M_digest 191 = .ok (.lstore_n 1, 1) := by decide +kernel
theorem d_M_digest_192 : decode b_M_digest 192 = .ok (.aload_n 0, 1) := by decide +kernel
theorem d_M_digest_193 : decode b_M_digest 193 = .ok (.lload_n 1, 1) := by decide +kernel
theorem d_M_digest_194 : decode b_M_digest 194 = .ok (.iconst 3, 1) := by decide +kernel
theorem d_M_digest_195 : decode b_M_digest 195 = .ok (.invokevirtual 289, 3) := by decide +kernel
theorem d_M_digest_198 : decode b_M_digest 198 = .ok (.lstore_n 1, 1) := by decide +kernel
theorem d_M_digest_199 : decode b_M_digest 199 = .ok (.aload_n 0, 1) := by decide +kernel
theorem d_M_digest_200 : decode b_M_digest 200 = .ok (.lload_n 1, 1) := by decide +kernel
theorem d_M_digest_201 : decode b_M_digest 201 = .ok (.bipush 6, 2) := by decide +kernel
theorem d_M_digest_203 : decode b_M_digest 203 = .ok (.invokevirtual 289, 3) := by decide +kernel
theorem d_M_digest_206 : decode b_M_digest 206 = .ok (.lstore_n 1, 1) := by decide +kernel
theorem d_M_digest_207 : decode b_M_digest 207 = .ok (.aload_n 0, 1) := by decide +kernel
theorem d_M_digest_208 : decode b_M_digest 208 = .ok (.lload_n 1, 1) := by decide +kernel
theorem d_M_digest_209 : decode b_M_digest 209 = .ok (.bipush 12, 2) := by decide +kernel
theorem d_M_digest_211 : decode b_M_digest 211 = .ok (.invokevirtual 289, 3) := by decide +kernel
theorem d_M_digest_214 : decode b_M_digest 214 = .ok (.lstore_n 1, 1) := by decide +kernel
theorem d_M_digest_215 : decode b_M_digest 215 = .ok (.aload_n 0, 1) := by decide +kernel
theorem d_M_digest_216 : decode b_M_digest 216 = .ok (.lload_n 1, 1) := by decide +kernel
theorem d_M_digest_217 : decode b_M_digest 217 = .ok (.iconst 5, 1) := by decide +kernel
theorem d_M_digest_218 : decode b_M_digest 218 = .ok (.invokevirtual 289, 3) := by decide +kernel
theorem d_M_digest_221 : decode b_M_digest 221 = .ok (.lstore_n 1, 1) := by decide +kernel
theorem d_M_digest_222 : decode b_M_digest 222 = .ok (.aload_n 0, 1) := by decide +kernel
theorem d_M_digest_223 : decode b_M_digest 223 = .ok (.lload_n 1, 1) := by decide +kernel
theorem d_M_digest_224 : decode b_M_digest 224 = .ok (.bipush 7, 2) := by decide +kernel
theorem d_M_digest_226 : decode b_M_digest 226 = .ok (.invokevirtual 289, 3) := by decide +kernel
theorem d_M_digest_229 : decode b_M_digest 229 = .ok (.lstore_n 1, 1) := by decide +kernel
theorem d_M_digest_230 : decode b_M_digest 230 = .ok (.aload_n 0, 1) := by decide +kernel
theorem d_M_digest_231 : decode b_M_digest 231 = .ok (.lload_n 1, 1) := by decide +kernel
theorem d_M_digest_232 : decode b_M_digest 232 = .ok (.bipush 14, 2) := by decide +kernel
theorem d_M_digest_234 : decode b_M_digest 234 = .ok (.invokevirtual 289, 3) := by decide +kernel
theorem d_M_digest_237 : decode b_M_digest 237 = .ok (.lstore_n 1, 1) := by decide +kernel
theorem d_M_digest_238 : decode b_M_digest 238 = .ok (.iconst 0, 1) := by decide +kernel
theorem d_M_digest_239 : decode b_M_digest 239 = .ok (.istore_n 3, 1) := by decide +kernel
theorem d_M_digest_240 : decode b_M_digest 240 = .ok (.iload_n 3, 1) := by decide +kernel
theorem d_M_digest_241 : decode b_M_digest 241 = .ok (.aload_n 0, 1) := by decide +kernel
theorem d_M_digest_242 : decode b_M_digest 242 = .ok (.getfield 7, 3) := by decide +kernel
theorem d_M_digest_245 : decode b_M_digest 245 = .ok (.if_icmp .ge 59, 3) := by decide +kernel
theorem d_M_digest_248 : decode b_M_digest 248 = .ok (.iconst 0, 1) := by decide +kernel
theorem d_M_digest_249 : decode b_M_digest 249 = .ok (.istore 4, 2) := by decide +kernel
theorem d_M_digest_251 : decode b_M_digest 251 = .ok (.iload 4, 2) := by decide +kernel
theorem d_M_digest_253 : decode b_M_digest 253 = .ok (.aload_n 0, 1) := by decide +kernel
theorem d_M_digest_254 : decode b_M_digest 254 = .ok (.getfield 7, 3) := by decide +kernel
theorem d_M_digest_257 : decode b_M_digest 257 = .ok (.if_icmp .ge 41, 3) := by decide +kernel
theorem d_M_digest_260 : decode b_M_digest 260 = .ok (.ldc2_w 266, 3) := by decide +kernel
theorem d_M_digest_263 : decode b_M_digest 263 = .ok (.lload_n 1, 1) := by decide +kernel
theorem d_M_digest_264 : decode b_M_digest 264 = .ok (.lmul, 1) := by decide +kernel
theorem d_M_digest_265 : decode b_M_digest 265 = .ok (.aload_n 0, 1) := by decide +kernel
theorem d_M_digest_266 : decode b_M_digest 266 = .ok (.iload_n 3, 1) := by decide +kernel
theorem d_M_digest_267 : decode b_M_digest 267 = .ok (.iload 4, 2) := by decide +kernel
theorem d_M_digest_269 : decode b_M_digest 269 = .ok (.iconst 0, 1) := by decide +kernel
theorem d_M_digest_270 : decode b_M_digest 270 = .ok (.invokevirtual 292, 3) := by decide +kernel
theorem d_M_digest_273 : decode b_M_digest 273 = .ok (.i2l, 1) := by decide +kernel
theorem d_M_digest_274 : decode b_M_digest 274 = .ok (.ladd, 1) := by decide +kernel
theorem d_M_digest_275 : decode b_M_digest 275 = .ok (.lstore_n 1, 1) := by decide +kernel
theorem d_M_digest_276 : decode b_M_digest 276 = .ok (.ldc2_w 266, 3) := by decide +kernel
theorem d_M_digest_279 : decode b_M_digest 279 = .ok (.lload_n 1, 1) := by decide +kernel
theorem d_M_digest_280 : decode b_M_digest 280 = .ok (.lmul, 1) := by decide +kernel
theorem d_M_digest_281 : decode b_M_digest 281 = .ok (.aload_n 0, 1) := by decide +kernel
theorem d_M_digest_282 : decode b_M_digest 282 = .ok (.iload_n 3, 1) := by decide +kernel
theorem d_M_digest_283 : decode b_M_digest 283 = .ok (.iload 4, 2) := by decide +kernel
theorem d_M_digest_285 : decode b_M_digest 285 = .ok (.iconst 1, 1) := by decide +kernel
theorem d_M_digest_286 : decode b_M_digest 286 = .ok (.invokevirtual 292, 3) := by decide +kernel
theorem d_M_digest_289 : decode b_M_digest 289 = .ok (.i2l, 1) := by decide +kernel
theorem d_M_digest_290 : decode b_M_digest 290 = .ok (.ladd, 1) := by decide +kernel
theorem d_M_digest_291 : decode b_M_digest 291 = .ok (.lstore_n 1, 1) := by decide +kernel
theorem d_M_digest_292 : decode b_M_digest 292 = .ok (.iinc 4 1, 3) := by decide +kernel
theorem d_M_digest_295 : decode b_M_digest 295 = .ok (.goto (-44), 3) := by decide +kernel
theorem d_M_digest_298 : decode b_M_digest 298 = .ok (.iinc 3 1, 3) := by decide +kernel
theorem d_M_digest_301 : decode b_M_digest 301 = .ok (.goto (-61), 3) := by decide +kernel
theorem d_M_digest_304 : decode b_M_digest 304 = .ok (.ldc2_w 266, 3) := by decide +kernel
theorem d_M_digest_307 : decode b_M_digest 307 = .ok (.lload_n 1, 1) := by decide +kernel
theorem d_M_digest_308 : decode b_M_digest 308 = .ok (.lmul, 1) := by decide +kernel
theorem d_M_digest_309 : decode b_M_digest 309 = .ok (.aload_n 0, 1) := by decide +kernel
theorem d_M_digest_310 : decode b_M_digest 310 = .ok (.invokevirtual 220, 3) := by decide +kernel
theorem d_M_digest_313 : decode b_M_digest 313 = .ok (.i2l, 1) := by decide +kernel
theorem d_M_digest_314 : decode b_M_digest 314 = .ok (.ladd, 1) := by decide +kernel
theorem d_M_digest_315 : decode b_M_digest 315 = .ok (.lstore_n 1, 1) := by decide +kernel
theorem d_M_digest_316 : decode b_M_digest 316 = .ok (.ldc2_w 266, 3) := by decide +kernel
theorem d_M_digest_319 : decode b_M_digest 319 = .ok (.lload_n 1, 1) := by decide +kernel
theorem d_M_digest_320 : decode b_M_digest 320 = .ok (.lmul, 1) := by decide +kernel
theorem d_M_digest_321 : decode b_M_digest 321 = .ok (.aload_n 0, 1) := by decide +kernel
theorem d_M_digest_322 : decode b_M_digest 322 = .ok (.invokevirtual 226, 3) := by decide +kernel
theorem d_M_digest_325 : decode b_M_digest 325 = .ok (.i2l, 1) := by decide +kernel
theorem d_M_digest_326 : decode b_M_digest 326 = .ok (.ladd, 1) := by decide +kernel
theorem d_M_digest_327 : decode b_M_digest 327 = .ok (.lstore_n 1, 1) := by decide +kernel
theorem d_M_digest_328 : decode b_M_digest 328 = .ok (.ldc2_w 266, 3) := by decide +kernel
theorem d_M_digest_331 : decode b_M_digest 331 = .ok (.lload_n 1, 1) := by decide +kernel
theorem d_M_digest_332 : decode b_M_digest 332 = .ok (.lmul, 1) := by decide +kernel
theorem d_M_digest_333 : decode b_M_digest 333 = .ok (.aload_n 0, 1) := by decide +kernel
theorem d_M_digest_334 : decode b_M_digest 334 = .ok (.invokevirtual 295, 3) := by decide +kernel
theorem d_M_digest_337 : decode b_M_digest 337 = .ok (.i2l, 1) := by decide +kernel
theorem d_M_digest_338 : decode b_M_digest 338 = .ok (.ladd, 1) := by decide +kernel
theorem d_M_digest_339 : decode b_M_digest 339 = .ok (.lstore_n 1, 1) := by decide +kernel
theorem d_M_digest_340 : decode b_M_digest 340 = .ok (.ldc2_w 266, 3) := by decide +kernel
theorem d_M_digest_343 : decode b_M_digest 343 = .ok (.lload_n 1, 1) := by decide +kernel
theorem d_M_digest_344 : decode b_M_digest 344 = .ok (.lmul, 1) := by decide +kernel
theorem d_M_digest_345 : decode b_M_digest 345 = .ok (.aload_n 0, 1) := by decide +kernel
theorem d_M_digest_346 : decode b_M_digest 346 = .ok (.invokevirtual 298, 3) := by decide +kernel
theorem d_M_digest_349 : decode b_M_digest 349 = .ok (.i2l, 1) := by decide +kernel
theorem d_M_digest_350 : decode b_M_digest 350 = .ok (.ladd, 1) := by decide +kernel
theorem d_M_digest_351 : decode b_M_digest 351 = .ok (.lreturn, 1) := by decide +kernel
end
section
-- ===== the worlds: cells by number, one shape table; memory as ints by cell and slot =====
abbrev Mem : Type := Nat → Nat → Int32
def mset (σ : Mem) (k : Nat) (f : Nat → Int32) : Mem := fun j => if j = k then f else σ j
def mput (σ : Mem) (k i : Nat) (v : Int32) : Mem := mset σ k (upd (σ k) i v)
def shT (t : Nat) : List (Option Nat) := [some (t + 1), some (t + 2), some (t + 3), some (t + 4), none, none, some (t + 5), none, some (t + 6), none, some (t + 7), none, some (t + 8), some (t + 9), some (t + 10)]
def shp : Nat → Nat × Nat × List (Option Nat)
  | 0 => (2, 2, [none, some 1, none, none, some 2, none, none, some 6, some 10, some 3, none, some 21, some 32, some 4, some 5])
  | 1 => (0, 10, [])
  | 2 => (0, 8, [])
  | 3 => (0, 40, [])
  | 4 => (0, 8, [])
  | 5 => (0, 8, [])
  | 6 => (2, 0, [some 7, some 8, some 9])
  | 7 => (0, 4, [])
  | 8 => (0, 4, [])
  | 9 => (0, 240, [])
  | 10 => (2, 1, shT 10)
  | 11 => (0, 24, [])
  | 12 => (0, 24, [])
  | 13 => (0, 24, [])
  | 14 => (0, 192, [])
  | 15 => (0, 8, [])
  | 16 => (0, 8, [])
  | 17 => (0, 7, [])
  | 18 => (0, 24, [])
  | 19 => (0, 24, [])
  | 20 => (0, 24, [])
  | 21 => (2, 1, shT 21)
  | 22 => (0, 24, [])
  | 23 => (0, 24, [])
  | 24 => (0, 24, [])
  | 25 => (0, 192, [])
  | 26 => (0, 8, [])
  | 27 => (0, 8, [])
  | 28 => (0, 7, [])
  | 29 => (0, 24, [])
  | 30 => (0, 24, [])
  | 31 => (0, 24, [])
  | 32 => (2, 1, shT 32)
  | 33 => (0, 24, [])
  | 34 => (0, 24, [])
  | 35 => (0, 24, [])
  | 36 => (0, 192, [])
  | 37 => (0, 8, [])
  | 38 => (0, 8, [])
  | 39 => (0, 7, [])
  | 40 => (0, 24, [])
  | 41 => (0, 24, [])
  | 42 => (0, 24, [])
  | 43 => (2, 3, [none, none, some 44, some 45, some 46, some 47, some 48, none, some 49, some 50, some 51, some 52, none, some 53, some 54, some 55, some 56, some 57, some 58, some 59, none, none, none, some 60, some 61, some 62, some 63, some 64, some 65, none])
  | 44 => (0, 10, [])
  | 45 => (0, 256, [])
  | 46 => (0, 256, [])
  | 47 => (0, 256, [])
  | 48 => (0, 256, [])
  | 49 => (0, 8, [])
  | 50 => (0, 8, [])
  | 51 => (0, 8, [])
  | 52 => (0, 64, [])
  | 53 => (0, 40, [])
  | 54 => (0, 256, [])
  | 55 => (0, 64, [])
  | 56 => (0, 8, [])
  | 57 => (0, 8, [])
  | 58 => (0, 8, [])
  | 59 => (0, 256, [])
  | 60 => (0, 8, [])
  | 61 => (1, 4, [])
  | 62 => (0, 4, [])
  | 63 => (0, 4, [])
  | 64 => (0, 240, [])
  | 65 => (0, 60, [])
  | _ => (3, 0, [])
def lenOf (k : Nat) : Nat := (shp k).2.1
def rd (σ : Mem) (k : Nat) (i : Int32) : Option Int32 := if i < 0 ∨ lenOf k ≤ i.toNatClampNeg then none else some (σ k i.toNatClampNeg)
def wr (σ : Mem) (k : Nat) (i v : Int32) : Option Mem := if i < 0 ∨ lenOf k ≤ i.toNatClampNeg then none else some (mput σ k i.toNatClampNeg v)
def stA : Nat → List Int32
  | 0 => [1, 1, 2, 6, 24, 120, 720, 5040, 40320]
  | 1 => [0, 1, 2, 5, 100]
  | _ => [3, 6, 12, 5, 7, 14]
def stNm : Nat → String
  | 0 => "FACTORIALS"
  | 1 => "DIGEST_ROWS"
  | _ => "DIGEST_SETS"
def rds (k : Nat) (i : Int32) : Option Int32 := if i < 0 ∨ (stA k).length ≤ i.toNatClampNeg then none else some ((stA k).getD i.toNatClampNeg 0)
def dv (x y : Int32) : Option Int32 := if y = 0 then none else some (x / y)
def rm (x y : Int32) : Option Int32 := if y = 0 then none else some (x - x / y * y)
def lt {α β : Type} (a : α) (f : α → β) : β := f a
def lp {S R : Type} (f : S → Option (S ⊕ R)) : Nat → S → Option R
  | 0, _ => none
  | n + 1, s => (f s).bind (fun y => Sum.elim (fun s2 => lp f n s2) (fun r => some r) y)
noncomputable def fuel : Nat := Classical.choose (⟨1000000, Nat.le_refl 1000000⟩ : ∃ n : Nat, 1000000 ≤ n)
theorem fuel_ge : 1000000 ≤ fuel := Classical.choose_spec (⟨1000000, Nat.le_refl 1000000⟩ : ∃ n : Nat, 1000000 ≤ n)
theorem obind {α β : Type} {x : Option α} {f : α → Option β} {o : β} (h : x.bind f = some o) : ∃ a, x = some a ∧ f a = some o := Option.bind_eq_some_iff.mp h
abbrev Wx : Type := va_G × ClassId × ClassId × (Nat → Nat) × (Nat → Nat)
abbrev classes : List vw_C := [(R_S, F_S, 3), (R_T, F_T, 15), (R_O, F_O, 15), (R_M, F_M, 30)]
def tysY (Y : Wx) : List (ClassId × FieldType) := [(Y.2.1, .int), (Y.2.2.1, .boolean)]
def adr (Y : Wx) (k : Nat) : Nat := Y.2.2.2.1 k
def sad (Y : Wx) (k : Nat) : Nat := Y.2.2.2.2 k
def fldV (Y : Wx) (f : Nat → Int32) (i : Nat) (o : Option Nat) : Value := match o with
  | none => .int (f i)
  | some j => .ref (adr Y j)
def cellE (Y : Wx) (σ : Mem) (k : Nat) : va_E := match shp k with
  | (0, L, _) => .inl (Y.2.1, L, .inl (σ k))
  | (1, L, _) => .inl (Y.2.2.1, L, .inl (σ k))
  | (_, ci, fs) => .inr (ci, fs.mapIdx (fldV Y (σ k)))
def wlo (w : Nat) : Nat := if w = 0 then 0 else 43
def wn (w : Nat) : Nat := if w = 0 then 43 else 23
def inW (w k : Nat) : Prop := wlo w ≤ k ∧ k < wlo w + wn w
def wd (Y : Wx) (w : Nat) (σ : Mem) : va_W := (List.range (wn w)).map (fun i => (adr Y (wlo w + i), cellE Y σ (wlo w + i)))
def Aw (Y : Wx) (w : Nat) : Nat → Prop := fun q => ∃ k, inW w k ∧ q = adr Y k
def Inj (Y : Wx) (w : Nat) : Prop := ∀ i j, inW w i → inW w j → adr Y i = adr Y j → i = j
def Sts (Y : Wx) (A : Nat → Prop) (U : State) (H : Heap) : Prop := ∀ k, k < 3 → va_Z "OrderTrees" (stNm k) "[I" (.ref (sad Y k)) A U H ∧ va_T .int (sad Y k) (stA k).length (fun j => .int ((stA k).getD j 0)) A U H
def Nwf (U : State) : Prop := va_Nw (.methodLinkNest R_T 158 y_O_factorial R_O) U
def Iv (Y : Wx) (w : Nat) (σ : Mem) (U : State) : Prop := va_P Y.1 classes (wd Y w σ) U.heap ∧ va_K Y.1 classes (tysY Y) U ∧ Inj Y w ∧ Sts Y (Aw Y w) U U.heap ∧ Nwf U
def rmL (n : Nat) : Room := { frames := n, cells := 0, slots := 0, locals := 40 * n }
def okR (ret : Option FieldType) (r : Option Value) : Prop := match ret, r with
  | some .boolean, some (.int v) => narrow .boolean (.int v) = .int v
  | _, _ => True
def Qo (Y : Wx) (w : Nat) (ret : Option FieldType) (r : Option Value) (σ : Mem) : Array Value → State → Outcome → State → Prop := fun _ st oc t => oc = .returned r ∧ okR ret r ∧ va_P Y.1 classes (wd Y w σ) t.heap ∧ va_F (Aw Y w) st t
def Ct (l : Launch) (Y : Wx) (w : Nat) (y : MethodName) (b : ByteArray) (nL : Nat) (ret : Option FieldType) (lvl : Nat) (as : List Value) (σ : Mem) (r : Option Value) (σ2 : Mem) : Prop :=
  Met l y (.code y b nL ret :: Tg) (rmL lvl) (va_Pc as (Iv Y w σ)) (Qo Y w ret r σ2) 0 0 (Aw Y w)
abbrev Cx : Type := Program × Launch × Env × Room × State × MethodId × Array Value × List Frame × Method × Code × (State → Prop)
def Gd (X : Cx) (Y : Wx) (w : Nat) (σ : Mem) (lv : List (Nat × Value)) (pc : Nat) (st : List Value) : Prop := match X with
  | (p, l, e, R, s, m, args, below, meth, c, Q) => ∀ (H : Heap) (locs : List Loc) (ls : Array Slot), va_P Y.1 classes (wd Y w σ) H → va_S (Aw Y w) s.heap H locs → lv_has ls c.maxLocals lv → W p l e R s m args below meth c H locs 0 0 Q (F0 m pc ls st)
def Fx (X : Cx) (Y : Wx) (w : Nat) (cc : ByteArray) (nL : Nat) (own : String) (lvl : Nat) : Prop := match X with
  | (p, l, e, R, s, m, args, below, meth, c, Q) => p.tables.exec = Jvm.exec ∧ c.code = cc ∧ c.maxLocals = nL ∧ s.vm.findClass own = some m.cls ∧ (∀ z ∈ Tg, z.before args s = true) ∧ va_K Y.1 classes (tysY Y) s ∧ Inj Y w ∧ Sts Y (Aw Y w) s s.heap ∧ R = rmL lvl ∧ Nwf s
def Rt (X : Cx) (Y : Wx) (w : Nat) (ret : Option FieldType) (r : Option Value) (σ : Mem) : Prop := match X with
  | (p, l, e, R, s, m, args, below, meth, c, Q) => meth.sig.returnType = ret ∧ meth.locks = false ∧ Q = MQ below (Qo Y w ret r σ) args s 0 0 (Aw Y w)
-- ===== the worlds' own laws =====
theorem cellE_congr {Y : Wx} {σ σ2 : Mem} {k : Nat} (h : σ2 k = σ k) : cellE Y σ2 k = cellE Y σ k := by
  unfold cellE; rw [h]
theorem wd_get {Y : Wx} {w k : Nat} {σ : Mem} (hk : inW w k) : (wd Y w σ)[k - wlo w]? = some (adr Y k, cellE Y σ k) := by
  have h1 : k - wlo w < wn w := by unfold inW at hk; omega
  have h2 : wlo w + (k - wlo w) = k := by unfold inW at hk; omega
  unfold wd
  rw [List.getElem?_map, List.getElem?_range h1]
  simp [h2]
theorem wd_at {Y : Wx} {w n : Nat} {σ : Mem} {q : Nat × va_E} (h : (wd Y w σ)[n]? = some q) : inW w (wlo w + n) ∧ q = (adr Y (wlo w + n), cellE Y σ (wlo w + n)) := by
  unfold wd at h
  rw [List.getElem?_map] at h
  obtain ⟨a, ha, hq⟩ := Option.map_eq_some_iff.mp h
  obtain ⟨hn, e⟩ := List.getElem?_eq_some_iff.mp ha
  simp at hn e
  subst e
  exact ⟨⟨Nat.le_add_right _ _, by omega⟩, hq.symm⟩
theorem wd_D {Y : Wx} {w : Nat} (h : Inj Y w) (σ : Mem) : va_D (Aw Y w) (wd Y w σ) := by
  refine ⟨fun i j p q hi hj e => ?_, fun k q hk => ?_⟩
  · obtain ⟨a1, rfl⟩ := wd_at hi
    obtain ⟨b1, rfl⟩ := wd_at hj
    have := h _ _ a1 b1 e
    omega
  · obtain ⟨a1, rfl⟩ := wd_at hk
    exact ⟨_, a1, rfl⟩
theorem wd_set {Y : Wx} {w k : Nat} {σ σ2 : Mem} (hk : inW w k) (hσ : ∀ j, j ≠ k → σ2 j = σ j) {e : va_E} (he : e = cellE Y σ2 k) : (wd Y w σ).set (k - wlo w) (adr Y k, e) = wd Y w σ2 := by
  subst he
  apply List.ext_getElem?
  intro n
  have h1 : k - wlo w < wn w := by unfold inW at hk; omega
  have h2 : wlo w + (k - wlo w) = k := by unfold inW at hk; omega
  have hl : (wd Y w σ).length = wn w := by simp [wd]
  have hl2 : (wd Y w σ2).length = wn w := by simp [wd]
  rw [List.getElem?_set]
  by_cases hn : k - wlo w = n
  · subst hn
    rw [if_pos rfl, if_pos (by rw [hl]; exact h1), wd_get hk]
  · rw [if_neg hn]
    by_cases hn2 : n < wn w
    · unfold wd
      rw [List.getElem?_map, List.getElem?_map, List.getElem?_range hn2]
      simp only [Option.map_some]
      rw [cellE_congr (hσ (wlo w + n) (fun h => hn (by omega)))]
    · rw [List.getElem?_eq_none (by omega), List.getElem?_eq_none (by omega)]
theorem mput_ne {σ : Mem} {k i : Nat} {v : Int32} : ∀ j, j ≠ k → mput σ k i v j = σ j := fun j h => by simp [mput, mset, h]
theorem mput_eq {σ : Mem} {k i : Nat} {v : Int32} : mput σ k i v k = upd (σ k) i v := by simp [mput, mset]
theorem cellE_arr {Y : Wx} {σ : Mem} {k L : Nat} {l : List (Option Nat)} (hs : shp k = (0, L, l)) : cellE Y σ k = .inl (Y.2.1, L, .inl (σ k)) := by unfold cellE; rw [hs]; rfl
theorem cellE_arrZ {Y : Wx} {σ : Mem} {k L : Nat} {l : List (Option Nat)} (hs : shp k = (1, L, l)) : cellE Y σ k = .inl (Y.2.2.1, L, .inl (σ k)) := by unfold cellE; rw [hs]; rfl
theorem cellE_obj {Y : Wx} {σ : Mem} {k ci : Nat} {fs : List (Option Nat)} (hs : shp k = (2, ci, fs)) : cellE Y σ k = .inr (ci, fs.mapIdx (fldV Y (σ k))) := by unfold cellE; rw [hs]; rfl
theorem fld_put {Y : Wx} {f : Nat → Int32} {fs : List (Option Nat)} {i : Nat} {v : Int32} (hi : fs[i]? = some none) : (fs.mapIdx (fldV Y f)).set i (.int v) = fs.mapIdx (fldV Y (upd f i v)) := by
  apply List.ext_getElem?
  intro n
  have hl := (List.getElem?_eq_some_iff.mp hi).1
  rw [List.getElem?_set, List.getElem?_mapIdx, List.getElem?_mapIdx]
  by_cases hn : i = n
  · subst hn
    rw [if_pos rfl, if_pos (by simpa using hl), hi]
    simp [fldV, upd]
  · rw [if_neg hn]
    congr 1
    funext o
    cases o with
    | none => simp only [fldV, upd]; rw [if_neg (fun h => hn h.symm)]
    | some j => rfl
-- ===== links =====
def FLok (own : String) (idx ci i : Nat) : Prop := ∃ (C : String) (T : u_T) (N : Nat) (ty0 : Nat → FieldType), classes[ci]? = some (C, T, N) ∧ i < N ∧ (∀ z ∈ u_ws C T N, z ∈ Tg) ∧ Cond.fieldLink own idx (T i).1 (T i).2.1 (T i).2.2.1 ∈ Tg ∧ (∀ k, k < N → parseFieldDescriptor (T k).2.2.1 = some (ty0 k)) ∧ (∀ a, a < N → ∀ b, b < N → a ≠ b → (T a).2.1 ≠ (T b).2.1)
def FIok (own : String) (idx ci i : Nat) : Prop := ∃ (C : String) (T : u_T) (N : Nat) (ty0 : Nat → FieldType), classes[ci]? = some (C, T, N) ∧ i < N ∧ (∀ z ∈ u_ws C T N, z ∈ Tg) ∧ Cond.fieldLink own idx (T i).1 (T i).2.1 (T i).2.2.1 ∈ Tg ∧ (∀ k, k < N → parseFieldDescriptor (T k).2.2.1 = some (ty0 k)) ∧ (∀ a, a < N → ∀ b, b < N → a ≠ b → (T a).2.1 ≠ (T b).2.1) ∧ (T i).2.2.1 = "I" ∧ (T i).2.2.2 = false
theorem FIok.f {own : String} {idx ci i : Nat} (h : FIok own idx ci i) : FLok own idx ci i := by
  obtain ⟨C, T, N, ty0, h1, h2, h3, h4, h5, h6, -, -⟩ := h
  exact ⟨C, T, N, ty0, h1, h2, h3, h4, h5, h6⟩
def nMax : Nat := 21
/-- a method's own words in the table: what it is called by, its code, how many arguments -/
def MVok (own : String) (idx : Nat) (C : String) (y : MethodName) (b : ByteArray) (nL : Nat) (ret : Option FieldType) (n : Nat) : Prop :=
  Cond.methodLink own idx y ∈ Tg ∧ Cond.instanceMethod y ∈ Tg ∧ Cond.selects C y y ∈ Tg ∧ Cond.initialized C ∈ Tg ∧ Cond.code y b nL ret ∈ Tg ∧ (y.cls = C ∧ y.cls ≠ "java/lang/invoke/MethodHandle" ∧ y.cls ≠ "java/lang/invoke/VarHandle" ∧ (parseMethodDescriptor y.desc).map (fun d => d.parameters.length) = some n) ∧ nL ≤ nMax
def MSok (own : String) (idx : Nat) (y : MethodName) (b : ByteArray) (nL : Nat) (ret : Option FieldType) (n : Nat) : Prop :=
  Cond.methodLink own idx y ∈ Tg ∧ Cond.static y ∈ Tg ∧ Cond.initialized y.cls ∈ Tg ∧ Cond.code y b nL ret ∈ Tg ∧ (y.cls ≠ "java/lang/invoke/MethodHandle" ∧ y.cls ≠ "java/lang/invoke/VarHandle" ∧ (parseMethodDescriptor y.desc).map (fun d => d.parameters.length) = some n) ∧ nL ≤ nMax
theorem tg_good {z : Cond} (h : z ∈ Tg) : goodWord z = true := (List.mem_filter.mp h).2
theorem tg_in {big ws : List Cond} (hb : ∀ z ∈ Tg, z ∈ big) (h : ∀ z ∈ ws, z ∈ Tg) : GoodIn big ws := fun z hz => ⟨hb z (h z hz), good_of_word (tg_good (h z hz))⟩
-- ===== the rows =====
section GR
variable {X : Cx} {Y : Wx} {w : Nat} {cc : ByteArray} {nL : Nat} {own : String} {lvl : Nat} {σ : Mem} {lv : List (Nat × Value)} {pc : Nat} {st : List Value}
theorem g_iconst (hX : Fx X Y w cc nL own lvl) {n : Int} (v : Int32) (hd : decode cc pc = .ok (.iconst n, 1)) (hv : Int32.ofInt n = v) (k : Gd X Y w σ lv (pc + 1) (.int v :: st)) : Gd X Y w σ lv pc st := by
  obtain ⟨p, l, e, R, s, m, args, below, meth, c, Q⟩ := X
  intro H locs ls hP hS hl
  exact lv_iconst hX.1 hX.2.1 hd hv (k H locs ls hP hS hl)
theorem g_bipush (hX : Fx X Y w cc nL own lvl) {n : Int} (v : Int32) (hd : decode cc pc = .ok (.bipush n, 2)) (hv : (Int8.ofInt n).toInt32 = v) (k : Gd X Y w σ lv (pc + 2) (.int v :: st)) : Gd X Y w σ lv pc st := by
  obtain ⟨p, l, e, R, s, m, args, below, meth, c, Q⟩ := X
  intro H locs ls hP hS hl
  exact lv_bipush hX.1 hX.2.1 hd hv (k H locs ls hP hS hl)
theorem g_sipush (hX : Fx X Y w cc nL own lvl) {n : Int} (v : Int32) (hd : decode cc pc = .ok (.sipush n, 3)) (hv : (Int16.ofInt n).toInt32 = v) (k : Gd X Y w σ lv (pc + 3) (.int v :: st)) : Gd X Y w σ lv pc st := by
  obtain ⟨p, l, e, R, s, m, args, below, meth, c, Q⟩ := X
  intro H locs ls hP hS hl
  exact lv_sipush hX.1 hX.2.1 hd hv (k H locs ls hP hS hl)
theorem g_lconst (hX : Fx X Y w cc nL own lvl) {n : Fin 2} (v : Int64) (hd : decode cc pc = .ok (.lconst n, 1)) (hv : Int64.ofNat (n : Nat) = v) (k : Gd X Y w σ lv (pc + 1) (.long v :: st)) : Gd X Y w σ lv pc st := by
  obtain ⟨p, l, e, R, s, m, args, below, meth, c, Q⟩ := X
  intro H locs ls hP hS hl
  exact lv_lconst hX.1 hX.2.1 hd hv (k H locs ls hP hS hl)
theorem g_ldc (hX : Fx X Y w cc nL own lvl) {idx : Nat} {v : Int32} (hd : decode cc pc = .ok (.ldc idx, 2)) (hv : Cond.constant own idx v ∈ Tg) (k : Gd X Y w σ lv (pc + 2) (.int v :: st)) : Gd X Y w σ lv pc st := by
  obtain ⟨p, l, e, R, s, m, args, below, meth, c, Q⟩ := X
  obtain ⟨hx, hb, hml, ho, hts, hK, hI, hZ, hR, hN⟩ := hX
  intro H locs ls hP hS hl
  exact lv_ldc hx hb ho (hts _ hv) hd (k H locs ls hP hS hl)
theorem g_ldcw (hX : Fx X Y w cc nL own lvl) {idx : Nat} {v : Int32} (hd : decode cc pc = .ok (.ldc_w idx, 3)) (hv : Cond.constant own idx v ∈ Tg) (k : Gd X Y w σ lv (pc + 3) (.int v :: st)) : Gd X Y w σ lv pc st := by
  obtain ⟨p, l, e, R, s, m, args, below, meth, c, Q⟩ := X
  obtain ⟨hx, hb, hml, ho, hts, hK, hI, hZ, hR, hN⟩ := hX
  intro H locs ls hP hS hl
  exact lv_ldcw hx hb ho (hts _ hv) hd (k H locs ls hP hS hl)
theorem g_ldc2 (hX : Fx X Y w cc nL own lvl) {idx : Nat} {v : Int64} (hd : decode cc pc = .ok (.ldc2_w idx, 3)) (hv : Cond.constantLong own idx v ∈ Tg) (k : Gd X Y w σ lv (pc + 3) (.long v :: st)) : Gd X Y w σ lv pc st := by
  obtain ⟨p, l, e, R, s, m, args, below, meth, c, Q⟩ := X
  obtain ⟨hx, hb, hml, ho, hts, hK, hI, hZ, hR, hN⟩ := hX
  intro H locs ls hP hS hl
  exact lv_ldc2 hx hb ho (hts _ hv) hd (k H locs ls hP hS hl)
theorem g_iload_n (hX : Fx X Y w cc nL own lvl) {j : Fin 4} {x : Int32} (hd : decode cc pc = .ok (.iload_n j, 1)) (q : Nat) (hq : lv[q]? = some (j.val, .int x)) (k : Gd X Y w σ lv (pc + 1) (.int x :: st)) : Gd X Y w σ lv pc st := by
  obtain ⟨p, l, e, R, s, m, args, below, meth, c, Q⟩ := X
  intro H locs ls hP hS hl
  exact lv_iload_n hX.1 hX.2.1 hd rfl (lv_at hl q hq) (k H locs ls hP hS hl)
theorem g_iload (hX : Fx X Y w cc nL own lvl) {j : Nat} {x : Int32} (hd : decode cc pc = .ok (.iload j, 2)) (q : Nat) (hq : lv[q]? = some (j, .int x)) (k : Gd X Y w σ lv (pc + 2) (.int x :: st)) : Gd X Y w σ lv pc st := by
  obtain ⟨p, l, e, R, s, m, args, below, meth, c, Q⟩ := X
  intro H locs ls hP hS hl
  exact lv_iload hX.1 hX.2.1 hd (lv_at hl q hq) (k H locs ls hP hS hl)
theorem g_lload_n (hX : Fx X Y w cc nL own lvl) {j : Fin 4} {x : Int64} (hd : decode cc pc = .ok (.lload_n j, 1)) (q : Nat) (hq : lv[q]? = some (j.val, .long x)) (k : Gd X Y w σ lv (pc + 1) (.long x :: st)) : Gd X Y w σ lv pc st := by
  obtain ⟨p, l, e, R, s, m, args, below, meth, c, Q⟩ := X
  intro H locs ls hP hS hl
  exact lv_lload_n hX.1 hX.2.1 hd rfl (lv_at hl q hq) (k H locs ls hP hS hl)
theorem g_lload (hX : Fx X Y w cc nL own lvl) {j : Nat} {x : Int64} (hd : decode cc pc = .ok (.lload j, 2)) (q : Nat) (hq : lv[q]? = some (j, .long x)) (k : Gd X Y w σ lv (pc + 2) (.long x :: st)) : Gd X Y w σ lv pc st := by
  obtain ⟨p, l, e, R, s, m, args, below, meth, c, Q⟩ := X
  intro H locs ls hP hS hl
  exact lv_lload hX.1 hX.2.1 hd (lv_at hl q hq) (k H locs ls hP hS hl)
theorem g_aload_n (hX : Fx X Y w cc nL own lvl) {j : Fin 4} {x : Nat} (hd : decode cc pc = .ok (.aload_n j, 1)) (q : Nat) (hq : lv[q]? = some (j.val, .ref x)) (k : Gd X Y w σ lv (pc + 1) (.ref x :: st)) : Gd X Y w σ lv pc st := by
  obtain ⟨p, l, e, R, s, m, args, below, meth, c, Q⟩ := X
  intro H locs ls hP hS hl
  exact lv_aload_n hX.1 hX.2.1 hd rfl (lv_at hl q hq) (k H locs ls hP hS hl)
theorem g_istore_n (hX : Fx X Y w cc nL own lvl) {j : Fin 4} {x : Int32} {β : Type} {z : β} {f : Int32 → β} (lf : Int32 → List (Nat × Value)) (hd : decode cc pc = .ok (.istore_n j, 1)) (hn : j.val < nL) (hl2 : ∀ x : Int32, (j.val, Value.int x) :: lv.filter (fun q => !(q.1 == j.val) && !(q.1 + 1 == j.val && q.2.category == 2)) = lf x) (hf : lt x f = z) (k : ∀ y : Int32, f y = z → Gd X Y w σ (lf y) (pc + 1) st) : Gd X Y w σ lv pc (.int x :: st) := by
  obtain ⟨p, l, e, R, s, m, args, below, meth, c, Q⟩ := X
  obtain ⟨hx, hb, hml, ho, hts, hK, hI, hZ, hR, hN⟩ := hX
  intro H locs ls hP hS hl
  rw [hml] at hl
  exact lv_istore_n hx hb hd rfl hl hn (hl2 x) (fun ls2 hl3 => k x hf H locs ls2 hP hS (by rw [hml]; exact hl3))
theorem g_istore (hX : Fx X Y w cc nL own lvl) {j : Nat} {x : Int32} {β : Type} {z : β} {f : Int32 → β} (lf : Int32 → List (Nat × Value)) (hd : decode cc pc = .ok (.istore j, 2)) (hn : j < nL) (hl2 : ∀ x : Int32, (j, Value.int x) :: lv.filter (fun q => !(q.1 == j) && !(q.1 + 1 == j && q.2.category == 2)) = lf x) (hf : lt x f = z) (k : ∀ y : Int32, f y = z → Gd X Y w σ (lf y) (pc + 2) st) : Gd X Y w σ lv pc (.int x :: st) := by
  obtain ⟨p, l, e, R, s, m, args, below, meth, c, Q⟩ := X
  obtain ⟨hx, hb, hml, ho, hts, hK, hI, hZ, hR, hN⟩ := hX
  intro H locs ls hP hS hl
  rw [hml] at hl
  exact lv_istore hx hb hd hl hn (hl2 x) (fun ls2 hl3 => k x hf H locs ls2 hP hS (by rw [hml]; exact hl3))
theorem g_istore_nV (hX : Fx X Y w cc nL own lvl) {j : Fin 4} {x : Int32} (lf : List (Nat × Value)) (hd : decode cc pc = .ok (.istore_n j, 1)) (hn : j.val < nL) (hl2 : (j.val, Value.int x) :: lv.filter (fun q => !(q.1 == j.val) && !(q.1 + 1 == j.val && q.2.category == 2)) = lf) (k : Gd X Y w σ lf (pc + 1) st) : Gd X Y w σ lv pc (.int x :: st) := by
  obtain ⟨p, l, e, R, s, m, args, below, meth, c, Q⟩ := X
  obtain ⟨hx, hb, hml, ho, hts, hK, hI, hZ, hR, hN⟩ := hX
  intro H locs ls hP hS hl
  rw [hml] at hl
  exact lv_istore_n hx hb hd rfl hl hn hl2 (fun ls2 hl3 => k H locs ls2 hP hS (by rw [hml]; exact hl3))
theorem g_istoreV (hX : Fx X Y w cc nL own lvl) {j : Nat} {x : Int32} (lf : List (Nat × Value)) (hd : decode cc pc = .ok (.istore j, 2)) (hn : j < nL) (hl2 : (j, Value.int x) :: lv.filter (fun q => !(q.1 == j) && !(q.1 + 1 == j && q.2.category == 2)) = lf) (k : Gd X Y w σ lf (pc + 2) st) : Gd X Y w σ lv pc (.int x :: st) := by
  obtain ⟨p, l, e, R, s, m, args, below, meth, c, Q⟩ := X
  obtain ⟨hx, hb, hml, ho, hts, hK, hI, hZ, hR, hN⟩ := hX
  intro H locs ls hP hS hl
  rw [hml] at hl
  exact lv_istore hx hb hd hl hn hl2 (fun ls2 hl3 => k H locs ls2 hP hS (by rw [hml]; exact hl3))
theorem g_lstore_n (hX : Fx X Y w cc nL own lvl) {j : Fin 4} {x : Int64} {β : Type} {z : β} {f : Int64 → β} (lf : Int64 → List (Nat × Value)) (hd : decode cc pc = .ok (.lstore_n j, 1)) (hn : j.val + 1 < nL) (hl2 : ∀ x : Int64, (j.val, Value.long x) :: lv.filter (fun q => !(q.1 == j.val) && (!(q.1 == j.val + 1) && !(q.1 + 1 == j.val && q.2.category == 2))) = lf x) (hf : lt x f = z) (k : ∀ y : Int64, f y = z → Gd X Y w σ (lf y) (pc + 1) st) : Gd X Y w σ lv pc (.long x :: st) := by
  obtain ⟨p, l, e, R, s, m, args, below, meth, c, Q⟩ := X
  obtain ⟨hx, hb, hml, ho, hts, hK, hI, hZ, hR, hN⟩ := hX
  intro H locs ls hP hS hl
  rw [hml] at hl
  exact lv_lstore_n hx hb hd rfl hl hn (hl2 x) (fun ls2 hl3 => k x hf H locs ls2 hP hS (by rw [hml]; exact hl3))
theorem g_lstore (hX : Fx X Y w cc nL own lvl) {j : Nat} {x : Int64} {β : Type} {z : β} {f : Int64 → β} (lf : Int64 → List (Nat × Value)) (hd : decode cc pc = .ok (.lstore j, 2)) (hn : j + 1 < nL) (hl2 : ∀ x : Int64, (j, Value.long x) :: lv.filter (fun q => !(q.1 == j) && (!(q.1 == j + 1) && !(q.1 + 1 == j && q.2.category == 2))) = lf x) (hf : lt x f = z) (k : ∀ y : Int64, f y = z → Gd X Y w σ (lf y) (pc + 2) st) : Gd X Y w σ lv pc (.long x :: st) := by
  obtain ⟨p, l, e, R, s, m, args, below, meth, c, Q⟩ := X
  obtain ⟨hx, hb, hml, ho, hts, hK, hI, hZ, hR, hN⟩ := hX
  intro H locs ls hP hS hl
  rw [hml] at hl
  exact lv_lstore hx hb hd hl hn (hl2 x) (fun ls2 hl3 => k x hf H locs ls2 hP hS (by rw [hml]; exact hl3))
theorem g_astore_n (hX : Fx X Y w cc nL own lvl) {j : Fin 4} {x : Nat} (lf : List (Nat × Value)) (hd : decode cc pc = .ok (.astore_n j, 1)) (hn : j.val < nL) (hl2 : (j.val, Value.ref x) :: lv.filter (fun q => !(q.1 == j.val) && !(q.1 + 1 == j.val && q.2.category == 2)) = lf) (k : Gd X Y w σ lf (pc + 1) st) : Gd X Y w σ lv pc (.ref x :: st) := by
  obtain ⟨p, l, e, R, s, m, args, below, meth, c, Q⟩ := X
  obtain ⟨hx, hb, hml, ho, hts, hK, hI, hZ, hR, hN⟩ := hX
  intro H locs ls hP hS hl
  rw [hml] at hl
  exact lv_astore_n hx hb hd rfl hl hn hl2 (fun ls2 hl3 => k H locs ls2 hP hS (by rw [hml]; exact hl3))
theorem g_iinc (hX : Fx X Y w cc nL own lvl) {j : Nat} {n : Int} {x v : Int32} {β : Type} {z : β} {f : Int32 → β} (lf : Int32 → List (Nat × Value)) (hd : decode cc pc = .ok (.iinc j n, 3)) (q : Nat) (hq : lv[q]? = some (j, .int x)) (hv : x + Int32.ofInt n = v) (hn : j < nL) (hl2 : ∀ x : Int32, (j, Value.int x) :: lv.filter (fun q => !(q.1 == j) && !(q.1 + 1 == j && q.2.category == 2)) = lf x) (hf : lt v f = z) (k : ∀ y : Int32, f y = z → Gd X Y w σ (lf y) (pc + 3) st) : Gd X Y w σ lv pc st := by
  obtain ⟨p, l, e, R, s, m, args, below, meth, c, Q⟩ := X
  obtain ⟨hx, hb, hml, ho, hts, hK, hI, hZ, hR, hN⟩ := hX
  intro H locs ls hP hS hl
  rw [hml] at hl
  exact lv_iinc hx hb hd hl hq hv hn (hl2 v) (fun ls2 hl3 => k v hf H locs ls2 hP hS (by rw [hml]; exact hl3))
theorem g_sub (qs : List Nat) {lv2 : List (Nat × Value)} (h : lv_pick lv qs = lv2) (k : Gd X Y w σ lv2 pc st) : Gd X Y w σ lv pc st := by
  obtain ⟨p, l, e, R, s, m, args, below, meth, c, Q⟩ := X
  intro H locs ls hP hS hl
  exact k H locs ls hP hS (lv_sub hl qs h)
theorem g_iadd (hX : Fx X Y w cc nL own lvl) {x y : Int32} (hd : decode cc pc = .ok (.iadd, 1)) (k : Gd X Y w σ lv (pc + 1) (.int (x + y) :: st)) : Gd X Y w σ lv pc (.int y :: .int x :: st) := by
  obtain ⟨p, l, e, R, s, m, args, below, meth, c, Q⟩ := X
  intro H locs ls hP hS hl
  exact lv_iadd hX.1 hX.2.1 hd (k H locs ls hP hS hl)
theorem g_isub (hX : Fx X Y w cc nL own lvl) {x y : Int32} (hd : decode cc pc = .ok (.isub, 1)) (k : Gd X Y w σ lv (pc + 1) (.int (x - y) :: st)) : Gd X Y w σ lv pc (.int y :: .int x :: st) := by
  obtain ⟨p, l, e, R, s, m, args, below, meth, c, Q⟩ := X
  intro H locs ls hP hS hl
  exact lv_isub hX.1 hX.2.1 hd (k H locs ls hP hS hl)
theorem g_imul (hX : Fx X Y w cc nL own lvl) {x y : Int32} (hd : decode cc pc = .ok (.imul, 1)) (k : Gd X Y w σ lv (pc + 1) (.int (x * y) :: st)) : Gd X Y w σ lv pc (.int y :: .int x :: st) := by
  obtain ⟨p, l, e, R, s, m, args, below, meth, c, Q⟩ := X
  intro H locs ls hP hS hl
  exact lv_imul hX.1 hX.2.1 hd (k H locs ls hP hS hl)
theorem g_iand (hX : Fx X Y w cc nL own lvl) {x y : Int32} (hd : decode cc pc = .ok (.iand, 1)) (k : Gd X Y w σ lv (pc + 1) (.int (x &&& y) :: st)) : Gd X Y w σ lv pc (.int y :: .int x :: st) := by
  obtain ⟨p, l, e, R, s, m, args, below, meth, c, Q⟩ := X
  intro H locs ls hP hS hl
  exact lv_iand hX.1 hX.2.1 hd (k H locs ls hP hS hl)
theorem g_ior (hX : Fx X Y w cc nL own lvl) {x y : Int32} (hd : decode cc pc = .ok (.ior, 1)) (k : Gd X Y w σ lv (pc + 1) (.int (x ||| y) :: st)) : Gd X Y w σ lv pc (.int y :: .int x :: st) := by
  obtain ⟨p, l, e, R, s, m, args, below, meth, c, Q⟩ := X
  intro H locs ls hP hS hl
  exact lv_ior hX.1 hX.2.1 hd (k H locs ls hP hS hl)
theorem g_ixor (hX : Fx X Y w cc nL own lvl) {x y : Int32} (hd : decode cc pc = .ok (.ixor, 1)) (k : Gd X Y w σ lv (pc + 1) (.int (x ^^^ y) :: st)) : Gd X Y w σ lv pc (.int y :: .int x :: st) := by
  obtain ⟨p, l, e, R, s, m, args, below, meth, c, Q⟩ := X
  intro H locs ls hP hS hl
  exact lv_ixor hX.1 hX.2.1 hd (k H locs ls hP hS hl)
theorem g_ishl (hX : Fx X Y w cc nL own lvl) {x y : Int32} (hd : decode cc pc = .ok (.ishl, 1)) (k : Gd X Y w σ lv (pc + 1) (.int (x <<< (y &&& 31)) :: st)) : Gd X Y w σ lv pc (.int y :: .int x :: st) := by
  obtain ⟨p, l, e, R, s, m, args, below, meth, c, Q⟩ := X
  intro H locs ls hP hS hl
  exact lv_ishl hX.1 hX.2.1 hd (k H locs ls hP hS hl)
theorem g_ishr (hX : Fx X Y w cc nL own lvl) {x y : Int32} (hd : decode cc pc = .ok (.ishr, 1)) (k : Gd X Y w σ lv (pc + 1) (.int (x >>> (y &&& 31)) :: st)) : Gd X Y w σ lv pc (.int y :: .int x :: st) := by
  obtain ⟨p, l, e, R, s, m, args, below, meth, c, Q⟩ := X
  intro H locs ls hP hS hl
  exact lv_ishr hX.1 hX.2.1 hd (k H locs ls hP hS hl)
theorem g_ladd (hX : Fx X Y w cc nL own lvl) {x y : Int64} (hd : decode cc pc = .ok (.ladd, 1)) (k : Gd X Y w σ lv (pc + 1) (.long (x + y) :: st)) : Gd X Y w σ lv pc (.long y :: .long x :: st) := by
  obtain ⟨p, l, e, R, s, m, args, below, meth, c, Q⟩ := X
  intro H locs ls hP hS hl
  exact lv_ladd hX.1 hX.2.1 hd (k H locs ls hP hS hl)
theorem g_lmul (hX : Fx X Y w cc nL own lvl) {x y : Int64} (hd : decode cc pc = .ok (.lmul, 1)) (k : Gd X Y w σ lv (pc + 1) (.long (x * y) :: st)) : Gd X Y w σ lv pc (.long y :: .long x :: st) := by
  obtain ⟨p, l, e, R, s, m, args, below, meth, c, Q⟩ := X
  intro H locs ls hP hS hl
  exact lv_lmul hX.1 hX.2.1 hd (k H locs ls hP hS hl)
theorem g_lcmp (hX : Fx X Y w cc nL own lvl) {x y : Int64} (hd : decode cc pc = .ok (.lcmp, 1)) (k : Gd X Y w σ lv (pc + 1) (.int (lg_cmp x y) :: st)) : Gd X Y w σ lv pc (.long y :: .long x :: st) := by
  obtain ⟨p, l, e, R, s, m, args, below, meth, c, Q⟩ := X
  intro H locs ls hP hS hl
  exact W.lcmp hX.1 hX.2.1 hd (k H locs ls hP hS hl)
theorem g_ineg (hX : Fx X Y w cc nL own lvl) {x : Int32} (hd : decode cc pc = .ok (.ineg, 1)) (k : Gd X Y w σ lv (pc + 1) (.int (-x) :: st)) : Gd X Y w σ lv pc (.int x :: st) := by
  obtain ⟨p, l, e, R, s, m, args, below, meth, c, Q⟩ := X
  intro H locs ls hP hS hl
  exact lv_ineg hX.1 hX.2.1 hd (k H locs ls hP hS hl)
theorem g_i2l (hX : Fx X Y w cc nL own lvl) {x : Int32} (hd : decode cc pc = .ok (.i2l, 1)) (k : Gd X Y w σ lv (pc + 1) (.long (x.toInt64) :: st)) : Gd X Y w σ lv pc (.int x :: st) := by
  obtain ⟨p, l, e, R, s, m, args, below, meth, c, Q⟩ := X
  intro H locs ls hP hS hl
  exact lv_i2l hX.1 hX.2.1 hd rfl (k H locs ls hP hS hl)
theorem g_l2i (hX : Fx X Y w cc nL own lvl) {x : Int64} (hd : decode cc pc = .ok (.l2i, 1)) (k : Gd X Y w σ lv (pc + 1) (.int (x.toInt32) :: st)) : Gd X Y w σ lv pc (.long x :: st) := by
  obtain ⟨p, l, e, R, s, m, args, below, meth, c, Q⟩ := X
  intro H locs ls hP hS hl
  exact lv_l2i hX.1 hX.2.1 hd rfl (k H locs ls hP hS hl)
theorem g_i2b (hX : Fx X Y w cc nL own lvl) {x : Int32} (hd : decode cc pc = .ok (.i2b, 1)) (k : Gd X Y w σ lv (pc + 1) (.int (x.toInt8.toInt32) :: st)) : Gd X Y w σ lv pc (.int x :: st) := by
  obtain ⟨p, l, e, R, s, m, args, below, meth, c, Q⟩ := X
  intro H locs ls hP hS hl
  exact lv_i2b hX.1 hX.2.1 hd rfl (k H locs ls hP hS hl)
theorem g_i2s (hX : Fx X Y w cc nL own lvl) {x : Int32} (hd : decode cc pc = .ok (.i2s, 1)) (k : Gd X Y w σ lv (pc + 1) (.int (x.toInt16.toInt32) :: st)) : Gd X Y w σ lv pc (.int x :: st) := by
  obtain ⟨p, l, e, R, s, m, args, below, meth, c, Q⟩ := X
  intro H locs ls hP hS hl
  exact lv_i2s hX.1 hX.2.1 hd rfl (k H locs ls hP hS hl)
theorem g_idiv (hX : Fx X Y w cc nL own lvl) {x y : Int32} {β : Type} {o : β} {f : Int32 → Option β} (hd : decode cc pc = .ok (.idiv, 1)) (hf : (dv x y).bind f = some o) (k : ∀ v : Int32, f v = some o → Gd X Y w σ lv (pc + 1) (.int v :: st)) : Gd X Y w σ lv pc (.int y :: .int x :: st) := by
  obtain ⟨a, h1, h2⟩ := obind hf
  unfold dv at h1
  by_cases hy : y = 0
  · rw [if_pos hy] at h1; cases h1
  · rw [if_neg hy] at h1
    cases h1
    obtain ⟨p, l, e, R, s, m, args, below, meth, c, Q⟩ := X
    intro H locs ls hP hS hl
    exact lv_idiv hX.1 hX.2.1 hd hy (k _ h2 H locs ls hP hS hl)
theorem g_irem (hX : Fx X Y w cc nL own lvl) {x y : Int32} {β : Type} {o : β} {f : Int32 → Option β} (hd : decode cc pc = .ok (.irem, 1)) (hf : (rm x y).bind f = some o) (k : ∀ v : Int32, f v = some o → Gd X Y w σ lv (pc + 1) (.int v :: st)) : Gd X Y w σ lv pc (.int y :: .int x :: st) := by
  obtain ⟨a, h1, h2⟩ := obind hf
  unfold rm at h1
  by_cases hy : y = 0
  · rw [if_pos hy] at h1; cases h1
  · rw [if_neg hy] at h1
    cases h1
    obtain ⟨p, l, e, R, s, m, args, below, meth, c, Q⟩ := X
    intro H locs ls hP hS hl
    exact lv_irem hX.1 hX.2.1 hd hy (k _ h2 H locs ls hP hS hl)
theorem g_dup (hX : Fx X Y w cc nL own lvl) {v : Value} (hd : decode cc pc = .ok (.dup, 1)) (hc : v.category = 1) (k : Gd X Y w σ lv (pc + 1) (v :: v :: st)) : Gd X Y w σ lv pc (v :: st) := by
  obtain ⟨p, l, e, R, s, m, args, below, meth, c, Q⟩ := X
  intro H locs ls hP hS hl
  exact lv_dup hX.1 hX.2.1 hd hc (k H locs ls hP hS hl)
theorem g_dup2 (hX : Fx X Y w cc nL own lvl) {u v : Value} (hd : decode cc pc = .ok (.dup2, 1)) (hu : u.category = 1) (hv : v.category = 1) (k : Gd X Y w σ lv (pc + 1) (u :: v :: u :: v :: st)) : Gd X Y w σ lv pc (u :: v :: st) := by
  obtain ⟨p, l, e, R, s, m, args, below, meth, c, Q⟩ := X
  intro H locs ls hP hS hl
  exact lv_dup2_11 hX.1 hX.2.1 hd hu hv (k H locs ls hP hS hl)
theorem g_pop (hX : Fx X Y w cc nL own lvl) {v : Value} (hd : decode cc pc = .ok (.pop, 1)) (hc : v.category = 1) (k : Gd X Y w σ lv (pc + 1) st) : Gd X Y w σ lv pc (v :: st) := by
  obtain ⟨p, l, e, R, s, m, args, below, meth, c, Q⟩ := X
  intro H locs ls hP hS hl
  exact lv_pop hX.1 hX.2.1 hd hc (k H locs ls hP hS hl)
theorem g_goto (hX : Fx X Y w cc nL own lvl) {off : Int} (tgt : Nat) (hd : decode cc pc = .ok (.goto off, 3)) (ht : (pc : Int) + off = (tgt : Int)) (k : Gd X Y w σ lv tgt st) : Gd X Y w σ lv pc st := by
  obtain ⟨p, l, e, R, s, m, args, below, meth, c, Q⟩ := X
  intro H locs ls hP hS hl
  exact lv_goto hX.1 hX.2.1 hd ht (k H locs ls hP hS hl)
theorem g_if_eq (hX : Fx X Y w cc nL own lvl) {x : Int32} {off : Int} (tgt : Nat) {β : Type} {z a b : β} {i0 : Decidable (x = 0)} (hd : decode cc pc = .ok (.ifCond .eq off, 3)) (ht : (pc : Int) + off = (tgt : Int)) (hf : (if x = 0 then a else b) = z) (kt : a = z → Gd X Y w σ lv tgt st) (kf : b = z → Gd X Y w σ lv (pc + 3) st) : Gd X Y w σ lv pc (.int x :: st) := by
  obtain ⟨p, l, e, R, s, m, args, below, meth, c, Q⟩ := X
  intro H locs ls hP hS hl
  exact lv_if_eq hX.1 hX.2.1 hd ht (fun h => kt (by rw [if_pos h] at hf; exact hf) H locs ls hP hS hl) (fun h => kf (by rw [if_neg h] at hf; exact hf) H locs ls hP hS hl)
theorem g_icmp_eq (hX : Fx X Y w cc nL own lvl) {x y : Int32} {off : Int} (tgt : Nat) {β : Type} {z a b : β} {i0 : Decidable (x = y)} (hd : decode cc pc = .ok (.if_icmp .eq off, 3)) (ht : (pc : Int) + off = (tgt : Int)) (hf : (if x = y then a else b) = z) (kt : a = z → Gd X Y w σ lv tgt st) (kf : b = z → Gd X Y w σ lv (pc + 3) st) : Gd X Y w σ lv pc (.int y :: .int x :: st) := by
  obtain ⟨p, l, e, R, s, m, args, below, meth, c, Q⟩ := X
  intro H locs ls hP hS hl
  exact lv_icmp_eq hX.1 hX.2.1 hd ht (fun h => kt (by rw [if_pos h] at hf; exact hf) H locs ls hP hS hl) (fun h => kf (by rw [if_neg h] at hf; exact hf) H locs ls hP hS hl)
theorem g_if_ne (hX : Fx X Y w cc nL own lvl) {x : Int32} {off : Int} (tgt : Nat) {β : Type} {z a b : β} {i0 : Decidable (x = 0)} (hd : decode cc pc = .ok (.ifCond .ne off, 3)) (ht : (pc : Int) + off = (tgt : Int)) (hf : (if x = 0 then b else a) = z) (kt : a = z → Gd X Y w σ lv tgt st) (kf : b = z → Gd X Y w σ lv (pc + 3) st) : Gd X Y w σ lv pc (.int x :: st) := by
  obtain ⟨p, l, e, R, s, m, args, below, meth, c, Q⟩ := X
  intro H locs ls hP hS hl
  exact lv_if_ne hX.1 hX.2.1 hd ht (fun h => kt (by rw [if_neg h] at hf; exact hf) H locs ls hP hS hl) (fun h => kf (by rw [if_pos h] at hf; exact hf) H locs ls hP hS hl)
theorem g_icmp_ne (hX : Fx X Y w cc nL own lvl) {x y : Int32} {off : Int} (tgt : Nat) {β : Type} {z a b : β} {i0 : Decidable (x = y)} (hd : decode cc pc = .ok (.if_icmp .ne off, 3)) (ht : (pc : Int) + off = (tgt : Int)) (hf : (if x = y then b else a) = z) (kt : a = z → Gd X Y w σ lv tgt st) (kf : b = z → Gd X Y w σ lv (pc + 3) st) : Gd X Y w σ lv pc (.int y :: .int x :: st) := by
  obtain ⟨p, l, e, R, s, m, args, below, meth, c, Q⟩ := X
  intro H locs ls hP hS hl
  exact lv_icmp_ne hX.1 hX.2.1 hd ht (fun h => kt (by rw [if_neg h] at hf; exact hf) H locs ls hP hS hl) (fun h => kf (by rw [if_pos h] at hf; exact hf) H locs ls hP hS hl)
theorem g_if_lt (hX : Fx X Y w cc nL own lvl) {x : Int32} {off : Int} (tgt : Nat) {β : Type} {z a b : β} {i0 : Decidable (x < 0)} (hd : decode cc pc = .ok (.ifCond .lt off, 3)) (ht : (pc : Int) + off = (tgt : Int)) (hf : (if x < 0 then a else b) = z) (kt : a = z → Gd X Y w σ lv tgt st) (kf : b = z → Gd X Y w σ lv (pc + 3) st) : Gd X Y w σ lv pc (.int x :: st) := by
  obtain ⟨p, l, e, R, s, m, args, below, meth, c, Q⟩ := X
  intro H locs ls hP hS hl
  exact lv_if_lt hX.1 hX.2.1 hd ht (fun h => kt (by rw [if_pos h] at hf; exact hf) H locs ls hP hS hl) (fun h => kf (by rw [if_neg h] at hf; exact hf) H locs ls hP hS hl)
theorem g_icmp_lt (hX : Fx X Y w cc nL own lvl) {x y : Int32} {off : Int} (tgt : Nat) {β : Type} {z a b : β} {i0 : Decidable (x < y)} (hd : decode cc pc = .ok (.if_icmp .lt off, 3)) (ht : (pc : Int) + off = (tgt : Int)) (hf : (if x < y then a else b) = z) (kt : a = z → Gd X Y w σ lv tgt st) (kf : b = z → Gd X Y w σ lv (pc + 3) st) : Gd X Y w σ lv pc (.int y :: .int x :: st) := by
  obtain ⟨p, l, e, R, s, m, args, below, meth, c, Q⟩ := X
  intro H locs ls hP hS hl
  exact lv_icmp_lt hX.1 hX.2.1 hd ht (fun h => kt (by rw [if_pos h] at hf; exact hf) H locs ls hP hS hl) (fun h => kf (by rw [if_neg h] at hf; exact hf) H locs ls hP hS hl)
theorem g_if_ge (hX : Fx X Y w cc nL own lvl) {x : Int32} {off : Int} (tgt : Nat) {β : Type} {z a b : β} {i0 : Decidable (0 ≤ x)} (hd : decode cc pc = .ok (.ifCond .ge off, 3)) (ht : (pc : Int) + off = (tgt : Int)) (hf : (if 0 ≤ x then a else b) = z) (kt : a = z → Gd X Y w σ lv tgt st) (kf : b = z → Gd X Y w σ lv (pc + 3) st) : Gd X Y w σ lv pc (.int x :: st) := by
  obtain ⟨p, l, e, R, s, m, args, below, meth, c, Q⟩ := X
  intro H locs ls hP hS hl
  exact lv_if_ge hX.1 hX.2.1 hd ht (fun h => kt (by rw [if_pos h] at hf; exact hf) H locs ls hP hS hl) (fun h => kf (by rw [if_neg h] at hf; exact hf) H locs ls hP hS hl)
theorem g_icmp_ge (hX : Fx X Y w cc nL own lvl) {x y : Int32} {off : Int} (tgt : Nat) {β : Type} {z a b : β} {i0 : Decidable (y ≤ x)} (hd : decode cc pc = .ok (.if_icmp .ge off, 3)) (ht : (pc : Int) + off = (tgt : Int)) (hf : (if y ≤ x then a else b) = z) (kt : a = z → Gd X Y w σ lv tgt st) (kf : b = z → Gd X Y w σ lv (pc + 3) st) : Gd X Y w σ lv pc (.int y :: .int x :: st) := by
  obtain ⟨p, l, e, R, s, m, args, below, meth, c, Q⟩ := X
  intro H locs ls hP hS hl
  exact lv_icmp_ge hX.1 hX.2.1 hd ht (fun h => kt (by rw [if_pos h] at hf; exact hf) H locs ls hP hS hl) (fun h => kf (by rw [if_neg h] at hf; exact hf) H locs ls hP hS hl)
theorem g_if_gt (hX : Fx X Y w cc nL own lvl) {x : Int32} {off : Int} (tgt : Nat) {β : Type} {z a b : β} {i0 : Decidable (0 < x)} (hd : decode cc pc = .ok (.ifCond .gt off, 3)) (ht : (pc : Int) + off = (tgt : Int)) (hf : (if 0 < x then a else b) = z) (kt : a = z → Gd X Y w σ lv tgt st) (kf : b = z → Gd X Y w σ lv (pc + 3) st) : Gd X Y w σ lv pc (.int x :: st) := by
  obtain ⟨p, l, e, R, s, m, args, below, meth, c, Q⟩ := X
  intro H locs ls hP hS hl
  exact lv_if_gt hX.1 hX.2.1 hd ht (fun h => kt (by rw [if_pos h] at hf; exact hf) H locs ls hP hS hl) (fun h => kf (by rw [if_neg h] at hf; exact hf) H locs ls hP hS hl)
theorem g_icmp_gt (hX : Fx X Y w cc nL own lvl) {x y : Int32} {off : Int} (tgt : Nat) {β : Type} {z a b : β} {i0 : Decidable (y < x)} (hd : decode cc pc = .ok (.if_icmp .gt off, 3)) (ht : (pc : Int) + off = (tgt : Int)) (hf : (if y < x then a else b) = z) (kt : a = z → Gd X Y w σ lv tgt st) (kf : b = z → Gd X Y w σ lv (pc + 3) st) : Gd X Y w σ lv pc (.int y :: .int x :: st) := by
  obtain ⟨p, l, e, R, s, m, args, below, meth, c, Q⟩ := X
  intro H locs ls hP hS hl
  exact lv_icmp_gt hX.1 hX.2.1 hd ht (fun h => kt (by rw [if_pos h] at hf; exact hf) H locs ls hP hS hl) (fun h => kf (by rw [if_neg h] at hf; exact hf) H locs ls hP hS hl)
theorem g_if_le (hX : Fx X Y w cc nL own lvl) {x : Int32} {off : Int} (tgt : Nat) {β : Type} {z a b : β} {i0 : Decidable (x ≤ 0)} (hd : decode cc pc = .ok (.ifCond .le off, 3)) (ht : (pc : Int) + off = (tgt : Int)) (hf : (if x ≤ 0 then a else b) = z) (kt : a = z → Gd X Y w σ lv tgt st) (kf : b = z → Gd X Y w σ lv (pc + 3) st) : Gd X Y w σ lv pc (.int x :: st) := by
  obtain ⟨p, l, e, R, s, m, args, below, meth, c, Q⟩ := X
  intro H locs ls hP hS hl
  exact lv_if_le hX.1 hX.2.1 hd ht (fun h => kt (by rw [if_pos h] at hf; exact hf) H locs ls hP hS hl) (fun h => kf (by rw [if_neg h] at hf; exact hf) H locs ls hP hS hl)
theorem g_icmp_le (hX : Fx X Y w cc nL own lvl) {x y : Int32} {off : Int} (tgt : Nat) {β : Type} {z a b : β} {i0 : Decidable (x ≤ y)} (hd : decode cc pc = .ok (.if_icmp .le off, 3)) (ht : (pc : Int) + off = (tgt : Int)) (hf : (if x ≤ y then a else b) = z) (kt : a = z → Gd X Y w σ lv tgt st) (kf : b = z → Gd X Y w σ lv (pc + 3) st) : Gd X Y w σ lv pc (.int y :: .int x :: st) := by
  obtain ⟨p, l, e, R, s, m, args, below, meth, c, Q⟩ := X
  intro H locs ls hP hS hl
  exact lv_icmp_le hX.1 hX.2.1 hd ht (fun h => kt (by rw [if_pos h] at hf; exact hf) H locs ls hP hS hl) (fun h => kf (by rw [if_neg h] at hf; exact hf) H locs ls hP hS hl)
theorem g_getI (hX : Fx X Y w cc nL own lvl) {idx k ci i : Nat} {fs : List (Option Nat)} (hk : inW w k) (hs : shp k = (2, ci, fs)) (hi : fs[i]? = some none) (hl : FLok own idx ci i) (hd : decode cc pc = .ok (.getfield idx, 3)) (kk : Gd X Y w σ lv (pc + 3) (.int (σ k i) :: st)) : Gd X Y w σ lv pc (.ref (adr Y k) :: st) := by
  obtain ⟨p, l, e, R, s, m, args, below, meth, c, Q⟩ := X
  obtain ⟨hx, hb, hml, ho, hts, hK, hI, hZ, hR, hN⟩ := hX
  obtain ⟨C, T, N, ty0, h1, h2, h3, h4, h5, h6⟩ := hl
  intro H locs ls hP hS hl
  have he := wd_get (Y := Y) (σ := σ) hk
  rw [cellE_obj hs] at he
  exact va_get hx hb hts h3 ho hK hP (k - wlo w) he h1 i h2 (hts _ h4) (fun _ h => h) (v := .int (σ k i)) (by rw [List.getElem?_mapIdx, hi]; rfl) hd (kk H locs ls hP hS hl)
theorem g_getR (hX : Fx X Y w cc nL own lvl) {idx k ci i j : Nat} {fs : List (Option Nat)} (hk : inW w k) (hs : shp k = (2, ci, fs)) (hi : fs[i]? = some (some j)) (hl : FLok own idx ci i) (hd : decode cc pc = .ok (.getfield idx, 3)) (kk : Gd X Y w σ lv (pc + 3) (.ref (adr Y j) :: st)) : Gd X Y w σ lv pc (.ref (adr Y k) :: st) := by
  obtain ⟨p, l, e, R, s, m, args, below, meth, c, Q⟩ := X
  obtain ⟨hx, hb, hml, ho, hts, hK, hI, hZ, hR, hN⟩ := hX
  obtain ⟨C, T, N, ty0, h1, h2, h3, h4, h5, h6⟩ := hl
  intro H locs ls hP hS hl
  have he := wd_get (Y := Y) (σ := σ) hk
  rw [cellE_obj hs] at he
  exact va_get hx hb hts h3 ho hK hP (k - wlo w) he h1 i h2 (hts _ h4) (fun _ h => h) (v := .ref (adr Y j)) (by rw [List.getElem?_mapIdx, hi]; rfl) hd (kk H locs ls hP hS hl)
theorem g_putI (hX : Fx X Y w cc nL own lvl) {idx k ci i : Nat} {fs : List (Option Nat)} {v : Int32} {β : Type} {z : β} {f : Mem → β} (hk : inW w k) (hs : shp k = (2, ci, fs)) (hi : fs[i]? = some none) (hl : FIok own idx ci i) (hd : decode cc pc = .ok (.putfield idx, 3)) (hf : lt (mput σ k i v) f = z) (kk : ∀ σ2 : Mem, f σ2 = z → Gd X Y w σ2 lv (pc + 3) st) : Gd X Y w σ lv pc (.int v :: .ref (adr Y k) :: st) := by
  obtain ⟨p, l, e, R, s, m, args, below, meth, c, Q⟩ := X
  obtain ⟨hx, hb, hml, ho, hts, hK, hI, hZ, hR, hN⟩ := hX
  obtain ⟨C, T, N, ty0, h1, h2, h3, h4, h5, h6, h7, h8⟩ := hl
  intro H locs ls hP hS hl
  have he := wd_get (Y := Y) (σ := σ) hk
  rw [cellE_obj hs] at he
  have hlen := (List.getElem?_eq_some_iff.mp hi).1
  refine va_put (ty := .int) (v := .int v) hx hb hts h3 ty0 h5 h6 ho hK hP (wd_D hI σ) hS (k - wlo w) he h1 i h2 (hts _ h4) (fun _ h => h) h8 (by rw [h7]; decide +kernel) (vp_nar_int v) rfl (by simpa using hlen) hd (fun H1 locs1 hP1 hD1 hS1 => ?_)
  have e1 : (wd Y w σ).set (k - wlo w) (adr Y k, .inr (ci, (fs.mapIdx (fldV Y (σ k))).set i (.int v))) = wd Y w (mput σ k i v) := wd_set hk mput_ne (by rw [cellE_obj hs, mput_eq, fld_put hi])
  rw [e1] at hP1
  exact kk _ hf H1 locs1 ls hP1 hS1 hl
theorem rd_spec {σ : Mem} {k : Nat} {i : Int32} {v : Int32} (h : rd σ k i = some v) : vp_in i (lenOf k) ∧ v = σ k i.toNatClampNeg := by
  unfold rd at h
  by_cases hc : i < 0 ∨ lenOf k ≤ i.toNatClampNeg
  · rw [if_pos hc] at h; cases h
  · rw [if_neg hc] at h; cases h; exact ⟨hc, rfl⟩
theorem wr_spec {σ σ2 : Mem} {k : Nat} {i : Int32} {v : Int32} (h : wr σ k i v = some σ2) : vp_in i (lenOf k) ∧ σ2 = mput σ k i.toNatClampNeg v := by
  unfold wr at h
  by_cases hc : i < 0 ∨ lenOf k ≤ i.toNatClampNeg
  · rw [if_pos hc] at h; cases h
  · rw [if_neg hc] at h; cases h; exact ⟨hc, rfl⟩
theorem g_iaload (hX : Fx X Y w cc nL own lvl) {k L : Nat} {fs : List (Option Nat)} {i : Int32} {β : Type} {o : β} {f : Int32 → Option β} (hk : inW w k) (hs : shp k = (0, L, fs)) (hd : decode cc pc = .ok (.iaload, 1)) (hf : (rd σ k i).bind f = some o) (kk : ∀ v : Int32, f v = some o → Gd X Y w σ lv (pc + 1) (.int v :: st)) : Gd X Y w σ lv pc (.int i :: .ref (adr Y k) :: st) := by
  obtain ⟨a, ha, hf⟩ := obind hf
  obtain ⟨hin, rfl⟩ := rd_spec ha
  obtain ⟨p, l, e, R, s, m, args, below, meth, c, Q⟩ := X
  obtain ⟨hx, hb, hml, ho, hts, hK, hI, hZ, hR, hN⟩ := hX
  intro H locs ls hP hS hl
  have he := wd_get (Y := Y) (σ := σ) hk
  rw [cellE_arr hs] at he
  have hin : vp_in i L := by have : lenOf k = L := by unfold lenOf; rw [hs]
                             rw [← this]; exact hin
  exact va_iald hx hb hK hP (k - wlo w) 0 he rfl hin hd (kk _ hf H locs ls hP hS hl)
theorem g_iastore (hX : Fx X Y w cc nL own lvl) {k L : Nat} {fs : List (Option Nat)} {i v : Int32} {β : Type} {o : β} {f : Mem → Option β} (hk : inW w k) (hs : shp k = (0, L, fs)) (hd : decode cc pc = .ok (.iastore, 1)) (hf : (wr σ k i v).bind f = some o) (kk : ∀ σ2 : Mem, f σ2 = some o → Gd X Y w σ2 lv (pc + 1) st) : Gd X Y w σ lv pc (.int v :: .int i :: .ref (adr Y k) :: st) := by
  obtain ⟨a, ha, hf⟩ := obind hf
  obtain ⟨hin, rfl⟩ := wr_spec ha
  obtain ⟨p, l, e, R, s, m, args, below, meth, c, Q⟩ := X
  obtain ⟨hx, hb, hml, ho, hts, hK, hI, hZ, hR, hN⟩ := hX
  intro H locs ls hP hS hl
  have he := wd_get (Y := Y) (σ := σ) hk
  rw [cellE_arr hs] at he
  have hin : vp_in i L := by have : lenOf k = L := by unfold lenOf; rw [hs]
                             rw [← this]; exact hin
  refine va_iast hx hb hK hP (wd_D hI σ) hS (k - wlo w) 0 he rfl hin hd (fun H1 locs1 hP1 hD1 hS1 => ?_)
  have e1 : (wd Y w σ).set (k - wlo w) (adr Y k, .inl (Y.2.1, L, .inl (upd (σ k) i.toNatClampNeg v))) = wd Y w (mput σ k i.toNatClampNeg v) := wd_set hk mput_ne (by rw [cellE_arr hs, mput_eq])
  rw [e1] at hP1
  exact kk _ hf H1 locs1 ls hP1 hS1 hl
theorem g_baload (hX : Fx X Y w cc nL own lvl) {k L : Nat} {fs : List (Option Nat)} {i : Int32} {β : Type} {o : β} {f : Int32 → Option β} (hk : inW w k) (hs : shp k = (1, L, fs)) (hd : decode cc pc = .ok (.baload, 1)) (hf : (rd σ k i).bind f = some o) (kk : ∀ v : Int32, f v = some o → Gd X Y w σ lv (pc + 1) (.int v :: st)) : Gd X Y w σ lv pc (.int i :: .ref (adr Y k) :: st) := by
  obtain ⟨a, ha, hf⟩ := obind hf
  obtain ⟨hin, rfl⟩ := rd_spec ha
  obtain ⟨p, l, e, R, s, m, args, below, meth, c, Q⟩ := X
  obtain ⟨hx, hb, hml, ho, hts, hK, hI, hZ, hR, hN⟩ := hX
  intro H locs ls hP hS hl
  have he := wd_get (Y := Y) (σ := σ) hk
  rw [cellE_arrZ hs] at he
  have hin : vp_in i L := by have : lenOf k = L := by unfold lenOf; rw [hs]
                             rw [← this]; exact hin
  exact va_zald hx hb hK hP (k - wlo w) 1 he rfl hin hd (kk _ hf H locs ls hP hS hl)
theorem g_bastore (hX : Fx X Y w cc nL own lvl) {k L : Nat} {fs : List (Option Nat)} {i v : Int32} {β : Type} {o : β} {f : Mem → Option β} (hk : inW w k) (hs : shp k = (1, L, fs)) (hn : vp_nar .boolean v = v) (hd : decode cc pc = .ok (.bastore, 1)) (hf : (wr σ k i v).bind f = some o) (kk : ∀ σ2 : Mem, f σ2 = some o → Gd X Y w σ2 lv (pc + 1) st) : Gd X Y w σ lv pc (.int v :: .int i :: .ref (adr Y k) :: st) := by
  obtain ⟨a, ha, hf⟩ := obind hf
  obtain ⟨hin, rfl⟩ := wr_spec ha
  obtain ⟨p, l, e, R, s, m, args, below, meth, c, Q⟩ := X
  obtain ⟨hx, hb, hml, ho, hts, hK, hI, hZ, hR, hN⟩ := hX
  intro H locs ls hP hS hl
  have he := wd_get (Y := Y) (σ := σ) hk
  rw [cellE_arrZ hs] at he
  have hin : vp_in i L := by have : lenOf k = L := by unfold lenOf; rw [hs]
                             rw [← this]; exact hin
  refine va_zast hx hb hK hP (wd_D hI σ) hS (k - wlo w) 1 he rfl hin hd (fun H1 locs1 hP1 hD1 hS1 => ?_)
  have e1 : (wd Y w σ).set (k - wlo w) (adr Y k, .inl (Y.2.2.1, L, .inl (upd (σ k) i.toNatClampNeg (vp_nar .boolean v)))) = wd Y w (mput σ k i.toNatClampNeg v) := wd_set hk mput_ne (by rw [cellE_arrZ hs, mput_eq, hn])
  rw [e1] at hP1
  exact kk _ hf H1 locs1 ls hP1 hS1 hl
theorem g_alen (hX : Fx X Y w cc nL own lvl) {k L : Nat} {fs : List (Option Nat)} (hk : inW w k) (hs : shp k = (0, L, fs)) (hd : decode cc pc = .ok (.arraylength, 1)) (kk : Gd X Y w σ lv (pc + 1) (.int (nI (lenOf k)) :: st)) : Gd X Y w σ lv pc (.ref (adr Y k) :: st) := by
  obtain ⟨p, l, e, R, s, m, args, below, meth, c, Q⟩ := X
  obtain ⟨hx, hb, hml, ho, hts, hK, hI, hZ, hR, hN⟩ := hX
  intro H locs ls hP hS hl
  have he := wd_get (Y := Y) (σ := σ) hk
  rw [cellE_arr hs] at he
  have hL : lenOf k = L := by unfold lenOf; rw [hs]
  exact va_alen hx hb hK hP (k - wlo w) 0 he rfl (v := nI (lenOf k)) (by rw [hL]; rfl) hd (kk H locs ls hP hS hl)
theorem g_getst (hX : Fx X Y w cc nL own lvl) {idx k : Nat} (hk : k < 3) (hl : Cond.fieldLink own idx "OrderTrees" (stNm k) "[I" ∈ Tg) (hd : decode cc pc = .ok (.getstatic idx, 3)) (kk : Gd X Y w σ lv (pc + 3) (.ref (sad Y k) :: st)) : Gd X Y w σ lv pc st := by
  obtain ⟨p, l, e, R, s, m, args, below, meth, c, Q⟩ := X
  obtain ⟨hx, hb, hml, ho, hts, hK, hI, hZ, hR, hN⟩ := hX
  intro H locs ls hP hS hls
  exact va_gets hx hb (hZ k hk).1 hS ho (hts _ hl) (fun _ h => h) hd (kk H locs ls hP hS hls)
theorem rds_spec {k : Nat} {i v : Int32} (h : rds k i = some v) : vp_in i (stA k).length ∧ v = (stA k).getD i.toNatClampNeg 0 := by
  unfold rds at h
  by_cases hc : i < 0 ∨ (stA k).length ≤ i.toNatClampNeg
  · rw [if_pos hc] at h; cases h
  · rw [if_neg hc] at h; cases h; exact ⟨hc, rfl⟩
theorem g_ialoadS (hX : Fx X Y w cc nL own lvl) {k : Nat} {i : Int32} {β : Type} {o : β} {f : Int32 → Option β} (hk : k < 3) (hd : decode cc pc = .ok (.iaload, 1)) (hf : (rds k i).bind f = some o) (kk : ∀ v : Int32, f v = some o → Gd X Y w σ lv (pc + 1) (.int v :: st)) : Gd X Y w σ lv pc (.int i :: .ref (sad Y k) :: st) := by
  obtain ⟨a, ha, hf⟩ := obind hf
  obtain ⟨hin, rfl⟩ := rds_spec ha
  obtain ⟨p, l, e, R, s, m, args, below, meth, c, Q⟩ := X
  obtain ⟨hx, hb, hml, ho, hts, hK, hI, hZ, hR, hN⟩ := hX
  intro H locs ls hP hS hl
  exact va_ti hx hb (hZ k hk).2 hS hin rfl hd (kk _ hf H locs ls hP hS hl)
theorem g_alenS (hX : Fx X Y w cc nL own lvl) {k : Nat} {v : Int32} (hk : k < 3) (hv : Int32.ofNat (stA k).length = v) (hd : decode cc pc = .ok (.arraylength, 1)) (kk : Gd X Y w σ lv (pc + 1) (.int v :: st)) : Gd X Y w σ lv pc (.ref (sad Y k) :: st) := by
  obtain ⟨p, l, e, R, s, m, args, below, meth, c, Q⟩ := X
  obtain ⟨hx, hb, hml, ho, hts, hK, hI, hZ, hR, hN⟩ := hX
  intro H locs ls hP hS hl
  exact va_tlen hx hb (hZ k hk).2 hS hv hd (kk H locs ls hP hS hl)
theorem g_max (hX : Fx X Y w cc nL own lvl) {idx : Nat} {x y : Int32} (hL : 1 ≤ lvl) (hl1 : Cond.methodLink own idx Lib.Math.max.name ∈ Tg) (hl2 : Cond.static Lib.Math.max.name ∈ Tg) (hl3 : Cond.initialized "java/lang/Math" ∈ Tg) (hl4 : Cond.code Lib.Math.max.name Lib.Math.max.code 2 (some .int) ∈ Tg) (hr : (st.map fun v => v.category).sum ≤ 8) (hd : decode cc pc = .ok (.invokestatic idx, 3)) (kk : Gd X Y w σ lv (pc + 3) (.int (if x < y then y else x) :: st)) : Gd X Y w σ lv pc (.int y :: .int x :: st) := by
  obtain ⟨p, l, e, R, s, m, args, below, meth, c, Q⟩ := X
  obtain ⟨hx, hb, hml, ho, hts, hK, hI, hZ, hR, hN⟩ := hX
  subst hR
  intro H locs ls hP hS hl
  exact va_mmax hx hb hl.1.symm ho (hts _ hl1) (hts _ hl2) (hts _ hl3) (hts _ hl4) hL (by show _ ≤ 40 * lvl; omega) (Nat.le_refl 0) (Nat.le_refl 0) hd (kk H locs ls hP hS hl)
theorem g_min (hX : Fx X Y w cc nL own lvl) {idx : Nat} {x y : Int32} (hL : 1 ≤ lvl) (hl1 : Cond.methodLink own idx Lib.Math.min.name ∈ Tg) (hl2 : Cond.static Lib.Math.min.name ∈ Tg) (hl3 : Cond.initialized "java/lang/Math" ∈ Tg) (hl4 : Cond.code Lib.Math.min.name Lib.Math.min.code 2 (some .int) ∈ Tg) (hr : (st.map fun v => v.category).sum ≤ 8) (hd : decode cc pc = .ok (.invokestatic idx, 3)) (kk : Gd X Y w σ lv (pc + 3) (.int (if y < x then y else x) :: st)) : Gd X Y w σ lv pc (.int y :: .int x :: st) := by
  obtain ⟨p, l, e, R, s, m, args, below, meth, c, Q⟩ := X
  obtain ⟨hx, hb, hml, ho, hts, hK, hI, hZ, hR, hN⟩ := hX
  subst hR
  intro H locs ls hP hS hl
  exact va_mmin hx hb hl.1.symm ho (hts _ hl1) (hts _ hl2) (hts _ hl3) (hts _ hl4) hL (by show _ ≤ 40 * lvl; omega) (Nat.le_refl 0) (Nat.le_refl 0) hd (kk H locs ls hP hS hl)
-- copy within one row of ints (System.arraycopy of a cell onto itself)
def cpy (σ : Mem) (k : Nat) (sp dp n : Int32) : Option Mem := if sp < 0 ∨ dp < 0 ∨ n < 0 ∨ lenOf k < sp.toNatClampNeg + n.toNatClampNeg ∨ lenOf k < dp.toNatClampNeg + n.toNatClampNeg then none else some (mset σ k (va_cpy (σ k) (σ k) sp.toNatClampNeg dp.toNatClampNeg n.toNatClampNeg))
theorem g_copy (hX : Fx X Y w cc nL own lvl) {idx k L : Nat} {fs : List (Option Nat)} {sp dp n : Int32} {β : Type} {o : β} {f : Mem → Option β} (hk : inW w k) (hs : shp k = (0, L, fs)) (hL : 1 ≤ lvl) (hl1 : Cond.methodLink own idx arraycopyName ∈ Tg) (hl2 : Cond.native arraycopyName ∈ Tg) (hl3 : Cond.static arraycopyName ∈ Tg) (hl4 : Cond.initialized "java/lang/System" ∈ Tg) (hr : (st.map fun v => v.category).sum + (nativeFrameWords "java/lang/System" "arraycopy" 5 + 11) ≤ 40) (hd : decode cc pc = .ok (.invokestatic idx, 3)) (hf : (cpy σ k sp dp n).bind f = some o) (kk : ∀ σ2 : Mem, f σ2 = some o → Gd X Y w σ2 lv (pc + 3) st) : Gd X Y w σ lv pc (.int n :: .int dp :: .ref (adr Y k) :: .int sp :: .ref (adr Y k) :: st) := by
  obtain ⟨a, ha, hf⟩ := obind hf
  unfold cpy at ha
  by_cases hc : sp < 0 ∨ dp < 0 ∨ n < 0 ∨ lenOf k < sp.toNatClampNeg + n.toNatClampNeg ∨ lenOf k < dp.toNatClampNeg + n.toNatClampNeg
  · rw [if_pos hc] at ha; cases ha
  · rw [if_neg hc] at ha
    cases ha
    obtain ⟨p, l, e, R, s, m, args, below, meth, c, Q⟩ := X
    obtain ⟨hx, hb, hml, ho, hts, hK, hI, hZ, hR, hN⟩ := hX
    subst hR
    intro H locs ls hP hS hl
    have he := wd_get (Y := Y) (σ := σ) hk
    rw [cellE_arr hs] at he
    have hLk : lenOf k = L := by unfold lenOf; rw [hs]
    rw [hLk] at hc
    refine va_copyi hx hb hl.1.symm ho (hts _ hl1) (hts _ hl2) (hts _ hl3) (hts _ hl4) hK hP (wd_D hI σ) hS (k - wlo w) (k - wlo w) 0 0 he he rfl rfl rfl (fun h => hc (Or.inl h)) (fun h => hc (Or.inr (Or.inl h))) (fun h => hc (Or.inr (Or.inr (Or.inl h)))) (by omega) (by omega) (fun i hi => rfl) hL (by show _ ≤ 40 * lvl; omega) hd (fun H1 locs1 hP1 hD1 hS1 => ?_)
    have e1 : (wd Y w σ).set (k - wlo w) (adr Y k, .inl (Y.2.1, L, .inl (va_cpy (σ k) (σ k) sp.toNatClampNeg dp.toNatClampNeg n.toNatClampNeg))) = wd Y w (mset σ k (va_cpy (σ k) (σ k) sp.toNatClampNeg dp.toNatClampNeg n.toNatClampNeg)) := wd_set hk (fun j hj => by simp [mset, hj]) (by rw [cellE_arr hs]; simp [mset])
    rw [e1] at hP1
    exact kk _ hf H1 locs1 ls hP1 hS1 hl
-- calls
theorem Sts.to {A : Nat → Prop} {s U : State} {H : Heap} {locs : List Loc} (h : Sts Y A s s.heap) (hS : va_S A s.heap H locs) (hU : U.heap = H) (hW : s.WarmedH U.vm) : Sts Y A U U.heap := fun k hk => by
  obtain ⟨h1, h2⟩ := h k hk
  rw [hU]
  exact ⟨(h1.kept hS.2.1).moved hW.alike, (h2.kept hS.2.1).moved hW.alike⟩
theorem iv_blind {as : List Value} : FrameBlind (va_Pc as (Iv Y w σ)) := fun a U g mk q => by
  obtain ⟨q0, q1, q2, q3, q4, q5⟩ := q
  exact ⟨q0, q1, va_K.moved (u := U) (U := U.calling g mk a) (Vm.Alike.refl U.vm) q2, q3, q4, va_Nw.same rfl (u := U) (U := U.calling g mk a) rfl q5⟩
theorem g_run {p : Program} {l : Launch} {e : Env} {R : Room} {s : State} {m : MethodId} {args : Array Value} {below : List Frame} {meth : Method} {c : Code} {H : Heap} {locs : List Loc} {Q : State → Prop} {ls : Array Slot} {st0 rest : List Value} {a : Array Value} {ret : Option FieldType} {r : Option Value} {σ2 : Mem}
    (hr : va_Run p l e R s m args below meth c H locs 0 0 0 0 (F0 m pc ls st0) rest (Qo Y w ret r σ2 a) (Aw Y w)) (hS : va_S (Aw Y w) s.heap H locs)
    (kk : okR ret r → ∀ (H1 : Heap) (locs1 : List Loc), va_P Y.1 classes (wd Y w σ2) H1 → va_S (Aw Y w) s.heap H1 locs1 → W p l e R s m args below meth c H1 locs1 0 0 Q (F0 m (pc + 3) ls (r.toList ++ rest))) : W p l e R s m args below meth c H locs 0 0 Q (F0 m pc ls st0) := by
  intro T hT X
  obtain ⟨v, st₀, t, T', L, h0, X', hL, e1, e2, ⟨hv, hok, hb, hz, hk⟩, st⟩ := hr T hT X
  cases hv
  rw [h0] at hz hk
  obtain ⟨t2, a1, b1⟩ := kk hok T'.heap (locs ++ L) (by rw [e1]; exact hb)
    ⟨Nat.le_trans hS.1 (by rw [e1]; exact hz), fun q h1 h2 => by rw [e1, hk q (Nat.lt_of_lt_of_le h1 hS.1) h2]; exact hS.2.1 q h1 h2, fun q hq => by
      rcases List.mem_append.mp hq with h | h
      · exact hS.2.2 q h
      · exact hL q h⟩ T' rfl X'
  exact ⟨t2, st t2 a1, b1⟩
theorem g_callV (hX : Fx X Y w cc nL own lvl) {C : String} {y : MethodName} {b : ByteArray} {nC idx n lv2 k ci : Nat} {fs : List (Option Nat)} {ret : Option FieldType} {T : u_T} {N : Nat} (As : List Value) (rest : List Value) {r : Option Value} {σ2 : Mem} (hm : MVok own idx C y b nC ret n) (hc : Ct X.2.1 Y w y b nC ret lv2 (.ref (adr Y k) :: As) σ r σ2) (hv : lv2 + 1 ≤ lvl) (hk : inW w k) (hs : shp k = (2, ci, fs)) (hcl : classes[ci]? = some (C, T, N)) (hst : st = As.reverse ++ .ref (adr Y k) :: rest) (hn : As.length = n) (hrs : (rest.map fun v => v.category).sum ≤ 8) (hd : decode cc pc = .ok (.invokevirtual idx, 3))
    (kk : okR ret r → Gd X Y w σ2 lv (pc + 3) (r.toList ++ rest)) : Gd X Y w σ lv pc st := by
  obtain ⟨p, l, e, R, s, m, args, below, meth, c, Q⟩ := X
  obtain ⟨hx, hb, hml, ho, hts, hK, hI, hZ, hR, hN⟩ := hX
  obtain ⟨m1, m2, m3, m4, m5, m6, m7⟩ := hm
  subst hR; subst hst
  intro H locs ls hP hS hl
  have he := wd_get (Y := Y) (σ := σ) hk
  rw [cellE_obj hs] at he
  have hG : GoodIn Tg (wsV own idx C y (.code y b nC ret :: Tg)) := tg_in (fun _ h => h) (fun z hz => by
    simp only [wsV, List.mem_append, List.mem_cons, List.not_mem_nil, or_false] at hz
    rcases hz with (h | h | h | h) | h | h <;> first | (rw [h]; assumption) | exact h)
  refine g_run (ret := ret) (r := r) (σ2 := σ2) (va_runV (As := As) (rest := rest) ⟨hx, hb, hml, ho, hts⟩ hc (cwV n hts hG rfl rfl rfl m6 ⟨hv, ?_⟩) ⟨iv_blind, va_recv hK hP hcl he, fun U hU hW => ⟨rfl, by rw [hU]; exact hP, va_K.moved hW.alike hK, hI, hZ.to hS hU hW, va_Nw.warmM hW hN⟩⟩ rfl hn (by rw [← hml]; exact hl.1) rfl (lv_room hrs) hd ⟨Nat.le_refl 0, Nat.le_refl 0⟩) hS (fun hok H1 locs1 hP1 hS1 => kk hok H1 locs1 ls hP1 hS1 hl)
  show 8 + (nC + 11) + 40 * lv2 ≤ 40 * lvl
  unfold nMax at m7
  omega
theorem g_callS (hX : Fx X Y w cc nL own lvl) {y : MethodName} {b : ByteArray} {nC idx n lv2 : Nat} {ret : Option FieldType} (As : List Value) (rest : List Value) {r : Option Value} {σ2 : Mem} (hm : MSok own idx y b nC ret n) (hc : Ct X.2.1 Y w y b nC ret lv2 As σ r σ2) (hv : lv2 + 1 ≤ lvl) (hst : st = As.reverse ++ rest) (hn : As.length = n) (hrs : (rest.map fun v => v.category).sum ≤ 8) (hd : decode cc pc = .ok (.invokestatic idx, 3))
    (kk : okR ret r → Gd X Y w σ2 lv (pc + 3) (r.toList ++ rest)) : Gd X Y w σ lv pc st := by
  obtain ⟨p, l, e, R, s, m, args, below, meth, c, Q⟩ := X
  obtain ⟨hx, hb, hml, ho, hts, hK, hI, hZ, hR, hN⟩ := hX
  obtain ⟨m1, m2, m4, m5, m6, m7⟩ := hm
  subst hR; subst hst
  intro H locs ls hP hS hl
  have hG : GoodIn Tg (va_wsS own idx y (.code y b nC ret :: Tg)) := tg_in (fun _ h => h) (fun z hz => by
    simp only [va_wsS, List.mem_append, List.mem_cons, List.not_mem_nil, or_false] at hz
    rcases hz with (h | h | h) | h | h <;> first | (rw [h]; assumption) | exact h)
  refine g_run (ret := ret) (r := r) (σ2 := σ2) (va_runS (As := As) (rest := rest) ⟨hx, hb, hml, ho, hts⟩ hc (va_cwS n hts hG rfl rfl rfl m6 ⟨hv, ?_⟩) ⟨iv_blind, fun U hU hW => ⟨rfl, by rw [hU]; exact hP, va_K.moved hW.alike hK, hI, hZ.to hS hU hW, va_Nw.warmM hW hN⟩⟩ rfl hn (by rw [← hml]; exact hl.1) rfl (lv_room hrs) hd ⟨Nat.le_refl 0, Nat.le_refl 0⟩) hS (fun hok H1 locs1 hP1 hS1 => kk hok H1 locs1 ls hP1 hS1 hl)
  show 8 + (nC + 11) + 40 * lv2 ≤ 40 * lvl
  unfold nMax at m7
  omega
/-- the nest mate's factorial, called out of Tree -/
theorem g_callF (hX : Fx X Y w cc nL R_T lvl) {lv2 : Nat} (As : List Value) (rest : List Value) {r : Option Value} {σ2 : Mem} (h1 : Cond.static y_O_factorial ∈ Tg) (h2 : Cond.initialized R_O ∈ Tg) (h3 : Cond.code y_O_factorial b_O_factorial 1 (some .int) ∈ Tg) (hc : Ct X.2.1 Y w y_O_factorial b_O_factorial 1 (some .int) lv2 As σ r σ2) (hv : lv2 + 1 ≤ lvl) (hst : st = As.reverse ++ rest) (hn : As.length = 1) (hrs : (rest.map fun v => v.category).sum ≤ 8) (hd : decode cc pc = .ok (.invokestatic 158, 3))
    (kk : okR (some .int) r → Gd X Y w σ2 lv (pc + 3) (r.toList ++ rest)) : Gd X Y w σ lv pc st := by
  obtain ⟨p, l, e, R, s, m, args, below, meth, c, Q⟩ := X
  obtain ⟨hx, hb, hml, ho, hts, hK, hI, hZ, hR, hN⟩ := hX
  subst hR; subst hst
  intro H locs ls hP hS hl
  have hG : GoodIn Tg (.code y_O_factorial b_O_factorial 1 (some .int) :: Tg) := tg_in (fun _ h => h) (fun z hz => by
    rcases List.mem_cons.mp hz with h | h
    · rw [h]; exact h3
    · exact h)
  refine g_run (ret := some .int) (r := r) (σ2 := σ2) (va_runSN (As := As) (rest := rest) ⟨hx, hb, hml, ho, hts⟩ hc ⟨va_cnB 1 hts hG rfl rfl rfl hN (hts _ h2) (by decide +kernel) ⟨hv, ?_⟩, hts _ h1, trivial⟩ ⟨iv_blind, fun U hU hW => ⟨rfl, by rw [hU]; exact hP, va_K.moved hW.alike hK, hI, hZ.to hS hU hW, va_Nw.warmM hW hN⟩⟩ rfl hn (by rw [← hml]; exact hl.1) rfl (lv_room hrs) hd ⟨Nat.le_refl 0, Nat.le_refl 0⟩) hS (fun hok H1 locs1 hP1 hS1 => kk hok H1 locs1 ls hP1 hS1 hl)
  show 8 + (1 + 11) + 40 * lv2 ≤ 40 * lvl
  omega
-- ends
theorem g_ireturn (hX : Fx X Y w cc nL own lvl) {v : Int32} (hR : Rt X Y w (some .int) (some (.int v)) σ) (hd : decode cc pc = .ok (.ireturn, 1)) : Gd X Y w σ lv pc [.int v] := by
  obtain ⟨p, l, e, R, s, m, args, below, meth, c, Q⟩ := X
  obtain ⟨h1, h2, rfl⟩ := hR
  intro H locs ls hP hS hl
  exact W.iret hX.1 hX.2.1 h1 (fun t ht hW => ⟨rfl, trivial, by rw [ht]; exact hP, hS.F ht⟩) hS.2.2 hd h2
theorem g_zreturn (hX : Fx X Y w cc nL own lvl) {v : Int32} (hR : Rt X Y w (some .boolean) (some (.int v)) σ) (hn : okR (some .boolean) (some (.int v))) (hd : decode cc pc = .ok (.ireturn, 1)) : Gd X Y w σ lv pc [.int v] := by
  obtain ⟨p, l, e, R, s, m, args, below, meth, c, Q⟩ := X
  obtain ⟨h1, h2, rfl⟩ := hR
  intro H locs ls hP hS hl
  exact W.zret hX.1 hX.2.1 h1 hn (fun t ht hW => ⟨rfl, hn, by rw [ht]; exact hP, hS.F ht⟩) hS.2.2 hd h2
theorem g_lreturn (hX : Fx X Y w cc nL own lvl) {v : Int64} (hR : Rt X Y w (some .long) (some (.long v)) σ) (hd : decode cc pc = .ok (.lreturn, 1)) : Gd X Y w σ lv pc [.long v] := by
  obtain ⟨p, l, e, R, s, m, args, below, meth, c, Q⟩ := X
  obtain ⟨h1, h2, rfl⟩ := hR
  intro H locs ls hP hS hl
  exact W.lret hX.1 hX.2.1 h1 (fun t ht hW => ⟨rfl, trivial, by rw [ht]; exact hP, hS.F ht⟩) hS.2.2 hd h2
theorem g_return (hX : Fx X Y w cc nL own lvl) (hR : Rt X Y w none none σ) (hd : decode cc pc = .ok (.return_, 1)) : Gd X Y w σ lv pc [] := by
  obtain ⟨p, l, e, R, s, m, args, below, meth, c, Q⟩ := X
  obtain ⟨h1, h2, rfl⟩ := hR
  intro H locs ls hP hS hl
  exact W.vret hX.1 hX.2.1 h1 (fun t ht hW => ⟨rfl, trivial, by rw [ht]; exact hP, hS.F ht⟩) hS.2.2 hd h2
theorem g_tabIn (hX : Fx X Y w cc nL own lvl) {x : Int32} {dflt lo hi : Int} {offs : Array Int} {len : Nat} {off : Int} (tgt : Nat) (hd : decode cc pc = .ok (.tableswitch dflt lo hi offs, len)) (h1 : ¬ x.toInt < lo) (h2 : ¬ hi < x.toInt) (ho : offs[(x.toInt - lo).toNat]? = some off) (ht : (pc : Int) + off = (tgt : Int)) (k : Gd X Y w σ lv tgt st) : Gd X Y w σ lv pc (.int x :: st) := by
  obtain ⟨p, l, e, R, s, m, args, below, meth, c, Q⟩ := X
  intro H locs ls hP hS hl
  exact lv_tableIn hX.1 hX.2.1 hd h1 h2 ho ht (k H locs ls hP hS hl)
theorem g_tabOut (hX : Fx X Y w cc nL own lvl) {x : Int32} {dflt lo hi : Int} {offs : Array Int} {len : Nat} (tgt : Nat) (hd : decode cc pc = .ok (.tableswitch dflt lo hi offs, len)) (h : x.toInt < lo ∨ hi < x.toInt) (ht : (pc : Int) + dflt = (tgt : Int)) (k : Gd X Y w σ lv tgt st) : Gd X Y w σ lv pc (.int x :: st) := by
  obtain ⟨p, l, e, R, s, m, args, below, meth, c, Q⟩ := X
  intro H locs ls hP hS hl
  exact lv_tableOut hX.1 hX.2.1 hd h ht (k H locs ls hP hS hl)
end GR
theorem g_loop {S R : Type} (f : S → Option (S ⊕ R)) (hd : S → Prop) (x : R) (step : ∀ s y, f s = some y → (∀ s2, y = .inl s2 → hd s2) → (∀ r, y = .inr r → r = x) → hd s) : ∀ n s, lp f n s = some x → hd s := by
  intro n
  induction n with
  | zero => intro s h; cases h
  | succ n ih =>
    intro s h
    obtain ⟨y, hy, h2⟩ := obind h
    refine step s y hy (fun s2 e => ?_) (fun r e => ?_)
    · subst e; exact ih s2 h2
    · subst e; exact Option.some.inj h2
/-- a method's contract out of the walk of its body -/
theorem ct_of {l : Launch} {Y : Wx} {w : Nat} {y : MethodName} {b : ByteArray} {nL : Nat} {ret : Option FieldType} {lvl : Nat} {as : List Value} {σ : Mem} {r : Option Value} {σ2 : Mem} {lv : List (Nat × Value)} (hy : plainName y.cls = true) (hn : (lg_sl as).length ≤ nL) (hlv : lv_args 0 as = lv)
    (h : ∀ X : Cx, X.2.1 = l → Fx X Y w b nL y.cls lvl → Rt X Y w ret r σ2 → Gd X Y w σ lv 0 []) : Ct l Y w y b nL ret lvl as σ r σ2 := by
  subst hlv
  refine Met.ofW (cc := b) (maxL := nL) (ret := ret) hy rfl ?_
  intro p e s m args below meth c s₁ B hml hv
  obtain ⟨rfl, hP, hK, hI, hZ, hN⟩ := hv
  have hts := atoms_spec (ws := .code y b nL ret :: Tg) B.pre
  have hown : s.vm.findClass y.cls = some m.cls := findClass_of_methodNamed B.named
  have hl := lv_entry as (n := nL) hn
  rw [lg_entry_eq]
  exact h (p, l, e, rmL lvl, s, m, as.toArray, below, meth, c, MQ below (Qo Y w ret r σ2) as.toArray s 0 0 (Aw Y w)) rfl ⟨B.exec, B.bytes, hml, hown, fun z hz => hts z (List.mem_cons_of_mem _ hz), hK, hI, hZ, rfl, hN⟩ ⟨B.returns, B.notSynchronized, rfl⟩ s.heap [] _ hP va_S.rf (by rw [hml]; exact hl)
end
section
theorem sh_0 : shp 0 = (2, 2, [none, some 1, none, none, some 2, none, none, some 6, some 10, some 3, none, some 21, some 32, some 4, some 5]) := rfl
theorem iw_0 : inW 0 0 := by unfold inW; decide
theorem sh_1 : shp 1 = (0, 10, []) := rfl
theorem iw_1 : inW 0 1 := by unfold inW; decide
theorem isA_1_ : shp 1 = (0, lenOf 1, []) := rfl
theorem sh_2 : shp 2 = (0, 8, []) := rfl
theorem iw_2 : inW 0 2 := by unfold inW; decide
theorem isA_2_ : shp 2 = (0, lenOf 2, []) := rfl
theorem sh_3 : shp 3 = (0, 40, []) := rfl
theorem iw_3 : inW 0 3 := by unfold inW; decide
theorem isA_3_ : shp 3 = (0, lenOf 3, []) := rfl
theorem sh_4 : shp 4 = (0, 8, []) := rfl
theorem iw_4 : inW 0 4 := by unfold inW; decide
theorem isA_4_ : shp 4 = (0, lenOf 4, []) := rfl
theorem sh_5 : shp 5 = (0, 8, []) := rfl
theorem iw_5 : inW 0 5 := by unfold inW; decide
theorem isA_5_ : shp 5 = (0, lenOf 5, []) := rfl
theorem sh_6 : shp 6 = (2, 0, [some 7, some 8, some 9]) := rfl
theorem iw_6 : inW 0 6 := by unfold inW; decide
theorem sh_7 : shp 7 = (0, 4, []) := rfl
theorem iw_7 : inW 0 7 := by unfold inW; decide
theorem isA_7_ : shp 7 = (0, lenOf 7, []) := rfl
theorem sh_8 : shp 8 = (0, 4, []) := rfl
theorem iw_8 : inW 0 8 := by unfold inW; decide
theorem isA_8_ : shp 8 = (0, lenOf 8, []) := rfl
theorem sh_9 : shp 9 = (0, 240, []) := rfl
theorem iw_9 : inW 0 9 := by unfold inW; decide
theorem isA_9_ : shp 9 = (0, lenOf 9, []) := rfl
theorem sh_10 : shp 10 = (2, 1, shT 10) := rfl
theorem iw_10 : inW 0 10 := by unfold inW; decide
theorem sh_11 : shp 11 = (0, 24, []) := rfl
theorem iw_11 : inW 0 11 := by unfold inW; decide
theorem isA_11_ : shp 11 = (0, lenOf 11, []) := rfl
theorem sh_12 : shp 12 = (0, 24, []) := rfl
theorem iw_12 : inW 0 12 := by unfold inW; decide
theorem isA_12_ : shp 12 = (0, lenOf 12, []) := rfl
theorem sh_13 : shp 13 = (0, 24, []) := rfl
theorem iw_13 : inW 0 13 := by unfold inW; decide
theorem isA_13_ : shp 13 = (0, lenOf 13, []) := rfl
theorem sh_14 : shp 14 = (0, 192, []) := rfl
theorem iw_14 : inW 0 14 := by unfold inW; decide
theorem isA_14_ : shp 14 = (0, lenOf 14, []) := rfl
theorem sh_15 : shp 15 = (0, 8, []) := rfl
theorem iw_15 : inW 0 15 := by unfold inW; decide
theorem isA_15_ : shp 15 = (0, lenOf 15, []) := rfl
theorem sh_16 : shp 16 = (0, 8, []) := rfl
theorem iw_16 : inW 0 16 := by unfold inW; decide
theorem isA_16_ : shp 16 = (0, lenOf 16, []) := rfl
theorem sh_17 : shp 17 = (0, 7, []) := rfl
theorem iw_17 : inW 0 17 := by unfold inW; decide
theorem isA_17_ : shp 17 = (0, lenOf 17, []) := rfl
theorem sh_18 : shp 18 = (0, 24, []) := rfl
theorem iw_18 : inW 0 18 := by unfold inW; decide
theorem isA_18_ : shp 18 = (0, lenOf 18, []) := rfl
theorem sh_19 : shp 19 = (0, 24, []) := rfl
theorem iw_19 : inW 0 19 := by unfold inW; decide
theorem isA_19_ : shp 19 = (0, lenOf 19, []) := rfl
theorem sh_20 : shp 20 = (0, 24, []) := rfl
theorem iw_20 : inW 0 20 := by unfold inW; decide
theorem isA_20_ : shp 20 = (0, lenOf 20, []) := rfl
theorem sh_21 : shp 21 = (2, 1, shT 21) := rfl
theorem iw_21 : inW 0 21 := by unfold inW; decide
theorem sh_22 : shp 22 = (0, 24, []) := rfl
theorem iw_22 : inW 0 22 := by unfold inW; decide
theorem isA_22_ : shp 22 = (0, lenOf 22, []) := rfl
theorem sh_23 : shp 23 = (0, 24, []) := rfl
theorem iw_23 : inW 0 23 := by unfold inW; decide
theorem isA_23_ : shp 23 = (0, lenOf 23, []) := rfl
theorem sh_24 : shp 24 = (0, 24, []) := rfl
theorem iw_24 : inW 0 24 := by unfold inW; decide
theorem isA_24_ : shp 24 = (0, lenOf 24, []) := rfl
theorem sh_25 : shp 25 = (0, 192, []) := rfl
theorem iw_25 : inW 0 25 := by unfold inW; decide
theorem isA_25_ : shp 25 = (0, lenOf 25, []) := rfl
theorem sh_26 : shp 26 = (0, 8, []) := rfl
theorem iw_26 : inW 0 26 := by unfold inW; decide
theorem isA_26_ : shp 26 = (0, lenOf 26, []) := rfl
theorem sh_27 : shp 27 = (0, 8, []) := rfl
theorem iw_27 : inW 0 27 := by unfold inW; decide
theorem isA_27_ : shp 27 = (0, lenOf 27, []) := rfl
theorem sh_28 : shp 28 = (0, 7, []) := rfl
theorem iw_28 : inW 0 28 := by unfold inW; decide
theorem isA_28_ : shp 28 = (0, lenOf 28, []) := rfl
theorem sh_29 : shp 29 = (0, 24, []) := rfl
theorem iw_29 : inW 0 29 := by unfold inW; decide
theorem isA_29_ : shp 29 = (0, lenOf 29, []) := rfl
theorem sh_30 : shp 30 = (0, 24, []) := rfl
theorem iw_30 : inW 0 30 := by unfold inW; decide
theorem isA_30_ : shp 30 = (0, lenOf 30, []) := rfl
theorem sh_31 : shp 31 = (0, 24, []) := rfl
theorem iw_31 : inW 0 31 := by unfold inW; decide
theorem isA_31_ : shp 31 = (0, lenOf 31, []) := rfl
theorem sh_32 : shp 32 = (2, 1, shT 32) := rfl
theorem iw_32 : inW 0 32 := by unfold inW; decide
theorem sh_33 : shp 33 = (0, 24, []) := rfl
theorem iw_33 : inW 0 33 := by unfold inW; decide
theorem isA_33_ : shp 33 = (0, lenOf 33, []) := rfl
theorem sh_34 : shp 34 = (0, 24, []) := rfl
theorem iw_34 : inW 0 34 := by unfold inW; decide
theorem isA_34_ : shp 34 = (0, lenOf 34, []) := rfl
theorem sh_35 : shp 35 = (0, 24, []) := rfl
theorem iw_35 : inW 0 35 := by unfold inW; decide
theorem isA_35_ : shp 35 = (0, lenOf 35, []) := rfl
theorem sh_36 : shp 36 = (0, 192, []) := rfl
theorem iw_36 : inW 0 36 := by unfold inW; decide
theorem isA_36_ : shp 36 = (0, lenOf 36, []) := rfl
theorem sh_37 : shp 37 = (0, 8, []) := rfl
theorem iw_37 : inW 0 37 := by unfold inW; decide
theorem isA_37_ : shp 37 = (0, lenOf 37, []) := rfl
theorem sh_38 : shp 38 = (0, 8, []) := rfl
theorem iw_38 : inW 0 38 := by unfold inW; decide
theorem isA_38_ : shp 38 = (0, lenOf 38, []) := rfl
theorem sh_39 : shp 39 = (0, 7, []) := rfl
theorem iw_39 : inW 0 39 := by unfold inW; decide
theorem isA_39_ : shp 39 = (0, lenOf 39, []) := rfl
theorem sh_40 : shp 40 = (0, 24, []) := rfl
theorem iw_40 : inW 0 40 := by unfold inW; decide
theorem isA_40_ : shp 40 = (0, lenOf 40, []) := rfl
theorem sh_41 : shp 41 = (0, 24, []) := rfl
theorem iw_41 : inW 0 41 := by unfold inW; decide
theorem isA_41_ : shp 41 = (0, lenOf 41, []) := rfl
theorem sh_42 : shp 42 = (0, 24, []) := rfl
theorem iw_42 : inW 0 42 := by unfold inW; decide
theorem isA_42_ : shp 42 = (0, lenOf 42, []) := rfl
theorem sh_43 : shp 43 = (2, 3, [none, none, some 44, some 45, some 46, some 47, some 48, none, some 49, some 50, some 51, some 52, none, some 53, some 54, some 55, some 56, some 57, some 58, some 59, none, none, none, some 60, some 61, some 62, some 63, some 64, some 65, none]) := rfl
theorem iw_43 : inW 1 43 := by unfold inW; decide
theorem sh_44 : shp 44 = (0, 10, []) := rfl
theorem iw_44 : inW 1 44 := by unfold inW; decide
theorem isA_44_ : shp 44 = (0, lenOf 44, []) := rfl
theorem sh_45 : shp 45 = (0, 256, []) := rfl
theorem iw_45 : inW 1 45 := by unfold inW; decide
theorem isA_45_ : shp 45 = (0, lenOf 45, []) := rfl
theorem sh_46 : shp 46 = (0, 256, []) := rfl
theorem iw_46 : inW 1 46 := by unfold inW; decide
theorem isA_46_ : shp 46 = (0, lenOf 46, []) := rfl
theorem sh_47 : shp 47 = (0, 256, []) := rfl
theorem iw_47 : inW 1 47 := by unfold inW; decide
theorem isA_47_ : shp 47 = (0, lenOf 47, []) := rfl
theorem sh_48 : shp 48 = (0, 256, []) := rfl
theorem iw_48 : inW 1 48 := by unfold inW; decide
theorem isA_48_ : shp 48 = (0, lenOf 48, []) := rfl
theorem sh_49 : shp 49 = (0, 8, []) := rfl
theorem iw_49 : inW 1 49 := by unfold inW; decide
theorem isA_49_ : shp 49 = (0, lenOf 49, []) := rfl
theorem sh_50 : shp 50 = (0, 8, []) := rfl
theorem iw_50 : inW 1 50 := by unfold inW; decide
theorem isA_50_ : shp 50 = (0, lenOf 50, []) := rfl
theorem sh_51 : shp 51 = (0, 8, []) := rfl
theorem iw_51 : inW 1 51 := by unfold inW; decide
theorem isA_51_ : shp 51 = (0, lenOf 51, []) := rfl
theorem sh_52 : shp 52 = (0, 64, []) := rfl
theorem iw_52 : inW 1 52 := by unfold inW; decide
theorem isA_52_ : shp 52 = (0, lenOf 52, []) := rfl
theorem sh_53 : shp 53 = (0, 40, []) := rfl
theorem iw_53 : inW 1 53 := by unfold inW; decide
theorem isA_53_ : shp 53 = (0, lenOf 53, []) := rfl
theorem sh_54 : shp 54 = (0, 256, []) := rfl
theorem iw_54 : inW 1 54 := by unfold inW; decide
theorem isA_54_ : shp 54 = (0, lenOf 54, []) := rfl
theorem sh_55 : shp 55 = (0, 64, []) := rfl
theorem iw_55 : inW 1 55 := by unfold inW; decide
theorem isA_55_ : shp 55 = (0, lenOf 55, []) := rfl
theorem sh_56 : shp 56 = (0, 8, []) := rfl
theorem iw_56 : inW 1 56 := by unfold inW; decide
theorem isA_56_ : shp 56 = (0, lenOf 56, []) := rfl
theorem sh_57 : shp 57 = (0, 8, []) := rfl
theorem iw_57 : inW 1 57 := by unfold inW; decide
theorem isA_57_ : shp 57 = (0, lenOf 57, []) := rfl
theorem sh_58 : shp 58 = (0, 8, []) := rfl
theorem iw_58 : inW 1 58 := by unfold inW; decide
theorem isA_58_ : shp 58 = (0, lenOf 58, []) := rfl
theorem sh_59 : shp 59 = (0, 256, []) := rfl
theorem iw_59 : inW 1 59 := by unfold inW; decide
theorem isA_59_ : shp 59 = (0, lenOf 59, []) := rfl
theorem sh_60 : shp 60 = (0, 8, []) := rfl
theorem iw_60 : inW 1 60 := by unfold inW; decide
theorem isA_60_ : shp 60 = (0, lenOf 60, []) := rfl
theorem sh_61 : shp 61 = (1, 4, []) := rfl
theorem iw_61 : inW 1 61 := by unfold inW; decide
theorem sh_62 : shp 62 = (0, 4, []) := rfl
theorem iw_62 : inW 1 62 := by unfold inW; decide
theorem isA_62_ : shp 62 = (0, lenOf 62, []) := rfl
theorem sh_63 : shp 63 = (0, 4, []) := rfl
theorem iw_63 : inW 1 63 := by unfold inW; decide
theorem isA_63_ : shp 63 = (0, lenOf 63, []) := rfl
theorem sh_64 : shp 64 = (0, 240, []) := rfl
theorem iw_64 : inW 1 64 := by unfold inW; decide
theorem isA_64_ : shp 64 = (0, lenOf 64, []) := rfl
theorem sh_65 : shp 65 = (0, 60, []) := rfl
theorem iw_65 : inW 1 65 := by unfold inW; decide
theorem isA_65_ : shp 65 = (0, lenOf 65, []) := rfl
def isT (t : Nat) : Prop := t = 10 ∨ t = 21 ∨ t = 32
def isA (a : Nat) : Prop := inW 0 a ∧ shp a = (0, lenOf a, [])
theorem isT_10 : isT 10 := by unfold isT; decide
theorem isT_21 : isT 21 := by unfold isT; decide
theorem isT_32 : isT 32 := by unfold isT; decide
theorem isA_3 : isA 3 := ⟨iw_3, isA_3_⟩
theorem isA_4 : isA 4 := ⟨iw_4, isA_4_⟩
theorem isA_5 : isA 5 := ⟨iw_5, isA_5_⟩
theorem shTt {t : Nat} (h : isT t) : shp t = (2, 1, shT t) := by rcases h with rfl | rfl | rfl <;> rfl
theorem iwT {t : Nat} (h : isT t) : inW 0 t := by unfold inW; rcases h with rfl | rfl | rfl <;> decide
theorem shA1 {t : Nat} (h : isT t) : shp (t + 1) = (0, 24, []) := by rcases h with rfl | rfl | rfl <;> rfl
theorem iwA1 {t : Nat} (h : isT t) : inW 0 (t + 1) := by unfold inW; rcases h with rfl | rfl | rfl <;> decide
theorem isA1 {t : Nat} (h : isT t) : isA (t + 1) := ⟨iwA1 h, by rcases h with rfl | rfl | rfl <;> rfl⟩
theorem shA2 {t : Nat} (h : isT t) : shp (t + 2) = (0, 24, []) := by rcases h with rfl | rfl | rfl <;> rfl
theorem iwA2 {t : Nat} (h : isT t) : inW 0 (t + 2) := by unfold inW; rcases h with rfl | rfl | rfl <;> decide
theorem isA2 {t : Nat} (h : isT t) : isA (t + 2) := ⟨iwA2 h, by rcases h with rfl | rfl | rfl <;> rfl⟩
theorem shA3 {t : Nat} (h : isT t) : shp (t + 3) = (0, 24, []) := by rcases h with rfl | rfl | rfl <;> rfl
theorem iwA3 {t : Nat} (h : isT t) : inW 0 (t + 3) := by unfold inW; rcases h with rfl | rfl | rfl <;> decide
theorem isA3 {t : Nat} (h : isT t) : isA (t + 3) := ⟨iwA3 h, by rcases h with rfl | rfl | rfl <;> rfl⟩
theorem shA4 {t : Nat} (h : isT t) : shp (t + 4) = (0, 192, []) := by rcases h with rfl | rfl | rfl <;> rfl
theorem iwA4 {t : Nat} (h : isT t) : inW 0 (t + 4) := by unfold inW; rcases h with rfl | rfl | rfl <;> decide
theorem isA4 {t : Nat} (h : isT t) : isA (t + 4) := ⟨iwA4 h, by rcases h with rfl | rfl | rfl <;> rfl⟩
theorem shA5 {t : Nat} (h : isT t) : shp (t + 5) = (0, 8, []) := by rcases h with rfl | rfl | rfl <;> rfl
theorem iwA5 {t : Nat} (h : isT t) : inW 0 (t + 5) := by unfold inW; rcases h with rfl | rfl | rfl <;> decide
theorem isA5 {t : Nat} (h : isT t) : isA (t + 5) := ⟨iwA5 h, by rcases h with rfl | rfl | rfl <;> rfl⟩
theorem shA6 {t : Nat} (h : isT t) : shp (t + 6) = (0, 8, []) := by rcases h with rfl | rfl | rfl <;> rfl
theorem iwA6 {t : Nat} (h : isT t) : inW 0 (t + 6) := by unfold inW; rcases h with rfl | rfl | rfl <;> decide
theorem isA6 {t : Nat} (h : isT t) : isA (t + 6) := ⟨iwA6 h, by rcases h with rfl | rfl | rfl <;> rfl⟩
theorem shA7 {t : Nat} (h : isT t) : shp (t + 7) = (0, 7, []) := by rcases h with rfl | rfl | rfl <;> rfl
theorem iwA7 {t : Nat} (h : isT t) : inW 0 (t + 7) := by unfold inW; rcases h with rfl | rfl | rfl <;> decide
theorem isA7 {t : Nat} (h : isT t) : isA (t + 7) := ⟨iwA7 h, by rcases h with rfl | rfl | rfl <;> rfl⟩
theorem shA8 {t : Nat} (h : isT t) : shp (t + 8) = (0, 24, []) := by rcases h with rfl | rfl | rfl <;> rfl
theorem iwA8 {t : Nat} (h : isT t) : inW 0 (t + 8) := by unfold inW; rcases h with rfl | rfl | rfl <;> decide
theorem isA8 {t : Nat} (h : isT t) : isA (t + 8) := ⟨iwA8 h, by rcases h with rfl | rfl | rfl <;> rfl⟩
theorem shA9 {t : Nat} (h : isT t) : shp (t + 9) = (0, 24, []) := by rcases h with rfl | rfl | rfl <;> rfl
theorem iwA9 {t : Nat} (h : isT t) : inW 0 (t + 9) := by unfold inW; rcases h with rfl | rfl | rfl <;> decide
theorem isA9 {t : Nat} (h : isT t) : isA (t + 9) := ⟨iwA9 h, by rcases h with rfl | rfl | rfl <;> rfl⟩
theorem shA10 {t : Nat} (h : isT t) : shp (t + 10) = (0, 24, []) := by rcases h with rfl | rfl | rfl <;> rfl
theorem iwA10 {t : Nat} (h : isT t) : inW 0 (t + 10) := by unfold inW; rcases h with rfl | rfl | rfl <;> decide
theorem isA10 {t : Nat} (h : isT t) : isA (t + 10) := ⟨iwA10 h, by rcases h with rfl | rfl | rfl <;> rfl⟩
theorem ltex {α β : Type} {e : α} {f : α → β} {z : β} (h : lt e f = z) : ∃ a, e = a ∧ f a = z := ⟨e, rfl, h⟩
theorem lt2 {A0 A1 β : Type} {f : A0 → A1 → β} {a0 : A0} {a1 : A1} {z : β} (h : (fun q : A0 × A1 => lt q.1 (fun y0 => lt q.2 (fun y1 => f y0 y1))) (a0, a1) = z) : f a0 a1 = z := h
theorem lt3 {A0 A1 A2 β : Type} {f : A0 → A1 → A2 → β} {a0 : A0} {a1 : A1} {a2 : A2} {z : β} (h : (fun q : A0 × A1 × A2 => lt q.1 (fun y0 => lt q.2.1 (fun y1 => lt q.2.2 (fun y2 => f y0 y1 y2)))) (a0, a1, a2) = z) : f a0 a1 a2 = z := h
theorem lt4 {A0 A1 A2 A3 β : Type} {f : A0 → A1 → A2 → A3 → β} {a0 : A0} {a1 : A1} {a2 : A2} {a3 : A3} {z : β} (h : (fun q : A0 × A1 × A2 × A3 => lt q.1 (fun y0 => lt q.2.1 (fun y1 => lt q.2.2.1 (fun y2 => lt q.2.2.2 (fun y3 => f y0 y1 y2 y3))))) (a0, a1, a2, a3) = z) : f a0 a1 a2 a3 = z := h
theorem lt5 {A0 A1 A2 A3 A4 β : Type} {f : A0 → A1 → A2 → A3 → A4 → β} {a0 : A0} {a1 : A1} {a2 : A2} {a3 : A3} {a4 : A4} {z : β} (h : (fun q : A0 × A1 × A2 × A3 × A4 => lt q.1 (fun y0 => lt q.2.1 (fun y1 => lt q.2.2.1 (fun y2 => lt q.2.2.2.1 (fun y3 => lt q.2.2.2.2 (fun y4 => f y0 y1 y2 y3 y4)))))) (a0, a1, a2, a3, a4) = z) : f a0 a1 a2 a3 a4 = z := h
theorem lt6 {A0 A1 A2 A3 A4 A5 β : Type} {f : A0 → A1 → A2 → A3 → A4 → A5 → β} {a0 : A0} {a1 : A1} {a2 : A2} {a3 : A3} {a4 : A4} {a5 : A5} {z : β} (h : (fun q : A0 × A1 × A2 × A3 × A4 × A5 => lt q.1 (fun y0 => lt q.2.1 (fun y1 => lt q.2.2.1 (fun y2 => lt q.2.2.2.1 (fun y3 => lt q.2.2.2.2.1 (fun y4 => lt q.2.2.2.2.2 (fun y5 => f y0 y1 y2 y3 y4 y5))))))) (a0, a1, a2, a3, a4, a5) = z) : f a0 a1 a2 a3 a4 a5 = z := h
theorem lt7 {A0 A1 A2 A3 A4 A5 A6 β : Type} {f : A0 → A1 → A2 → A3 → A4 → A5 → A6 → β} {a0 : A0} {a1 : A1} {a2 : A2} {a3 : A3} {a4 : A4} {a5 : A5} {a6 : A6} {z : β} (h : (fun q : A0 × A1 × A2 × A3 × A4 × A5 × A6 => lt q.1 (fun y0 => lt q.2.1 (fun y1 => lt q.2.2.1 (fun y2 => lt q.2.2.2.1 (fun y3 => lt q.2.2.2.2.1 (fun y4 => lt q.2.2.2.2.2.1 (fun y5 => lt q.2.2.2.2.2.2 (fun y6 => f y0 y1 y2 y3 y4 y5 y6)))))))) (a0, a1, a2, a3, a4, a5, a6) = z) : f a0 a1 a2 a3 a4 a5 a6 = z := h
theorem lt8 {A0 A1 A2 A3 A4 A5 A6 A7 β : Type} {f : A0 → A1 → A2 → A3 → A4 → A5 → A6 → A7 → β} {a0 : A0} {a1 : A1} {a2 : A2} {a3 : A3} {a4 : A4} {a5 : A5} {a6 : A6} {a7 : A7} {z : β} (h : (fun q : A0 × A1 × A2 × A3 × A4 × A5 × A6 × A7 => lt q.1 (fun y0 => lt q.2.1 (fun y1 => lt q.2.2.1 (fun y2 => lt q.2.2.2.1 (fun y3 => lt q.2.2.2.2.1 (fun y4 => lt q.2.2.2.2.2.1 (fun y5 => lt q.2.2.2.2.2.2.1 (fun y6 => lt q.2.2.2.2.2.2.2 (fun y7 => f y0 y1 y2 y3 y4 y5 y6 y7))))))))) (a0, a1, a2, a3, a4, a5, a6, a7) = z) : f a0 a1 a2 a3 a4 a5 a6 a7 = z := h
theorem sw_out9 {x : Int32} (h0 : ¬ x = 0) (h1 : ¬ x = 1) (h2 : ¬ x = 2) (h3 : ¬ x = 3) (h4 : ¬ x = 4) (h5 : ¬ x = 5) (h6 : ¬ x = 6) (h7 : ¬ x = 7) (h8 : ¬ x = 8) : x.toInt < 0 ∨ 8 < x.toInt := by
  by_cases c : x.toInt < 0
  · exact Or.inl c
  · right
    apply Int.not_le.mp
    intro c2
    have hx : x = Int32.ofInt x.toInt := (Int32.ofInt_toInt x).symm
    have : x.toInt = 0 ∨ x.toInt = 1 ∨ x.toInt = 2 ∨ x.toInt = 3 ∨ x.toInt = 4 ∨ x.toInt = 5 ∨ x.toInt = 6 ∨ x.toInt = 7 ∨ x.toInt = 8 := by omega
    rcases this with h | h | h | h | h | h | h | h | h <;> rw [h] at hx <;> first | exact h0 hx | exact h1 hx | exact h2 hx | exact h3 hx | exact h4 hx | exact h5 hx | exact h6 hx | exact h7 hx | exact h8 hx
theorem g_iushr {X : Cx} {Y : Wx} {w : Nat} {cc : ByteArray} {nL : Nat} {own : String} {lvl : Nat} {σ : Mem} {lv : List (Nat × Value)} {pc : Nat} {st : List Value} (hX : Fx X Y w cc nL own lvl) {x y : Int32} (hd : decode cc pc = .ok (.iushr, 1)) (k : Gd X Y w σ lv (pc + 1) (.int ((x.toUInt32 >>> (y.toUInt32 &&& Int32.toUInt32 31)).toInt32) :: st)) : Gd X Y w σ lv pc (.int y :: .int x :: st) := by
  obtain ⟨p, l, e, R, s, m, args, below, meth, c, Q⟩ := X
  intro H locs ls hP hS hl
  exact lv_iushr hX.1 hX.2.1 hd rfl (k H locs ls hP hS hl)
theorem fl_M_7 : FIok R_M 7 3 0 := ⟨R_M, F_M, 30, ty_M, rfl, by decide, lw_M, q_443, ty_M_ok, n_M, rfl, rfl⟩
theorem fl_M_13 : FLok R_M 13 3 2 := ⟨R_M, F_M, 30, ty_M, rfl, by decide, lw_M, q_445, ty_M_ok, n_M⟩
theorem fl_M_17 : FLok R_M 17 3 3 := ⟨R_M, F_M, 30, ty_M, rfl, by decide, lw_M, q_446, ty_M_ok, n_M⟩
theorem fl_M_20 : FLok R_M 20 3 4 := ⟨R_M, F_M, 30, ty_M, rfl, by decide, lw_M, q_447, ty_M_ok, n_M⟩
theorem fl_M_23 : FLok R_M 23 3 5 := ⟨R_M, F_M, 30, ty_M, rfl, by decide, lw_M, q_448, ty_M_ok, n_M⟩
theorem fl_M_26 : FLok R_M 26 3 6 := ⟨R_M, F_M, 30, ty_M, rfl, by decide, lw_M, q_449, ty_M_ok, n_M⟩
theorem fl_M_29 : FLok R_M 29 3 8 := ⟨R_M, F_M, 30, ty_M, rfl, by decide, lw_M, q_451, ty_M_ok, n_M⟩
theorem fl_M_32 : FLok R_M 32 3 9 := ⟨R_M, F_M, 30, ty_M, rfl, by decide, lw_M, q_452, ty_M_ok, n_M⟩
theorem fl_M_35 : FLok R_M 35 3 10 := ⟨R_M, F_M, 30, ty_M, rfl, by decide, lw_M, q_453, ty_M_ok, n_M⟩
theorem fl_M_38 : FLok R_M 38 3 11 := ⟨R_M, F_M, 30, ty_M, rfl, by decide, lw_M, q_454, ty_M_ok, n_M⟩
theorem fl_M_41 : FLok R_M 41 3 13 := ⟨R_M, F_M, 30, ty_M, rfl, by decide, lw_M, q_456, ty_M_ok, n_M⟩
theorem fl_M_44 : FLok R_M 44 3 14 := ⟨R_M, F_M, 30, ty_M, rfl, by decide, lw_M, q_457, ty_M_ok, n_M⟩
theorem fl_M_47 : FLok R_M 47 3 15 := ⟨R_M, F_M, 30, ty_M, rfl, by decide, lw_M, q_458, ty_M_ok, n_M⟩
theorem fl_M_50 : FLok R_M 50 3 16 := ⟨R_M, F_M, 30, ty_M, rfl, by decide, lw_M, q_459, ty_M_ok, n_M⟩
theorem fl_M_53 : FLok R_M 53 3 17 := ⟨R_M, F_M, 30, ty_M, rfl, by decide, lw_M, q_460, ty_M_ok, n_M⟩
theorem fl_M_56 : FLok R_M 56 3 18 := ⟨R_M, F_M, 30, ty_M, rfl, by decide, lw_M, q_461, ty_M_ok, n_M⟩
theorem fl_M_59 : FLok R_M 59 3 19 := ⟨R_M, F_M, 30, ty_M, rfl, by decide, lw_M, q_462, ty_M_ok, n_M⟩
theorem fl_M_62 : FLok R_M 62 3 23 := ⟨R_M, F_M, 30, ty_M, rfl, by decide, lw_M, q_466, ty_M_ok, n_M⟩
theorem fl_M_65 : FLok R_M 65 3 24 := ⟨R_M, F_M, 30, ty_M, rfl, by decide, lw_M, q_467, ty_M_ok, n_M⟩
theorem fl_M_69 : FLok R_M 69 3 25 := ⟨R_M, F_M, 30, ty_M, rfl, by decide, lw_M, q_468, ty_M_ok, n_M⟩
theorem fl_M_72 : FLok R_M 72 3 26 := ⟨R_M, F_M, 30, ty_M, rfl, by decide, lw_M, q_469, ty_M_ok, n_M⟩
theorem fl_M_75 : FLok R_M 75 3 27 := ⟨R_M, F_M, 30, ty_M, rfl, by decide, lw_M, q_470, ty_M_ok, n_M⟩
theorem fl_M_78 : FLok R_M 78 3 28 := ⟨R_M, F_M, 30, ty_M, rfl, by decide, lw_M, q_471, ty_M_ok, n_M⟩
theorem fl_M_93 : FIok R_M 93 3 1 := ⟨R_M, F_M, 30, ty_M, rfl, by decide, lw_M, q_444, ty_M_ok, n_M, rfl, rfl⟩
theorem fl_M_156 : FIok R_M 156 3 7 := ⟨R_M, F_M, 30, ty_M, rfl, by decide, lw_M, q_450, ty_M_ok, n_M, rfl, rfl⟩
theorem fl_M_159 : FIok R_M 159 3 12 := ⟨R_M, F_M, 30, ty_M, rfl, by decide, lw_M, q_455, ty_M_ok, n_M, rfl, rfl⟩
theorem fl_M_205 : FIok R_M 205 3 20 := ⟨R_M, F_M, 30, ty_M, rfl, by decide, lw_M, q_463, ty_M_ok, n_M, rfl, rfl⟩
theorem fl_M_208 : FIok R_M 208 3 21 := ⟨R_M, F_M, 30, ty_M, rfl, by decide, lw_M, q_464, ty_M_ok, n_M, rfl, rfl⟩
theorem fl_M_223 : FIok R_M 223 3 22 := ⟨R_M, F_M, 30, ty_M, rfl, by decide, lw_M, q_465, ty_M_ok, n_M, rfl, rfl⟩
theorem fl_M_248 : FIok R_M 248 3 29 := ⟨R_M, F_M, 30, ty_M, rfl, by decide, lw_M, q_472, ty_M_ok, n_M, rfl, rfl⟩
theorem fl_O_9 : FIok R_O 9 2 0 := ⟨R_O, F_O, 15, ty_O, rfl, by decide, lw_O, q_145, ty_O_ok, n_O, rfl, rfl⟩
theorem fl_O_13 : FLok R_O 13 2 1 := ⟨R_O, F_O, 15, ty_O, rfl, by decide, lw_O, q_146, ty_O_ok, n_O⟩
theorem fl_O_17 : FIok R_O 17 2 2 := ⟨R_O, F_O, 15, ty_O, rfl, by decide, lw_O, q_147, ty_O_ok, n_O, rfl, rfl⟩
theorem fl_O_20 : FIok R_O 20 2 3 := ⟨R_O, F_O, 15, ty_O, rfl, by decide, lw_O, q_148, ty_O_ok, n_O, rfl, rfl⟩
theorem fl_O_23 : FLok R_O 23 2 4 := ⟨R_O, F_O, 15, ty_O, rfl, by decide, lw_O, q_149, ty_O_ok, n_O⟩
theorem fl_O_26 : FIok R_O 26 2 5 := ⟨R_O, F_O, 15, ty_O, rfl, by decide, lw_O, q_150, ty_O_ok, n_O, rfl, rfl⟩
theorem fl_O_29 : FIok R_O 29 2 6 := ⟨R_O, F_O, 15, ty_O, rfl, by decide, lw_O, q_151, ty_O_ok, n_O, rfl, rfl⟩
theorem fl_O_35 : FLok R_O 35 2 7 := ⟨R_O, F_O, 15, ty_O, rfl, by decide, lw_O, q_152, ty_O_ok, n_O⟩
theorem fl_O_42 : FLok R_O 42 2 8 := ⟨R_O, F_O, 15, ty_O, rfl, by decide, lw_O, q_153, ty_O_ok, n_O⟩
theorem fl_O_46 : FLok R_O 46 2 9 := ⟨R_O, F_O, 15, ty_O, rfl, by decide, lw_O, q_154, ty_O_ok, n_O⟩
theorem fl_O_49 : FIok R_O 49 2 10 := ⟨R_O, F_O, 15, ty_O, rfl, by decide, lw_O, q_155, ty_O_ok, n_O, rfl, rfl⟩
theorem fl_O_52 : FLok R_O 52 2 11 := ⟨R_O, F_O, 15, ty_O, rfl, by decide, lw_O, q_156, ty_O_ok, n_O⟩
theorem fl_O_55 : FLok R_O 55 2 12 := ⟨R_O, F_O, 15, ty_O, rfl, by decide, lw_O, q_157, ty_O_ok, n_O⟩
theorem fl_O_58 : FLok R_O 58 2 13 := ⟨R_O, F_O, 15, ty_O, rfl, by decide, lw_O, q_158, ty_O_ok, n_O⟩
theorem fl_O_61 : FLok R_O 61 2 14 := ⟨R_O, F_O, 15, ty_O, rfl, by decide, lw_O, q_159, ty_O_ok, n_O⟩
theorem fl_S_9 : FLok R_S 9 0 0 := ⟨R_S, F_S, 3, ty_S, rfl, by decide, lw_S, q_20, ty_S_ok, n_S⟩
theorem fl_S_13 : FLok R_S 13 0 1 := ⟨R_S, F_S, 3, ty_S, rfl, by decide, lw_S, q_21, ty_S_ok, n_S⟩
theorem fl_S_16 : FLok R_S 16 0 2 := ⟨R_S, F_S, 3, ty_S, rfl, by decide, lw_S, q_22, ty_S_ok, n_S⟩
theorem fl_T_11 : FLok R_T 11 1 0 := ⟨R_T, F_T, 15, ty_T, rfl, by decide, lw_T, q_30, ty_T_ok, n_T⟩
theorem fl_T_15 : FLok R_T 15 1 1 := ⟨R_T, F_T, 15, ty_T, rfl, by decide, lw_T, q_31, ty_T_ok, n_T⟩
theorem fl_T_18 : FLok R_T 18 1 2 := ⟨R_T, F_T, 15, ty_T, rfl, by decide, lw_T, q_32, ty_T_ok, n_T⟩
theorem fl_T_21 : FLok R_T 21 1 3 := ⟨R_T, F_T, 15, ty_T, rfl, by decide, lw_T, q_33, ty_T_ok, n_T⟩
theorem fl_T_24 : FIok R_T 24 1 4 := ⟨R_T, F_T, 15, ty_T, rfl, by decide, lw_T, q_34, ty_T_ok, n_T, rfl, rfl⟩
theorem fl_T_28 : FIok R_T 28 1 5 := ⟨R_T, F_T, 15, ty_T, rfl, by decide, lw_T, q_35, ty_T_ok, n_T, rfl, rfl⟩
theorem fl_T_31 : FLok R_T 31 1 6 := ⟨R_T, F_T, 15, ty_T, rfl, by decide, lw_T, q_36, ty_T_ok, n_T⟩
theorem fl_T_34 : FIok R_T 34 1 7 := ⟨R_T, F_T, 15, ty_T, rfl, by decide, lw_T, q_37, ty_T_ok, n_T, rfl, rfl⟩
theorem fl_T_37 : FLok R_T 37 1 8 := ⟨R_T, F_T, 15, ty_T, rfl, by decide, lw_T, q_38, ty_T_ok, n_T⟩
theorem fl_T_40 : FIok R_T 40 1 9 := ⟨R_T, F_T, 15, ty_T, rfl, by decide, lw_T, q_39, ty_T_ok, n_T, rfl, rfl⟩
theorem fl_T_43 : FLok R_T 43 1 10 := ⟨R_T, F_T, 15, ty_T, rfl, by decide, lw_T, q_40, ty_T_ok, n_T⟩
theorem fl_T_46 : FIok R_T 46 1 11 := ⟨R_T, F_T, 15, ty_T, rfl, by decide, lw_T, q_41, ty_T_ok, n_T, rfl, rfl⟩
theorem fl_T_49 : FLok R_T 49 1 12 := ⟨R_T, F_T, 15, ty_T, rfl, by decide, lw_T, q_42, ty_T_ok, n_T⟩
theorem fl_T_52 : FLok R_T 52 1 13 := ⟨R_T, F_T, 15, ty_T, rfl, by decide, lw_T, q_43, ty_T_ok, n_T⟩
theorem fl_T_55 : FLok R_T 55 1 14 := ⟨R_T, F_T, 15, ty_T, rfl, by decide, lw_T, q_44, ty_T_ok, n_T⟩
theorem mv_M_81 : MSok R_M 81 y_M_isIn b_M_isIn 2 (some .boolean) 2 := ⟨q_491, q_492, q_5, q_493, by decide +kernel, by decide⟩
theorem mv_M_85 : MSok R_M 85 y_M_in b_M_in 3 (some .boolean) 3 := ⟨q_478, q_479, q_5, q_480, by decide +kernel, by decide⟩
theorem mv_M_89 : MSok R_M 89 y_M_many b_M_many 3 (some .int) 1 := ⟨q_488, q_489, q_5, q_490, by decide +kernel, by decide⟩
theorem mv_M_96 : MVok R_M 96 R_M y_M_takenNow b_M_takenNow 3 (some .int) 0 := ⟨q_494, q_495, q_792, q_5, q_496, by decide +kernel, by decide⟩
theorem mv_M_100 : MVok R_M 100 R_M y_M_adds b_M_adds 2 (some .int) 1 := ⟨q_485, q_486, q_791, q_5, q_487, by decide +kernel, by decide⟩
theorem mv_M_103 : MSok R_M 103 y_M_isSheet b_M_isSheet 1 (some .boolean) 1 := ⟨q_514, q_515, q_5, q_516, by decide +kernel, by decide⟩
theorem mv_M_107 : MVok R_M 107 R_M y_M_meets b_M_meets 2 (some .int) 1 := ⟨q_517, q_518, q_796, q_5, q_519, by decide +kernel, by decide⟩
theorem mv_M_110 : MVok R_M 110 R_M y_M_all b_M_all 1 (some .int) 0 := ⟨q_500, q_501, q_794, q_5, q_502, by decide +kernel, by decide⟩
theorem mv_M_113 : MVok R_M 113 R_M y_M_nexts b_M_nexts 9 (some .int) 3 := ⟨q_503, q_504, q_795, q_5, q_505, by decide +kernel, by decide⟩
theorem mv_M_117 : MVok R_M 117 R_M y_M_rowsBy b_M_rowsBy 6 (some .int) 2 := ⟨q_497, q_498, q_793, q_5, q_499, by decide +kernel, by decide⟩
theorem mv_M_121 : MVok R_M 121 R_M y_M_isGroup b_M_isGroup 2 (some .boolean) 1 := ⟨q_524, q_525, q_797, q_5, q_526, by decide +kernel, by decide⟩
theorem mv_M_124 : MVok R_M 124 R_M y_M_reasonOf b_M_reasonOf 6 (some .int) 1 := ⟨q_531, q_532, q_798, q_5, q_533, by decide +kernel, by decide⟩
theorem mv_M_127 : MVok R_M 127 R_M y_M_manyNow b_M_manyNow 1 (some .int) 0 := ⟨q_538, q_539, q_799, q_5, q_540, by decide +kernel, by decide⟩
theorem mv_M_130 : MVok R_M 130 R_M y_M_findsGo b_M_findsGo 5 none 0 := ⟨q_554, q_555, q_803, q_5, q_556, by decide +kernel, by decide⟩
theorem mv_M_133 : MVok R_M 133 R_M y_M_isSure b_M_isSure 4 (some .boolean) 1 := ⟨q_557, q_558, q_804, q_5, q_559, by decide +kernel, by decide⟩
theorem mv_M_136 : MSok R_M 136 y_M_areCrossing b_M_areCrossing 2 (some .boolean) 2 := ⟨q_560, q_561, q_5, q_562, by decide +kernel, by decide⟩
theorem mv_M_139 : MVok R_M 139 R_M y_M_partWith b_M_partWith 6 (some .int) 2 := ⟨q_572, q_573, q_807, q_5, q_574, by decide +kernel, by decide⟩
theorem mv_M_142 : MSok R_M 142 y_M_least b_M_least 2 (some .int) 1 := ⟨q_566, q_567, q_5, q_568, by decide +kernel, by decide⟩
theorem mv_M_145 : MVok R_M 145 R_M y_M_turnsRight b_M_turnsRight 8 none 1 := ⟨q_575, q_576, q_808, q_5, q_577, by decide +kernel, by decide⟩
theorem mv_M_149 : MVok R_M 149 R_M y_M_areBeside b_M_areBeside 3 (some .boolean) 2 := ⟨q_578, q_579, q_809, q_5, q_580, by decide +kernel, by decide⟩
theorem mv_M_152 : MVok R_M 152 R_M y_M_swaps b_M_swaps 4 none 2 := ⟨q_581, q_582, q_810, q_5, q_583, by decide +kernel, by decide⟩
theorem mv_M_162 : MVok R_M 162 R_M y_M_findsStrong b_M_findsStrong 4 none 0 := ⟨q_551, q_552, q_802, q_5, q_553, by decide +kernel, by decide⟩
theorem mv_M_165 : MVok R_M 165 R_M y_M_shows b_M_shows 2 none 1 := ⟨q_563, q_564, q_805, q_5, q_565, by decide +kernel, by decide⟩
theorem mv_M_168 : MVok R_M 168 R_M y_M_findsParts b_M_findsParts 6 none 1 := ⟨q_569, q_570, q_806, q_5, q_571, by decide +kernel, by decide⟩
theorem mv_M_171 : MVok R_M 171 R_M y_M_findsTree b_M_findsTree 5 none 0 := ⟨q_548, q_549, q_801, q_5, q_550, by decide +kernel, by decide⟩
theorem mv_M_174 : MVok R_M 174 R_M y_M_treeOf b_M_treeOf 2 (some .int) 1 := ⟨q_545, q_546, q_800, q_5, q_547, by decide +kernel, by decide⟩
theorem mv_M_177 : MVok R_M 177 R_M y_M_nodeFor b_M_nodeFor 3 (some .int) 2 := ⟨q_588, q_589, q_811, q_5, q_590, by decide +kernel, by decide⟩
theorem mv_M_180 : MSok R_M 180 y_M_factorial b_M_factorial 3 (some .int) 1 := ⟨q_605, q_606, q_5, q_607, by decide +kernel, by decide⟩
theorem mv_M_183 : MVok R_M 183 R_M y_M_waysAt b_M_waysAt 2 (some .int) 1 := ⟨q_602, q_603, q_814, q_5, q_604, by decide +kernel, by decide⟩
theorem mv_M_186 : MVok R_M 186 R_M y_M_nodeOf b_M_nodeOf 4 (some .int) 1 := ⟨q_608, q_609, q_815, q_5, q_610, by decide +kernel, by decide⟩
theorem mv_M_189 : MVok R_M 189 R_M y_M_orders b_M_orders 9 none 1 := ⟨q_611, q_612, q_816, q_5, q_613, by decide +kernel, by decide⟩
theorem mv_M_192 : MVok R_M 192 R_M y_M_findsRow b_M_findsRow 8 none 1 := ⟨q_599, q_600, q_813, q_5, q_601, by decide +kernel, by decide⟩
theorem mv_M_196 : MVok R_M 196 R_M y_M_rowOf b_M_rowOf 3 (some .int) 2 := ⟨q_596, q_597, q_812, q_5, q_598, by decide +kernel, by decide⟩
theorem mv_M_199 : MVok R_M 199 R_M y_M_isSet b_M_isSet 2 (some .boolean) 1 := ⟨q_618, q_619, q_817, q_5, q_620, by decide +kernel, by decide⟩
theorem mv_M_202 : MVok R_M 202 R_M y_M_mustOf b_M_mustOf 4 (some .int) 1 := ⟨q_625, q_626, q_818, q_5, q_627, by decide +kernel, by decide⟩
theorem mv_M_211 : MVok R_M 211 R_M y_M_spansFrom b_M_spansFrom 7 none 2 := ⟨q_638, q_639, q_821, q_5, q_640, by decide +kernel, by decide⟩
theorem mv_M_214 : MVok R_M 214 R_M y_M_isThing b_M_isThing 2 (some .boolean) 1 := ⟨q_632, q_633, q_819, q_5, q_634, by decide +kernel, by decide⟩
theorem mv_M_217 : MVok R_M 217 R_M y_M_apartOf b_M_apartOf 4 (some .int) 3 := ⟨q_635, q_636, q_820, q_5, q_637, by decide +kernel, by decide⟩
theorem mv_M_220 : MVok R_M 220 R_M y_M_spareOf b_M_spareOf 5 (some .int) 0 := ⟨q_645, q_646, q_822, q_5, q_647, by decide +kernel, by decide⟩
theorem mv_M_226 : MVok R_M 226 R_M y_M_faultOf b_M_faultOf 4 (some .int) 0 := ⟨q_664, q_665, q_823, q_5, q_666, by decide +kernel, by decide⟩
theorem mv_M_229 : MVok R_M 229 R_M y_M_isHad b_M_isHad 7 (some .boolean) 1 := ⟨q_677, q_678, q_826, q_5, q_679, by decide +kernel, by decide⟩
theorem mv_M_232 : MVok R_M 232 R_M y_M_isRow b_M_isRow 1 (some .boolean) 0 := ⟨q_671, q_672, q_824, q_5, q_673, by decide +kernel, by decide⟩
theorem mv_M_236 : MVok R_M 236 R_M y_M_missesOf b_M_missesOf 3 (some .int) 0 := ⟨q_674, q_675, q_825, q_5, q_676, by decide +kernel, by decide⟩
theorem mv_M_239 : MVok R_M 239 R_M y_M_placeOf b_M_placeOf 3 (some .int) 1 := ⟨q_690, q_691, q_829, q_5, q_692, by decide +kernel, by decide⟩
theorem mv_M_242 : MVok R_M 242 R_M y_M_wayTold b_M_wayTold 10 (some .int) 1 := ⟨q_687, q_688, q_828, q_5, q_689, by decide +kernel, by decide⟩
theorem mv_M_245 : MVok R_M 245 R_M y_M_numberOf b_M_numberOf 3 (some .int) 0 := ⟨q_684, q_685, q_827, q_5, q_686, by decide +kernel, by decide⟩
theorem mv_M_251 : MVok R_M 251 R_M y_M_lacks b_M_lacks 4 (some .int) 3 := ⟨q_705, q_706, q_830, q_5, q_707, by decide +kernel, by decide⟩
theorem mv_M_254 : MVok R_M 254 R_M y_M_keep b_M_keep 4 none 3 := ⟨q_708, q_709, q_831, q_5, q_710, by decide +kernel, by decide⟩
theorem mv_M_259 : MVok R_M 259 R_M y_M_takenMany b_M_takenMany 4 (some .int) 0 := ⟨q_728, q_729, q_832, q_5, q_730, by decide +kernel, by decide⟩
theorem mv_M_262 : MVok R_M 262 R_M y_M_nodesOf b_M_nodesOf 4 (some .int) 1 := ⟨q_731, q_732, q_833, q_5, q_733, by decide +kernel, by decide⟩
theorem mv_M_268 : MVok R_M 268 R_M y_M_may b_M_may 2 (some .int) 1 := ⟨q_749, q_615, q_616, q_5, q_617, by decide +kernel, by decide⟩
theorem mv_M_271 : MVok R_M 271 R_M y_M_must b_M_must 2 (some .int) 1 := ⟨q_750, q_622, q_623, q_5, q_624, by decide +kernel, by decide⟩
theorem mv_M_276 : MVok R_M 276 R_M y_M_count b_M_count 2 (some .int) 1 := ⟨q_740, q_725, q_726, q_5, q_727, by decide +kernel, by decide⟩
theorem mv_M_279 : MVok R_M 279 R_M y_M_taken b_M_taken 2 (some .int) 1 := ⟨q_741, q_521, q_522, q_5, q_523, by decide +kernel, by decide⟩
theorem mv_M_282 : MVok R_M 282 R_M y_M_reason b_M_reason 2 (some .int) 1 := ⟨q_742, q_528, q_529, q_5, q_530, by decide +kernel, by decide⟩
theorem mv_M_285 : MVok R_M 285 R_M y_M_rowDigest b_M_rowDigest 7 (some .long) 2 := ⟨q_743, q_744, q_834, q_5, q_745, by decide +kernel, by decide⟩
theorem mv_M_289 : MVok R_M 289 R_M y_M_setDigest b_M_setDigest 6 (some .long) 2 := ⟨q_746, q_747, q_835, q_5, q_748, by decide +kernel, by decide⟩
theorem mv_M_292 : MVok R_M 292 R_M y_M_apart b_M_apart 4 (some .int) 3 := ⟨q_751, q_629, q_630, q_5, q_631, by decide +kernel, by decide⟩
theorem mv_M_295 : MVok R_M 295 R_M y_M_misses b_M_misses 1 (some .int) 0 := ⟨q_752, q_668, q_669, q_5, q_670, by decide +kernel, by decide⟩
theorem mv_M_298 : MVok R_M 298 R_M y_M_number b_M_number 1 (some .int) 0 := ⟨q_753, q_681, q_682, q_5, q_683, by decide +kernel, by decide⟩
theorem mv_O_64 : MVok R_O 64 R_O y_O_drawAll b_O_drawAll 2 none 0 := ⟨q_45, q_46, q_754, q_1, q_47, by decide +kernel, by decide⟩
theorem mv_O_67 : MSok R_O 67 y_O_isSet b_O_isSet 1 (some .boolean) 1 := ⟨q_168, q_169, q_1, q_170, by decide +kernel, by decide⟩
theorem mv_O_71 : MSok R_O 71 y_J_bitCount b_J_bitCount 1 (some .int) 1 := ⟨q_171, q_88, q_4, q_89, by decide +kernel, by decide⟩
theorem mv_O_77 : MVok R_O 77 R_O y_O_takeGroup b_O_takeGroup 3 none 1 := ⟨q_58, q_59, q_757, q_1, q_60, by decide +kernel, by decide⟩
theorem mv_O_81 : MVok R_O 81 R_T y_T_show b_T_show 6 (some .int) 1 := ⟨q_138, q_139, q_140, q_3, q_141, by decide +kernel, by decide⟩
theorem mv_O_85 : MVok R_O 85 R_O y_O_taken b_O_taken 2 (some .int) 1 := ⟨q_172, q_173, q_174, q_1, q_175, by decide +kernel, by decide⟩
theorem mv_O_88 : MVok R_O 88 R_O y_O_isGroup b_O_isGroup 2 (some .boolean) 1 := ⟨q_176, q_177, q_777, q_1, q_178, by decide +kernel, by decide⟩
theorem mv_O_91 : MVok R_O 91 R_O y_O_isTaken b_O_isTaken 2 (some .boolean) 1 := ⟨q_179, q_180, q_778, q_1, q_181, by decide +kernel, by decide⟩
theorem mv_O_94 : MVok R_O 94 R_T y_T_plant b_T_plant 3 none 1 := ⟨q_48, q_49, q_50, q_3, q_51, by decide +kernel, by decide⟩
theorem mv_O_97 : MVok R_O 97 R_T y_T_reduce b_T_reduce 5 (some .boolean) 1 := ⟨q_83, q_84, q_85, q_3, q_86, by decide +kernel, by decide⟩
theorem mv_O_100 : MVok R_O 100 R_T y_T_draw b_T_draw 2 none 1 := ⟨q_61, q_62, q_63, q_3, q_64, by decide +kernel, by decide⟩
theorem mv_O_104 : MSok R_O 104 y_O_isSheet b_O_isSheet 1 (some .boolean) 1 := ⟨q_195, q_196, q_1, q_197, by decide +kernel, by decide⟩
theorem mv_O_107 : MVok R_O 107 R_S y_S_isLost b_S_isLost 2 (some .boolean) 1 := ⟨q_198, q_199, q_200, q_2, q_201, by decide +kernel, by decide⟩
theorem mv_O_110 : MVok R_O 110 R_O y_O_found b_O_found 2 (some .int) 1 := ⟨q_202, q_203, q_779, q_1, q_204, by decide +kernel, by decide⟩
theorem mv_O_113 : MVok R_O 113 R_S y_S_sizeOf b_S_sizeOf 2 (some .int) 1 := ⟨q_205, q_206, q_207, q_2, q_208, by decide +kernel, by decide⟩
theorem mv_O_116 : MVok R_O 116 R_S y_S_item b_S_item 3 (some .int) 2 := ⟨q_209, q_210, q_211, q_2, q_212, by decide +kernel, by decide⟩
theorem mv_O_120 : MVok R_O 120 R_O y_O_group b_O_group 2 (some .int) 1 := ⟨q_213, q_165, q_166, q_1, q_167, by decide +kernel, by decide⟩
theorem mv_O_123 : MVok R_O 123 R_T y_T_rowCount b_T_rowCount 4 (some .long) 0 := ⟨q_218, q_219, q_220, q_3, q_221, by decide +kernel, by decide⟩
theorem mv_O_127 : MVok R_O 127 R_T y_T_nodeCount b_T_nodeCount 1 (some .int) 0 := ⟨q_236, q_237, q_238, q_3, q_239, by decide +kernel, by decide⟩
theorem mv_O_131 : MVok R_O 131 R_T y_T_isTurning b_T_isTurning 2 (some .boolean) 1 := ⟨q_240, q_241, q_242, q_3, q_243, by decide +kernel, by decide⟩
theorem mv_O_134 : MVok R_O 134 R_T y_T_partCount b_T_partCount 2 (some .int) 1 := ⟨q_244, q_245, q_246, q_3, q_247, by decide +kernel, by decide⟩
theorem mv_O_137 : MVok R_O 137 R_T y_T_thingsOf b_T_thingsOf 2 (some .int) 1 := ⟨q_248, q_249, q_250, q_3, q_251, by decide +kernel, by decide⟩
theorem mv_O_140 : MSok R_O 140 y_O_isRowNumber b_O_isRowNumber 1 (some .boolean) 1 := ⟨q_256, q_257, q_1, q_258, by decide +kernel, by decide⟩
theorem mv_O_143 : MVok R_O 143 R_T y_T_layRow b_T_layRow 6 none 2 := ⟨q_260, q_261, q_262, q_3, q_263, by decide +kernel, by decide⟩
theorem mv_O_147 : MVok R_O 147 R_O y_O_isSetOfThings b_O_isSetOfThings 2 (some .boolean) 1 := ⟨q_277, q_278, q_782, q_1, q_279, by decide +kernel, by decide⟩
theorem mv_O_150 : MVok R_O 150 R_O y_O_isThing b_O_isThing 2 (some .boolean) 1 := ⟨q_288, q_289, q_783, q_1, q_290, by decide +kernel, by decide⟩
theorem mv_O_153 : MVok R_O 153 R_T y_T_between b_T_between 9 (some .int) 3 := ⟨q_291, q_292, q_293, q_3, q_294, by decide +kernel, by decide⟩
theorem mv_O_157 : MVok R_O 157 R_O y_O_fault b_O_fault 4 (some .int) 0 := ⟨q_328, q_321, q_322, q_1, q_323, by decide +kernel, by decide⟩
theorem mv_O_160 : MVok R_O 160 R_O y_O_findPlaces b_O_findPlaces 3 none 0 := ⟨q_329, q_330, q_786, q_1, q_331, by decide +kernel, by decide⟩
theorem mv_O_163 : MVok R_O 163 R_O y_O_isSideBySide b_O_isSideBySide 6 (some .boolean) 1 := ⟨q_332, q_333, q_787, q_1, q_334, by decide +kernel, by decide⟩
theorem mv_O_166 : MVok R_O 166 R_O y_O_misses b_O_misses 3 (some .int) 0 := ⟨q_341, q_325, q_326, q_1, q_327, by decide +kernel, by decide⟩
theorem mv_O_169 : MVok R_O 169 R_T y_T_numberOf b_T_numberOf 4 (some .int) 1 := ⟨q_342, q_343, q_344, q_3, q_345, by decide +kernel, by decide⟩
theorem mv_O_172 : MSok R_O 172 y_O_isForm b_O_isForm 1 (some .boolean) 1 := ⟨q_356, q_357, q_1, q_358, by decide +kernel, by decide⟩
theorem mv_O_175 : MVok R_O 175 R_S y_S_lay b_S_lay 5 none 3 := ⟨q_359, q_360, q_361, q_2, q_362, by decide +kernel, by decide⟩
theorem mv_O_179 : MVok R_O 179 R_S y_S_drop b_S_drop 2 none 1 := ⟨q_367, q_368, q_369, q_2, q_370, by decide +kernel, by decide⟩
theorem mv_O_182 : MVok R_O 182 R_O y_O_findingOf b_O_findingOf 4 (some .int) 3 := ⟨q_375, q_376, q_790, q_1, q_377, by decide +kernel, by decide⟩
theorem mv_O_186 : MVok R_O 186 R_S y_S_setItem b_S_setItem 5 none 3 := ⟨q_382, q_383, q_384, q_2, q_385, by decide +kernel, by decide⟩
theorem mv_O_190 : MVok R_O 190 R_S y_S_formOf b_S_formOf 2 (some .int) 1 := ⟨q_378, q_379, q_380, q_2, q_381, by decide +kernel, by decide⟩
theorem mv_O_193 : MVok R_O 193 R_S y_S_hasItems b_S_hasItems 4 (some .boolean) 3 := ⟨q_395, q_396, q_397, q_2, q_398, by decide +kernel, by decide⟩
theorem mv_O_197 : MVok R_O 197 R_S y_S_move b_S_move 6 none 5 := ⟨q_399, q_400, q_401, q_2, q_402, by decide +kernel, by decide⟩
theorem mv_O_206 : MVok R_O 206 R_T y_T_turningCount b_T_turningCount 3 (some .int) 0 := ⟨q_414, q_415, q_416, q_3, q_417, by decide +kernel, by decide⟩
theorem mv_O_213 : MVok R_O 213 R_O y_O_count b_O_count 2 (some .int) 1 := ⟨q_424, q_411, q_412, q_1, q_413, by decide +kernel, by decide⟩
theorem mv_O_216 : MVok R_O 216 R_O y_O_reason b_O_reason 6 (some .int) 1 := ⟨q_425, q_188, q_189, q_1, q_190, by decide +kernel, by decide⟩
theorem mv_O_219 : MVok R_O 219 R_O y_O_many b_O_many 1 (some .long) 0 := ⟨q_426, q_215, q_216, q_1, q_217, by decide +kernel, by decide⟩
theorem mv_O_222 : MVok R_O 222 R_O y_O_tree b_O_tree 2 (some .int) 1 := ⟨q_427, q_229, q_230, q_1, q_231, by decide +kernel, by decide⟩
theorem mv_O_225 : MVok R_O 225 R_O y_O_node b_O_node 3 (some .int) 2 := ⟨q_428, q_233, q_234, q_1, q_235, by decide +kernel, by decide⟩
theorem mv_O_231 : MVok R_O 231 R_O y_O_row b_O_row 3 (some .int) 2 := ⟨q_430, q_253, q_254, q_1, q_255, by decide +kernel, by decide⟩
theorem mv_O_237 : MVok R_O 237 R_O y_O_may b_O_may 2 (some .int) 1 := ⟨q_432, q_274, q_275, q_1, q_276, by decide +kernel, by decide⟩
theorem mv_O_240 : MVok R_O 240 R_O y_O_must b_O_must 2 (some .int) 1 := ⟨q_433, q_281, q_282, q_1, q_283, by decide +kernel, by decide⟩
theorem mv_O_243 : MVok R_O 243 R_O y_O_apart b_O_apart 4 (some .int) 3 := ⟨q_434, q_285, q_286, q_1, q_287, by decide +kernel, by decide⟩
theorem mv_O_246 : MVok R_O 246 R_O y_O_spare b_O_spare 6 (some .int) 0 := ⟨q_435, q_305, q_306, q_1, q_307, by decide +kernel, by decide⟩
theorem mv_O_249 : MVok R_O 249 R_O y_O_number b_O_number 2 (some .int) 0 := ⟨q_436, q_338, q_339, q_1, q_340, by decide +kernel, by decide⟩
theorem mv_T_58 : MVok R_T 58 R_T y_T_clear b_T_clear 2 none 0 := ⟨q_52, q_53, q_755, q_3, q_54, by decide +kernel, by decide⟩
theorem mv_T_61 : MVok R_T 61 R_T y_T_add b_T_add 3 none 2 := ⟨q_55, q_56, q_756, q_3, q_57, by decide +kernel, by decide⟩
theorem mv_T_65 : MSok R_T 65 y_T_place b_T_place 6 (some .int) 4 := ⟨q_65, q_66, q_3, q_67, by decide +kernel, by decide⟩
theorem mv_T_69 : MVok R_T 69 R_T y_T_order b_T_order 6 none 1 := ⟨q_68, q_69, q_758, q_3, q_70, by decide +kernel, by decide⟩
theorem mv_T_73 : MVok R_T 73 R_T y_T_part b_T_part 3 (some .int) 2 := ⟨q_71, q_72, q_759, q_3, q_73, by decide +kernel, by decide⟩
theorem mv_T_77 : MVok R_T 77 R_T y_T_least b_T_least 2 (some .int) 1 := ⟨q_74, q_75, q_760, q_3, q_76, by decide +kernel, by decide⟩
theorem mv_T_81 : MSok R_T 81 y_T_turn b_T_turn 6 none 3 := ⟨q_77, q_78, q_3, q_79, by decide +kernel, by decide⟩
theorem mv_T_85 : MVok R_T 85 R_T y_T_setPart b_T_setPart 4 none 3 := ⟨q_80, q_81, q_761, q_3, q_82, by decide +kernel, by decide⟩
theorem mv_T_89 : MSok R_T 89 y_J_bitCount b_J_bitCount 1 (some .int) 1 := ⟨q_87, q_88, q_4, q_89, by decide +kernel, by decide⟩
theorem mv_T_94 : MVok R_T 94 R_T y_T_lowestWith b_T_lowestWith 6 (some .int) 1 := ⟨q_93, q_94, q_762, q_3, q_95, by decide +kernel, by decide⟩
theorem mv_T_97 : MVok R_T 97 R_T y_T_stateOf b_T_stateOf 4 (some .int) 2 := ⟨q_96, q_97, q_763, q_3, q_98, by decide +kernel, by decide⟩
theorem mv_T_100 : MVok R_T 100 R_T y_T_reduceFree b_T_reduceFree 6 (some .boolean) 2 := ⟨q_99, q_100, q_764, q_3, q_101, by decide +kernel, by decide⟩
theorem mv_T_104 : MVok R_T 104 R_T y_T_reduceTurning b_T_reduceTurning 8 (some .boolean) 2 := ⟨q_132, q_133, q_775, q_3, q_134, by decide +kernel, by decide⟩
theorem mv_T_107 : MVok R_T 107 R_T y_T_giveBackSplit b_T_giveBackSplit 2 none 0 := ⟨q_135, q_136, q_776, q_3, q_137, by decide +kernel, by decide⟩
theorem mv_T_110 : MVok R_T 110 R_T y_T_partIn b_T_partIn 7 (some .int) 4 := ⟨q_102, q_103, q_765, q_3, q_104, by decide +kernel, by decide⟩
theorem mv_T_114 : MVok R_T 114 R_T y_T_splitToLine b_T_splitToLine 8 (some .boolean) 3 := ⟨q_105, q_106, q_766, q_3, q_107, by decide +kernel, by decide⟩
theorem mv_T_118 : MVok R_T 118 R_T y_T_bundle b_T_bundle 6 (some .int) 3 := ⟨q_108, q_109, q_767, q_3, q_110, by decide +kernel, by decide⟩
theorem mv_T_122 : MVok R_T 122 R_T y_T_append b_T_append 2 none 1 := ⟨q_114, q_115, q_769, q_3, q_116, by decide +kernel, by decide⟩
theorem mv_T_125 : MVok R_T 125 R_T y_T_keepEmpty b_T_keepEmpty 5 none 2 := ⟨q_126, q_127, q_773, q_3, q_128, by decide +kernel, by decide⟩
theorem mv_T_128 : MVok R_T 128 R_T y_T_fillFromLine b_T_fillFromLine 3 none 1 := ⟨q_129, q_130, q_774, q_3, q_131, by decide +kernel, by decide⟩
theorem mv_T_131 : MVok R_T 131 R_T y_T_unusedNode b_T_unusedNode 2 (some .int) 0 := ⟨q_111, q_112, q_768, q_3, q_113, by decide +kernel, by decide⟩
theorem mv_T_135 : MVok R_T 135 R_T y_T_hold b_T_hold 2 none 1 := ⟨q_117, q_118, q_770, q_3, q_119, by decide +kernel, by decide⟩
theorem mv_T_138 : MVok R_T 138 R_T y_T_splitTurning b_T_splitTurning 8 (some .boolean) 2 := ⟨q_120, q_121, q_771, q_3, q_122, by decide +kernel, by decide⟩
theorem mv_T_141 : MVok R_T 141 R_T y_T_markSplit b_T_markSplit 2 none 1 := ⟨q_123, q_124, q_772, q_3, q_125, by decide +kernel, by decide⟩
theorem mv_T_144 : MVok R_T 144 R_T y_T_ways b_T_ways 2 (some .int) 1 := ⟨q_222, q_223, q_780, q_3, q_224, by decide +kernel, by decide⟩
theorem mv_T_147 : MSok R_T 147 y_T_setAt b_T_setAt 3 none 3 := ⟨q_142, q_143, q_3, q_144, by decide +kernel, by decide⟩
theorem mv_T_155 : MVok R_T 155 R_T y_T_layParts b_T_layParts 10 none 2 := ⟨q_267, q_268, q_781, q_3, q_269, by decide +kernel, by decide⟩
theorem mv_T_161 : MSok R_T 161 y_T_nthBit b_T_nthBit 4 (some .int) 2 := ⟨q_270, q_271, q_3, q_272, by decide +kernel, by decide⟩
theorem mv_T_164 : MVok R_T 164 R_T y_T_wayOf b_T_wayOf 9 (some .int) 2 := ⟨q_346, q_347, q_788, q_3, q_348, by decide +kernel, by decide⟩
theorem mv_T_168 : MVok R_T 168 R_T y_T_leastThing b_T_leastThing 2 (some .int) 1 := ⟨q_349, q_350, q_789, q_3, q_351, by decide +kernel, by decide⟩
theorem mv_T_171 : MVok R_T 171 R_T y_T_besideIn b_T_besideIn 9 (some .int) 3 := ⟨q_295, q_296, q_784, q_3, q_297, by decide +kernel, by decide⟩
theorem mv_T_175 : MVok R_T 175 R_T y_T_betweenIn b_T_betweenIn 10 (some .int) 4 := ⟨q_301, q_302, q_785, q_3, q_303, by decide +kernel, by decide⟩
theorem okB0 : okR (some .boolean) (some (.int 0)) := rfl
theorem okB1 : okR (some .boolean) (some (.int 1)) := rfl
end
section
noncomputable def M_in (x0 : Int32) (x1 : Int32) (x2 : Int32) : Int32 := lt (if x0 < x1 then false else if x2 < x0 then false else true : Bool) (fun b1 => lt (if b1 = true then 1 else 0 : Int32) (fun v13 => v13))
set_option maxHeartbeats 4000000 in
set_option maxRecDepth 100000 in
theorem c_M_in (l : Launch) (Y : Wx) (x0 : Int32) (x1 : Int32) (x2 : Int32)  (σ : Mem) (o : Int32) (hf : M_in x0 x1 x2 = o) : Ct l Y 1 y_M_in b_M_in 3 (some .boolean) 0 [.int x0, .int x1, .int x2] σ (some (.int o)) σ := by
  unfold M_in at hf
  refine ct_of (by decide) (Nat.le_of_ble_eq_true rfl) rfl (fun X hXl hX hR => ?_)
  subst hXl
  have hX : Fx X Y 1 b_M_in 3 R_M 0 := hX
  refine g_iload_n hX d_M_in_0 0 rfl ?_
  refine g_iload_n hX d_M_in_1 1 rfl ?_
  obtain ⟨b1, h2, h3⟩ := ltex hf
  obtain ⟨v13, h8, h9⟩ := ltex h3
  have KJ9 : okR (some .boolean) (some (.int v13)) → Gd X Y 1 σ [] 15 [.int v13] := by
    intro hbv13
    cases h9
    exact g_zreturn hX hR hbv13 d_M_in_15
  have Kb1t : b1 = true → Gd X Y 1 σ [(0, .int x0), (1, .int x1), (2, .int x2)] 10 [] := by
    intro h14
    have h11 := (if_pos h14).symm.trans h8
    refine g_iconst hX 1 d_M_in_10 (by decide) ?_
    refine g_goto hX 15 d_M_in_11 (by decide) ?_
    cases h11
    refine g_sub (lv2 := []) [] rfl ?_
    exact KJ9 okB1
  have Kb1f : ¬ b1 = true → Gd X Y 1 σ [(0, .int x0), (1, .int x1), (2, .int x2)] 14 [] := by
    intro h14
    have h12 := (if_neg h14).symm.trans h8
    refine g_iconst hX 0 d_M_in_14 (by decide) ?_
    cases h12
    refine g_sub (lv2 := []) [] rfl ?_
    exact KJ9 okB0
  refine g_icmp_lt hX 14 d_M_in_2 (by decide) h2 (fun h4 => ?_) (fun h5 => ?_)
  · cases h4
    exact Kb1f (by decide)
  · refine g_iload_n hX d_M_in_5 0 rfl ?_
    refine g_iload_n hX d_M_in_6 2 rfl ?_
    refine g_icmp_gt hX 14 d_M_in_7 (by decide) h5 (fun h6 => ?_) (fun h7 => ?_)
    · cases h6
      exact Kb1f (by decide)
    · cases h7
      exact Kb1t rfl
noncomputable def M_isIn (x0 : Int32) (x1 : Int32) : Int32 := lt (if ((x0 >>> (x1 &&& 31)) &&& 1) = 1 then 1 else 0 : Int32) (fun v6 => v6)
set_option maxHeartbeats 4000000 in
set_option maxRecDepth 100000 in
theorem c_M_isIn (l : Launch) (Y : Wx) (x0 : Int32) (x1 : Int32)  (σ : Mem) (o : Int32) (hf : M_isIn x0 x1 = o) : Ct l Y 1 y_M_isIn b_M_isIn 2 (some .boolean) 0 [.int x0, .int x1] σ (some (.int o)) σ := by
  unfold M_isIn at hf
  refine ct_of (by decide) (Nat.le_of_ble_eq_true rfl) rfl (fun X hXl hX hR => ?_)
  subst hXl
  have hX : Fx X Y 1 b_M_isIn 2 R_M 0 := hX
  refine g_iload_n hX d_M_isIn_0 0 rfl ?_
  refine g_iload_n hX d_M_isIn_1 1 rfl ?_
  refine g_ishr hX d_M_isIn_2 ?_
  refine g_iconst hX 1 d_M_isIn_3 (by decide) ?_
  refine g_iand hX d_M_isIn_4 ?_
  refine g_iconst hX 1 d_M_isIn_5 (by decide) ?_
  obtain ⟨v6, h1, h2⟩ := ltex hf
  have KJ2 : okR (some .boolean) (some (.int v6)) → Gd X Y 1 σ [] 14 [.int v6] := by
    intro hbv6
    cases h2
    exact g_zreturn hX hR hbv6 d_M_isIn_14
  refine g_icmp_ne hX 13 d_M_isIn_6 (by decide) h1 (fun h4 => ?_) (fun h5 => ?_)
  · refine g_iconst hX 0 d_M_isIn_13 (by decide) ?_
    cases h4
    refine g_sub (lv2 := []) [] rfl ?_
    exact KJ2 okB0
  · refine g_iconst hX 1 d_M_isIn_9 (by decide) ?_
    refine g_goto hX 14 d_M_isIn_10 (by decide) ?_
    cases h5
    refine g_sub (lv2 := []) [] rfl ?_
    exact KJ2 okB1
noncomputable def M_many_b1 (x0 : Int32) (v1 : Int32) (v2 : Int32) : Option ((Int32 × Int32) ⊕ (Int32)) := if 8 ≤ v2 then some (.inr v1) else lt (if (M_isIn x0 v2) = 0 then 0 else 1 : Int32) (fun v18 => lt (v1 + v18) (fun v19 => lt (v2 + 1) (fun v21 => some (.inl (v19, v21)))))
noncomputable def M_many (x0 : Int32) : Option (Int32) := (lp (fun s => M_many_b1 x0 s.1 s.2) fuel (0, 0)).bind (fun v3 => some v3)
set_option maxHeartbeats 4000000 in
set_option maxRecDepth 100000 in
theorem c_M_many (l : Launch) (Y : Wx) (x0 : Int32)  (σ : Mem) (o : Int32) (hf : M_many x0 = some o) : Ct l Y 1 y_M_many b_M_many 3 (some .int) 1 [.int x0] σ (some (.int o)) σ := by
  unfold M_many at hf
  refine ct_of (by decide) (Nat.le_of_ble_eq_true rfl) rfl (fun X hXl hX hR => ?_)
  subst hXl
  have hX : Fx X Y 1 b_M_many 3 R_M 1 := hX
  refine g_iconst hX 0 d_M_many_0 (by decide) ?_
  refine g_istore_nV hX [(1, .int 0), (0, .int x0)] d_M_many_1 (by decide) rfl ?_
  refine g_iconst hX 0 d_M_many_2 (by decide) ?_
  refine g_istore_nV hX [(2, .int 0), (1, .int 0), (0, .int x0)] d_M_many_3 (by decide) rfl ?_
  obtain ⟨v3, h7, h8⟩ := obind hf
  have KX8 : Gd X Y 1 σ [(1, .int v3)] 32 [] := by
    refine g_iload_n hX d_M_many_32 0 rfl ?_
    cases h8
    exact g_ireturn hX hR d_M_many_33
  refine g_sub (lv2 := [(0, .int x0), (1, .int 0), (2, .int 0)]) [2, 1, 0] rfl ?_
  refine g_loop (fun s => M_many_b1 x0 s.1 s.2) (fun s => Gd X Y 1 σ [(0, .int x0), (1, .int s.1), (2, .int s.2)] 4 []) v3 ?_ fuel (0, 0) h7
  intro s y6 h6 h4 h5
  obtain ⟨v1, v2⟩ := s
  have h6 : M_many_b1 x0 v1 v2 = some y6 := h6
  unfold M_many_b1 at h6
  show Gd X Y 1 σ [(0, .int x0), (1, .int v1), (2, .int v2)] 4 []
  refine g_iload_n hX d_M_many_4 2 rfl ?_
  refine g_bipush hX 8 d_M_many_5 (by decide) ?_
  refine g_icmp_ge hX 32 d_M_many_7 (by decide) h6 (fun h10 => ?_) (fun h11 => ?_)
  · cases h10
    have h9 := h5 v1 rfl
    cases h9
    refine g_sub (lv2 := [(1, .int v1)]) [1] rfl ?_
    exact KX8
  · refine g_iload_n hX d_M_many_10 1 rfl ?_
    refine g_iload_n hX d_M_many_11 0 rfl ?_
    refine g_iload_n hX d_M_many_12 2 rfl ?_
    refine g_callS hX [.int x0, .int v2] [.int v1] mv_M_81 (c_M_isIn X.2.1 Y x0 v2 σ _ rfl) (by decide) rfl rfl (Nat.le_of_ble_eq_true rfl) d_M_many_13 (fun h12 => ?_)
    show Gd X Y 1 σ [(0, .int x0), (1, .int v1), (2, .int v2)] 16 [.int (M_isIn x0 v2), .int v1]
    obtain ⟨v18, h13, h14⟩ := ltex h11
    have KJ14 : okR (some .boolean) (some (.int v18)) → Gd X Y 1 σ [(0, .int x0), (2, .int v2)] 24 [.int v18, .int v1] := by
      intro hbv18
      refine g_iadd hX d_M_many_24 ?_
      refine g_istore_n hX (fun v19 => [(1, .int v19), (0, .int x0), (2, .int v2)]) d_M_many_25 (by decide) (fun _ => rfl) h14 (fun v19 h20 => ?_)
      refine g_iinc hX (fun v21 => [(2, .int v21), (1, .int v19), (0, .int x0)]) d_M_many_26 2 rfl rfl (by decide) (fun _ => rfl) h20 (fun v21 h22 => ?_)
      refine g_goto hX 4 d_M_many_29 (by decide) ?_
      cases h22
      refine g_sub (lv2 := [(0, .int x0), (1, .int v19), (2, .int v21)]) [2, 1, 0] rfl ?_
      exact h4 (v19, v21) rfl
    refine g_if_eq hX 23 d_M_many_16 (by decide) h13 (fun h16 => ?_) (fun h17 => ?_)
    · refine g_iconst hX 0 d_M_many_23 (by decide) ?_
      cases h16
      refine g_sub (lv2 := [(0, .int x0), (2, .int v2)]) [0, 2] rfl ?_
      exact KJ14 okB0
    · refine g_iconst hX 1 d_M_many_19 (by decide) ?_
      refine g_goto hX 24 d_M_many_20 (by decide) ?_
      cases h17
      refine g_sub (lv2 := [(0, .int x0), (2, .int v2)]) [0, 2] rfl ?_
      exact KJ14 okB1
noncomputable def M_least_b1 (x0 : Int32) (v1 : Int32) : Option ((Int32) ⊕ (Int32)) := if (M_isIn x0 v1) = 0 then lt (v1 + 1) (fun v12 => some (.inl v12)) else some (.inr v1)
noncomputable def M_least (x0 : Int32) : Option (Int32) := (lp (fun s => M_least_b1 x0 s) fuel 0).bind (fun v2 => some v2)
set_option maxHeartbeats 4000000 in
set_option maxRecDepth 100000 in
theorem c_M_least (l : Launch) (Y : Wx) (x0 : Int32)  (σ : Mem) (o : Int32) (hf : M_least x0 = some o) : Ct l Y 1 y_M_least b_M_least 2 (some .int) 1 [.int x0] σ (some (.int o)) σ := by
  unfold M_least at hf
  refine ct_of (by decide) (Nat.le_of_ble_eq_true rfl) rfl (fun X hXl hX hR => ?_)
  subst hXl
  have hX : Fx X Y 1 b_M_least 2 R_M 1 := hX
  refine g_iconst hX 0 d_M_least_0 (by decide) ?_
  refine g_istore_nV hX [(1, .int 0), (0, .int x0)] d_M_least_1 (by decide) rfl ?_
  obtain ⟨v2, h6, h7⟩ := obind hf
  have KX7 : Gd X Y 1 σ [(1, .int v2)] 16 [] := by
    refine g_iload_n hX d_M_least_16 0 rfl ?_
    cases h7
    exact g_ireturn hX hR d_M_least_17
  refine g_sub (lv2 := [(0, .int x0), (1, .int 0)]) [1, 0] rfl ?_
  refine g_loop (fun s => M_least_b1 x0 s) (fun s => Gd X Y 1 σ [(0, .int x0), (1, .int s)] 2 []) v2 ?_ fuel 0 h6
  intro v1 y5 h5 h3 h4
  have h5 : M_least_b1 x0 v1 = some y5 := h5
  unfold M_least_b1 at h5
  show Gd X Y 1 σ [(0, .int x0), (1, .int v1)] 2 []
  refine g_iload_n hX d_M_least_2 0 rfl ?_
  refine g_iload_n hX d_M_least_3 1 rfl ?_
  refine g_callS hX [.int x0, .int v1] [] mv_M_81 (c_M_isIn X.2.1 Y x0 v1 σ _ rfl) (by decide) rfl rfl (Nat.le_of_ble_eq_true rfl) d_M_least_4 (fun h9 => ?_)
  show Gd X Y 1 σ [(0, .int x0), (1, .int v1)] 7 [.int (M_isIn x0 v1)]
  refine g_if_ne hX 16 d_M_least_7 (by decide) h5 (fun h10 => ?_) (fun h11 => ?_)
  · cases h10
    have h8 := h4 v1 rfl
    cases h8
    refine g_sub (lv2 := [(1, .int v1)]) [1] rfl ?_
    exact KX7
  · refine g_iinc hX (fun v12 => [(1, .int v12), (0, .int x0)]) d_M_least_10 1 rfl rfl (by decide) (fun _ => rfl) h11 (fun v12 h13 => ?_)
    refine g_goto hX 2 d_M_least_13 (by decide) ?_
    cases h13
    refine g_sub (lv2 := [(0, .int x0), (1, .int v12)]) [1, 0] rfl ?_
    exact h3 v12 rfl
noncomputable def M_all  (σ : Mem) : Int32 := ((1 <<< ((σ 43 0) &&& 31)) - 1)
set_option maxHeartbeats 4000000 in
set_option maxRecDepth 100000 in
theorem c_M_all (l : Launch) (Y : Wx)   (σ : Mem) (o : Int32) (hf : M_all σ = o) : Ct l Y 1 y_M_all b_M_all 1 (some .int) 0 [.ref (adr Y 43)] σ (some (.int o)) σ := by
  unfold M_all at hf
  refine ct_of (by decide) (Nat.le_of_ble_eq_true rfl) rfl (fun X hXl hX hR => ?_)
  subst hXl
  have hX : Fx X Y 1 b_M_all 1 R_M 0 := hX
  refine g_iconst hX 1 d_M_all_0 (by decide) ?_
  refine g_aload_n hX d_M_all_1 0 rfl ?_
  refine g_getI hX iw_43 sh_43 rfl fl_M_7.f d_M_all_2 ?_
  refine g_ishl hX d_M_all_5 ?_
  refine g_iconst hX 1 d_M_all_6 (by decide) ?_
  refine g_isub hX d_M_all_7 ?_
  cases hf
  exact g_ireturn hX hR d_M_all_8
noncomputable def M_things (x1 : Int32) (σ : Mem) : Int32 × Mem := if (M_in x1 1 8) = 0 then ((-2), σ) else lt (σ 43 0) (fun v4 => lt (mput σ 43 0 x1) (fun σ6 => (v4, σ6)))
set_option maxHeartbeats 4000000 in
set_option maxRecDepth 100000 in
theorem c_M_things (l : Launch) (Y : Wx) (x1 : Int32)  (σ : Mem) (o : Int32 × Mem) (hf : M_things x1 σ = o) : Ct l Y 1 y_M_things b_M_things 3 (some .int) 1 [.ref (adr Y 43), .int x1] σ (some (.int o.1)) o.2 := by
  unfold M_things at hf
  refine ct_of (by decide) (Nat.le_of_ble_eq_true rfl) rfl (fun X hXl hX hR => ?_)
  subst hXl
  have hX : Fx X Y 1 b_M_things 3 R_M 1 := hX
  refine g_iload_n hX d_M_things_0 1 rfl ?_
  refine g_iconst hX 1 d_M_things_1 (by decide) ?_
  refine g_bipush hX 8 d_M_things_2 (by decide) ?_
  refine g_callS hX [.int x1, .int 1, .int 8] [] mv_M_85 (c_M_in X.2.1 Y x1 1 8 σ _ rfl) (by decide) rfl rfl (Nat.le_of_ble_eq_true rfl) d_M_things_4 (fun h1 => ?_)
  show Gd X Y 1 σ [(0, .ref (adr Y 43)), (1, .int x1)] 7 [.int (M_in x1 1 8)]
  refine g_if_ne hX 13 d_M_things_7 (by decide) hf (fun h2 => ?_) (fun h3 => ?_)
  · refine g_aload_n hX d_M_things_13 0 rfl ?_
    refine g_getI hX iw_43 sh_43 rfl fl_M_7.f d_M_things_14 ?_
    refine g_istore_n hX (fun v4 => [(2, .int v4), (0, .ref (adr Y 43)), (1, .int x1)]) d_M_things_17 (by decide) (fun _ => rfl) h2 (fun v4 h5 => ?_)
    refine g_aload_n hX d_M_things_18 1 rfl ?_
    refine g_iload_n hX d_M_things_19 2 rfl ?_
    refine g_putI hX iw_43 sh_43 rfl fl_M_7 d_M_things_20 h5 (fun σ6 h7 => ?_)
    refine g_iload_n hX d_M_things_23 0 rfl ?_
    cases h7
    exact g_ireturn hX hR d_M_things_24
  · refine g_bipush hX (-2) d_M_things_10 (by decide) ?_
    cases h3
    exact g_ireturn hX hR d_M_things_12
noncomputable def M_nexts_b1 (x1 : Int32) (x2 : Int32) (x3 : Int32) (σ : Mem) (v4 : Int32) (v5 : Int32) : Option ((Int32 × Int32) ⊕ (Int32)) := if 11 ≤ v5 then some (.inr v4) else lt (if v5 = 10 then true else if (M_isIn x2 v5) = 0 then false else true : Bool) (fun b15 => lt (if b15 = true then 1 else 0 : Int32) (fun v28 => ((if v5 = 10 then some x3 else if v28 = 0 then some 0 else (rd σ 44 v5).bind (fun v38 => some v38) : Option (Int32))).bind (fun v37 => lt (v37 &&& (M_all σ)) (fun v41 => lt (x1 &&& v41) (fun v43 => lt (if v28 = 0 then false else if v43 = 0 then false else if v43 = v41 then false else true : Bool) (fun b45 => lt (if b45 = true then (v4 &&& v41) else v4 : Int32) (fun v59 => lt (v5 + 1) (fun v61 => some (.inl (v59, v61))))))))))
noncomputable def M_nexts (x1 : Int32) (x2 : Int32) (x3 : Int32) (σ : Mem) : Option (Int32) := lt ((M_all σ) &&& (x1 ^^^ (-1))) (fun v2 => (lp (fun s => M_nexts_b1 x1 x2 x3 σ s.1 s.2) fuel (v2, 0)).bind (fun v6 => some v6))
set_option maxHeartbeats 4000000 in
set_option maxRecDepth 100000 in
theorem c_M_nexts (l : Launch) (Y : Wx) (x1 : Int32) (x2 : Int32) (x3 : Int32)  (σ : Mem) (o : Int32) (hf : M_nexts x1 x2 x3 σ = some o) : Ct l Y 1 y_M_nexts b_M_nexts 9 (some .int) 1 [.ref (adr Y 43), .int x1, .int x2, .int x3] σ (some (.int o)) σ := by
  unfold M_nexts at hf
  refine ct_of (by decide) (Nat.le_of_ble_eq_true rfl) rfl (fun X hXl hX hR => ?_)
  subst hXl
  have hX : Fx X Y 1 b_M_nexts 9 R_M 1 := hX
  refine g_aload_n hX d_M_nexts_0 0 rfl ?_
  refine g_callV hX [] [] mv_M_110 (c_M_all X.2.1 Y σ _ rfl) (by decide) iw_43 sh_43 rfl rfl rfl (Nat.le_of_ble_eq_true rfl) d_M_nexts_1 (fun h1 => ?_)
  show Gd X Y 1 σ [(0, .ref (adr Y 43)), (1, .int x1), (2, .int x2), (3, .int x3)] 4 [.int (M_all σ)]
  refine g_iload_n hX d_M_nexts_4 1 rfl ?_
  refine g_iconst hX (-1) d_M_nexts_5 (by decide) ?_
  refine g_ixor hX d_M_nexts_6 ?_
  refine g_iand hX d_M_nexts_7 ?_
  refine g_istore hX (fun v2 => [(4, .int v2), (0, .ref (adr Y 43)), (1, .int x1), (2, .int x2), (3, .int x3)]) d_M_nexts_8 (by decide) (fun _ => rfl) hf (fun v2 h3 => ?_)
  refine g_iconst hX 0 d_M_nexts_10 (by decide) ?_
  refine g_istoreV hX [(5, .int 0), (4, .int v2), (0, .ref (adr Y 43)), (1, .int x1), (2, .int x2), (3, .int x3)] d_M_nexts_11 (by decide) rfl ?_
  obtain ⟨v6, h10, h11⟩ := obind h3
  have KX11 : Gd X Y 1 σ [(4, .int v6)] 118 [] := by
    refine g_iload hX d_M_nexts_118 0 rfl ?_
    cases h11
    exact g_ireturn hX hR d_M_nexts_120
  refine g_sub (lv2 := [(0, .ref (adr Y 43)), (1, .int x1), (2, .int x2), (3, .int x3), (4, .int v2), (5, .int 0)]) [2, 3, 4, 5, 1, 0] rfl ?_
  refine g_loop (fun s => M_nexts_b1 x1 x2 x3 σ s.1 s.2) (fun s => Gd X Y 1 σ [(0, .ref (adr Y 43)), (1, .int x1), (2, .int x2), (3, .int x3), (4, .int s.1), (5, .int s.2)] 13 []) v6 ?_ fuel (v2, 0) h10
  intro s y9 h9 h7 h8
  obtain ⟨v4, v5⟩ := s
  have h9 : M_nexts_b1 x1 x2 x3 σ v4 v5 = some y9 := h9
  unfold M_nexts_b1 at h9
  show Gd X Y 1 σ [(0, .ref (adr Y 43)), (1, .int x1), (2, .int x2), (3, .int x3), (4, .int v4), (5, .int v5)] 13 []
  refine g_iload hX d_M_nexts_13 5 rfl ?_
  refine g_bipush hX 11 d_M_nexts_15 (by decide) ?_
  refine g_icmp_ge hX 118 d_M_nexts_17 (by decide) h9 (fun h13 => ?_) (fun h14 => ?_)
  · cases h13
    have h12 := h8 v4 rfl
    cases h12
    refine g_sub (lv2 := [(4, .int v4)]) [4] rfl ?_
    exact KX11
  · refine g_iload hX d_M_nexts_20 5 rfl ?_
    refine g_bipush hX 10 d_M_nexts_22 (by decide) ?_
    obtain ⟨b15, h16, h17⟩ := ltex h14
    obtain ⟨v28, h23, h24⟩ := ltex h17
    have KJ24 : okR (some .boolean) (some (.int v28)) → Gd X Y 1 σ [(0, .ref (adr Y 43)), (1, .int x1), (2, .int x2), (3, .int x3), (4, .int v4), (5, .int v5)] 41 [.int v28] := by
      intro hbv28
      refine g_istoreV hX [(6, .int v28), (0, .ref (adr Y 43)), (1, .int x1), (2, .int x2), (3, .int x3), (4, .int v4), (5, .int v5)] d_M_nexts_41 (by decide) rfl ?_
      refine g_iload hX d_M_nexts_43 6 rfl ?_
      refine g_bipush hX 10 d_M_nexts_45 (by decide) ?_
      obtain ⟨v37, h30, h31⟩ := obind h24
      have KJ31 : Gd X Y 1 σ [(0, .ref (adr Y 43)), (1, .int x1), (2, .int x2), (3, .int x3), (4, .int v4), (5, .int v5), (6, .int v28)] 70 [.int v37] := by
        refine g_aload_n hX d_M_nexts_70 0 rfl ?_
        refine g_callV hX [] [.int v37] mv_M_110 (c_M_all X.2.1 Y σ _ rfl) (by decide) iw_43 sh_43 rfl rfl rfl (Nat.le_of_ble_eq_true rfl) d_M_nexts_71 (fun h40 => ?_)
        show Gd X Y 1 σ [(0, .ref (adr Y 43)), (1, .int x1), (2, .int x2), (3, .int x3), (4, .int v4), (5, .int v5), (6, .int v28)] 74 [.int (M_all σ), .int v37]
        refine g_iand hX d_M_nexts_74 ?_
        refine g_istore hX (fun v41 => [(7, .int v41), (0, .ref (adr Y 43)), (1, .int x1), (2, .int x2), (3, .int x3), (4, .int v4), (5, .int v5), (6, .int v28)]) d_M_nexts_75 (by decide) (fun _ => rfl) h31 (fun v41 h42 => ?_)
        refine g_iload_n hX d_M_nexts_77 2 rfl ?_
        refine g_iload hX d_M_nexts_78 0 rfl ?_
        refine g_iand hX d_M_nexts_80 ?_
        refine g_istore hX (fun v43 => [(8, .int v43), (7, .int v41), (0, .ref (adr Y 43)), (1, .int x1), (2, .int x2), (3, .int x3), (4, .int v4), (5, .int v5), (6, .int v28)]) d_M_nexts_81 (by decide) (fun _ => rfl) h42 (fun v43 h44 => ?_)
        refine g_iload hX d_M_nexts_83 8 rfl ?_
        obtain ⟨b45, h46, h47⟩ := ltex h44
        obtain ⟨v59, h54, h55⟩ := ltex h47
        have KJ55 : Gd X Y 1 σ [(0, .ref (adr Y 43)), (1, .int x1), (2, .int x2), (3, .int x3), (5, .int v5)] 110 [.int v59] := by
          refine g_istoreV hX [(4, .int v59), (0, .ref (adr Y 43)), (1, .int x1), (2, .int x2), (3, .int x3), (5, .int v5)] d_M_nexts_110 (by decide) rfl ?_
          refine g_iinc hX (fun v61 => [(5, .int v61), (4, .int v59), (0, .ref (adr Y 43)), (1, .int x1), (2, .int x2), (3, .int x3)]) d_M_nexts_112 5 rfl rfl (by decide) (fun _ => rfl) h55 (fun v61 h62 => ?_)
          refine g_goto hX 13 d_M_nexts_115 (by decide) ?_
          cases h62
          refine g_sub (lv2 := [(0, .ref (adr Y 43)), (1, .int x1), (2, .int x2), (3, .int x3), (4, .int v59), (5, .int v61)]) [2, 3, 4, 5, 1, 0] rfl ?_
          exact h7 (v59, v61) rfl
        have Kb45t : b45 = true → Gd X Y 1 σ [(8, .int v43), (7, .int v41), (0, .ref (adr Y 43)), (1, .int x1), (2, .int x2), (3, .int x3), (4, .int v4), (5, .int v5), (6, .int v28)] 100 [] := by
          intro h60
          have h57 := (if_pos h60).symm.trans h54
          refine g_iload hX d_M_nexts_100 6 rfl ?_
          refine g_iload hX d_M_nexts_102 1 rfl ?_
          refine g_iand hX d_M_nexts_104 ?_
          refine g_goto hX 110 d_M_nexts_105 (by decide) ?_
          cases h57
          refine g_sub (lv2 := [(0, .ref (adr Y 43)), (1, .int x1), (2, .int x2), (3, .int x3), (5, .int v5)]) [2, 3, 4, 5, 7] rfl ?_
          exact KJ55
        have Kb45f : ¬ b45 = true → Gd X Y 1 σ [(8, .int v43), (7, .int v41), (0, .ref (adr Y 43)), (1, .int x1), (2, .int x2), (3, .int x3), (4, .int v4), (5, .int v5), (6, .int v28)] 108 [] := by
          intro h60
          have h58 := (if_neg h60).symm.trans h54
          refine g_iload hX d_M_nexts_108 6 rfl ?_
          cases h58
          refine g_sub (lv2 := [(0, .ref (adr Y 43)), (1, .int x1), (2, .int x2), (3, .int x3), (5, .int v5)]) [2, 3, 4, 5, 7] rfl ?_
          exact KJ55
        refine g_if_eq hX 108 d_M_nexts_85 (by decide) h46 (fun h48 => ?_) (fun h49 => ?_)
        · cases h48
          exact Kb45f (by decide)
        · refine g_iload hX d_M_nexts_88 0 rfl ?_
          refine g_if_eq hX 108 d_M_nexts_90 (by decide) h49 (fun h50 => ?_) (fun h51 => ?_)
          · cases h50
            exact Kb45f (by decide)
          · refine g_iload hX d_M_nexts_93 0 rfl ?_
            refine g_iload hX d_M_nexts_95 1 rfl ?_
            refine g_icmp_eq hX 108 d_M_nexts_97 (by decide) h51 (fun h52 => ?_) (fun h53 => ?_)
            · cases h52
              exact Kb45f (by decide)
            · cases h53
              exact Kb45t rfl
      refine g_icmp_ne hX 54 d_M_nexts_47 (by decide) h30 (fun h33 => ?_) (fun h34 => ?_)
      · refine g_iload hX d_M_nexts_54 0 rfl ?_
        refine g_if_eq hX 69 d_M_nexts_56 (by decide) h33 (fun h35 => ?_) (fun h36 => ?_)
        · refine g_iconst hX 0 d_M_nexts_69 (by decide) ?_
          cases h35
          refine g_sub (lv2 := [(0, .ref (adr Y 43)), (1, .int x1), (2, .int x2), (3, .int x3), (4, .int v4), (5, .int v5), (6, .int v28)]) [1, 2, 3, 4, 5, 6, 0] rfl ?_
          exact KJ31
        · refine g_aload_n hX d_M_nexts_59 1 rfl ?_
          refine g_getR hX iw_43 sh_43 rfl fl_M_13 d_M_nexts_60 ?_
          refine g_iload hX d_M_nexts_63 6 rfl ?_
          refine g_iaload hX iw_44 sh_44 d_M_nexts_65 h36 (fun v38 h39 => ?_)
          refine g_goto hX 70 d_M_nexts_66 (by decide) ?_
          cases h39
          refine g_sub (lv2 := [(0, .ref (adr Y 43)), (1, .int x1), (2, .int x2), (3, .int x3), (4, .int v4), (5, .int v5), (6, .int v28)]) [1, 2, 3, 4, 5, 6, 0] rfl ?_
          exact KJ31
      · refine g_iload_n hX d_M_nexts_50 4 rfl ?_
        refine g_goto hX 70 d_M_nexts_51 (by decide) ?_
        cases h34
        refine g_sub (lv2 := [(0, .ref (adr Y 43)), (1, .int x1), (2, .int x2), (3, .int x3), (4, .int v4), (5, .int v5), (6, .int v28)]) [1, 2, 3, 4, 5, 6, 0] rfl ?_
        exact KJ31
    have Kb15t : b15 = true → Gd X Y 1 σ [(0, .ref (adr Y 43)), (1, .int x1), (2, .int x2), (3, .int x3), (4, .int v4), (5, .int v5)] 36 [] := by
      intro h29
      have h26 := (if_pos h29).symm.trans h23
      refine g_iconst hX 1 d_M_nexts_36 (by decide) ?_
      refine g_goto hX 41 d_M_nexts_37 (by decide) ?_
      cases h26
      refine g_sub (lv2 := [(0, .ref (adr Y 43)), (1, .int x1), (2, .int x2), (3, .int x3), (4, .int v4), (5, .int v5)]) [0, 1, 2, 3, 4, 5] rfl ?_
      exact KJ24 okB1
    have Kb15f : ¬ b15 = true → Gd X Y 1 σ [(0, .ref (adr Y 43)), (1, .int x1), (2, .int x2), (3, .int x3), (4, .int v4), (5, .int v5)] 40 [] := by
      intro h29
      have h27 := (if_neg h29).symm.trans h23
      refine g_iconst hX 0 d_M_nexts_40 (by decide) ?_
      cases h27
      refine g_sub (lv2 := [(0, .ref (adr Y 43)), (1, .int x1), (2, .int x2), (3, .int x3), (4, .int v4), (5, .int v5)]) [0, 1, 2, 3, 4, 5] rfl ?_
      exact KJ24 okB0
    refine g_icmp_eq hX 36 d_M_nexts_24 (by decide) h16 (fun h18 => ?_) (fun h19 => ?_)
    · cases h18
      exact Kb15t rfl
    · refine g_iload_n hX d_M_nexts_27 2 rfl ?_
      refine g_iload hX d_M_nexts_28 5 rfl ?_
      refine g_callS hX [.int x2, .int v5] [] mv_M_81 (c_M_isIn X.2.1 Y x2 v5 σ _ rfl) (by decide) rfl rfl (Nat.le_of_ble_eq_true rfl) d_M_nexts_30 (fun h20 => ?_)
      show Gd X Y 1 σ [(0, .ref (adr Y 43)), (1, .int x1), (2, .int x2), (3, .int x3), (4, .int v4), (5, .int v5)] 33 [.int (M_isIn x2 v5)]
      refine g_if_eq hX 40 d_M_nexts_33 (by decide) h19 (fun h21 => ?_) (fun h22 => ?_)
      · cases h21
        exact Kb15f (by decide)
      · cases h22
        exact Kb15t rfl
noncomputable def M_rowsBy_b1  (v1 : Int32) (σ2 : Mem) : Option ((Int32 × Mem) ⊕ (Mem)) := if (M_all σ2) < v1 then some (.inr σ2) else lt (if v1 = 0 then 1 else 0 : Int32) (fun v18 => (wr σ2 45 v1 v18).bind (fun σ19 => lt (v1 + 1) (fun v21 => some (.inl (v21, σ19)))))
noncomputable def M_rowsBy_b2 (v23 : Int32) (v46 : Int32) (v47 : Int32) (σ48 : Mem) : Option ((Int32 × Mem) ⊕ (Mem)) := if (σ48 43 0) ≤ v47 then some (.inr σ48) else (rd σ48 45 (v23 ||| (1 <<< (v47 &&& 31)))).bind (fun v58 => ((if (M_isIn v46 v47) = 0 then some 0 else (rd σ48 45 v23).bind (fun v67 => some v67) : Option (Int32))).bind (fun v66 => (wr σ48 45 (v23 ||| (1 <<< (v47 &&& 31))) (v58 + v66)).bind (fun σ69 => lt (v47 + 1) (fun v71 => some (.inl (v71, σ69))))))
noncomputable def M_rowsBy_b3 (x1 : Int32) (x2 : Int32) (v23 : Int32) (σ24 : Mem) : Option ((Int32 × Mem) ⊕ (Mem)) := if (M_all σ24) ≤ v23 then some (.inr σ24) else (rd σ24 45 v23).bind (fun v35 => ((if v35 = 0 then some 0 else (M_nexts v23 x1 x2 σ24).bind (fun v42 => some v42) : Option (Int32))).bind (fun v46 => (lp (fun s => M_rowsBy_b2 v23 v46 s.1 s.2) fuel (0, σ24)).bind (fun σ49 => lt (v23 + 1) (fun v73 => some (.inl (v73, σ49))))))
noncomputable def M_rowsBy (x1 : Int32) (x2 : Int32) (σ : Mem) : Option (Int32 × Mem) := (lp (fun s => M_rowsBy_b1 s.1 s.2) fuel (0, σ)).bind (fun σ3 => (lp (fun s => M_rowsBy_b3 x1 x2 s.1 s.2) fuel (0, σ3)).bind (fun σ25 => (rd σ25 45 (M_all σ25)).bind (fun v76 => some (v76, σ25))))
set_option maxHeartbeats 4000000 in
set_option maxRecDepth 100000 in
theorem c_M_rowsBy (l : Launch) (Y : Wx) (x1 : Int32) (x2 : Int32)  (σ : Mem) (o : Int32 × Mem) (hf : M_rowsBy x1 x2 σ = some o) : Ct l Y 1 y_M_rowsBy b_M_rowsBy 6 (some .int) 2 [.ref (adr Y 43), .int x1, .int x2] σ (some (.int o.1)) o.2 := by
  unfold M_rowsBy at hf
  refine ct_of (by decide) (Nat.le_of_ble_eq_true rfl) rfl (fun X hXl hX hR => ?_)
  subst hXl
  have hX : Fx X Y 1 b_M_rowsBy 6 R_M 2 := hX
  refine g_iconst hX 0 d_M_rowsBy_0 (by decide) ?_
  refine g_istore_nV hX [(3, .int 0), (0, .ref (adr Y 43)), (1, .int x1), (2, .int x2)] d_M_rowsBy_1 (by decide) rfl ?_
  obtain ⟨σ3, h7, h8⟩ := obind hf
  have KX8 : Gd X Y 1 σ3 [(0, .ref (adr Y 43)), (1, .int x1), (2, .int x2)] 31 [] := by
    refine g_iconst hX 0 d_M_rowsBy_31 (by decide) ?_
    refine g_istore_nV hX [(3, .int 0), (0, .ref (adr Y 43)), (1, .int x1), (2, .int x2)] d_M_rowsBy_32 (by decide) rfl ?_
    obtain ⟨σ25, h29, h30⟩ := obind h8
    have KX30 : Gd X Y 1 σ25 [(0, .ref (adr Y 43))] 121 [] := by
      refine g_aload_n hX d_M_rowsBy_121 0 rfl ?_
      refine g_getR hX iw_43 sh_43 rfl fl_M_17 d_M_rowsBy_122 ?_
      refine g_aload_n hX d_M_rowsBy_125 0 rfl ?_
      refine g_callV hX [] [.ref (adr Y 45)] mv_M_110 (c_M_all X.2.1 Y σ25 _ rfl) (by decide) iw_43 sh_43 rfl rfl rfl (Nat.le_of_ble_eq_true rfl) d_M_rowsBy_126 (fun h75 => ?_)
      show Gd X Y 1 σ25 [(0, .ref (adr Y 43))] 129 [.int (M_all σ25), .ref (adr Y 45)]
      refine g_iaload hX iw_45 sh_45 d_M_rowsBy_129 h30 (fun v76 h77 => ?_)
      cases h77
      exact g_ireturn hX hR d_M_rowsBy_130
    refine g_sub (lv2 := [(0, .ref (adr Y 43)), (1, .int x1), (2, .int x2), (3, .int 0)]) [1, 2, 3, 0] rfl ?_
    refine g_loop (fun s => M_rowsBy_b3 x1 x2 s.1 s.2) (fun s => Gd X Y 1 s.2 [(0, .ref (adr Y 43)), (1, .int x1), (2, .int x2), (3, .int s.1)] 33 []) σ25 ?_ fuel (0, σ3) h29
    intro s y28 h28 h26 h27
    obtain ⟨v23, σ24⟩ := s
    have h28 : M_rowsBy_b3 x1 x2 v23 σ24 = some y28 := h28
    unfold M_rowsBy_b3 at h28
    show Gd X Y 1 σ24 [(0, .ref (adr Y 43)), (1, .int x1), (2, .int x2), (3, .int v23)] 33 []
    refine g_iload_n hX d_M_rowsBy_33 3 rfl ?_
    refine g_aload_n hX d_M_rowsBy_34 0 rfl ?_
    refine g_callV hX [] [.int v23] mv_M_110 (c_M_all X.2.1 Y σ24 _ rfl) (by decide) iw_43 sh_43 rfl rfl rfl (Nat.le_of_ble_eq_true rfl) d_M_rowsBy_35 (fun h32 => ?_)
    show Gd X Y 1 σ24 [(0, .ref (adr Y 43)), (1, .int x1), (2, .int x2), (3, .int v23)] 38 [.int (M_all σ24), .int v23]
    refine g_icmp_ge hX 121 d_M_rowsBy_38 (by decide) h28 (fun h33 => ?_) (fun h34 => ?_)
    · cases h33
      have h31 := h27 σ24 rfl
      cases h31
      refine g_sub (lv2 := [(0, .ref (adr Y 43))]) [0] rfl ?_
      exact KX30
    · refine g_aload_n hX d_M_rowsBy_41 0 rfl ?_
      refine g_getR hX iw_43 sh_43 rfl fl_M_17 d_M_rowsBy_42 ?_
      refine g_iload_n hX d_M_rowsBy_45 3 rfl ?_
      refine g_iaload hX iw_45 sh_45 d_M_rowsBy_46 h34 (fun v35 h36 => ?_)
      obtain ⟨v46, h37, h38⟩ := obind h36
      have KJ38 : Gd X Y 1 σ24 [(0, .ref (adr Y 43)), (1, .int x1), (2, .int x2), (3, .int v23)] 61 [.int v46] := by
        refine g_istoreV hX [(4, .int v46), (0, .ref (adr Y 43)), (1, .int x1), (2, .int x2), (3, .int v23)] d_M_rowsBy_61 (by decide) rfl ?_
        refine g_iconst hX 0 d_M_rowsBy_63 (by decide) ?_
        refine g_istoreV hX [(5, .int 0), (4, .int v46), (0, .ref (adr Y 43)), (1, .int x1), (2, .int x2), (3, .int v23)] d_M_rowsBy_64 (by decide) rfl ?_
        obtain ⟨σ49, h53, h54⟩ := obind h38
        have KX54 : Gd X Y 1 σ49 [(0, .ref (adr Y 43)), (1, .int x1), (2, .int x2), (3, .int v23)] 115 [] := by
          refine g_iinc hX (fun v73 => [(3, .int v73), (0, .ref (adr Y 43)), (1, .int x1), (2, .int x2)]) d_M_rowsBy_115 3 rfl rfl (by decide) (fun _ => rfl) h54 (fun v73 h74 => ?_)
          refine g_goto hX 33 d_M_rowsBy_118 (by decide) ?_
          cases h74
          refine g_sub (lv2 := [(0, .ref (adr Y 43)), (1, .int x1), (2, .int x2), (3, .int v73)]) [1, 2, 3, 0] rfl ?_
          exact h26 (v73, σ49) rfl
        refine g_sub (lv2 := [(0, .ref (adr Y 43)), (1, .int x1), (2, .int x2), (3, .int v23), (4, .int v46), (5, .int 0)]) [2, 3, 4, 5, 1, 0] rfl ?_
        refine g_loop (fun s => M_rowsBy_b2 v23 v46 s.1 s.2) (fun s => Gd X Y 1 s.2 [(0, .ref (adr Y 43)), (1, .int x1), (2, .int x2), (3, .int v23), (4, .int v46), (5, .int s.1)] 66 []) σ49 ?_ fuel (0, σ24) h53
        intro s y52 h52 h50 h51
        obtain ⟨v47, σ48⟩ := s
        have h52 : M_rowsBy_b2 v23 v46 v47 σ48 = some y52 := h52
        unfold M_rowsBy_b2 at h52
        show Gd X Y 1 σ48 [(0, .ref (adr Y 43)), (1, .int x1), (2, .int x2), (3, .int v23), (4, .int v46), (5, .int v47)] 66 []
        refine g_iload hX d_M_rowsBy_66 5 rfl ?_
        refine g_aload_n hX d_M_rowsBy_68 0 rfl ?_
        refine g_getI hX iw_43 sh_43 rfl fl_M_7.f d_M_rowsBy_69 ?_
        refine g_icmp_ge hX 115 d_M_rowsBy_72 (by decide) h52 (fun h56 => ?_) (fun h57 => ?_)
        · cases h56
          have h55 := h51 σ48 rfl
          cases h55
          refine g_sub (lv2 := [(0, .ref (adr Y 43)), (1, .int x1), (2, .int x2), (3, .int v23)]) [0, 1, 2, 3] rfl ?_
          exact KX54
        · refine g_aload_n hX d_M_rowsBy_75 0 rfl ?_
          refine g_getR hX iw_43 sh_43 rfl fl_M_17 d_M_rowsBy_76 ?_
          refine g_iload_n hX d_M_rowsBy_79 3 rfl ?_
          refine g_iconst hX 1 d_M_rowsBy_80 (by decide) ?_
          refine g_iload hX d_M_rowsBy_81 5 rfl ?_
          refine g_ishl hX d_M_rowsBy_83 ?_
          refine g_ior hX d_M_rowsBy_84 ?_
          refine g_dup2 hX d_M_rowsBy_85 rfl rfl ?_
          refine g_iaload hX iw_45 sh_45 d_M_rowsBy_86 h57 (fun v58 h59 => ?_)
          refine g_iload hX d_M_rowsBy_87 4 rfl ?_
          refine g_iload hX d_M_rowsBy_89 5 rfl ?_
          refine g_callS hX [.int v46, .int v47] [.int v58, .int (v23 ||| (1 <<< (v47 &&& 31))), .ref (adr Y 45)] mv_M_81 (c_M_isIn X.2.1 Y v46 v47 σ48 _ rfl) (by decide) rfl rfl (Nat.le_of_ble_eq_true rfl) d_M_rowsBy_91 (fun h60 => ?_)
          show Gd X Y 1 σ48 [(0, .ref (adr Y 43)), (1, .int x1), (2, .int x2), (3, .int v23), (4, .int v46), (5, .int v47)] 94 [.int (M_isIn v46 v47), .int v58, .int (v23 ||| (1 <<< (v47 &&& 31))), .ref (adr Y 45)]
          obtain ⟨v66, h61, h62⟩ := obind h59
          have KJ62 : Gd X Y 1 σ48 [(0, .ref (adr Y 43)), (1, .int x1), (2, .int x2), (3, .int v23), (4, .int v46), (5, .int v47)] 107 [.int v66, .int v58, .int (v23 ||| (1 <<< (v47 &&& 31))), .ref (adr Y 45)] := by
            refine g_iadd hX d_M_rowsBy_107 ?_
            refine g_iastore hX iw_45 sh_45 d_M_rowsBy_108 h62 (fun σ69 h70 => ?_)
            refine g_iinc hX (fun v71 => [(5, .int v71), (0, .ref (adr Y 43)), (1, .int x1), (2, .int x2), (3, .int v23), (4, .int v46)]) d_M_rowsBy_109 5 rfl rfl (by decide) (fun _ => rfl) h70 (fun v71 h72 => ?_)
            refine g_goto hX 66 d_M_rowsBy_112 (by decide) ?_
            cases h72
            refine g_sub (lv2 := [(0, .ref (adr Y 43)), (1, .int x1), (2, .int x2), (3, .int v23), (4, .int v46), (5, .int v71)]) [1, 2, 3, 4, 5, 0] rfl ?_
            exact h50 (v71, σ69) rfl
          refine g_if_eq hX 106 d_M_rowsBy_94 (by decide) h61 (fun h64 => ?_) (fun h65 => ?_)
          · refine g_iconst hX 0 d_M_rowsBy_106 (by decide) ?_
            cases h64
            refine g_sub (lv2 := [(0, .ref (adr Y 43)), (1, .int x1), (2, .int x2), (3, .int v23), (4, .int v46), (5, .int v47)]) [0, 1, 2, 3, 4, 5] rfl ?_
            exact KJ62
          · refine g_aload_n hX d_M_rowsBy_97 0 rfl ?_
            refine g_getR hX iw_43 sh_43 rfl fl_M_17 d_M_rowsBy_98 ?_
            refine g_iload_n hX d_M_rowsBy_101 3 rfl ?_
            refine g_iaload hX iw_45 sh_45 d_M_rowsBy_102 h65 (fun v67 h68 => ?_)
            refine g_goto hX 107 d_M_rowsBy_103 (by decide) ?_
            cases h68
            refine g_sub (lv2 := [(0, .ref (adr Y 43)), (1, .int x1), (2, .int x2), (3, .int v23), (4, .int v46), (5, .int v47)]) [0, 1, 2, 3, 4, 5] rfl ?_
            exact KJ62
      refine g_if_ne hX 54 d_M_rowsBy_47 (by decide) h37 (fun h40 => ?_) (fun h41 => ?_)
      · refine g_aload_n hX d_M_rowsBy_54 0 rfl ?_
        refine g_iload_n hX d_M_rowsBy_55 3 rfl ?_
        refine g_iload_n hX d_M_rowsBy_56 1 rfl ?_
        refine g_iload_n hX d_M_rowsBy_57 2 rfl ?_
        obtain ⟨v42, h43, h44⟩ := obind h40
        refine g_callV hX [.int v23, .int x1, .int x2] [] mv_M_113 (c_M_nexts X.2.1 Y v23 x1 x2 σ24 _ h43) (by decide) iw_43 sh_43 rfl rfl rfl (Nat.le_of_ble_eq_true rfl) d_M_rowsBy_58 (fun h45 => ?_)
        show Gd X Y 1 σ24 [(0, .ref (adr Y 43)), (1, .int x1), (2, .int x2), (3, .int v23)] 61 [.int v42]
        cases h44
        refine g_sub (lv2 := [(0, .ref (adr Y 43)), (1, .int x1), (2, .int x2), (3, .int v23)]) [0, 1, 2, 3] rfl ?_
        exact KJ38
      · refine g_iconst hX 0 d_M_rowsBy_50 (by decide) ?_
        refine g_goto hX 61 d_M_rowsBy_51 (by decide) ?_
        cases h41
        refine g_sub (lv2 := [(0, .ref (adr Y 43)), (1, .int x1), (2, .int x2), (3, .int v23)]) [0, 1, 2, 3] rfl ?_
        exact KJ38
  refine g_sub (lv2 := [(0, .ref (adr Y 43)), (1, .int x1), (2, .int x2), (3, .int 0)]) [1, 2, 3, 0] rfl ?_
  refine g_loop (fun s => M_rowsBy_b1 s.1 s.2) (fun s => Gd X Y 1 s.2 [(0, .ref (adr Y 43)), (1, .int x1), (2, .int x2), (3, .int s.1)] 2 []) σ3 ?_ fuel (0, σ) h7
  intro s y6 h6 h4 h5
  obtain ⟨v1, σ2⟩ := s
  have h6 : M_rowsBy_b1 v1 σ2 = some y6 := h6
  unfold M_rowsBy_b1 at h6
  show Gd X Y 1 σ2 [(0, .ref (adr Y 43)), (1, .int x1), (2, .int x2), (3, .int v1)] 2 []
  refine g_iload_n hX d_M_rowsBy_2 3 rfl ?_
  refine g_aload_n hX d_M_rowsBy_3 0 rfl ?_
  refine g_callV hX [] [.int v1] mv_M_110 (c_M_all X.2.1 Y σ2 _ rfl) (by decide) iw_43 sh_43 rfl rfl rfl (Nat.le_of_ble_eq_true rfl) d_M_rowsBy_4 (fun h10 => ?_)
  show Gd X Y 1 σ2 [(0, .ref (adr Y 43)), (1, .int x1), (2, .int x2), (3, .int v1)] 7 [.int (M_all σ2), .int v1]
  refine g_icmp_gt hX 31 d_M_rowsBy_7 (by decide) h6 (fun h11 => ?_) (fun h12 => ?_)
  · cases h11
    have h9 := h5 σ2 rfl
    cases h9
    refine g_sub (lv2 := [(0, .ref (adr Y 43)), (1, .int x1), (2, .int x2)]) [0, 1, 2] rfl ?_
    exact KX8
  · refine g_aload_n hX d_M_rowsBy_10 0 rfl ?_
    refine g_getR hX iw_43 sh_43 rfl fl_M_17 d_M_rowsBy_11 ?_
    refine g_iload_n hX d_M_rowsBy_14 3 rfl ?_
    refine g_iload_n hX d_M_rowsBy_15 3 rfl ?_
    obtain ⟨v18, h13, h14⟩ := ltex h12
    have KJ14 : okR (some .boolean) (some (.int v18)) → Gd X Y 1 σ2 [(0, .ref (adr Y 43)), (1, .int x1), (2, .int x2), (3, .int v1)] 24 [.int v18, .int v1, .ref (adr Y 45)] := by
      intro hbv18
      refine g_iastore hX iw_45 sh_45 d_M_rowsBy_24 h14 (fun σ19 h20 => ?_)
      refine g_iinc hX (fun v21 => [(3, .int v21), (0, .ref (adr Y 43)), (1, .int x1), (2, .int x2)]) d_M_rowsBy_25 3 rfl rfl (by decide) (fun _ => rfl) h20 (fun v21 h22 => ?_)
      refine g_goto hX 2 d_M_rowsBy_28 (by decide) ?_
      cases h22
      refine g_sub (lv2 := [(0, .ref (adr Y 43)), (1, .int x1), (2, .int x2), (3, .int v21)]) [1, 2, 3, 0] rfl ?_
      exact h4 (v21, σ19) rfl
    refine g_if_ne hX 23 d_M_rowsBy_16 (by decide) h13 (fun h16 => ?_) (fun h17 => ?_)
    · refine g_iconst hX 0 d_M_rowsBy_23 (by decide) ?_
      cases h16
      refine g_sub (lv2 := [(0, .ref (adr Y 43)), (1, .int x1), (2, .int x2), (3, .int v1)]) [0, 1, 2, 3] rfl ?_
      exact KJ14 okB0
    · refine g_iconst hX 1 d_M_rowsBy_19 (by decide) ?_
      refine g_goto hX 24 d_M_rowsBy_20 (by decide) ?_
      cases h17
      refine g_sub (lv2 := [(0, .ref (adr Y 43)), (1, .int x1), (2, .int x2), (3, .int v1)]) [0, 1, 2, 3] rfl ?_
      exact KJ14 okB1
noncomputable def M_takenNow_b1  (v1 : Int32) (v2 : Int32) (σ3 : Mem) : Option ((Int32 × Int32 × Mem) ⊕ (Int32 × Mem)) := if (σ3 43 1) ≤ v2 then some (.inr (v1, σ3)) else (M_rowsBy (v1 ||| (1 <<< (v2 &&& 31))) 0 σ3).bind (fun q => lt q.1 (fun v14 => lt q.2 (fun σ15 => lt (if v14 ≤ 0 then 0 else (1 <<< (v2 &&& 31)) : Int32) (fun v24 => lt (v1 ||| v24) (fun v25 => lt (v2 + 1) (fun v27 => some (.inl (v25, v27, σ15))))))))
noncomputable def M_takenNow  (σ : Mem) : Option (Int32 × Mem) := (lp (fun s => M_takenNow_b1 s.1 s.2.1 s.2.2) fuel (0, 0, σ)).bind (fun q => lt q.1 (fun v4 => lt q.2 (fun σ5 => some (v4, σ5))))
set_option maxHeartbeats 4000000 in
set_option maxRecDepth 100000 in
theorem c_M_takenNow (l : Launch) (Y : Wx)   (σ : Mem) (o : Int32 × Mem) (hf : M_takenNow σ = some o) : Ct l Y 1 y_M_takenNow b_M_takenNow 3 (some .int) 3 [.ref (adr Y 43)] σ (some (.int o.1)) o.2 := by
  unfold M_takenNow at hf
  refine ct_of (by decide) (Nat.le_of_ble_eq_true rfl) rfl (fun X hXl hX hR => ?_)
  subst hXl
  have hX : Fx X Y 1 b_M_takenNow 3 R_M 3 := hX
  refine g_iconst hX 0 d_M_takenNow_0 (by decide) ?_
  refine g_istore_nV hX [(1, .int 0), (0, .ref (adr Y 43))] d_M_takenNow_1 (by decide) rfl ?_
  refine g_iconst hX 0 d_M_takenNow_2 (by decide) ?_
  refine g_istore_nV hX [(2, .int 0), (1, .int 0), (0, .ref (adr Y 43))] d_M_takenNow_3 (by decide) rfl ?_
  obtain ⟨⟨v4, σ5⟩, h9, h10⟩ := obind hf
  have h10 := lt2 h10
  have KX10 : Gd X Y 1 σ5 [(1, .int v4)] 41 [] := by
    refine g_iload_n hX d_M_takenNow_41 0 rfl ?_
    cases h10
    exact g_ireturn hX hR d_M_takenNow_42
  refine g_sub (lv2 := [(0, .ref (adr Y 43)), (1, .int 0), (2, .int 0)]) [2, 1, 0] rfl ?_
  refine g_loop (fun s => M_takenNow_b1 s.1 s.2.1 s.2.2) (fun s => Gd X Y 1 s.2.2 [(0, .ref (adr Y 43)), (1, .int s.1), (2, .int s.2.1)] 4 []) (v4, σ5) ?_ fuel (0, 0, σ) h9
  intro s y8 h8 h6 h7
  obtain ⟨v1, v2, σ3⟩ := s
  have h8 : M_takenNow_b1 v1 v2 σ3 = some y8 := h8
  unfold M_takenNow_b1 at h8
  show Gd X Y 1 σ3 [(0, .ref (adr Y 43)), (1, .int v1), (2, .int v2)] 4 []
  refine g_iload_n hX d_M_takenNow_4 2 rfl ?_
  refine g_aload_n hX d_M_takenNow_5 0 rfl ?_
  refine g_getI hX iw_43 sh_43 rfl fl_M_93.f d_M_takenNow_6 ?_
  refine g_icmp_ge hX 41 d_M_takenNow_9 (by decide) h8 (fun h12 => ?_) (fun h13 => ?_)
  · cases h12
    have h11 := h7 (v1, σ3) rfl
    cases h11
    refine g_sub (lv2 := [(1, .int v1)]) [1] rfl ?_
    exact KX10
  · refine g_iload_n hX d_M_takenNow_12 1 rfl ?_
    refine g_aload_n hX d_M_takenNow_13 0 rfl ?_
    refine g_iload_n hX d_M_takenNow_14 1 rfl ?_
    refine g_iconst hX 1 d_M_takenNow_15 (by decide) ?_
    refine g_iload_n hX d_M_takenNow_16 2 rfl ?_
    refine g_ishl hX d_M_takenNow_17 ?_
    refine g_ior hX d_M_takenNow_18 ?_
    refine g_iconst hX 0 d_M_takenNow_19 (by decide) ?_
    obtain ⟨⟨v14, σ15⟩, h16, h17⟩ := obind h13
    have h17 := lt2 h17
    refine g_callV hX [.int (v1 ||| (1 <<< (v2 &&& 31))), .int 0] [.int v1] mv_M_117 (c_M_rowsBy X.2.1 Y (v1 ||| (1 <<< (v2 &&& 31))) 0 σ3 _ h16) (by decide) iw_43 sh_43 rfl rfl rfl (Nat.le_of_ble_eq_true rfl) d_M_takenNow_20 (fun h18 => ?_)
    show Gd X Y 1 σ15 [(0, .ref (adr Y 43)), (1, .int v1), (2, .int v2)] 23 [.int v14, .int v1]
    obtain ⟨v24, h19, h20⟩ := ltex h17
    have KJ20 : Gd X Y 1 σ15 [(0, .ref (adr Y 43)), (2, .int v2)] 33 [.int v24, .int v1] := by
      refine g_ior hX d_M_takenNow_33 ?_
      refine g_istore_n hX (fun v25 => [(1, .int v25), (0, .ref (adr Y 43)), (2, .int v2)]) d_M_takenNow_34 (by decide) (fun _ => rfl) h20 (fun v25 h26 => ?_)
      refine g_iinc hX (fun v27 => [(2, .int v27), (1, .int v25), (0, .ref (adr Y 43))]) d_M_takenNow_35 2 rfl rfl (by decide) (fun _ => rfl) h26 (fun v27 h28 => ?_)
      refine g_goto hX 4 d_M_takenNow_38 (by decide) ?_
      cases h28
      refine g_sub (lv2 := [(0, .ref (adr Y 43)), (1, .int v25), (2, .int v27)]) [2, 1, 0] rfl ?_
      exact h6 (v25, v27, σ15) rfl
    refine g_if_le hX 32 d_M_takenNow_23 (by decide) h19 (fun h22 => ?_) (fun h23 => ?_)
    · refine g_iconst hX 0 d_M_takenNow_32 (by decide) ?_
      cases h22
      refine g_sub (lv2 := [(0, .ref (adr Y 43)), (2, .int v2)]) [0, 2] rfl ?_
      exact KJ20
    · refine g_iconst hX 1 d_M_takenNow_26 (by decide) ?_
      refine g_iload_n hX d_M_takenNow_27 2 rfl ?_
      refine g_ishl hX d_M_takenNow_28 ?_
      refine g_goto hX 33 d_M_takenNow_29 (by decide) ?_
      cases h23
      refine g_sub (lv2 := [(0, .ref (adr Y 43)), (2, .int v2)]) [0, 2] rfl ?_
      exact KJ20
noncomputable def M_adds (x1 : Int32) (σ : Mem) : Option (Int32 × Mem) := ((if (M_in x1 0 255) = 0 then some true else (M_many x1).bind (fun v7 => if 2 ≤ v7 then some false else some true) : Option (Bool))).bind (fun b2 => if b2 = true then some ((-2), σ) else if (σ 43 1) = 10 then some ((-4), σ) else (wr σ 44 (σ 43 1) x1).bind (fun σ17 => lt (mput σ17 43 1 ((σ17 43 1) + 1)) (fun σ19 => (M_takenNow σ19).bind (fun q => lt q.1 (fun v21 => lt q.2 (fun σ22 => lt (if (M_isIn v21 ((σ22 43 1) - 1)) = 0 then 0 else 1 : Int32) (fun v32 => some (v32, σ22))))))))
set_option maxHeartbeats 4000000 in
set_option maxRecDepth 100000 in
theorem c_M_adds (l : Launch) (Y : Wx) (x1 : Int32)  (σ : Mem) (o : Int32 × Mem) (hf : M_adds x1 σ = some o) : Ct l Y 1 y_M_adds b_M_adds 2 (some .int) 4 [.ref (adr Y 43), .int x1] σ (some (.int o.1)) o.2 := by
  unfold M_adds at hf
  refine ct_of (by decide) (Nat.le_of_ble_eq_true rfl) rfl (fun X hXl hX hR => ?_)
  subst hXl
  have hX : Fx X Y 1 b_M_adds 2 R_M 4 := hX
  refine g_iload_n hX d_M_adds_0 1 rfl ?_
  refine g_iconst hX 0 d_M_adds_1 (by decide) ?_
  refine g_sipush hX 255 d_M_adds_2 (by decide) ?_
  refine g_callS hX [.int x1, .int 0, .int 255] [] mv_M_85 (c_M_in X.2.1 Y x1 0 255 σ _ rfl) (by decide) rfl rfl (Nat.le_of_ble_eq_true rfl) d_M_adds_5 (fun h1 => ?_)
  show Gd X Y 1 σ [(0, .ref (adr Y 43)), (1, .int x1)] 8 [.int (M_in x1 0 255)]
  obtain ⟨b2, h3, h4⟩ := obind hf
  have Kb2t : b2 = true → Gd X Y 1 σ [(0, .ref (adr Y 43)), (1, .int x1)] 19 [] := by
    intro h33
    have h13 := (if_pos h33).symm.trans h4
    refine g_bipush hX (-2) d_M_adds_19 (by decide) ?_
    cases h13
    exact g_ireturn hX hR d_M_adds_21
  have Kb2f : ¬ b2 = true → Gd X Y 1 σ [(0, .ref (adr Y 43)), (1, .int x1)] 22 [] := by
    intro h33
    have h14 := (if_neg h33).symm.trans h4
    refine g_aload_n hX d_M_adds_22 0 rfl ?_
    refine g_getI hX iw_43 sh_43 rfl fl_M_93.f d_M_adds_23 ?_
    refine g_bipush hX 10 d_M_adds_26 (by decide) ?_
    refine g_icmp_ne hX 34 d_M_adds_28 (by decide) h14 (fun h15 => ?_) (fun h16 => ?_)
    · refine g_aload_n hX d_M_adds_34 0 rfl ?_
      refine g_getR hX iw_43 sh_43 rfl fl_M_13 d_M_adds_35 ?_
      refine g_aload_n hX d_M_adds_38 0 rfl ?_
      refine g_getI hX iw_43 sh_43 rfl fl_M_93.f d_M_adds_39 ?_
      refine g_iload_n hX d_M_adds_42 1 rfl ?_
      refine g_iastore hX iw_44 sh_44 d_M_adds_43 h15 (fun σ17 h18 => ?_)
      refine g_aload_n hX d_M_adds_44 0 rfl ?_
      refine g_dup hX d_M_adds_45 rfl ?_
      refine g_getI hX iw_43 sh_43 rfl fl_M_93.f d_M_adds_46 ?_
      refine g_iconst hX 1 d_M_adds_49 (by decide) ?_
      refine g_iadd hX d_M_adds_50 ?_
      refine g_putI hX iw_43 sh_43 rfl fl_M_93 d_M_adds_51 h18 (fun σ19 h20 => ?_)
      refine g_aload_n hX d_M_adds_54 0 rfl ?_
      obtain ⟨⟨v21, σ22⟩, h23, h24⟩ := obind h20
      have h24 := lt2 h24
      refine g_callV hX [] [] mv_M_96 (c_M_takenNow X.2.1 Y σ19 _ h23) (by decide) iw_43 sh_43 rfl rfl rfl (Nat.le_of_ble_eq_true rfl) d_M_adds_55 (fun h25 => ?_)
      show Gd X Y 1 σ22 [(0, .ref (adr Y 43)), (1, .int x1)] 58 [.int v21]
      refine g_aload_n hX d_M_adds_58 0 rfl ?_
      refine g_getI hX iw_43 sh_43 rfl fl_M_93.f d_M_adds_59 ?_
      refine g_iconst hX 1 d_M_adds_62 (by decide) ?_
      refine g_isub hX d_M_adds_63 ?_
      refine g_callS hX [.int v21, .int ((σ22 43 1) - 1)] [] mv_M_81 (c_M_isIn X.2.1 Y v21 ((σ22 43 1) - 1) σ22 _ rfl) (by decide) rfl rfl (Nat.le_of_ble_eq_true rfl) d_M_adds_64 (fun h26 => ?_)
      show Gd X Y 1 σ22 [(0, .ref (adr Y 43)), (1, .int x1)] 67 [.int (M_isIn v21 ((σ22 43 1) - 1))]
      obtain ⟨v32, h27, h28⟩ := ltex h24
      have KJ28 : okR (some .boolean) (some (.int v32)) → Gd X Y 1 σ22 [] 75 [.int v32] := by
        intro hbv32
        cases h28
        exact g_ireturn hX hR d_M_adds_75
      refine g_if_eq hX 74 d_M_adds_67 (by decide) h27 (fun h30 => ?_) (fun h31 => ?_)
      · refine g_iconst hX 0 d_M_adds_74 (by decide) ?_
        cases h30
        refine g_sub (lv2 := []) [] rfl ?_
        exact KJ28 okB0
      · refine g_iconst hX 1 d_M_adds_70 (by decide) ?_
        refine g_goto hX 75 d_M_adds_71 (by decide) ?_
        cases h31
        refine g_sub (lv2 := []) [] rfl ?_
        exact KJ28 okB1
    · refine g_bipush hX (-4) d_M_adds_31 (by decide) ?_
      cases h16
      exact g_ireturn hX hR d_M_adds_33
  refine g_if_eq hX 19 d_M_adds_8 (by decide) h3 (fun h5 => ?_) (fun h6 => ?_)
  · cases h5
    exact Kb2t rfl
  · refine g_iload_n hX d_M_adds_11 1 rfl ?_
    obtain ⟨v7, h8, h9⟩ := obind h6
    refine g_callS hX [.int x1] [] mv_M_89 (c_M_many X.2.1 Y x1 σ _ h8) (by decide) rfl rfl (Nat.le_of_ble_eq_true rfl) d_M_adds_12 (fun h10 => ?_)
    show Gd X Y 1 σ [(0, .ref (adr Y 43)), (1, .int x1)] 15 [.int v7]
    refine g_iconst hX 2 d_M_adds_15 (by decide) ?_
    refine g_icmp_ge hX 22 d_M_adds_16 (by decide) h9 (fun h11 => ?_) (fun h12 => ?_)
    · cases h11
      exact Kb2f (by decide)
    · cases h12
      exact Kb2t rfl
noncomputable def M_group (x1 : Int32) (σ : Mem) : Option (Int32 × Mem) := (M_adds x1 σ).bind (fun q => lt q.1 (fun v1 => lt q.2 (fun σ2 => some (v1, σ2))))
set_option maxHeartbeats 4000000 in
set_option maxRecDepth 100000 in
theorem c_M_group (l : Launch) (Y : Wx) (x1 : Int32)  (σ : Mem) (o : Int32 × Mem) (hf : M_group x1 σ = some o) : Ct l Y 1 y_M_group b_M_group 2 (some .int) 5 [.ref (adr Y 43), .int x1] σ (some (.int o.1)) o.2 := by
  unfold M_group at hf
  refine ct_of (by decide) (Nat.le_of_ble_eq_true rfl) rfl (fun X hXl hX hR => ?_)
  subst hXl
  have hX : Fx X Y 1 b_M_group 2 R_M 5 := hX
  refine g_aload_n hX d_M_group_0 0 rfl ?_
  refine g_iload_n hX d_M_group_1 1 rfl ?_
  obtain ⟨⟨v1, σ2⟩, h3, h4⟩ := obind hf
  have h4 := lt2 h4
  refine g_callV hX [.int x1] [] mv_M_100 (c_M_adds X.2.1 Y x1 σ _ h3) (by decide) iw_43 sh_43 rfl rfl rfl (Nat.le_of_ble_eq_true rfl) d_M_group_2 (fun h5 => ?_)
  show Gd X Y 1 σ2 [(0, .ref (adr Y 43)), (1, .int x1)] 5 [.int v1]
  cases h4
  exact g_ireturn hX hR d_M_group_5
noncomputable def M_back  (σ : Mem) : Int32 × Mem := if (σ 43 1) = 0 then ((-3), σ) else lt (mput σ 43 1 ((σ 43 1) - 1)) (fun σ3 => ((σ3 43 1), σ3))
set_option maxHeartbeats 4000000 in
set_option maxRecDepth 100000 in
theorem c_M_back (l : Launch) (Y : Wx)   (σ : Mem) (o : Int32 × Mem) (hf : M_back σ = o) : Ct l Y 1 y_M_back b_M_back 1 (some .int) 0 [.ref (adr Y 43)] σ (some (.int o.1)) o.2 := by
  unfold M_back at hf
  refine ct_of (by decide) (Nat.le_of_ble_eq_true rfl) rfl (fun X hXl hX hR => ?_)
  subst hXl
  have hX : Fx X Y 1 b_M_back 1 R_M 0 := hX
  refine g_aload_n hX d_M_back_0 0 rfl ?_
  refine g_getI hX iw_43 sh_43 rfl fl_M_93.f d_M_back_1 ?_
  refine g_if_ne hX 10 d_M_back_4 (by decide) hf (fun h1 => ?_) (fun h2 => ?_)
  · refine g_aload_n hX d_M_back_10 0 rfl ?_
    refine g_dup hX d_M_back_11 rfl ?_
    refine g_getI hX iw_43 sh_43 rfl fl_M_93.f d_M_back_12 ?_
    refine g_iconst hX 1 d_M_back_15 (by decide) ?_
    refine g_isub hX d_M_back_16 ?_
    refine g_putI hX iw_43 sh_43 rfl fl_M_93 d_M_back_17 h1 (fun σ3 h4 => ?_)
    refine g_aload_n hX d_M_back_20 0 rfl ?_
    refine g_getI hX iw_43 sh_43 rfl fl_M_93.f d_M_back_21 ?_
    cases h4
    exact g_ireturn hX hR d_M_back_24
  · refine g_bipush hX (-3) d_M_back_7 (by decide) ?_
    cases h2
    exact g_ireturn hX hR d_M_back_9
noncomputable def M_isSheet (x0 : Int32) : Int32 := (M_in x0 0 3)
set_option maxHeartbeats 4000000 in
set_option maxRecDepth 100000 in
theorem c_M_isSheet (l : Launch) (Y : Wx) (x0 : Int32)  (σ : Mem) (o : Int32) (hf : M_isSheet x0 = o) : Ct l Y 1 y_M_isSheet b_M_isSheet 1 (some .boolean) 1 [.int x0] σ (some (.int o)) σ := by
  unfold M_isSheet at hf
  refine ct_of (by decide) (Nat.le_of_ble_eq_true rfl) rfl (fun X hXl hX hR => ?_)
  subst hXl
  have hX : Fx X Y 1 b_M_isSheet 1 R_M 1 := hX
  refine g_iload_n hX d_M_isSheet_0 0 rfl ?_
  refine g_iconst hX 0 d_M_isSheet_1 (by decide) ?_
  refine g_iconst hX 3 d_M_isSheet_2 (by decide) ?_
  refine g_callS hX [.int x0, .int 0, .int 3] [] mv_M_85 (c_M_in X.2.1 Y x0 0 3 σ _ rfl) (by decide) rfl rfl (Nat.le_of_ble_eq_true rfl) d_M_isSheet_3 (fun h1 => ?_)
  show Gd X Y 1 σ [(0, .int x0)] 6 [.int (M_in x0 0 3)]
  cases hf
  exact g_zreturn hX hR h1 d_M_isSheet_6
noncomputable def M_meets (x1 : Int32) (σ : Mem) : Int32 × Mem := lt (mput σ 43 29 x1) (fun σ1 => (((-10) - x1), σ1))
set_option maxHeartbeats 4000000 in
set_option maxRecDepth 100000 in
theorem c_M_meets (l : Launch) (Y : Wx) (x1 : Int32)  (σ : Mem) (o : Int32 × Mem) (hf : M_meets x1 σ = o) : Ct l Y 1 y_M_meets b_M_meets 2 (some .int) 0 [.ref (adr Y 43), .int x1] σ (some (.int o.1)) o.2 := by
  unfold M_meets at hf
  refine ct_of (by decide) (Nat.le_of_ble_eq_true rfl) rfl (fun X hXl hX hR => ?_)
  subst hXl
  have hX : Fx X Y 1 b_M_meets 2 R_M 0 := hX
  refine g_aload_n hX d_M_meets_0 0 rfl ?_
  refine g_iload_n hX d_M_meets_1 1 rfl ?_
  refine g_putI hX iw_43 sh_43 rfl fl_M_248 d_M_meets_2 hf (fun σ1 h2 => ?_)
  refine g_bipush hX (-10) d_M_meets_5 (by decide) ?_
  refine g_iload_n hX d_M_meets_7 1 rfl ?_
  refine g_isub hX d_M_meets_8 ?_
  cases h2
  exact g_ireturn hX hR d_M_meets_9
noncomputable def M_read_b1 (x1 : Int32) (v8 : Int32) (σ9 : Mem) : Option ((Int32 × Mem) ⊕ (Int32 × Mem)) := (rd σ9 63 x1).bind (fun v18 => ((if v18 ≤ v8 then some (false, σ9) else (rd σ9 64 ((60 * x1) + v8)).bind (fun v26 => (M_adds v26 σ9).bind (fun q => lt q.1 (fun v28 => lt q.2 (fun σ29 => if v28 < 0 then some (false, σ29) else some (true, σ29))))) : Option (Bool × Mem))).bind (fun q => lt q.1 (fun b20 => lt q.2 (fun σ21 => if b20 = true then lt (v8 + 1) (fun v37 => some (.inl (v37, σ21))) else some (.inr (v8, σ21))))))
noncomputable def M_read (x1 : Int32) (σ : Mem) : Option (Int32 × Mem) := if (M_isSheet x1) = 0 then some ((-2), σ) else (rd σ 61 x1).bind (fun v4 => if v4 = 0 then lt (M_meets 1 σ) (fun q => lt q.1 (fun v40 => lt q.2 (fun σ41 => some (v40, σ41)))) else (lp (fun s => M_read_b1 x1 s.1 s.2) fuel (0, σ)).bind (fun q => lt q.1 (fun v10 => lt q.2 (fun σ11 => some (v10, σ11)))))
set_option maxHeartbeats 4000000 in
set_option maxRecDepth 100000 in
theorem c_M_read (l : Launch) (Y : Wx) (x1 : Int32)  (σ : Mem) (o : Int32 × Mem) (hf : M_read x1 σ = some o) : Ct l Y 1 y_M_read b_M_read 3 (some .int) 5 [.ref (adr Y 43), .int x1] σ (some (.int o.1)) o.2 := by
  unfold M_read at hf
  refine ct_of (by decide) (Nat.le_of_ble_eq_true rfl) rfl (fun X hXl hX hR => ?_)
  subst hXl
  have hX : Fx X Y 1 b_M_read 3 R_M 5 := hX
  refine g_iload_n hX d_M_read_0 1 rfl ?_
  refine g_callS hX [.int x1] [] mv_M_103 (c_M_isSheet X.2.1 Y x1 σ _ rfl) (by decide) rfl rfl (Nat.le_of_ble_eq_true rfl) d_M_read_1 (fun h1 => ?_)
  show Gd X Y 1 σ [(0, .ref (adr Y 43)), (1, .int x1)] 4 [.int (M_isSheet x1)]
  refine g_if_ne hX 10 d_M_read_4 (by decide) hf (fun h2 => ?_) (fun h3 => ?_)
  · refine g_aload_n hX d_M_read_10 0 rfl ?_
    refine g_getR hX iw_43 sh_43 rfl fl_M_65 d_M_read_11 ?_
    refine g_iload_n hX d_M_read_14 1 rfl ?_
    refine g_baload hX iw_61 sh_61 d_M_read_15 h2 (fun v4 h5 => ?_)
    refine g_if_ne hX 25 d_M_read_16 (by decide) h5 (fun h6 => ?_) (fun h7 => ?_)
    · refine g_iconst hX 0 d_M_read_25 (by decide) ?_
      refine g_istore_nV hX [(2, .int 0), (0, .ref (adr Y 43)), (1, .int x1)] d_M_read_26 (by decide) rfl ?_
      obtain ⟨⟨v10, σ11⟩, h15, h16⟩ := obind h6
      have h16 := lt2 h16
      have KX16 : Gd X Y 1 σ11 [(2, .int v10)] 61 [] := by
        refine g_iload_n hX d_M_read_61 0 rfl ?_
        cases h16
        exact g_ireturn hX hR d_M_read_62
      refine g_sub (lv2 := [(0, .ref (adr Y 43)), (1, .int x1), (2, .int 0)]) [1, 2, 0] rfl ?_
      refine g_loop (fun s => M_read_b1 x1 s.1 s.2) (fun s => Gd X Y 1 s.2 [(0, .ref (adr Y 43)), (1, .int x1), (2, .int s.1)] 27 []) (v10, σ11) ?_ fuel (0, σ) h15
      intro s y14 h14 h12 h13
      obtain ⟨v8, σ9⟩ := s
      have h14 : M_read_b1 x1 v8 σ9 = some y14 := h14
      unfold M_read_b1 at h14
      show Gd X Y 1 σ9 [(0, .ref (adr Y 43)), (1, .int x1), (2, .int v8)] 27 []
      refine g_iload_n hX d_M_read_27 2 rfl ?_
      refine g_aload_n hX d_M_read_28 0 rfl ?_
      refine g_getR hX iw_43 sh_43 rfl fl_M_72 d_M_read_29 ?_
      refine g_iload_n hX d_M_read_32 1 rfl ?_
      refine g_iaload hX iw_63 sh_63 d_M_read_33 h14 (fun v18 h19 => ?_)
      obtain ⟨⟨b20, σ21⟩, h22, h23⟩ := obind h19
      have h23 := lt2 h23
      have Kb20t : b20 = true → Gd X Y 1 σ21 [(0, .ref (adr Y 43)), (1, .int x1), (2, .int v8)] 55 [] := by
        intro h39
        have h35 := (if_pos h39).symm.trans h23
        refine g_iinc hX (fun v37 => [(2, .int v37), (0, .ref (adr Y 43)), (1, .int x1)]) d_M_read_55 2 rfl rfl (by decide) (fun _ => rfl) h35 (fun v37 h38 => ?_)
        refine g_goto hX 27 d_M_read_58 (by decide) ?_
        cases h38
        refine g_sub (lv2 := [(0, .ref (adr Y 43)), (1, .int x1), (2, .int v37)]) [1, 2, 0] rfl ?_
        exact h12 (v37, σ21) rfl
      have Kb20f : ¬ b20 = true → Gd X Y 1 σ21 [(0, .ref (adr Y 43)), (1, .int x1), (2, .int v8)] 61 [] := by
        intro h39
        have h36 := (if_neg h39).symm.trans h23
        cases h36
        have h17 := h13 (v8, σ21) rfl
        cases h17
        refine g_sub (lv2 := [(2, .int v8)]) [2] rfl ?_
        exact KX16
      refine g_icmp_ge hX 61 d_M_read_34 (by decide) h22 (fun h24 => ?_) (fun h25 => ?_)
      · cases h24
        exact Kb20f (by decide)
      · refine g_aload_n hX d_M_read_37 0 rfl ?_
        refine g_aload_n hX d_M_read_38 0 rfl ?_
        refine g_getR hX iw_43 sh_43 rfl fl_M_75 d_M_read_39 ?_
        refine g_bipush hX 60 d_M_read_42 (by decide) ?_
        refine g_iload_n hX d_M_read_44 1 rfl ?_
        refine g_imul hX d_M_read_45 ?_
        refine g_iload_n hX d_M_read_46 2 rfl ?_
        refine g_iadd hX d_M_read_47 ?_
        refine g_iaload hX iw_64 sh_64 d_M_read_48 h25 (fun v26 h27 => ?_)
        obtain ⟨⟨v28, σ29⟩, h30, h31⟩ := obind h27
        have h31 := lt2 h31
        refine g_callV hX [.int v26] [] mv_M_100 (c_M_adds X.2.1 Y v26 σ9 _ h30) (by decide) iw_43 sh_43 rfl rfl rfl (Nat.le_of_ble_eq_true rfl) d_M_read_49 (fun h32 => ?_)
        show Gd X Y 1 σ29 [(0, .ref (adr Y 43)), (1, .int x1), (2, .int v8)] 52 [.int v28]
        refine g_if_lt hX 61 d_M_read_52 (by decide) h31 (fun h33 => ?_) (fun h34 => ?_)
        · cases h33
          exact Kb20f (by decide)
        · cases h34
          exact Kb20t rfl
    · refine g_aload_n hX d_M_read_19 0 rfl ?_
      refine g_iconst hX 1 d_M_read_20 (by decide) ?_
      obtain ⟨⟨v40, σ41⟩, h42, h43⟩ := ltex h7
      have h43 := lt2 h43
      refine g_callV hX [.int 1] [] mv_M_107 (c_M_meets X.2.1 Y 1 σ _ h42) (by decide) iw_43 sh_43 rfl rfl rfl (Nat.le_of_ble_eq_true rfl) d_M_read_21 (fun h44 => ?_)
      show Gd X Y 1 σ41 [(0, .ref (adr Y 43)), (1, .int x1)] 24 [.int v40]
      cases h43
      exact g_ireturn hX hR d_M_read_24
  · refine g_bipush hX (-2) d_M_read_7 (by decide) ?_
    cases h3
    exact g_ireturn hX hR d_M_read_9
noncomputable def M_isGroup (x1 : Int32) (σ : Mem) : Int32 := (M_in x1 0 ((σ 43 1) - 1))
set_option maxHeartbeats 4000000 in
set_option maxRecDepth 100000 in
theorem c_M_isGroup (l : Launch) (Y : Wx) (x1 : Int32)  (σ : Mem) (o : Int32) (hf : M_isGroup x1 σ = o) : Ct l Y 1 y_M_isGroup b_M_isGroup 2 (some .boolean) 1 [.ref (adr Y 43), .int x1] σ (some (.int o)) σ := by
  unfold M_isGroup at hf
  refine ct_of (by decide) (Nat.le_of_ble_eq_true rfl) rfl (fun X hXl hX hR => ?_)
  subst hXl
  have hX : Fx X Y 1 b_M_isGroup 2 R_M 1 := hX
  refine g_iload_n hX d_M_isGroup_0 1 rfl ?_
  refine g_iconst hX 0 d_M_isGroup_1 (by decide) ?_
  refine g_aload_n hX d_M_isGroup_2 0 rfl ?_
  refine g_getI hX iw_43 sh_43 rfl fl_M_93.f d_M_isGroup_3 ?_
  refine g_iconst hX 1 d_M_isGroup_6 (by decide) ?_
  refine g_isub hX d_M_isGroup_7 ?_
  refine g_callS hX [.int x1, .int 0, .int ((σ 43 1) - 1)] [] mv_M_85 (c_M_in X.2.1 Y x1 0 ((σ 43 1) - 1) σ _ rfl) (by decide) rfl rfl (Nat.le_of_ble_eq_true rfl) d_M_isGroup_8 (fun h1 => ?_)
  show Gd X Y 1 σ [(0, .ref (adr Y 43)), (1, .int x1)] 11 [.int (M_in x1 0 ((σ 43 1) - 1))]
  cases hf
  exact g_zreturn hX hR h1 d_M_isGroup_11
noncomputable def M_taken (x1 : Int32) (σ : Mem) : Option (Int32 × Mem) := ((if (M_isGroup x1 σ) = 0 then some ((-2), σ) else (M_takenNow σ).bind (fun q => lt q.1 (fun v9 => lt q.2 (fun σ10 => some (((v9 >>> (x1 &&& 31)) &&& 1), σ10)))) : Option (Int32 × Mem))).bind (fun q => lt q.1 (fun v7 => lt q.2 (fun σ8 => some (v7, σ8))))
set_option maxHeartbeats 4000000 in
set_option maxRecDepth 100000 in
theorem c_M_taken (l : Launch) (Y : Wx) (x1 : Int32)  (σ : Mem) (o : Int32 × Mem) (hf : M_taken x1 σ = some o) : Ct l Y 1 y_M_taken b_M_taken 2 (some .int) 4 [.ref (adr Y 43), .int x1] σ (some (.int o.1)) o.2 := by
  unfold M_taken at hf
  refine ct_of (by decide) (Nat.le_of_ble_eq_true rfl) rfl (fun X hXl hX hR => ?_)
  subst hXl
  have hX : Fx X Y 1 b_M_taken 2 R_M 4 := hX
  refine g_aload_n hX d_M_taken_0 0 rfl ?_
  refine g_iload_n hX d_M_taken_1 1 rfl ?_
  refine g_callV hX [.int x1] [] mv_M_121 (c_M_isGroup X.2.1 Y x1 σ _ rfl) (by decide) iw_43 sh_43 rfl rfl rfl (Nat.le_of_ble_eq_true rfl) d_M_taken_2 (fun h1 => ?_)
  show Gd X Y 1 σ [(0, .ref (adr Y 43)), (1, .int x1)] 5 [.int (M_isGroup x1 σ)]
  obtain ⟨⟨v7, σ8⟩, h2, h3⟩ := obind hf
  have h3 := lt2 h3
  have KJ3 : Gd X Y 1 σ8 [] 21 [.int v7] := by
    cases h3
    exact g_ireturn hX hR d_M_taken_21
  refine g_if_eq hX 19 d_M_taken_5 (by decide) h2 (fun h5 => ?_) (fun h6 => ?_)
  · refine g_bipush hX (-2) d_M_taken_19 (by decide) ?_
    cases h5
    refine g_sub (lv2 := []) [] rfl ?_
    exact KJ3
  · refine g_aload_n hX d_M_taken_8 0 rfl ?_
    obtain ⟨⟨v9, σ10⟩, h11, h12⟩ := obind h6
    have h12 := lt2 h12
    refine g_callV hX [] [] mv_M_96 (c_M_takenNow X.2.1 Y σ _ h11) (by decide) iw_43 sh_43 rfl rfl rfl (Nat.le_of_ble_eq_true rfl) d_M_taken_9 (fun h13 => ?_)
    show Gd X Y 1 σ10 [(0, .ref (adr Y 43)), (1, .int x1)] 12 [.int v9]
    refine g_iload_n hX d_M_taken_12 1 rfl ?_
    refine g_ishr hX d_M_taken_13 ?_
    refine g_iconst hX 1 d_M_taken_14 (by decide) ?_
    refine g_iand hX d_M_taken_15 ?_
    refine g_goto hX 21 d_M_taken_16 (by decide) ?_
    cases h12
    refine g_sub (lv2 := []) [] rfl ?_
    exact KJ3
noncomputable def M_reasonOf_b1 (x1 : Int32) (v11 : Int32) (v12 : Int32) (σ13 : Mem) : Option ((Int32 × Int32 × Mem) ⊕ (Int32 × Mem)) := if x1 ≤ v12 then some (.inr (v11, σ13)) else lt (v11 &&& ((1 <<< (v12 &&& 31)) ^^^ (-1))) (fun v24 => ((if (M_isIn v11 v12) = 0 then some (false, σ13) else (M_rowsBy (v24 ||| (1 <<< (x1 &&& 31))) 0 σ13).bind (fun q => lt q.1 (fun v33 => lt q.2 (fun σ34 => if v33 = 0 then some (true, σ34) else some (false, σ34)))) : Option (Bool × Mem))).bind (fun q => lt q.1 (fun b27 => lt q.2 (fun σ28 => lt (if b27 = true then v24 else v11 : Int32) (fun v45 => lt (v12 + 1) (fun v47 => some (.inl (v45, v47, σ28))))))))
noncomputable def M_reasonOf (x1 : Int32) (σ : Mem) : Option (Int32 × Mem) := (M_takenNow σ).bind (fun q => lt q.1 (fun v1 => lt q.2 (fun σ2 => if (M_isIn v1 x1) = 0 then lt (v1 &&& ((1 <<< (x1 &&& 31)) - 1)) (fun v9 => (lp (fun s => M_reasonOf_b1 x1 s.1 s.2.1 s.2.2) fuel (v9, 0, σ2)).bind (fun q => lt q.1 (fun v14 => lt q.2 (fun σ15 => some (v14, σ15))))) else some ((-3), σ2))))
set_option maxHeartbeats 4000000 in
set_option maxRecDepth 100000 in
theorem c_M_reasonOf (l : Launch) (Y : Wx) (x1 : Int32)  (σ : Mem) (o : Int32 × Mem) (hf : M_reasonOf x1 σ = some o) : Ct l Y 1 y_M_reasonOf b_M_reasonOf 6 (some .int) 4 [.ref (adr Y 43), .int x1] σ (some (.int o.1)) o.2 := by
  unfold M_reasonOf at hf
  refine ct_of (by decide) (Nat.le_of_ble_eq_true rfl) rfl (fun X hXl hX hR => ?_)
  subst hXl
  have hX : Fx X Y 1 b_M_reasonOf 6 R_M 4 := hX
  refine g_aload_n hX d_M_reasonOf_0 0 rfl ?_
  obtain ⟨⟨v1, σ2⟩, h3, h4⟩ := obind hf
  have h4 := lt2 h4
  refine g_callV hX [] [] mv_M_96 (c_M_takenNow X.2.1 Y σ _ h3) (by decide) iw_43 sh_43 rfl rfl rfl (Nat.le_of_ble_eq_true rfl) d_M_reasonOf_1 (fun h5 => ?_)
  show Gd X Y 1 σ2 [(0, .ref (adr Y 43)), (1, .int x1)] 4 [.int v1]
  refine g_istore_nV hX [(2, .int v1), (0, .ref (adr Y 43)), (1, .int x1)] d_M_reasonOf_4 (by decide) rfl ?_
  refine g_iload_n hX d_M_reasonOf_5 0 rfl ?_
  refine g_iload_n hX d_M_reasonOf_6 2 rfl ?_
  refine g_callS hX [.int v1, .int x1] [] mv_M_81 (c_M_isIn X.2.1 Y v1 x1 σ2 _ rfl) (by decide) rfl rfl (Nat.le_of_ble_eq_true rfl) d_M_reasonOf_7 (fun h6 => ?_)
  show Gd X Y 1 σ2 [(2, .int v1), (0, .ref (adr Y 43)), (1, .int x1)] 10 [.int (M_isIn v1 x1)]
  refine g_if_eq hX 16 d_M_reasonOf_10 (by decide) h4 (fun h7 => ?_) (fun h8 => ?_)
  · refine g_iload_n hX d_M_reasonOf_16 0 rfl ?_
    refine g_iconst hX 1 d_M_reasonOf_17 (by decide) ?_
    refine g_iload_n hX d_M_reasonOf_18 2 rfl ?_
    refine g_ishl hX d_M_reasonOf_19 ?_
    refine g_iconst hX 1 d_M_reasonOf_20 (by decide) ?_
    refine g_isub hX d_M_reasonOf_21 ?_
    refine g_iand hX d_M_reasonOf_22 ?_
    refine g_istore_n hX (fun v9 => [(3, .int v9), (2, .int v1), (0, .ref (adr Y 43)), (1, .int x1)]) d_M_reasonOf_23 (by decide) (fun _ => rfl) h7 (fun v9 h10 => ?_)
    refine g_iconst hX 0 d_M_reasonOf_24 (by decide) ?_
    refine g_istoreV hX [(4, .int 0), (3, .int v9), (2, .int v1), (0, .ref (adr Y 43)), (1, .int x1)] d_M_reasonOf_25 (by decide) rfl ?_
    obtain ⟨⟨v14, σ15⟩, h19, h20⟩ := obind h10
    have h20 := lt2 h20
    have KX20 : Gd X Y 1 σ15 [(3, .int v14)] 79 [] := by
      refine g_iload_n hX d_M_reasonOf_79 0 rfl ?_
      cases h20
      exact g_ireturn hX hR d_M_reasonOf_80
    refine g_sub (lv2 := [(0, .ref (adr Y 43)), (1, .int x1), (3, .int v9), (4, .int 0)]) [3, 4, 1, 0] rfl ?_
    refine g_loop (fun s => M_reasonOf_b1 x1 s.1 s.2.1 s.2.2) (fun s => Gd X Y 1 s.2.2 [(0, .ref (adr Y 43)), (1, .int x1), (3, .int s.1), (4, .int s.2.1)] 27 []) (v14, σ15) ?_ fuel (v9, 0, σ2) h19
    intro s y18 h18 h16 h17
    obtain ⟨v11, v12, σ13⟩ := s
    have h18 : M_reasonOf_b1 x1 v11 v12 σ13 = some y18 := h18
    unfold M_reasonOf_b1 at h18
    show Gd X Y 1 σ13 [(0, .ref (adr Y 43)), (1, .int x1), (3, .int v11), (4, .int v12)] 27 []
    refine g_iload hX d_M_reasonOf_27 3 rfl ?_
    refine g_iload_n hX d_M_reasonOf_29 1 rfl ?_
    refine g_icmp_ge hX 79 d_M_reasonOf_30 (by decide) h18 (fun h22 => ?_) (fun h23 => ?_)
    · cases h22
      have h21 := h17 (v11, σ13) rfl
      cases h21
      refine g_sub (lv2 := [(3, .int v11)]) [2] rfl ?_
      exact KX20
    · refine g_iload_n hX d_M_reasonOf_33 2 rfl ?_
      refine g_iconst hX 1 d_M_reasonOf_34 (by decide) ?_
      refine g_iload hX d_M_reasonOf_35 3 rfl ?_
      refine g_ishl hX d_M_reasonOf_37 ?_
      refine g_iconst hX (-1) d_M_reasonOf_38 (by decide) ?_
      refine g_ixor hX d_M_reasonOf_39 ?_
      refine g_iand hX d_M_reasonOf_40 ?_
      refine g_istore hX (fun v24 => [(5, .int v24), (0, .ref (adr Y 43)), (1, .int x1), (3, .int v11), (4, .int v12)]) d_M_reasonOf_41 (by decide) (fun _ => rfl) h23 (fun v24 h25 => ?_)
      refine g_iload_n hX d_M_reasonOf_43 3 rfl ?_
      refine g_iload hX d_M_reasonOf_44 4 rfl ?_
      refine g_callS hX [.int v11, .int v12] [] mv_M_81 (c_M_isIn X.2.1 Y v11 v12 σ13 _ rfl) (by decide) rfl rfl (Nat.le_of_ble_eq_true rfl) d_M_reasonOf_46 (fun h26 => ?_)
      show Gd X Y 1 σ13 [(5, .int v24), (0, .ref (adr Y 43)), (1, .int x1), (3, .int v11), (4, .int v12)] 49 [.int (M_isIn v11 v12)]
      obtain ⟨⟨b27, σ28⟩, h29, h30⟩ := obind h25
      have h30 := lt2 h30
      obtain ⟨v45, h40, h41⟩ := ltex h30
      have KJ41 : Gd X Y 1 σ28 [(0, .ref (adr Y 43)), (1, .int x1), (4, .int v12)] 72 [.int v45] := by
        refine g_istore_nV hX [(3, .int v45), (0, .ref (adr Y 43)), (1, .int x1), (4, .int v12)] d_M_reasonOf_72 (by decide) rfl ?_
        refine g_iinc hX (fun v47 => [(4, .int v47), (3, .int v45), (0, .ref (adr Y 43)), (1, .int x1)]) d_M_reasonOf_73 3 rfl rfl (by decide) (fun _ => rfl) h41 (fun v47 h48 => ?_)
        refine g_goto hX 27 d_M_reasonOf_76 (by decide) ?_
        cases h48
        refine g_sub (lv2 := [(0, .ref (adr Y 43)), (1, .int x1), (3, .int v45), (4, .int v47)]) [2, 3, 1, 0] rfl ?_
        exact h16 (v45, v47, σ28) rfl
      have Kb27t : b27 = true → Gd X Y 1 σ28 [(5, .int v24), (0, .ref (adr Y 43)), (1, .int x1), (3, .int v11), (4, .int v12)] 66 [] := by
        intro h46
        have h43 := (if_pos h46).symm.trans h40
        refine g_iload hX d_M_reasonOf_66 0 rfl ?_
        refine g_goto hX 72 d_M_reasonOf_68 (by decide) ?_
        cases h43
        refine g_sub (lv2 := [(0, .ref (adr Y 43)), (1, .int x1), (4, .int v12)]) [1, 2, 4] rfl ?_
        exact KJ41
      have Kb27f : ¬ b27 = true → Gd X Y 1 σ28 [(5, .int v24), (0, .ref (adr Y 43)), (1, .int x1), (3, .int v11), (4, .int v12)] 71 [] := by
        intro h46
        have h44 := (if_neg h46).symm.trans h40
        refine g_iload_n hX d_M_reasonOf_71 3 rfl ?_
        cases h44
        refine g_sub (lv2 := [(0, .ref (adr Y 43)), (1, .int x1), (4, .int v12)]) [1, 2, 4] rfl ?_
        exact KJ41
      refine g_if_eq hX 71 d_M_reasonOf_49 (by decide) h29 (fun h31 => ?_) (fun h32 => ?_)
      · cases h31
        exact Kb27f (by decide)
      · refine g_aload_n hX d_M_reasonOf_52 1 rfl ?_
        refine g_iload hX d_M_reasonOf_53 0 rfl ?_
        refine g_iconst hX 1 d_M_reasonOf_55 (by decide) ?_
        refine g_iload_n hX d_M_reasonOf_56 2 rfl ?_
        refine g_ishl hX d_M_reasonOf_57 ?_
        refine g_ior hX d_M_reasonOf_58 ?_
        refine g_iconst hX 0 d_M_reasonOf_59 (by decide) ?_
        obtain ⟨⟨v33, σ34⟩, h35, h36⟩ := obind h32
        have h36 := lt2 h36
        refine g_callV hX [.int (v24 ||| (1 <<< (x1 &&& 31))), .int 0] [] mv_M_117 (c_M_rowsBy X.2.1 Y (v24 ||| (1 <<< (x1 &&& 31))) 0 σ13 _ h35) (by decide) iw_43 sh_43 rfl rfl rfl (Nat.le_of_ble_eq_true rfl) d_M_reasonOf_60 (fun h37 => ?_)
        show Gd X Y 1 σ34 [(5, .int v24), (0, .ref (adr Y 43)), (1, .int x1), (3, .int v11), (4, .int v12)] 63 [.int v33]
        refine g_if_ne hX 71 d_M_reasonOf_63 (by decide) h36 (fun h38 => ?_) (fun h39 => ?_)
        · cases h38
          exact Kb27f (by decide)
        · cases h39
          exact Kb27t rfl
  · refine g_bipush hX (-3) d_M_reasonOf_13 (by decide) ?_
    cases h8
    exact g_ireturn hX hR d_M_reasonOf_15
noncomputable def M_reason (x1 : Int32) (σ : Mem) : Option (Int32 × Mem) := ((if (M_isGroup x1 σ) = 0 then some ((-2), σ) else (M_reasonOf x1 σ).bind (fun q => lt q.1 (fun v9 => lt q.2 (fun σ10 => some (v9, σ10)))) : Option (Int32 × Mem))).bind (fun q => lt q.1 (fun v7 => lt q.2 (fun σ8 => some (v7, σ8))))
set_option maxHeartbeats 4000000 in
set_option maxRecDepth 100000 in
theorem c_M_reason (l : Launch) (Y : Wx) (x1 : Int32)  (σ : Mem) (o : Int32 × Mem) (hf : M_reason x1 σ = some o) : Ct l Y 1 y_M_reason b_M_reason 2 (some .int) 5 [.ref (adr Y 43), .int x1] σ (some (.int o.1)) o.2 := by
  unfold M_reason at hf
  refine ct_of (by decide) (Nat.le_of_ble_eq_true rfl) rfl (fun X hXl hX hR => ?_)
  subst hXl
  have hX : Fx X Y 1 b_M_reason 2 R_M 5 := hX
  refine g_aload_n hX d_M_reason_0 0 rfl ?_
  refine g_iload_n hX d_M_reason_1 1 rfl ?_
  refine g_callV hX [.int x1] [] mv_M_121 (c_M_isGroup X.2.1 Y x1 σ _ rfl) (by decide) iw_43 sh_43 rfl rfl rfl (Nat.le_of_ble_eq_true rfl) d_M_reason_2 (fun h1 => ?_)
  show Gd X Y 1 σ [(0, .ref (adr Y 43)), (1, .int x1)] 5 [.int (M_isGroup x1 σ)]
  obtain ⟨⟨v7, σ8⟩, h2, h3⟩ := obind hf
  have h3 := lt2 h3
  have KJ3 : Gd X Y 1 σ8 [] 18 [.int v7] := by
    cases h3
    exact g_ireturn hX hR d_M_reason_18
  refine g_if_eq hX 16 d_M_reason_5 (by decide) h2 (fun h5 => ?_) (fun h6 => ?_)
  · refine g_bipush hX (-2) d_M_reason_16 (by decide) ?_
    cases h5
    refine g_sub (lv2 := []) [] rfl ?_
    exact KJ3
  · refine g_aload_n hX d_M_reason_8 0 rfl ?_
    refine g_iload_n hX d_M_reason_9 1 rfl ?_
    obtain ⟨⟨v9, σ10⟩, h11, h12⟩ := obind h6
    have h12 := lt2 h12
    refine g_callV hX [.int x1] [] mv_M_124 (c_M_reasonOf X.2.1 Y x1 σ _ h11) (by decide) iw_43 sh_43 rfl rfl rfl (Nat.le_of_ble_eq_true rfl) d_M_reason_10 (fun h13 => ?_)
    show Gd X Y 1 σ10 [(0, .ref (adr Y 43)), (1, .int x1)] 13 [.int v9]
    refine g_goto hX 18 d_M_reason_13 (by decide) ?_
    cases h12
    refine g_sub (lv2 := []) [] rfl ?_
    exact KJ3
noncomputable def M_manyNow  (σ : Mem) : Option (Int32 × Mem) := (M_takenNow σ).bind (fun q => lt q.1 (fun v1 => lt q.2 (fun σ2 => (M_rowsBy v1 0 σ2).bind (fun q => lt q.1 (fun v6 => lt q.2 (fun σ7 => some (v6, σ7)))))))
set_option maxHeartbeats 4000000 in
set_option maxRecDepth 100000 in
theorem c_M_manyNow (l : Launch) (Y : Wx)   (σ : Mem) (o : Int32 × Mem) (hf : M_manyNow σ = some o) : Ct l Y 1 y_M_manyNow b_M_manyNow 1 (some .int) 4 [.ref (adr Y 43)] σ (some (.int o.1)) o.2 := by
  unfold M_manyNow at hf
  refine ct_of (by decide) (Nat.le_of_ble_eq_true rfl) rfl (fun X hXl hX hR => ?_)
  subst hXl
  have hX : Fx X Y 1 b_M_manyNow 1 R_M 4 := hX
  refine g_aload_n hX d_M_manyNow_0 0 rfl ?_
  refine g_aload_n hX d_M_manyNow_1 0 rfl ?_
  obtain ⟨⟨v1, σ2⟩, h3, h4⟩ := obind hf
  have h4 := lt2 h4
  refine g_callV hX [] [.ref (adr Y 43)] mv_M_96 (c_M_takenNow X.2.1 Y σ _ h3) (by decide) iw_43 sh_43 rfl rfl rfl (Nat.le_of_ble_eq_true rfl) d_M_manyNow_2 (fun h5 => ?_)
  show Gd X Y 1 σ2 [(0, .ref (adr Y 43))] 5 [.int v1, .ref (adr Y 43)]
  refine g_iconst hX 0 d_M_manyNow_5 (by decide) ?_
  obtain ⟨⟨v6, σ7⟩, h8, h9⟩ := obind h4
  have h9 := lt2 h9
  refine g_callV hX [.int v1, .int 0] [] mv_M_117 (c_M_rowsBy X.2.1 Y v1 0 σ2 _ h8) (by decide) iw_43 sh_43 rfl rfl rfl (Nat.le_of_ble_eq_true rfl) d_M_manyNow_6 (fun h10 => ?_)
  show Gd X Y 1 σ7 [(0, .ref (adr Y 43))] 9 [.int v6]
  cases h9
  exact g_ireturn hX hR d_M_manyNow_9
noncomputable def M_many_  (σ : Mem) : Option (Int64 × Mem) := (M_manyNow σ).bind (fun q => lt q.1 (fun v1 => lt q.2 (fun σ2 => some ((v1.toInt64), σ2))))
set_option maxHeartbeats 4000000 in
set_option maxRecDepth 100000 in
theorem c_M_many_ (l : Launch) (Y : Wx)   (σ : Mem) (o : Int64 × Mem) (hf : M_many_ σ = some o) : Ct l Y 1 y_M_many_ b_M_many_ 1 (some .long) 5 [.ref (adr Y 43)] σ (some (.long o.1)) o.2 := by
  unfold M_many_ at hf
  refine ct_of (by decide) (Nat.le_of_ble_eq_true rfl) rfl (fun X hXl hX hR => ?_)
  subst hXl
  have hX : Fx X Y 1 b_M_many_ 1 R_M 5 := hX
  refine g_aload_n hX d_M_many__0 0 rfl ?_
  obtain ⟨⟨v1, σ2⟩, h3, h4⟩ := obind hf
  have h4 := lt2 h4
  refine g_callV hX [] [] mv_M_127 (c_M_manyNow X.2.1 Y σ _ h3) (by decide) iw_43 sh_43 rfl rfl rfl (Nat.le_of_ble_eq_true rfl) d_M_many__1 (fun h5 => ?_)
  show Gd X Y 1 σ2 [(0, .ref (adr Y 43))] 4 [.int v1]
  refine g_i2l hX d_M_many__4 ?_
  cases h4
  exact g_lreturn hX hR d_M_many__5
end
