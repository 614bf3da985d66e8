section
-- ===== PART A: goes FIRST, ahead of the names: the tables' words, and 'selects' of the private methods out of them =====
/-- a private method of a class that the tables say can be made, by its rows of tables_1 -/
def lw_okq (q : MethodName × Nat) : Prop := (q.1.cls ≠ "java/lang/invoke/MethodHandle" ∧ q.1.cls ≠ "java/lang/invoke/VarHandle") ∧ Cond.instantiable q.1.cls q.2 ∈ tables_1 ∧ Cond.privateMethod q.1 ∈ tables_1 ∧ Cond.instanceMethod q.1 ∈ tables_1
theorem lw_p0 : lw_okq (⟨"OrderTrees", "drawAll", "()V"⟩, 15) := ⟨⟨by decide +kernel, by decide +kernel⟩, List.mem_of_getElem? (i := 9) (by decide +kernel), List.mem_of_getElem? (i := 86) (by decide +kernel), List.mem_of_getElem? (i := 87) (by decide +kernel)⟩
theorem lw_p1 : lw_okq (⟨"OrderTrees$Tree", "clear", "()V"⟩, 15) := ⟨⟨by decide +kernel, by decide +kernel⟩, List.mem_of_getElem? (i := 34) (by decide +kernel), List.mem_of_getElem? (i := 94) (by decide +kernel), List.mem_of_getElem? (i := 95) (by decide +kernel)⟩
theorem lw_p2 : lw_okq (⟨"OrderTrees$Tree", "add", "(II)V"⟩, 15) := ⟨⟨by decide +kernel, by decide +kernel⟩, List.mem_of_getElem? (i := 34) (by decide +kernel), List.mem_of_getElem? (i := 98) (by decide +kernel), List.mem_of_getElem? (i := 99) (by decide +kernel)⟩
theorem lw_p3 : lw_okq (⟨"OrderTrees", "takeGroup", "(I)V"⟩, 15) := ⟨⟨by decide +kernel, by decide +kernel⟩, List.mem_of_getElem? (i := 9) (by decide +kernel), List.mem_of_getElem? (i := 102) (by decide +kernel), List.mem_of_getElem? (i := 103) (by decide +kernel)⟩
theorem lw_p4 : lw_okq (⟨"OrderTrees$Tree", "order", "(I)V"⟩, 15) := ⟨⟨by decide +kernel, by decide +kernel⟩, List.mem_of_getElem? (i := 34) (by decide +kernel), List.mem_of_getElem? (i := 113) (by decide +kernel), List.mem_of_getElem? (i := 114) (by decide +kernel)⟩
theorem lw_p5 : lw_okq (⟨"OrderTrees$Tree", "part", "(II)I"⟩, 15) := ⟨⟨by decide +kernel, by decide +kernel⟩, List.mem_of_getElem? (i := 34) (by decide +kernel), List.mem_of_getElem? (i := 117) (by decide +kernel), List.mem_of_getElem? (i := 118) (by decide +kernel)⟩
theorem lw_p6 : lw_okq (⟨"OrderTrees$Tree", "least", "(I)I"⟩, 15) := ⟨⟨by decide +kernel, by decide +kernel⟩, List.mem_of_getElem? (i := 34) (by decide +kernel), List.mem_of_getElem? (i := 121) (by decide +kernel), List.mem_of_getElem? (i := 122) (by decide +kernel)⟩
theorem lw_p7 : lw_okq (⟨"OrderTrees$Tree", "setPart", "(III)V"⟩, 15) := ⟨⟨by decide +kernel, by decide +kernel⟩, List.mem_of_getElem? (i := 34) (by decide +kernel), List.mem_of_getElem? (i := 128) (by decide +kernel), List.mem_of_getElem? (i := 129) (by decide +kernel)⟩
theorem lw_p8 : lw_okq (⟨"OrderTrees$Tree", "lowestWith", "(I)I"⟩, 15) := ⟨⟨by decide +kernel, by decide +kernel⟩, List.mem_of_getElem? (i := 34) (by decide +kernel), List.mem_of_getElem? (i := 142) (by decide +kernel), List.mem_of_getElem? (i := 143) (by decide +kernel)⟩
theorem lw_p9 : lw_okq (⟨"OrderTrees$Tree", "stateOf", "(II)I"⟩, 15) := ⟨⟨by decide +kernel, by decide +kernel⟩, List.mem_of_getElem? (i := 34) (by decide +kernel), List.mem_of_getElem? (i := 146) (by decide +kernel), List.mem_of_getElem? (i := 147) (by decide +kernel)⟩
theorem lw_p10 : lw_okq (⟨"OrderTrees$Tree", "reduceFree", "(II)Z"⟩, 15) := ⟨⟨by decide +kernel, by decide +kernel⟩, List.mem_of_getElem? (i := 34) (by decide +kernel), List.mem_of_getElem? (i := 150) (by decide +kernel), List.mem_of_getElem? (i := 151) (by decide +kernel)⟩
theorem lw_p11 : lw_okq (⟨"OrderTrees$Tree", "partIn", "(IIII)I"⟩, 15) := ⟨⟨by decide +kernel, by decide +kernel⟩, List.mem_of_getElem? (i := 34) (by decide +kernel), List.mem_of_getElem? (i := 154) (by decide +kernel), List.mem_of_getElem? (i := 155) (by decide +kernel)⟩
theorem lw_p12 : lw_okq (⟨"OrderTrees$Tree", "splitToLine", "(IIZ)Z"⟩, 15) := ⟨⟨by decide +kernel, by decide +kernel⟩, List.mem_of_getElem? (i := 34) (by decide +kernel), List.mem_of_getElem? (i := 158) (by decide +kernel), List.mem_of_getElem? (i := 159) (by decide +kernel)⟩
theorem lw_p13 : lw_okq (⟨"OrderTrees$Tree", "bundle", "(III)I"⟩, 15) := ⟨⟨by decide +kernel, by decide +kernel⟩, List.mem_of_getElem? (i := 34) (by decide +kernel), List.mem_of_getElem? (i := 162) (by decide +kernel), List.mem_of_getElem? (i := 163) (by decide +kernel)⟩
theorem lw_p14 : lw_okq (⟨"OrderTrees$Tree", "unusedNode", "()I"⟩, 15) := ⟨⟨by decide +kernel, by decide +kernel⟩, List.mem_of_getElem? (i := 34) (by decide +kernel), List.mem_of_getElem? (i := 166) (by decide +kernel), List.mem_of_getElem? (i := 167) (by decide +kernel)⟩
theorem lw_p15 : lw_okq (⟨"OrderTrees$Tree", "append", "(I)V"⟩, 15) := ⟨⟨by decide +kernel, by decide +kernel⟩, List.mem_of_getElem? (i := 34) (by decide +kernel), List.mem_of_getElem? (i := 170) (by decide +kernel), List.mem_of_getElem? (i := 171) (by decide +kernel)⟩
def lw_privs_1 : List (MethodName × Nat) := [(⟨"OrderTrees", "drawAll", "()V"⟩, 15), (⟨"OrderTrees$Tree", "clear", "()V"⟩, 15), (⟨"OrderTrees$Tree", "add", "(II)V"⟩, 15), (⟨"OrderTrees", "takeGroup", "(I)V"⟩, 15), (⟨"OrderTrees$Tree", "order", "(I)V"⟩, 15), (⟨"OrderTrees$Tree", "part", "(II)I"⟩, 15), (⟨"OrderTrees$Tree", "least", "(I)I"⟩, 15), (⟨"OrderTrees$Tree", "setPart", "(III)V"⟩, 15), (⟨"OrderTrees$Tree", "lowestWith", "(I)I"⟩, 15), (⟨"OrderTrees$Tree", "stateOf", "(II)I"⟩, 15), (⟨"OrderTrees$Tree", "reduceFree", "(II)Z"⟩, 15), (⟨"OrderTrees$Tree", "partIn", "(IIII)I"⟩, 15), (⟨"OrderTrees$Tree", "splitToLine", "(IIZ)Z"⟩, 15), (⟨"OrderTrees$Tree", "bundle", "(III)I"⟩, 15), (⟨"OrderTrees$Tree", "unusedNode", "()I"⟩, 15), (⟨"OrderTrees$Tree", "append", "(I)V"⟩, 15)]
theorem lw_r1 : ∀ q ∈ lw_privs_1, lw_okq q := List.forall_mem_cons.mpr ⟨lw_p0, List.forall_mem_cons.mpr ⟨lw_p1, List.forall_mem_cons.mpr ⟨lw_p2, List.forall_mem_cons.mpr ⟨lw_p3, List.forall_mem_cons.mpr ⟨lw_p4, List.forall_mem_cons.mpr ⟨lw_p5, List.forall_mem_cons.mpr ⟨lw_p6, List.forall_mem_cons.mpr ⟨lw_p7, List.forall_mem_cons.mpr ⟨lw_p8, List.forall_mem_cons.mpr ⟨lw_p9, List.forall_mem_cons.mpr ⟨lw_p10, List.forall_mem_cons.mpr ⟨lw_p11, List.forall_mem_cons.mpr ⟨lw_p12, List.forall_mem_cons.mpr ⟨lw_p13, List.forall_mem_cons.mpr ⟨lw_p14, List.forall_mem_cons.mpr ⟨lw_p15, fun _ h => absurd h List.not_mem_nil⟩⟩⟩⟩⟩⟩⟩⟩⟩⟩⟩⟩⟩⟩⟩⟩
theorem lw_p16 : lw_okq (⟨"OrderTrees$Tree", "hold", "(I)V"⟩, 15) := ⟨⟨by decide +kernel, by decide +kernel⟩, List.mem_of_getElem? (i := 34) (by decide +kernel), List.mem_of_getElem? (i := 174) (by decide +kernel), List.mem_of_getElem? (i := 175) (by decide +kernel)⟩
theorem lw_p17 : lw_okq (⟨"OrderTrees$Tree", "splitTurning", "(II)Z"⟩, 15) := ⟨⟨by decide +kernel, by decide +kernel⟩, List.mem_of_getElem? (i := 34) (by decide +kernel), List.mem_of_getElem? (i := 178) (by decide +kernel), List.mem_of_getElem? (i := 179) (by decide +kernel)⟩
theorem lw_p18 : lw_okq (⟨"OrderTrees$Tree", "markSplit", "(I)V"⟩, 15) := ⟨⟨by decide +kernel, by decide +kernel⟩, List.mem_of_getElem? (i := 34) (by decide +kernel), List.mem_of_getElem? (i := 182) (by decide +kernel), List.mem_of_getElem? (i := 183) (by decide +kernel)⟩
theorem lw_p19 : lw_okq (⟨"OrderTrees$Tree", "keepEmpty", "(II)V"⟩, 15) := ⟨⟨by decide +kernel, by decide +kernel⟩, List.mem_of_getElem? (i := 34) (by decide +kernel), List.mem_of_getElem? (i := 186) (by decide +kernel), List.mem_of_getElem? (i := 187) (by decide +kernel)⟩
theorem lw_p20 : lw_okq (⟨"OrderTrees$Tree", "fillFromLine", "(I)V"⟩, 15) := ⟨⟨by decide +kernel, by decide +kernel⟩, List.mem_of_getElem? (i := 34) (by decide +kernel), List.mem_of_getElem? (i := 190) (by decide +kernel), List.mem_of_getElem? (i := 191) (by decide +kernel)⟩
theorem lw_p21 : lw_okq (⟨"OrderTrees$Tree", "reduceTurning", "(II)Z"⟩, 15) := ⟨⟨by decide +kernel, by decide +kernel⟩, List.mem_of_getElem? (i := 34) (by decide +kernel), List.mem_of_getElem? (i := 194) (by decide +kernel), List.mem_of_getElem? (i := 195) (by decide +kernel)⟩
theorem lw_p22 : lw_okq (⟨"OrderTrees$Tree", "giveBackSplit", "()V"⟩, 15) := ⟨⟨by decide +kernel, by decide +kernel⟩, List.mem_of_getElem? (i := 34) (by decide +kernel), List.mem_of_getElem? (i := 198) (by decide +kernel), List.mem_of_getElem? (i := 199) (by decide +kernel)⟩
theorem lw_p23 : lw_okq (⟨"OrderTrees", "isGroup", "(I)Z"⟩, 15) := ⟨⟨by decide +kernel, by decide +kernel⟩, List.mem_of_getElem? (i := 9) (by decide +kernel), List.mem_of_getElem? (i := 271) (by decide +kernel), List.mem_of_getElem? (i := 272) (by decide +kernel)⟩
theorem lw_p24 : lw_okq (⟨"OrderTrees", "isTaken", "(I)Z"⟩, 15) := ⟨⟨by decide +kernel, by decide +kernel⟩, List.mem_of_getElem? (i := 9) (by decide +kernel), List.mem_of_getElem? (i := 275) (by decide +kernel), List.mem_of_getElem? (i := 276) (by decide +kernel)⟩
theorem lw_p25 : lw_okq (⟨"OrderTrees", "found", "(I)I"⟩, 15) := ⟨⟨by decide +kernel, by decide +kernel⟩, List.mem_of_getElem? (i := 9) (by decide +kernel), List.mem_of_getElem? (i := 299) (by decide +kernel), List.mem_of_getElem? (i := 300) (by decide +kernel)⟩
theorem lw_p26 : lw_okq (⟨"OrderTrees$Tree", "ways", "(I)I"⟩, 15) := ⟨⟨by decide +kernel, by decide +kernel⟩, List.mem_of_getElem? (i := 34) (by decide +kernel), List.mem_of_getElem? (i := 320) (by decide +kernel), List.mem_of_getElem? (i := 321) (by decide +kernel)⟩
theorem lw_p27 : lw_okq (⟨"OrderTrees$Tree", "layParts", "(II)V"⟩, 15) := ⟨⟨by decide +kernel, by decide +kernel⟩, List.mem_of_getElem? (i := 34) (by decide +kernel), List.mem_of_getElem? (i := 368) (by decide +kernel), List.mem_of_getElem? (i := 369) (by decide +kernel)⟩
theorem lw_p28 : lw_okq (⟨"OrderTrees", "isSetOfThings", "(I)Z"⟩, 15) := ⟨⟨by decide +kernel, by decide +kernel⟩, List.mem_of_getElem? (i := 9) (by decide +kernel), List.mem_of_getElem? (i := 379) (by decide +kernel), List.mem_of_getElem? (i := 380) (by decide +kernel)⟩
theorem lw_p29 : lw_okq (⟨"OrderTrees", "isThing", "(I)Z"⟩, 15) := ⟨⟨by decide +kernel, by decide +kernel⟩, List.mem_of_getElem? (i := 9) (by decide +kernel), List.mem_of_getElem? (i := 391) (by decide +kernel), List.mem_of_getElem? (i := 392) (by decide +kernel)⟩
theorem lw_p30 : lw_okq (⟨"OrderTrees$Tree", "besideIn", "(IIZ)I"⟩, 15) := ⟨⟨by decide +kernel, by decide +kernel⟩, List.mem_of_getElem? (i := 34) (by decide +kernel), List.mem_of_getElem? (i := 399) (by decide +kernel), List.mem_of_getElem? (i := 400) (by decide +kernel)⟩
theorem lw_p31 : lw_okq (⟨"OrderTrees$Tree", "betweenIn", "(IIIZ)I"⟩, 15) := ⟨⟨by decide +kernel, by decide +kernel⟩, List.mem_of_getElem? (i := 34) (by decide +kernel), List.mem_of_getElem? (i := 406) (by decide +kernel), List.mem_of_getElem? (i := 407) (by decide +kernel)⟩
def lw_privs_2 : List (MethodName × Nat) := [(⟨"OrderTrees$Tree", "hold", "(I)V"⟩, 15), (⟨"OrderTrees$Tree", "splitTurning", "(II)Z"⟩, 15), (⟨"OrderTrees$Tree", "markSplit", "(I)V"⟩, 15), (⟨"OrderTrees$Tree", "keepEmpty", "(II)V"⟩, 15), (⟨"OrderTrees$Tree", "fillFromLine", "(I)V"⟩, 15), (⟨"OrderTrees$Tree", "reduceTurning", "(II)Z"⟩, 15), (⟨"OrderTrees$Tree", "giveBackSplit", "()V"⟩, 15), (⟨"OrderTrees", "isGroup", "(I)Z"⟩, 15), (⟨"OrderTrees", "isTaken", "(I)Z"⟩, 15), (⟨"OrderTrees", "found", "(I)I"⟩, 15), (⟨"OrderTrees$Tree", "ways", "(I)I"⟩, 15), (⟨"OrderTrees$Tree", "layParts", "(II)V"⟩, 15), (⟨"OrderTrees", "isSetOfThings", "(I)Z"⟩, 15), (⟨"OrderTrees", "isThing", "(I)Z"⟩, 15), (⟨"OrderTrees$Tree", "besideIn", "(IIZ)I"⟩, 15), (⟨"OrderTrees$Tree", "betweenIn", "(IIIZ)I"⟩, 15)]
theorem lw_r2 : ∀ q ∈ lw_privs_2, lw_okq q := List.forall_mem_cons.mpr ⟨lw_p16, List.forall_mem_cons.mpr ⟨lw_p17, List.forall_mem_cons.mpr ⟨lw_p18, List.forall_mem_cons.mpr ⟨lw_p19, List.forall_mem_cons.mpr ⟨lw_p20, List.forall_mem_cons.mpr ⟨lw_p21, List.forall_mem_cons.mpr ⟨lw_p22, List.forall_mem_cons.mpr ⟨lw_p23, List.forall_mem_cons.mpr ⟨lw_p24, List.forall_mem_cons.mpr ⟨lw_p25, List.forall_mem_cons.mpr ⟨lw_p26, List.forall_mem_cons.mpr ⟨lw_p27, List.forall_mem_cons.mpr ⟨lw_p28, List.forall_mem_cons.mpr ⟨lw_p29, List.forall_mem_cons.mpr ⟨lw_p30, List.forall_mem_cons.mpr ⟨lw_p31, fun _ h => absurd h List.not_mem_nil⟩⟩⟩⟩⟩⟩⟩⟩⟩⟩⟩⟩⟩⟩⟩⟩
theorem lw_p32 : lw_okq (⟨"OrderTrees", "findPlaces", "()V"⟩, 15) := ⟨⟨by decide +kernel, by decide +kernel⟩, List.mem_of_getElem? (i := 9) (by decide +kernel), List.mem_of_getElem? (i := 435) (by decide +kernel), List.mem_of_getElem? (i := 436) (by decide +kernel)⟩
theorem lw_p33 : lw_okq (⟨"OrderTrees", "isSideBySide", "(I)Z"⟩, 15) := ⟨⟨by decide +kernel, by decide +kernel⟩, List.mem_of_getElem? (i := 9) (by decide +kernel), List.mem_of_getElem? (i := 439) (by decide +kernel), List.mem_of_getElem? (i := 440) (by decide +kernel)⟩
theorem lw_p34 : lw_okq (⟨"OrderTrees$Tree", "wayOf", "(I[I)I"⟩, 15) := ⟨⟨by decide +kernel, by decide +kernel⟩, List.mem_of_getElem? (i := 34) (by decide +kernel), List.mem_of_getElem? (i := 454) (by decide +kernel), List.mem_of_getElem? (i := 455) (by decide +kernel)⟩
theorem lw_p35 : lw_okq (⟨"OrderTrees$Tree", "leastThing", "(I)I"⟩, 15) := ⟨⟨by decide +kernel, by decide +kernel⟩, List.mem_of_getElem? (i := 34) (by decide +kernel), List.mem_of_getElem? (i := 458) (by decide +kernel), List.mem_of_getElem? (i := 459) (by decide +kernel)⟩
theorem lw_p36 : lw_okq (⟨"OrderTrees", "findingOf", "(III)I"⟩, 15) := ⟨⟨by decide +kernel, by decide +kernel⟩, List.mem_of_getElem? (i := 9) (by decide +kernel), List.mem_of_getElem? (i := 485) (by decide +kernel), List.mem_of_getElem? (i := 486) (by decide +kernel)⟩
theorem lw_p37 : lw_okq (⟨"OrderTreesModel", "adds", "(I)I"⟩, 30) := ⟨⟨by decide +kernel, by decide +kernel⟩, List.mem_of_getElem? (i := 550) (by decide +kernel), List.mem_of_getElem? (i := 659) (by decide +kernel), List.mem_of_getElem? (i := 660) (by decide +kernel)⟩
theorem lw_p38 : lw_okq (⟨"OrderTreesModel", "takenNow", "()I"⟩, 30) := ⟨⟨by decide +kernel, by decide +kernel⟩, List.mem_of_getElem? (i := 550) (by decide +kernel), List.mem_of_getElem? (i := 669) (by decide +kernel), List.mem_of_getElem? (i := 670) (by decide +kernel)⟩
theorem lw_p39 : lw_okq (⟨"OrderTreesModel", "rowsBy", "(II)I"⟩, 30) := ⟨⟨by decide +kernel, by decide +kernel⟩, List.mem_of_getElem? (i := 550) (by decide +kernel), List.mem_of_getElem? (i := 673) (by decide +kernel), List.mem_of_getElem? (i := 674) (by decide +kernel)⟩
theorem lw_p40 : lw_okq (⟨"OrderTreesModel", "all", "()I"⟩, 30) := ⟨⟨by decide +kernel, by decide +kernel⟩, List.mem_of_getElem? (i := 550) (by decide +kernel), List.mem_of_getElem? (i := 677) (by decide +kernel), List.mem_of_getElem? (i := 678) (by decide +kernel)⟩
theorem lw_p41 : lw_okq (⟨"OrderTreesModel", "nexts", "(III)I"⟩, 30) := ⟨⟨by decide +kernel, by decide +kernel⟩, List.mem_of_getElem? (i := 550) (by decide +kernel), List.mem_of_getElem? (i := 681) (by decide +kernel), List.mem_of_getElem? (i := 682) (by decide +kernel)⟩
theorem lw_p42 : lw_okq (⟨"OrderTreesModel", "meets", "(I)I"⟩, 30) := ⟨⟨by decide +kernel, by decide +kernel⟩, List.mem_of_getElem? (i := 550) (by decide +kernel), List.mem_of_getElem? (i := 696) (by decide +kernel), List.mem_of_getElem? (i := 697) (by decide +kernel)⟩
theorem lw_p43 : lw_okq (⟨"OrderTreesModel", "isGroup", "(I)Z"⟩, 30) := ⟨⟨by decide +kernel, by decide +kernel⟩, List.mem_of_getElem? (i := 550) (by decide +kernel), List.mem_of_getElem? (i := 704) (by decide +kernel), List.mem_of_getElem? (i := 705) (by decide +kernel)⟩
theorem lw_p44 : lw_okq (⟨"OrderTreesModel", "reasonOf", "(I)I"⟩, 30) := ⟨⟨by decide +kernel, by decide +kernel⟩, List.mem_of_getElem? (i := 550) (by decide +kernel), List.mem_of_getElem? (i := 712) (by decide +kernel), List.mem_of_getElem? (i := 713) (by decide +kernel)⟩
theorem lw_p45 : lw_okq (⟨"OrderTreesModel", "manyNow", "()I"⟩, 30) := ⟨⟨by decide +kernel, by decide +kernel⟩, List.mem_of_getElem? (i := 550) (by decide +kernel), List.mem_of_getElem? (i := 720) (by decide +kernel), List.mem_of_getElem? (i := 721) (by decide +kernel)⟩
theorem lw_p46 : lw_okq (⟨"OrderTreesModel", "treeOf", "(I)I"⟩, 30) := ⟨⟨by decide +kernel, by decide +kernel⟩, List.mem_of_getElem? (i := 550) (by decide +kernel), List.mem_of_getElem? (i := 728) (by decide +kernel), List.mem_of_getElem? (i := 729) (by decide +kernel)⟩
theorem lw_p47 : lw_okq (⟨"OrderTreesModel", "findsTree", "()V"⟩, 30) := ⟨⟨by decide +kernel, by decide +kernel⟩, List.mem_of_getElem? (i := 550) (by decide +kernel), List.mem_of_getElem? (i := 732) (by decide +kernel), List.mem_of_getElem? (i := 733) (by decide +kernel)⟩
def lw_privs_3 : List (MethodName × Nat) := [(⟨"OrderTrees", "findPlaces", "()V"⟩, 15), (⟨"OrderTrees", "isSideBySide", "(I)Z"⟩, 15), (⟨"OrderTrees$Tree", "wayOf", "(I[I)I"⟩, 15), (⟨"OrderTrees$Tree", "leastThing", "(I)I"⟩, 15), (⟨"OrderTrees", "findingOf", "(III)I"⟩, 15), (⟨"OrderTreesModel", "adds", "(I)I"⟩, 30), (⟨"OrderTreesModel", "takenNow", "()I"⟩, 30), (⟨"OrderTreesModel", "rowsBy", "(II)I"⟩, 30), (⟨"OrderTreesModel", "all", "()I"⟩, 30), (⟨"OrderTreesModel", "nexts", "(III)I"⟩, 30), (⟨"OrderTreesModel", "meets", "(I)I"⟩, 30), (⟨"OrderTreesModel", "isGroup", "(I)Z"⟩, 30), (⟨"OrderTreesModel", "reasonOf", "(I)I"⟩, 30), (⟨"OrderTreesModel", "manyNow", "()I"⟩, 30), (⟨"OrderTreesModel", "treeOf", "(I)I"⟩, 30), (⟨"OrderTreesModel", "findsTree", "()V"⟩, 30)]
theorem lw_r3 : ∀ q ∈ lw_privs_3, lw_okq q := List.forall_mem_cons.mpr ⟨lw_p32, List.forall_mem_cons.mpr ⟨lw_p33, List.forall_mem_cons.mpr ⟨lw_p34, List.forall_mem_cons.mpr ⟨lw_p35, List.forall_mem_cons.mpr ⟨lw_p36, List.forall_mem_cons.mpr ⟨lw_p37, List.forall_mem_cons.mpr ⟨lw_p38, List.forall_mem_cons.mpr ⟨lw_p39, List.forall_mem_cons.mpr ⟨lw_p40, List.forall_mem_cons.mpr ⟨lw_p41, List.forall_mem_cons.mpr ⟨lw_p42, List.forall_mem_cons.mpr ⟨lw_p43, List.forall_mem_cons.mpr ⟨lw_p44, List.forall_mem_cons.mpr ⟨lw_p45, List.forall_mem_cons.mpr ⟨lw_p46, List.forall_mem_cons.mpr ⟨lw_p47, fun _ h => absurd h List.not_mem_nil⟩⟩⟩⟩⟩⟩⟩⟩⟩⟩⟩⟩⟩⟩⟩⟩
theorem lw_p48 : lw_okq (⟨"OrderTreesModel", "findsStrong", "()V"⟩, 30) := ⟨⟨by decide +kernel, by decide +kernel⟩, List.mem_of_getElem? (i := 550) (by decide +kernel), List.mem_of_getElem? (i := 736) (by decide +kernel), List.mem_of_getElem? (i := 737) (by decide +kernel)⟩
theorem lw_p49 : lw_okq (⟨"OrderTreesModel", "findsGo", "()V"⟩, 30) := ⟨⟨by decide +kernel, by decide +kernel⟩, List.mem_of_getElem? (i := 550) (by decide +kernel), List.mem_of_getElem? (i := 740) (by decide +kernel), List.mem_of_getElem? (i := 741) (by decide +kernel)⟩
theorem lw_p50 : lw_okq (⟨"OrderTreesModel", "isSure", "(I)Z"⟩, 30) := ⟨⟨by decide +kernel, by decide +kernel⟩, List.mem_of_getElem? (i := 550) (by decide +kernel), List.mem_of_getElem? (i := 744) (by decide +kernel), List.mem_of_getElem? (i := 745) (by decide +kernel)⟩
theorem lw_p51 : lw_okq (⟨"OrderTreesModel", "shows", "(I)V"⟩, 30) := ⟨⟨by decide +kernel, by decide +kernel⟩, List.mem_of_getElem? (i := 550) (by decide +kernel), List.mem_of_getElem? (i := 751) (by decide +kernel), List.mem_of_getElem? (i := 752) (by decide +kernel)⟩
theorem lw_p52 : lw_okq (⟨"OrderTreesModel", "findsParts", "(I)V"⟩, 30) := ⟨⟨by decide +kernel, by decide +kernel⟩, List.mem_of_getElem? (i := 550) (by decide +kernel), List.mem_of_getElem? (i := 758) (by decide +kernel), List.mem_of_getElem? (i := 759) (by decide +kernel)⟩
theorem lw_p53 : lw_okq (⟨"OrderTreesModel", "partWith", "(II)I"⟩, 30) := ⟨⟨by decide +kernel, by decide +kernel⟩, List.mem_of_getElem? (i := 550) (by decide +kernel), List.mem_of_getElem? (i := 762) (by decide +kernel), List.mem_of_getElem? (i := 763) (by decide +kernel)⟩
theorem lw_p54 : lw_okq (⟨"OrderTreesModel", "turnsRight", "(I)V"⟩, 30) := ⟨⟨by decide +kernel, by decide +kernel⟩, List.mem_of_getElem? (i := 550) (by decide +kernel), List.mem_of_getElem? (i := 766) (by decide +kernel), List.mem_of_getElem? (i := 767) (by decide +kernel)⟩
theorem lw_p55 : lw_okq (⟨"OrderTreesModel", "areBeside", "(II)Z"⟩, 30) := ⟨⟨by decide +kernel, by decide +kernel⟩, List.mem_of_getElem? (i := 550) (by decide +kernel), List.mem_of_getElem? (i := 770) (by decide +kernel), List.mem_of_getElem? (i := 771) (by decide +kernel)⟩
theorem lw_p56 : lw_okq (⟨"OrderTreesModel", "swaps", "(II)V"⟩, 30) := ⟨⟨by decide +kernel, by decide +kernel⟩, List.mem_of_getElem? (i := 550) (by decide +kernel), List.mem_of_getElem? (i := 774) (by decide +kernel), List.mem_of_getElem? (i := 775) (by decide +kernel)⟩
theorem lw_p57 : lw_okq (⟨"OrderTreesModel", "nodeFor", "(II)I"⟩, 30) := ⟨⟨by decide +kernel, by decide +kernel⟩, List.mem_of_getElem? (i := 550) (by decide +kernel), List.mem_of_getElem? (i := 782) (by decide +kernel), List.mem_of_getElem? (i := 783) (by decide +kernel)⟩
theorem lw_p58 : lw_okq (⟨"OrderTreesModel", "rowOf", "(II)I"⟩, 30) := ⟨⟨by decide +kernel, by decide +kernel⟩, List.mem_of_getElem? (i := 550) (by decide +kernel), List.mem_of_getElem? (i := 791) (by decide +kernel), List.mem_of_getElem? (i := 792) (by decide +kernel)⟩
theorem lw_p59 : lw_okq (⟨"OrderTreesModel", "findsRow", "(I)V"⟩, 30) := ⟨⟨by decide +kernel, by decide +kernel⟩, List.mem_of_getElem? (i := 550) (by decide +kernel), List.mem_of_getElem? (i := 795) (by decide +kernel), List.mem_of_getElem? (i := 796) (by decide +kernel)⟩
theorem lw_p60 : lw_okq (⟨"OrderTreesModel", "waysAt", "(I)I"⟩, 30) := ⟨⟨by decide +kernel, by decide +kernel⟩, List.mem_of_getElem? (i := 550) (by decide +kernel), List.mem_of_getElem? (i := 799) (by decide +kernel), List.mem_of_getElem? (i := 800) (by decide +kernel)⟩
theorem lw_p61 : lw_okq (⟨"OrderTreesModel", "nodeOf", "(I)I"⟩, 30) := ⟨⟨by decide +kernel, by decide +kernel⟩, List.mem_of_getElem? (i := 550) (by decide +kernel), List.mem_of_getElem? (i := 806) (by decide +kernel), List.mem_of_getElem? (i := 807) (by decide +kernel)⟩
theorem lw_p62 : lw_okq (⟨"OrderTreesModel", "orders", "(I)V"⟩, 30) := ⟨⟨by decide +kernel, by decide +kernel⟩, List.mem_of_getElem? (i := 550) (by decide +kernel), List.mem_of_getElem? (i := 810) (by decide +kernel), List.mem_of_getElem? (i := 811) (by decide +kernel)⟩
theorem lw_p63 : lw_okq (⟨"OrderTreesModel", "isSet", "(I)Z"⟩, 30) := ⟨⟨by decide +kernel, by decide +kernel⟩, List.mem_of_getElem? (i := 550) (by decide +kernel), List.mem_of_getElem? (i := 818) (by decide +kernel), List.mem_of_getElem? (i := 819) (by decide +kernel)⟩
def lw_privs_4 : List (MethodName × Nat) := [(⟨"OrderTreesModel", "findsStrong", "()V"⟩, 30), (⟨"OrderTreesModel", "findsGo", "()V"⟩, 30), (⟨"OrderTreesModel", "isSure", "(I)Z"⟩, 30), (⟨"OrderTreesModel", "shows", "(I)V"⟩, 30), (⟨"OrderTreesModel", "findsParts", "(I)V"⟩, 30), (⟨"OrderTreesModel", "partWith", "(II)I"⟩, 30), (⟨"OrderTreesModel", "turnsRight", "(I)V"⟩, 30), (⟨"OrderTreesModel", "areBeside", "(II)Z"⟩, 30), (⟨"OrderTreesModel", "swaps", "(II)V"⟩, 30), (⟨"OrderTreesModel", "nodeFor", "(II)I"⟩, 30), (⟨"OrderTreesModel", "rowOf", "(II)I"⟩, 30), (⟨"OrderTreesModel", "findsRow", "(I)V"⟩, 30), (⟨"OrderTreesModel", "waysAt", "(I)I"⟩, 30), (⟨"OrderTreesModel", "nodeOf", "(I)I"⟩, 30), (⟨"OrderTreesModel", "orders", "(I)V"⟩, 30), (⟨"OrderTreesModel", "isSet", "(I)Z"⟩, 30)]
theorem lw_r4 : ∀ q ∈ lw_privs_4, lw_okq q := List.forall_mem_cons.mpr ⟨lw_p48, List.forall_mem_cons.mpr ⟨lw_p49, List.forall_mem_cons.mpr ⟨lw_p50, List.forall_mem_cons.mpr ⟨lw_p51, List.forall_mem_cons.mpr ⟨lw_p52, List.forall_mem_cons.mpr ⟨lw_p53, List.forall_mem_cons.mpr ⟨lw_p54, List.forall_mem_cons.mpr ⟨lw_p55, List.forall_mem_cons.mpr ⟨lw_p56, List.forall_mem_cons.mpr ⟨lw_p57, List.forall_mem_cons.mpr ⟨lw_p58, List.forall_mem_cons.mpr ⟨lw_p59, List.forall_mem_cons.mpr ⟨lw_p60, List.forall_mem_cons.mpr ⟨lw_p61, List.forall_mem_cons.mpr ⟨lw_p62, List.forall_mem_cons.mpr ⟨lw_p63, fun _ h => absurd h List.not_mem_nil⟩⟩⟩⟩⟩⟩⟩⟩⟩⟩⟩⟩⟩⟩⟩⟩
theorem lw_p64 : lw_okq (⟨"OrderTreesModel", "mustOf", "(I)I"⟩, 30) := ⟨⟨by decide +kernel, by decide +kernel⟩, List.mem_of_getElem? (i := 550) (by decide +kernel), List.mem_of_getElem? (i := 826) (by decide +kernel), List.mem_of_getElem? (i := 827) (by decide +kernel)⟩
theorem lw_p65 : lw_okq (⟨"OrderTreesModel", "isThing", "(I)Z"⟩, 30) := ⟨⟨by decide +kernel, by decide +kernel⟩, List.mem_of_getElem? (i := 550) (by decide +kernel), List.mem_of_getElem? (i := 834) (by decide +kernel), List.mem_of_getElem? (i := 835) (by decide +kernel)⟩
theorem lw_p66 : lw_okq (⟨"OrderTreesModel", "apartOf", "(III)I"⟩, 30) := ⟨⟨by decide +kernel, by decide +kernel⟩, List.mem_of_getElem? (i := 550) (by decide +kernel), List.mem_of_getElem? (i := 838) (by decide +kernel), List.mem_of_getElem? (i := 839) (by decide +kernel)⟩
theorem lw_p67 : lw_okq (⟨"OrderTreesModel", "spansFrom", "(II)V"⟩, 30) := ⟨⟨by decide +kernel, by decide +kernel⟩, List.mem_of_getElem? (i := 550) (by decide +kernel), List.mem_of_getElem? (i := 842) (by decide +kernel), List.mem_of_getElem? (i := 843) (by decide +kernel)⟩
theorem lw_p68 : lw_okq (⟨"OrderTreesModel", "spareOf", "()I"⟩, 30) := ⟨⟨by decide +kernel, by decide +kernel⟩, List.mem_of_getElem? (i := 550) (by decide +kernel), List.mem_of_getElem? (i := 850) (by decide +kernel), List.mem_of_getElem? (i := 851) (by decide +kernel)⟩
theorem lw_p69 : lw_okq (⟨"OrderTreesModel", "faultOf", "()I"⟩, 30) := ⟨⟨by decide +kernel, by decide +kernel⟩, List.mem_of_getElem? (i := 550) (by decide +kernel), List.mem_of_getElem? (i := 870) (by decide +kernel), List.mem_of_getElem? (i := 871) (by decide +kernel)⟩
theorem lw_p70 : lw_okq (⟨"OrderTreesModel", "isRow", "()Z"⟩, 30) := ⟨⟨by decide +kernel, by decide +kernel⟩, List.mem_of_getElem? (i := 550) (by decide +kernel), List.mem_of_getElem? (i := 878) (by decide +kernel), List.mem_of_getElem? (i := 879) (by decide +kernel)⟩
theorem lw_p71 : lw_okq (⟨"OrderTreesModel", "missesOf", "()I"⟩, 30) := ⟨⟨by decide +kernel, by decide +kernel⟩, List.mem_of_getElem? (i := 550) (by decide +kernel), List.mem_of_getElem? (i := 882) (by decide +kernel), List.mem_of_getElem? (i := 883) (by decide +kernel)⟩
theorem lw_p72 : lw_okq (⟨"OrderTreesModel", "isHad", "(I)Z"⟩, 30) := ⟨⟨by decide +kernel, by decide +kernel⟩, List.mem_of_getElem? (i := 550) (by decide +kernel), List.mem_of_getElem? (i := 886) (by decide +kernel), List.mem_of_getElem? (i := 887) (by decide +kernel)⟩
theorem lw_p73 : lw_okq (⟨"OrderTreesModel", "numberOf", "()I"⟩, 30) := ⟨⟨by decide +kernel, by decide +kernel⟩, List.mem_of_getElem? (i := 550) (by decide +kernel), List.mem_of_getElem? (i := 894) (by decide +kernel), List.mem_of_getElem? (i := 895) (by decide +kernel)⟩
theorem lw_p74 : lw_okq (⟨"OrderTreesModel", "wayTold", "(I)I"⟩, 30) := ⟨⟨by decide +kernel, by decide +kernel⟩, List.mem_of_getElem? (i := 550) (by decide +kernel), List.mem_of_getElem? (i := 898) (by decide +kernel), List.mem_of_getElem? (i := 899) (by decide +kernel)⟩
theorem lw_p75 : lw_okq (⟨"OrderTreesModel", "placeOf", "(I)I"⟩, 30) := ⟨⟨by decide +kernel, by decide +kernel⟩, List.mem_of_getElem? (i := 550) (by decide +kernel), List.mem_of_getElem? (i := 902) (by decide +kernel), List.mem_of_getElem? (i := 903) (by decide +kernel)⟩
theorem lw_p76 : lw_okq (⟨"OrderTreesModel", "lacks", "(III)I"⟩, 30) := ⟨⟨by decide +kernel, by decide +kernel⟩, List.mem_of_getElem? (i := 550) (by decide +kernel), List.mem_of_getElem? (i := 918) (by decide +kernel), List.mem_of_getElem? (i := 919) (by decide +kernel)⟩
theorem lw_p77 : lw_okq (⟨"OrderTreesModel", "keep", "(III)V"⟩, 30) := ⟨⟨by decide +kernel, by decide +kernel⟩, List.mem_of_getElem? (i := 550) (by decide +kernel), List.mem_of_getElem? (i := 922) (by decide +kernel), List.mem_of_getElem? (i := 923) (by decide +kernel)⟩
theorem lw_p78 : lw_okq (⟨"OrderTreesModel", "takenMany", "()I"⟩, 30) := ⟨⟨by decide +kernel, by decide +kernel⟩, List.mem_of_getElem? (i := 550) (by decide +kernel), List.mem_of_getElem? (i := 943) (by decide +kernel), List.mem_of_getElem? (i := 944) (by decide +kernel)⟩
theorem lw_p79 : lw_okq (⟨"OrderTreesModel", "nodesOf", "(Z)I"⟩, 30) := ⟨⟨by decide +kernel, by decide +kernel⟩, List.mem_of_getElem? (i := 550) (by decide +kernel), List.mem_of_getElem? (i := 947) (by decide +kernel), List.mem_of_getElem? (i := 948) (by decide +kernel)⟩
def lw_privs_5 : List (MethodName × Nat) := [(⟨"OrderTreesModel", "mustOf", "(I)I"⟩, 30), (⟨"OrderTreesModel", "isThing", "(I)Z"⟩, 30), (⟨"OrderTreesModel", "apartOf", "(III)I"⟩, 30), (⟨"OrderTreesModel", "spansFrom", "(II)V"⟩, 30), (⟨"OrderTreesModel", "spareOf", "()I"⟩, 30), (⟨"OrderTreesModel", "faultOf", "()I"⟩, 30), (⟨"OrderTreesModel", "isRow", "()Z"⟩, 30), (⟨"OrderTreesModel", "missesOf", "()I"⟩, 30), (⟨"OrderTreesModel", "isHad", "(I)Z"⟩, 30), (⟨"OrderTreesModel", "numberOf", "()I"⟩, 30), (⟨"OrderTreesModel", "wayTold", "(I)I"⟩, 30), (⟨"OrderTreesModel", "placeOf", "(I)I"⟩, 30), (⟨"OrderTreesModel", "lacks", "(III)I"⟩, 30), (⟨"OrderTreesModel", "keep", "(III)V"⟩, 30), (⟨"OrderTreesModel", "takenMany", "()I"⟩, 30), (⟨"OrderTreesModel", "nodesOf", "(Z)I"⟩, 30)]
theorem lw_r5 : ∀ q ∈ lw_privs_5, lw_okq q := List.forall_mem_cons.mpr ⟨lw_p64, List.forall_mem_cons.mpr ⟨lw_p65, List.forall_mem_cons.mpr ⟨lw_p66, List.forall_mem_cons.mpr ⟨lw_p67, List.forall_mem_cons.mpr ⟨lw_p68, List.forall_mem_cons.mpr ⟨lw_p69, List.forall_mem_cons.mpr ⟨lw_p70, List.forall_mem_cons.mpr ⟨lw_p71, List.forall_mem_cons.mpr ⟨lw_p72, List.forall_mem_cons.mpr ⟨lw_p73, List.forall_mem_cons.mpr ⟨lw_p74, List.forall_mem_cons.mpr ⟨lw_p75, List.forall_mem_cons.mpr ⟨lw_p76, List.forall_mem_cons.mpr ⟨lw_p77, List.forall_mem_cons.mpr ⟨lw_p78, List.forall_mem_cons.mpr ⟨lw_p79, fun _ h => absurd h List.not_mem_nil⟩⟩⟩⟩⟩⟩⟩⟩⟩⟩⟩⟩⟩⟩⟩⟩
theorem lw_p80 : lw_okq (⟨"OrderTreesModel", "rowDigest", "(JI)J"⟩, 30) := ⟨⟨by decide +kernel, by decide +kernel⟩, List.mem_of_getElem? (i := 550) (by decide +kernel), List.mem_of_getElem? (i := 960) (by decide +kernel), List.mem_of_getElem? (i := 961) (by decide +kernel)⟩
theorem lw_p81 : lw_okq (⟨"OrderTreesModel", "setDigest", "(JI)J"⟩, 30) := ⟨⟨by decide +kernel, by decide +kernel⟩, List.mem_of_getElem? (i := 550) (by decide +kernel), List.mem_of_getElem? (i := 964) (by decide +kernel), List.mem_of_getElem? (i := 965) (by decide +kernel)⟩
def lw_privs_6 : List (MethodName × Nat) := [(⟨"OrderTreesModel", "rowDigest", "(JI)J"⟩, 30), (⟨"OrderTreesModel", "setDigest", "(JI)J"⟩, 30)]
theorem lw_r6 : ∀ q ∈ lw_privs_6, lw_okq q := List.forall_mem_cons.mpr ⟨lw_p80, List.forall_mem_cons.mpr ⟨lw_p81, fun _ h => absurd h List.not_mem_nil⟩⟩
def lw_privs : List (MethodName × Nat) := lw_privs_1 ++ (lw_privs_2 ++ (lw_privs_3 ++ (lw_privs_4 ++ (lw_privs_5 ++ (lw_privs_6)))))
def lw_tbl : List Cond := k2_sels lw_privs ++ tables_1
theorem lw_privs_ok : ∀ q ∈ lw_privs, lw_okq q := by
  show ∀ q ∈ lw_privs_1 ++ (lw_privs_2 ++ (lw_privs_3 ++ (lw_privs_4 ++ (lw_privs_5 ++ (lw_privs_6))))), lw_okq q
  exact List.forall_mem_append.mpr ⟨lw_r1, List.forall_mem_append.mpr ⟨lw_r2, List.forall_mem_append.mpr ⟨lw_r3, List.forall_mem_append.mpr ⟨lw_r4, List.forall_mem_append.mpr ⟨lw_r5, lw_r6⟩⟩⟩⟩⟩
-- ===== end of PART A; then your names; then what follows =====
end
section
def R_S : String := "OrderTrees$Sheets"
def F_S : u_T := fun k => match k with
  | 0 => ("OrderTrees$Sheets", "forms", "[I", true)
  | 1 => ("OrderTrees$Sheets", "sizes", "[I", true)
  | _ => ("OrderTrees$Sheets", "items", "[I", true)
def t_S : Nat → FieldType := fun k => match k with
  | 0 => .array .int
  | 1 => .array .int
  | _ => .array .int
theorem n_S : ∀ a, a < 3 → ∀ b, b < 3 → a ≠ b → (F_S a).2.1 ≠ (F_S b).2.1 := by decide +kernel
theorem t_S_ok : ∀ k, k < 3 → parseFieldDescriptor (F_S k).2.2.1 = some (t_S k) := by decide +kernel
def R_T : String := "OrderTrees$Tree"
def F_T : u_T := fun k => match k with
  | 0 => ("OrderTrees$Tree", "kinds", "[I", true)
  | 1 => ("OrderTrees$Tree", "sets", "[I", true)
  | 2 => ("OrderTrees$Tree", "sizes", "[I", true)
  | 3 => ("OrderTrees$Tree", "parts", "[I", true)
  | 4 => ("OrderTrees$Tree", "root", "I", false)
  | 5 => ("OrderTrees$Tree", "nodes", "I", false)
  | 6 => ("OrderTrees$Tree", "line", "[I", true)
  | 7 => ("OrderTrees$Tree", "lineSize", "I", false)
  | 8 => ("OrderTrees$Tree", "held", "[I", true)
  | 9 => ("OrderTrees$Tree", "heldSize", "I", false)
  | 10 => ("OrderTrees$Tree", "split", "[I", true)
  | 11 => ("OrderTrees$Tree", "splitSize", "I", false)
  | 12 => ("OrderTrees$Tree", "starts", "[I", true)
  | 13 => ("OrderTrees$Tree", "lengths", "[I", true)
  | _ => ("OrderTrees$Tree", "chosen", "[I", true)
def t_T : Nat → FieldType := fun k => match k with
  | 0 => .array .int
  | 1 => .array .int
  | 2 => .array .int
  | 3 => .array .int
  | 4 => .int
  | 5 => .int
  | 6 => .array .int
  | 7 => .int
  | 8 => .array .int
  | 9 => .int
  | 10 => .array .int
  | 11 => .int
  | 12 => .array .int
  | 13 => .array .int
  | _ => .array .int
theorem n_T : ∀ a, a < 15 → ∀ b, b < 15 → a ≠ b → (F_T a).2.1 ≠ (F_T b).2.1 := by decide +kernel
theorem t_T_ok : ∀ k, k < 15 → parseFieldDescriptor (F_T k).2.2.1 = some (t_T k) := by decide +kernel
def R_O : String := "OrderTrees"
def F_O : u_T := fun k => match k with
  | 0 => ("OrderTrees", "thingCount", "I", false)
  | 1 => ("OrderTrees", "groups", "[I", true)
  | 2 => ("OrderTrees", "groupCount", "I", false)
  | 3 => ("OrderTrees", "takenBits", "I", false)
  | 4 => ("OrderTrees", "told", "[I", true)
  | 5 => ("OrderTrees", "toldCount", "I", false)
  | 6 => ("OrderTrees", "latestFinding", "I", false)
  | 7 => ("OrderTrees", "sheets", "LOrderTrees$Sheets;", true)
  | 8 => ("OrderTrees", "shown", "LOrderTrees$Tree;", true)
  | 9 => ("OrderTrees", "text", "[I", true)
  | 10 => ("OrderTrees", "textSize", "I", false)
  | 11 => ("OrderTrees", "base", "LOrderTrees$Tree;", true)
  | 12 => ("OrderTrees", "trial", "LOrderTrees$Tree;", true)
  | 13 => ("OrderTrees", "rowThings", "[I", true)
  | _ => ("OrderTrees", "places", "[I", true)
def t_O : Nat → FieldType := fun k => match k with
  | 0 => .int
  | 1 => .array .int
  | 2 => .int
  | 3 => .int
  | 4 => .array .int
  | 5 => .int
  | 6 => .int
  | 7 => .object "OrderTrees$Sheets"
  | 8 => .object "OrderTrees$Tree"
  | 9 => .array .int
  | 10 => .int
  | 11 => .object "OrderTrees$Tree"
  | 12 => .object "OrderTrees$Tree"
  | 13 => .array .int
  | _ => .array .int
theorem n_O : ∀ a, a < 15 → ∀ b, b < 15 → a ≠ b → (F_O a).2.1 ≠ (F_O b).2.1 := by decide +kernel
theorem t_O_ok : ∀ k, k < 15 → parseFieldDescriptor (F_O k).2.2.1 = some (t_O k) := by decide +kernel
def R_M : String := "OrderTreesModel"
def F_M : u_T := fun k => match k with
  | 0 => ("OrderTreesModel", "thingsTold", "I", false)
  | 1 => ("OrderTreesModel", "groups", "I", false)
  | 2 => ("OrderTreesModel", "groupSet", "[I", true)
  | 3 => ("OrderTreesModel", "ways", "[I", true)
  | 4 => ("OrderTreesModel", "go", "[I", true)
  | 5 => ("OrderTreesModel", "ends", "[I", true)
  | 6 => ("OrderTreesModel", "sure", "[I", true)
  | 7 => ("OrderTreesModel", "nodes", "I", false)
  | 8 => ("OrderTreesModel", "nodeSet", "[I", true)
  | 9 => ("OrderTreesModel", "nodeKind", "[I", true)
  | 10 => ("OrderTreesModel", "nodeParts", "[I", true)
  | 11 => ("OrderTreesModel", "partSet", "[I", true)
  | 12 => ("OrderTreesModel", "shownMany", "I", false)
  | 13 => ("OrderTreesModel", "shown", "[I", true)
  | 14 => ("OrderTreesModel", "isNode", "[I", true)
  | 15 => ("OrderTreesModel", "pile", "[I", true)
  | 16 => ("OrderTreesModel", "wayOf", "[I", true)
  | 17 => ("OrderTreesModel", "rowNow", "[I", true)
  | 18 => ("OrderTreesModel", "order", "[I", true)
  | 19 => ("OrderTreesModel", "since", "[I", true)
  | 20 => ("OrderTreesModel", "nearest", "I", false)
  | 21 => ("OrderTreesModel", "farthest", "I", false)
  | 22 => ("OrderTreesModel", "typed", "I", false)
  | 23 => ("OrderTreesModel", "text", "[I", true)
  | 24 => ("OrderTreesModel", "isThere", "[Z", true)
  | 25 => ("OrderTreesModel", "forms", "[I", true)
  | 26 => ("OrderTreesModel", "sizes", "[I", true)
  | 27 => ("OrderTreesModel", "items", "[I", true)
  | 28 => ("OrderTreesModel", "moved", "[I", true)
  | _ => ("OrderTreesModel", "finding", "I", false)
def t_M : Nat → FieldType := fun k => match k with
  | 0 => .int
  | 1 => .int
  | 2 => .array .int
  | 3 => .array .int
  | 4 => .array .int
  | 5 => .array .int
  | 6 => .array .int
  | 7 => .int
  | 8 => .array .int
  | 9 => .array .int
  | 10 => .array .int
  | 11 => .array .int
  | 12 => .int
  | 13 => .array .int
  | 14 => .array .int
  | 15 => .array .int
  | 16 => .array .int
  | 17 => .array .int
  | 18 => .array .int
  | 19 => .array .int
  | 20 => .int
  | 21 => .int
  | 22 => .int
  | 23 => .array .int
  | 24 => .array .boolean
  | 25 => .array .int
  | 26 => .array .int
  | 27 => .array .int
  | 28 => .array .int
  | _ => .int
theorem n_M : ∀ a, a < 30 → ∀ b, b < 30 → a ≠ b → (F_M a).2.1 ≠ (F_M b).2.1 := by decide +kernel
theorem t_M_ok : ∀ k, k < 30 → parseFieldDescriptor (F_M k).2.2.1 = some (t_M k) := by decide +kernel
def R_J : String := "java/lang/Integer"
abbrev b_S_init : ByteArray := prog_2_method_1_code
def y_S_init : MethodName := ⟨R_S, "<init>", "()V"⟩
abbrev b_S_isLost : ByteArray := prog_2_method_2_code
def y_S_isLost : MethodName := ⟨R_S, "isLost", "(I)Z"⟩
abbrev b_S_formOf : ByteArray := prog_2_method_3_code
def y_S_formOf : MethodName := ⟨R_S, "formOf", "(I)I"⟩
abbrev b_S_sizeOf : ByteArray := prog_2_method_4_code
def y_S_sizeOf : MethodName := ⟨R_S, "sizeOf", "(I)I"⟩
abbrev b_S_lay : ByteArray := prog_2_method_5_code
def y_S_lay : MethodName := ⟨R_S, "lay", "(III)V"⟩
abbrev b_S_drop : ByteArray := prog_2_method_6_code
def y_S_drop : MethodName := ⟨R_S, "drop", "(I)V"⟩
abbrev b_S_hasItems : ByteArray := prog_2_method_7_code
def y_S_hasItems : MethodName := ⟨R_S, "hasItems", "(III)Z"⟩
abbrev b_S_item : ByteArray := prog_2_method_8_code
def y_S_item : MethodName := ⟨R_S, "item", "(II)I"⟩
abbrev b_S_setItem : ByteArray := prog_2_method_9_code
def y_S_setItem : MethodName := ⟨R_S, "setItem", "(III)V"⟩
abbrev b_S_move : ByteArray := prog_2_method_10_code
def y_S_move : MethodName := ⟨R_S, "move", "(IIIII)V"⟩
abbrev b_T_init : ByteArray := prog_3_method_1_code
def y_T_init : MethodName := ⟨R_T, "<init>", "()V"⟩
abbrev b_T_plant : ByteArray := prog_3_method_2_code
def y_T_plant : MethodName := ⟨R_T, "plant", "(I)V"⟩
abbrev b_T_draw : ByteArray := prog_3_method_3_code
def y_T_draw : MethodName := ⟨R_T, "draw", "(LOrderTrees$Tree;)V"⟩
abbrev b_T_place : ByteArray := prog_3_method_4_code
def y_T_place : MethodName := ⟨R_T, "place", "(LOrderTrees$Tree;ILOrderTrees$Tree;I)I"⟩
abbrev b_T_order : ByteArray := prog_3_method_5_code
def y_T_order : MethodName := ⟨R_T, "order", "(I)V"⟩
abbrev b_T_reduce : ByteArray := prog_3_method_6_code
def y_T_reduce : MethodName := ⟨R_T, "reduce", "(I)Z"⟩
abbrev b_T_lowestWith : ByteArray := prog_3_method_7_code
def y_T_lowestWith : MethodName := ⟨R_T, "lowestWith", "(I)I"⟩
abbrev b_T_reduceFree : ByteArray := prog_3_method_8_code
def y_T_reduceFree : MethodName := ⟨R_T, "reduceFree", "(II)Z"⟩
abbrev b_T_reduceTurning : ByteArray := prog_3_method_9_code
def y_T_reduceTurning : MethodName := ⟨R_T, "reduceTurning", "(II)Z"⟩
abbrev b_T_splitToLine : ByteArray := prog_3_method_10_code
def y_T_splitToLine : MethodName := ⟨R_T, "splitToLine", "(IIZ)Z"⟩
abbrev b_T_splitTurning : ByteArray := prog_3_method_11_code
def y_T_splitTurning : MethodName := ⟨R_T, "splitTurning", "(II)Z"⟩
abbrev b_T_bundle : ByteArray := prog_3_method_12_code
def y_T_bundle : MethodName := ⟨R_T, "bundle", "(III)I"⟩
abbrev b_T_keepEmpty : ByteArray := prog_3_method_13_code
def y_T_keepEmpty : MethodName := ⟨R_T, "keepEmpty", "(II)V"⟩
abbrev b_T_fillFromLine : ByteArray := prog_3_method_14_code
def y_T_fillFromLine : MethodName := ⟨R_T, "fillFromLine", "(I)V"⟩
abbrev b_T_markSplit : ByteArray := prog_3_method_15_code
def y_T_markSplit : MethodName := ⟨R_T, "markSplit", "(I)V"⟩
abbrev b_T_giveBackSplit : ByteArray := prog_3_method_16_code
def y_T_giveBackSplit : MethodName := ⟨R_T, "giveBackSplit", "()V"⟩
abbrev b_T_partIn : ByteArray := prog_3_method_17_code
def y_T_partIn : MethodName := ⟨R_T, "partIn", "(IIII)I"⟩
abbrev b_T_stateOf : ByteArray := prog_3_method_18_code
def y_T_stateOf : MethodName := ⟨R_T, "stateOf", "(II)I"⟩
abbrev b_T_nodeCount : ByteArray := prog_3_method_19_code
def y_T_nodeCount : MethodName := ⟨R_T, "nodeCount", "()I"⟩
abbrev b_T_isTurning : ByteArray := prog_3_method_20_code
def y_T_isTurning : MethodName := ⟨R_T, "isTurning", "(I)Z"⟩
abbrev b_T_partCount : ByteArray := prog_3_method_21_code
def y_T_partCount : MethodName := ⟨R_T, "partCount", "(I)I"⟩
abbrev b_T_thingsOf : ByteArray := prog_3_method_22_code
def y_T_thingsOf : MethodName := ⟨R_T, "thingsOf", "(I)I"⟩
abbrev b_T_turningCount : ByteArray := prog_3_method_23_code
def y_T_turningCount : MethodName := ⟨R_T, "turningCount", "()I"⟩
abbrev b_T_rowCount : ByteArray := prog_3_method_24_code
def y_T_rowCount : MethodName := ⟨R_T, "rowCount", "()J"⟩
abbrev b_T_show : ByteArray := prog_3_method_25_code
def y_T_show : MethodName := ⟨R_T, "show", "([I)I"⟩
abbrev b_T_layRow : ByteArray := prog_3_method_26_code
def y_T_layRow : MethodName := ⟨R_T, "layRow", "(I[I)V"⟩
abbrev b_T_layParts : ByteArray := prog_3_method_27_code
def y_T_layParts : MethodName := ⟨R_T, "layParts", "(II)V"⟩
abbrev b_T_nthBit : ByteArray := prog_3_method_28_code
def y_T_nthBit : MethodName := ⟨R_T, "nthBit", "(II)I"⟩
abbrev b_T_numberOf : ByteArray := prog_3_method_29_code
def y_T_numberOf : MethodName := ⟨R_T, "numberOf", "([I)I"⟩
abbrev b_T_wayOf : ByteArray := prog_3_method_30_code
def y_T_wayOf : MethodName := ⟨R_T, "wayOf", "(I[I)I"⟩
abbrev b_T_between : ByteArray := prog_3_method_31_code
def y_T_between : MethodName := ⟨R_T, "between", "(IIZ)I"⟩
abbrev b_T_besideIn : ByteArray := prog_3_method_32_code
def y_T_besideIn : MethodName := ⟨R_T, "besideIn", "(IIZ)I"⟩
abbrev b_T_betweenIn : ByteArray := prog_3_method_33_code
def y_T_betweenIn : MethodName := ⟨R_T, "betweenIn", "(IIIZ)I"⟩
abbrev b_T_clear : ByteArray := prog_3_method_34_code
def y_T_clear : MethodName := ⟨R_T, "clear", "()V"⟩
abbrev b_T_unusedNode : ByteArray := prog_3_method_35_code
def y_T_unusedNode : MethodName := ⟨R_T, "unusedNode", "()I"⟩
abbrev b_T_part : ByteArray := prog_3_method_36_code
def y_T_part : MethodName := ⟨R_T, "part", "(II)I"⟩
abbrev b_T_setPart : ByteArray := prog_3_method_37_code
def y_T_setPart : MethodName := ⟨R_T, "setPart", "(III)V"⟩
abbrev b_T_add : ByteArray := prog_3_method_38_code
def y_T_add : MethodName := ⟨R_T, "add", "(II)V"⟩
abbrev b_T_append : ByteArray := prog_3_method_39_code
def y_T_append : MethodName := ⟨R_T, "append", "(I)V"⟩
abbrev b_T_hold : ByteArray := prog_3_method_40_code
def y_T_hold : MethodName := ⟨R_T, "hold", "(I)V"⟩
abbrev b_T_ways : ByteArray := prog_3_method_41_code
def y_T_ways : MethodName := ⟨R_T, "ways", "(I)I"⟩
abbrev b_T_least : ByteArray := prog_3_method_42_code
def y_T_least : MethodName := ⟨R_T, "least", "(I)I"⟩
abbrev b_T_leastThing : ByteArray := prog_3_method_43_code
def y_T_leastThing : MethodName := ⟨R_T, "leastThing", "(I)I"⟩
abbrev b_T_setAt : ByteArray := prog_3_method_44_code
def y_T_setAt : MethodName := ⟨R_T, "setAt", "([III)V"⟩
abbrev b_T_turn : ByteArray := prog_3_method_45_code
def y_T_turn : MethodName := ⟨R_T, "turn", "([III)V"⟩
abbrev b_O_init : ByteArray := prog_1_method_1_code
def y_O_init : MethodName := ⟨R_O, "<init>", "()V"⟩
abbrev b_O_things : ByteArray := prog_1_method_2_code
def y_O_things : MethodName := ⟨R_O, "things", "(I)I"⟩
abbrev b_O_group : ByteArray := prog_1_method_3_code
def y_O_group : MethodName := ⟨R_O, "group", "(I)I"⟩
abbrev b_O_back : ByteArray := prog_1_method_4_code
def y_O_back : MethodName := ⟨R_O, "back", "()I"⟩
abbrev b_O_taken : ByteArray := prog_1_method_5_code
def y_O_taken : MethodName := ⟨R_O, "taken", "(I)I"⟩
abbrev b_O_reason : ByteArray := prog_1_method_6_code
def y_O_reason : MethodName := ⟨R_O, "reason", "(I)I"⟩
abbrev b_O_read : ByteArray := prog_1_method_7_code
def y_O_read : MethodName := ⟨R_O, "read", "(I)I"⟩
abbrev b_O_many : ByteArray := prog_1_method_8_code
def y_O_many : MethodName := ⟨R_O, "many", "()J"⟩
abbrev b_O_tree : ByteArray := prog_1_method_9_code
def y_O_tree : MethodName := ⟨R_O, "tree", "(I)I"⟩
abbrev b_O_node : ByteArray := prog_1_method_10_code
def y_O_node : MethodName := ⟨R_O, "node", "(II)I"⟩
abbrev b_O_row : ByteArray := prog_1_method_11_code
def y_O_row : MethodName := ⟨R_O, "row", "(II)I"⟩
abbrev b_O_may : ByteArray := prog_1_method_12_code
def y_O_may : MethodName := ⟨R_O, "may", "(I)I"⟩
abbrev b_O_must : ByteArray := prog_1_method_13_code
def y_O_must : MethodName := ⟨R_O, "must", "(I)I"⟩
abbrev b_O_apart : ByteArray := prog_1_method_14_code
def y_O_apart : MethodName := ⟨R_O, "apart", "(III)I"⟩
abbrev b_O_spare : ByteArray := prog_1_method_15_code
def y_O_spare : MethodName := ⟨R_O, "spare", "()I"⟩
abbrev b_O_type : ByteArray := prog_1_method_16_code
def y_O_type : MethodName := ⟨R_O, "type", "(I)I"⟩
abbrev b_O_wipe : ByteArray := prog_1_method_17_code
def y_O_wipe : MethodName := ⟨R_O, "wipe", "()I"⟩
abbrev b_O_undo : ByteArray := prog_1_method_18_code
def y_O_undo : MethodName := ⟨R_O, "undo", "()I"⟩
abbrev b_O_fault : ByteArray := prog_1_method_19_code
def y_O_fault : MethodName := ⟨R_O, "fault", "()I"⟩
abbrev b_O_misses : ByteArray := prog_1_method_20_code
def y_O_misses : MethodName := ⟨R_O, "misses", "()I"⟩
abbrev b_O_number : ByteArray := prog_1_method_21_code
def y_O_number : MethodName := ⟨R_O, "number", "()I"⟩
abbrev b_O_sheet : ByteArray := prog_1_method_22_code
def y_O_sheet : MethodName := ⟨R_O, "sheet", "(III)I"⟩
abbrev b_O_lose : ByteArray := prog_1_method_23_code
def y_O_lose : MethodName := ⟨R_O, "lose", "(I)I"⟩
abbrev b_O_put : ByteArray := prog_1_method_24_code
def y_O_put : MethodName := ⟨R_O, "put", "(IIII)I"⟩
abbrev b_O_get : ByteArray := prog_1_method_25_code
def y_O_get : MethodName := ⟨R_O, "get", "(III)I"⟩
abbrev b_O_copy : ByteArray := prog_1_method_26_code
def y_O_copy : MethodName := ⟨R_O, "copy", "(IIIII)I"⟩
abbrev b_O_write : ByteArray := prog_1_method_27_code
def y_O_write : MethodName := ⟨R_O, "write", "(II)I"⟩
abbrev b_O_count : ByteArray := prog_1_method_28_code
def y_O_count : MethodName := ⟨R_O, "count", "(I)I"⟩
abbrev b_O_digest : ByteArray := prog_1_method_29_code
def y_O_digest : MethodName := ⟨R_O, "digest", "()J"⟩
abbrev b_O_drawAll : ByteArray := prog_1_method_30_code
def y_O_drawAll : MethodName := ⟨R_O, "drawAll", "()V"⟩
abbrev b_O_takeGroup : ByteArray := prog_1_method_31_code
def y_O_takeGroup : MethodName := ⟨R_O, "takeGroup", "(I)V"⟩
abbrev b_O_findPlaces : ByteArray := prog_1_method_32_code
def y_O_findPlaces : MethodName := ⟨R_O, "findPlaces", "()V"⟩
abbrev b_O_isSideBySide : ByteArray := prog_1_method_33_code
def y_O_isSideBySide : MethodName := ⟨R_O, "isSideBySide", "(I)Z"⟩
abbrev b_O_findingOf : ByteArray := prog_1_method_34_code
def y_O_findingOf : MethodName := ⟨R_O, "findingOf", "(III)I"⟩
abbrev b_O_found : ByteArray := prog_1_method_35_code
def y_O_found : MethodName := ⟨R_O, "found", "(I)I"⟩
abbrev b_O_isTaken : ByteArray := prog_1_method_36_code
def y_O_isTaken : MethodName := ⟨R_O, "isTaken", "(I)Z"⟩
abbrev b_O_isGroup : ByteArray := prog_1_method_37_code
def y_O_isGroup : MethodName := ⟨R_O, "isGroup", "(I)Z"⟩
abbrev b_O_isThing : ByteArray := prog_1_method_38_code
def y_O_isThing : MethodName := ⟨R_O, "isThing", "(I)Z"⟩
abbrev b_O_isSetOfThings : ByteArray := prog_1_method_39_code
def y_O_isSetOfThings : MethodName := ⟨R_O, "isSetOfThings", "(I)Z"⟩
abbrev b_O_isSet : ByteArray := prog_1_method_40_code
def y_O_isSet : MethodName := ⟨R_O, "isSet", "(I)Z"⟩
abbrev b_O_isRowNumber : ByteArray := prog_1_method_41_code
def y_O_isRowNumber : MethodName := ⟨R_O, "isRowNumber", "(I)Z"⟩
abbrev b_O_isSheet : ByteArray := prog_1_method_42_code
def y_O_isSheet : MethodName := ⟨R_O, "isSheet", "(I)Z"⟩
abbrev b_O_isForm : ByteArray := prog_1_method_43_code
def y_O_isForm : MethodName := ⟨R_O, "isForm", "(I)Z"⟩
abbrev b_O_factorial : ByteArray := prog_1_method_44_code
def y_O_factorial : MethodName := ⟨R_O, "factorial", "(I)I"⟩
abbrev b_M_init : ByteArray := prog_5_method_1_code
def y_M_init : MethodName := ⟨R_M, "<init>", "()V"⟩
abbrev b_M_in : ByteArray := prog_5_method_3_code
def y_M_in : MethodName := ⟨R_M, "in", "(III)Z"⟩
abbrev b_M_isIn : ByteArray := prog_5_method_4_code
def y_M_isIn : MethodName := ⟨R_M, "isIn", "(II)Z"⟩
abbrev b_M_many : ByteArray := prog_5_method_5_code
def y_M_many : MethodName := ⟨R_M, "many", "(I)I"⟩
abbrev b_M_least : ByteArray := prog_5_method_6_code
def y_M_least : MethodName := ⟨R_M, "least", "(I)I"⟩
abbrev b_M_all : ByteArray := prog_5_method_7_code
def y_M_all : MethodName := ⟨R_M, "all", "()I"⟩
abbrev b_M_things : ByteArray := prog_5_method_8_code
def y_M_things : MethodName := ⟨R_M, "things", "(I)I"⟩
abbrev b_M_adds : ByteArray := prog_5_method_9_code
def y_M_adds : MethodName := ⟨R_M, "adds", "(I)I"⟩
abbrev b_M_group : ByteArray := prog_5_method_10_code
def y_M_group : MethodName := ⟨R_M, "group", "(I)I"⟩
abbrev b_M_back : ByteArray := prog_5_method_11_code
def y_M_back : MethodName := ⟨R_M, "back", "()I"⟩
abbrev b_M_read : ByteArray := prog_5_method_12_code
def y_M_read : MethodName := ⟨R_M, "read", "(I)I"⟩
abbrev b_M_nexts : ByteArray := prog_5_method_13_code
def y_M_nexts : MethodName := ⟨R_M, "nexts", "(III)I"⟩
abbrev b_M_rowsBy : ByteArray := prog_5_method_14_code
def y_M_rowsBy : MethodName := ⟨R_M, "rowsBy", "(II)I"⟩
abbrev b_M_takenNow : ByteArray := prog_5_method_15_code
def y_M_takenNow : MethodName := ⟨R_M, "takenNow", "()I"⟩
abbrev b_M_isGroup : ByteArray := prog_5_method_16_code
def y_M_isGroup : MethodName := ⟨R_M, "isGroup", "(I)Z"⟩
abbrev b_M_taken : ByteArray := prog_5_method_17_code
def y_M_taken : MethodName := ⟨R_M, "taken", "(I)I"⟩
abbrev b_M_reasonOf : ByteArray := prog_5_method_18_code
def y_M_reasonOf : MethodName := ⟨R_M, "reasonOf", "(I)I"⟩
abbrev b_M_reason : ByteArray := prog_5_method_19_code
def y_M_reason : MethodName := ⟨R_M, "reason", "(I)I"⟩
abbrev b_M_manyNow : ByteArray := prog_5_method_20_code
def y_M_manyNow : MethodName := ⟨R_M, "manyNow", "()I"⟩
abbrev b_M_many_ : ByteArray := prog_5_method_21_code
def y_M_many_ : MethodName := ⟨R_M, "many", "()J"⟩
abbrev b_M_findsGo : ByteArray := prog_5_method_22_code
def y_M_findsGo : MethodName := ⟨R_M, "findsGo", "()V"⟩
abbrev b_M_isSure : ByteArray := prog_5_method_23_code
def y_M_isSure : MethodName := ⟨R_M, "isSure", "(I)Z"⟩
abbrev b_M_areCrossing : ByteArray := prog_5_method_24_code
def y_M_areCrossing : MethodName := ⟨R_M, "areCrossing", "(II)Z"⟩
abbrev b_M_findsStrong : ByteArray := prog_5_method_25_code
def y_M_findsStrong : MethodName := ⟨R_M, "findsStrong", "()V"⟩
abbrev b_M_partWith : ByteArray := prog_5_method_26_code
def y_M_partWith : MethodName := ⟨R_M, "partWith", "(II)I"⟩
abbrev b_M_findsParts : ByteArray := prog_5_method_27_code
def y_M_findsParts : MethodName := ⟨R_M, "findsParts", "(I)V"⟩
abbrev b_M_areBeside : ByteArray := prog_5_method_28_code
def y_M_areBeside : MethodName := ⟨R_M, "areBeside", "(II)Z"⟩
abbrev b_M_turnsRight : ByteArray := prog_5_method_29_code
def y_M_turnsRight : MethodName := ⟨R_M, "turnsRight", "(I)V"⟩
abbrev b_M_swaps : ByteArray := prog_5_method_30_code
def y_M_swaps : MethodName := ⟨R_M, "swaps", "(II)V"⟩
abbrev b_M_nodeOf : ByteArray := prog_5_method_31_code
def y_M_nodeOf : MethodName := ⟨R_M, "nodeOf", "(I)I"⟩
abbrev b_M_shows : ByteArray := prog_5_method_32_code
def y_M_shows : MethodName := ⟨R_M, "shows", "(I)V"⟩
abbrev b_M_findsTree : ByteArray := prog_5_method_33_code
def y_M_findsTree : MethodName := ⟨R_M, "findsTree", "()V"⟩
abbrev b_M_treeOf : ByteArray := prog_5_method_34_code
def y_M_treeOf : MethodName := ⟨R_M, "treeOf", "(I)I"⟩
abbrev b_M_tree : ByteArray := prog_5_method_35_code
def y_M_tree : MethodName := ⟨R_M, "tree", "(I)I"⟩
abbrev b_M_nodeFor : ByteArray := prog_5_method_36_code
def y_M_nodeFor : MethodName := ⟨R_M, "nodeFor", "(II)I"⟩
abbrev b_M_node : ByteArray := prog_5_method_37_code
def y_M_node : MethodName := ⟨R_M, "node", "(II)I"⟩
abbrev b_M_factorial : ByteArray := prog_5_method_38_code
def y_M_factorial : MethodName := ⟨R_M, "factorial", "(I)I"⟩
abbrev b_M_waysAt : ByteArray := prog_5_method_39_code
def y_M_waysAt : MethodName := ⟨R_M, "waysAt", "(I)I"⟩
abbrev b_M_orders : ByteArray := prog_5_method_40_code
def y_M_orders : MethodName := ⟨R_M, "orders", "(I)V"⟩
abbrev b_M_findsRow : ByteArray := prog_5_method_41_code
def y_M_findsRow : MethodName := ⟨R_M, "findsRow", "(I)V"⟩
abbrev b_M_rowOf : ByteArray := prog_5_method_42_code
def y_M_rowOf : MethodName := ⟨R_M, "rowOf", "(II)I"⟩
abbrev b_M_row : ByteArray := prog_5_method_43_code
def y_M_row : MethodName := ⟨R_M, "row", "(II)I"⟩
abbrev b_M_isSet : ByteArray := prog_5_method_44_code
def y_M_isSet : MethodName := ⟨R_M, "isSet", "(I)Z"⟩
abbrev b_M_may : ByteArray := prog_5_method_45_code
def y_M_may : MethodName := ⟨R_M, "may", "(I)I"⟩
abbrev b_M_mustOf : ByteArray := prog_5_method_46_code
def y_M_mustOf : MethodName := ⟨R_M, "mustOf", "(I)I"⟩
abbrev b_M_must : ByteArray := prog_5_method_47_code
def y_M_must : MethodName := ⟨R_M, "must", "(I)I"⟩
abbrev b_M_spansFrom : ByteArray := prog_5_method_48_code
def y_M_spansFrom : MethodName := ⟨R_M, "spansFrom", "(II)V"⟩
abbrev b_M_apartOf : ByteArray := prog_5_method_49_code
def y_M_apartOf : MethodName := ⟨R_M, "apartOf", "(III)I"⟩
abbrev b_M_isThing : ByteArray := prog_5_method_50_code
def y_M_isThing : MethodName := ⟨R_M, "isThing", "(I)Z"⟩
abbrev b_M_apart : ByteArray := prog_5_method_51_code
def y_M_apart : MethodName := ⟨R_M, "apart", "(III)I"⟩
abbrev b_M_spareOf : ByteArray := prog_5_method_52_code
def y_M_spareOf : MethodName := ⟨R_M, "spareOf", "()I"⟩
abbrev b_M_spare : ByteArray := prog_5_method_53_code
def y_M_spare : MethodName := ⟨R_M, "spare", "()I"⟩
abbrev b_M_type : ByteArray := prog_5_method_54_code
def y_M_type : MethodName := ⟨R_M, "type", "(I)I"⟩
abbrev b_M_wipe : ByteArray := prog_5_method_55_code
def y_M_wipe : MethodName := ⟨R_M, "wipe", "()I"⟩
abbrev b_M_undo : ByteArray := prog_5_method_56_code
def y_M_undo : MethodName := ⟨R_M, "undo", "()I"⟩
abbrev b_M_faultOf : ByteArray := prog_5_method_57_code
def y_M_faultOf : MethodName := ⟨R_M, "faultOf", "()I"⟩
abbrev b_M_fault : ByteArray := prog_5_method_58_code
def y_M_fault : MethodName := ⟨R_M, "fault", "()I"⟩
abbrev b_M_isRow : ByteArray := prog_5_method_59_code
def y_M_isRow : MethodName := ⟨R_M, "isRow", "()Z"⟩
abbrev b_M_isHad : ByteArray := prog_5_method_60_code
def y_M_isHad : MethodName := ⟨R_M, "isHad", "(I)Z"⟩
abbrev b_M_missesOf : ByteArray := prog_5_method_61_code
def y_M_missesOf : MethodName := ⟨R_M, "missesOf", "()I"⟩
abbrev b_M_misses : ByteArray := prog_5_method_62_code
def y_M_misses : MethodName := ⟨R_M, "misses", "()I"⟩
abbrev b_M_placeOf : ByteArray := prog_5_method_63_code
def y_M_placeOf : MethodName := ⟨R_M, "placeOf", "(I)I"⟩
abbrev b_M_wayTold : ByteArray := prog_5_method_64_code
def y_M_wayTold : MethodName := ⟨R_M, "wayTold", "(I)I"⟩
abbrev b_M_numberOf : ByteArray := prog_5_method_65_code
def y_M_numberOf : MethodName := ⟨R_M, "numberOf", "()I"⟩
abbrev b_M_number : ByteArray := prog_5_method_66_code
def y_M_number : MethodName := ⟨R_M, "number", "()I"⟩
abbrev b_M_meets : ByteArray := prog_5_method_67_code
def y_M_meets : MethodName := ⟨R_M, "meets", "(I)I"⟩
abbrev b_M_isSheet : ByteArray := prog_5_method_68_code
def y_M_isSheet : MethodName := ⟨R_M, "isSheet", "(I)Z"⟩
abbrev b_M_sheet : ByteArray := prog_5_method_69_code
def y_M_sheet : MethodName := ⟨R_M, "sheet", "(III)I"⟩
abbrev b_M_lose : ByteArray := prog_5_method_70_code
def y_M_lose : MethodName := ⟨R_M, "lose", "(I)I"⟩
abbrev b_M_lacks : ByteArray := prog_5_method_71_code
def y_M_lacks : MethodName := ⟨R_M, "lacks", "(III)I"⟩
abbrev b_M_keep : ByteArray := prog_5_method_72_code
def y_M_keep : MethodName := ⟨R_M, "keep", "(III)V"⟩
abbrev b_M_put : ByteArray := prog_5_method_73_code
def y_M_put : MethodName := ⟨R_M, "put", "(IIII)I"⟩
abbrev b_M_get : ByteArray := prog_5_method_74_code
def y_M_get : MethodName := ⟨R_M, "get", "(III)I"⟩
abbrev b_M_copy : ByteArray := prog_5_method_75_code
def y_M_copy : MethodName := ⟨R_M, "copy", "(IIIII)I"⟩
abbrev b_M_write : ByteArray := prog_5_method_76_code
def y_M_write : MethodName := ⟨R_M, "write", "(II)I"⟩
abbrev b_M_takenMany : ByteArray := prog_5_method_77_code
def y_M_takenMany : MethodName := ⟨R_M, "takenMany", "()I"⟩
abbrev b_M_nodesOf : ByteArray := prog_5_method_78_code
def y_M_nodesOf : MethodName := ⟨R_M, "nodesOf", "(Z)I"⟩
abbrev b_M_count : ByteArray := prog_5_method_79_code
def y_M_count : MethodName := ⟨R_M, "count", "(I)I"⟩
abbrev b_M_rowDigest : ByteArray := prog_5_method_80_code
def y_M_rowDigest : MethodName := ⟨R_M, "rowDigest", "(JI)J"⟩
abbrev b_M_setDigest : ByteArray := prog_5_method_81_code
def y_M_setDigest : MethodName := ⟨R_M, "setDigest", "(JI)J"⟩
abbrev b_M_digest : ByteArray := prog_5_method_82_code
def y_M_digest : MethodName := ⟨R_M, "digest", "()J"⟩
abbrev b_J_bitCount : ByteArray := prog_6_method_49_code
def y_J_bitCount : MethodName := ⟨R_J, "bitCount", "(I)I"⟩
def Tg : List Cond := lw_tbl.filter goodWord
theorem tg_t {z : Cond} (i : Nat) (h : tables_1[i]? = some z) (g : goodWord z = true) : z ∈ Tg := List.mem_filter.mpr ⟨List.mem_append_right _ (List.mem_of_getElem? h), g⟩
theorem tg_s {z : Cond} (i : Nat) (h : (k2_sels lw_privs)[i]? = some z) (g : goodWord z = true) : z ∈ Tg := List.mem_filter.mpr ⟨List.mem_append_left _ (List.mem_of_getElem? h), g⟩
theorem q_0 : Cond.initialized "OrderTreesLaw" ∈ Tg := tg_t 0 (by decide +kernel) (by decide +kernel)
theorem q_1 : Cond.initialized R_O ∈ Tg := tg_t 1 (by decide +kernel) (by decide +kernel)
theorem q_2 : Cond.initialized R_S ∈ Tg := tg_t 2 (by decide +kernel) (by decide +kernel)
theorem q_3 : Cond.initialized R_T ∈ Tg := tg_t 3 (by decide +kernel) (by decide +kernel)
theorem q_4 : Cond.initialized R_J ∈ Tg := tg_t 4 (by decide +kernel) (by decide +kernel)
theorem q_5 : Cond.initialized R_M ∈ Tg := tg_t 5 (by decide +kernel) (by decide +kernel)
theorem q_6 : Cond.initialized "java/lang/Math" ∈ Tg := tg_t 6 (by decide +kernel) (by decide +kernel)
theorem q_7 : Cond.initialized "java/lang/System" ∈ Tg := tg_t 7 (by decide +kernel) (by decide +kernel)
theorem q_8 : Cond.classLink "OrderTreesLaw" 7 R_O ∈ Tg := tg_t 8 (by decide +kernel) (by decide +kernel)
theorem q_9 : Cond.instantiable R_O 15 ∈ Tg := tg_t 9 (by decide +kernel) (by decide +kernel)
theorem q_10 : Cond.methodLink "OrderTreesLaw" 9 y_O_init ∈ Tg := tg_t 10 (by decide +kernel) (by decide +kernel)
theorem q_11 : Cond.instanceMethod y_O_init ∈ Tg := tg_t 11 (by decide +kernel) (by decide +kernel)
theorem q_12 : Cond.code y_O_init b_O_init 1 none ∈ Tg := tg_t 12 (by decide +kernel) (by decide +kernel)
theorem q_13 : Cond.methodLink R_O 1 objectInit ∈ Tg := tg_t 13 (by decide +kernel) (by decide +kernel)
theorem q_14 : Cond.instanceMethod objectInit ∈ Tg := tg_t 14 (by decide +kernel) (by decide +kernel)
theorem q_15 : Cond.classLink R_O 32 R_S ∈ Tg := tg_t 16 (by decide +kernel) (by decide +kernel)
theorem q_16 : Cond.instantiable R_S 3 ∈ Tg := tg_t 17 (by decide +kernel) (by decide +kernel)
theorem q_17 : Cond.instanceMethod y_S_init ∈ Tg := tg_t 19 (by decide +kernel) (by decide +kernel)
theorem q_18 : Cond.code y_S_init b_S_init 1 none ∈ Tg := tg_t 20 (by decide +kernel) (by decide +kernel)
theorem q_19 : Cond.methodLink R_S 1 objectInit ∈ Tg := tg_t 21 (by decide +kernel) (by decide +kernel)
theorem q_20 : Cond.fieldLink R_S 9 "OrderTrees$Sheets" "forms" "[I" ∈ Tg := tg_t 22 (by decide +kernel) (by decide +kernel)
theorem q_21 : Cond.fieldLink R_S 13 "OrderTrees$Sheets" "sizes" "[I" ∈ Tg := tg_t 23 (by decide +kernel) (by decide +kernel)
theorem q_22 : Cond.fieldLink R_S 16 "OrderTrees$Sheets" "items" "[I" ∈ Tg := tg_t 24 (by decide +kernel) (by decide +kernel)
theorem q_23 : Cond.arrayClass .int ∈ Tg := tg_t 32 (by decide +kernel) (by decide +kernel)
theorem q_24 : Cond.classLink R_O 39 R_T ∈ Tg := tg_t 33 (by decide +kernel) (by decide +kernel)
theorem q_25 : Cond.instantiable R_T 15 ∈ Tg := tg_t 34 (by decide +kernel) (by decide +kernel)
theorem q_26 : Cond.methodLink R_O 41 y_T_init ∈ Tg := tg_t 35 (by decide +kernel) (by decide +kernel)
theorem q_27 : Cond.instanceMethod y_T_init ∈ Tg := tg_t 36 (by decide +kernel) (by decide +kernel)
theorem q_28 : Cond.code y_T_init b_T_init 2 none ∈ Tg := tg_t 37 (by decide +kernel) (by decide +kernel)
theorem q_29 : Cond.methodLink R_T 5 objectInit ∈ Tg := tg_t 38 (by decide +kernel) (by decide +kernel)
theorem q_30 : Cond.fieldLink R_T 11 "OrderTrees$Tree" "kinds" "[I" ∈ Tg := tg_t 39 (by decide +kernel) (by decide +kernel)
theorem q_31 : Cond.fieldLink R_T 15 "OrderTrees$Tree" "sets" "[I" ∈ Tg := tg_t 40 (by decide +kernel) (by decide +kernel)
theorem q_32 : Cond.fieldLink R_T 18 "OrderTrees$Tree" "sizes" "[I" ∈ Tg := tg_t 41 (by decide +kernel) (by decide +kernel)
theorem q_33 : Cond.fieldLink R_T 21 "OrderTrees$Tree" "parts" "[I" ∈ Tg := tg_t 42 (by decide +kernel) (by decide +kernel)
theorem q_34 : Cond.fieldLink R_T 24 "OrderTrees$Tree" "root" "I" ∈ Tg := tg_t 43 (by decide +kernel) (by decide +kernel)
theorem q_35 : Cond.fieldLink R_T 28 "OrderTrees$Tree" "nodes" "I" ∈ Tg := tg_t 44 (by decide +kernel) (by decide +kernel)
theorem q_36 : Cond.fieldLink R_T 31 "OrderTrees$Tree" "line" "[I" ∈ Tg := tg_t 45 (by decide +kernel) (by decide +kernel)
theorem q_37 : Cond.fieldLink R_T 34 "OrderTrees$Tree" "lineSize" "I" ∈ Tg := tg_t 46 (by decide +kernel) (by decide +kernel)
theorem q_38 : Cond.fieldLink R_T 37 "OrderTrees$Tree" "held" "[I" ∈ Tg := tg_t 47 (by decide +kernel) (by decide +kernel)
theorem q_39 : Cond.fieldLink R_T 40 "OrderTrees$Tree" "heldSize" "I" ∈ Tg := tg_t 48 (by decide +kernel) (by decide +kernel)
theorem q_40 : Cond.fieldLink R_T 43 "OrderTrees$Tree" "split" "[I" ∈ Tg := tg_t 49 (by decide +kernel) (by decide +kernel)
theorem q_41 : Cond.fieldLink R_T 46 "OrderTrees$Tree" "splitSize" "I" ∈ Tg := tg_t 50 (by decide +kernel) (by decide +kernel)
theorem q_42 : Cond.fieldLink R_T 49 "OrderTrees$Tree" "starts" "[I" ∈ Tg := tg_t 51 (by decide +kernel) (by decide +kernel)
theorem q_43 : Cond.fieldLink R_T 52 "OrderTrees$Tree" "lengths" "[I" ∈ Tg := tg_t 52 (by decide +kernel) (by decide +kernel)
theorem q_44 : Cond.fieldLink R_T 55 "OrderTrees$Tree" "chosen" "[I" ∈ Tg := tg_t 53 (by decide +kernel) (by decide +kernel)
theorem q_45 : Cond.methodLink R_O 64 y_O_drawAll ∈ Tg := tg_t 85 (by decide +kernel) (by decide +kernel)
theorem q_46 : Cond.instanceMethod y_O_drawAll ∈ Tg := tg_t 87 (by decide +kernel) (by decide +kernel)
theorem q_47 : Cond.code y_O_drawAll b_O_drawAll 2 none ∈ Tg := tg_t 88 (by decide +kernel) (by decide +kernel)
theorem q_48 : Cond.methodLink R_O 94 y_T_plant ∈ Tg := tg_t 89 (by decide +kernel) (by decide +kernel)
theorem q_49 : Cond.instanceMethod y_T_plant ∈ Tg := tg_t 90 (by decide +kernel) (by decide +kernel)
theorem q_50 : Cond.selects R_T y_T_plant y_T_plant ∈ Tg := tg_t 91 (by decide +kernel) (by decide +kernel)
theorem q_51 : Cond.code y_T_plant b_T_plant 3 none ∈ Tg := tg_t 92 (by decide +kernel) (by decide +kernel)
theorem q_52 : Cond.methodLink R_T 58 y_T_clear ∈ Tg := tg_t 93 (by decide +kernel) (by decide +kernel)
theorem q_53 : Cond.instanceMethod y_T_clear ∈ Tg := tg_t 95 (by decide +kernel) (by decide +kernel)
theorem q_54 : Cond.code y_T_clear b_T_clear 2 none ∈ Tg := tg_t 96 (by decide +kernel) (by decide +kernel)
theorem q_55 : Cond.methodLink R_T 61 y_T_add ∈ Tg := tg_t 97 (by decide +kernel) (by decide +kernel)
theorem q_56 : Cond.instanceMethod y_T_add ∈ Tg := tg_t 99 (by decide +kernel) (by decide +kernel)
theorem q_57 : Cond.code y_T_add b_T_add 3 none ∈ Tg := tg_t 100 (by decide +kernel) (by decide +kernel)
theorem q_58 : Cond.methodLink R_O 77 y_O_takeGroup ∈ Tg := tg_t 101 (by decide +kernel) (by decide +kernel)
theorem q_59 : Cond.instanceMethod y_O_takeGroup ∈ Tg := tg_t 103 (by decide +kernel) (by decide +kernel)
theorem q_60 : Cond.code y_O_takeGroup b_O_takeGroup 3 none ∈ Tg := tg_t 104 (by decide +kernel) (by decide +kernel)
theorem q_61 : Cond.methodLink R_O 100 y_T_draw ∈ Tg := tg_t 105 (by decide +kernel) (by decide +kernel)
theorem q_62 : Cond.instanceMethod y_T_draw ∈ Tg := tg_t 106 (by decide +kernel) (by decide +kernel)
theorem q_63 : Cond.selects R_T y_T_draw y_T_draw ∈ Tg := tg_t 107 (by decide +kernel) (by decide +kernel)
theorem q_64 : Cond.code y_T_draw b_T_draw 2 none ∈ Tg := tg_t 108 (by decide +kernel) (by decide +kernel)
theorem q_65 : Cond.methodLink R_T 65 y_T_place ∈ Tg := tg_t 109 (by decide +kernel) (by decide +kernel)
theorem q_66 : Cond.static y_T_place ∈ Tg := tg_t 110 (by decide +kernel) (by decide +kernel)
theorem q_67 : Cond.code y_T_place b_T_place 6 (some .int) ∈ Tg := tg_t 111 (by decide +kernel) (by decide +kernel)
theorem q_68 : Cond.methodLink R_T 69 y_T_order ∈ Tg := tg_t 112 (by decide +kernel) (by decide +kernel)
theorem q_69 : Cond.instanceMethod y_T_order ∈ Tg := tg_t 114 (by decide +kernel) (by decide +kernel)
theorem q_70 : Cond.code y_T_order b_T_order 6 none ∈ Tg := tg_t 115 (by decide +kernel) (by decide +kernel)
theorem q_71 : Cond.methodLink R_T 73 y_T_part ∈ Tg := tg_t 116 (by decide +kernel) (by decide +kernel)
theorem q_72 : Cond.instanceMethod y_T_part ∈ Tg := tg_t 118 (by decide +kernel) (by decide +kernel)
theorem q_73 : Cond.code y_T_part b_T_part 3 (some .int) ∈ Tg := tg_t 119 (by decide +kernel) (by decide +kernel)
theorem q_74 : Cond.methodLink R_T 77 y_T_least ∈ Tg := tg_t 120 (by decide +kernel) (by decide +kernel)
theorem q_75 : Cond.instanceMethod y_T_least ∈ Tg := tg_t 122 (by decide +kernel) (by decide +kernel)
theorem q_76 : Cond.code y_T_least b_T_least 2 (some .int) ∈ Tg := tg_t 123 (by decide +kernel) (by decide +kernel)
theorem q_77 : Cond.methodLink R_T 81 y_T_turn ∈ Tg := tg_t 124 (by decide +kernel) (by decide +kernel)
theorem q_78 : Cond.static y_T_turn ∈ Tg := tg_t 125 (by decide +kernel) (by decide +kernel)
theorem q_79 : Cond.code y_T_turn b_T_turn 6 none ∈ Tg := tg_t 126 (by decide +kernel) (by decide +kernel)
theorem q_80 : Cond.methodLink R_T 85 y_T_setPart ∈ Tg := tg_t 127 (by decide +kernel) (by decide +kernel)
theorem q_81 : Cond.instanceMethod y_T_setPart ∈ Tg := tg_t 129 (by decide +kernel) (by decide +kernel)
theorem q_82 : Cond.code y_T_setPart b_T_setPart 4 none ∈ Tg := tg_t 130 (by decide +kernel) (by decide +kernel)
theorem q_83 : Cond.methodLink R_O 97 y_T_reduce ∈ Tg := tg_t 131 (by decide +kernel) (by decide +kernel)
theorem q_84 : Cond.instanceMethod y_T_reduce ∈ Tg := tg_t 132 (by decide +kernel) (by decide +kernel)
theorem q_85 : Cond.selects R_T y_T_reduce y_T_reduce ∈ Tg := tg_t 133 (by decide +kernel) (by decide +kernel)
theorem q_86 : Cond.code y_T_reduce b_T_reduce 5 (some .boolean) ∈ Tg := tg_t 134 (by decide +kernel) (by decide +kernel)
theorem q_87 : Cond.methodLink R_T 89 y_J_bitCount ∈ Tg := tg_t 135 (by decide +kernel) (by decide +kernel)
theorem q_88 : Cond.static y_J_bitCount ∈ Tg := tg_t 136 (by decide +kernel) (by decide +kernel)
theorem q_89 : Cond.code y_J_bitCount b_J_bitCount 1 (some .int) ∈ Tg := tg_t 137 (by decide +kernel) (by decide +kernel)
theorem q_90 : Cond.constant R_J 265 (1431655765) ∈ Tg := tg_t 138 (by decide +kernel) (by decide +kernel)
theorem q_91 : Cond.constant R_J 266 (858993459) ∈ Tg := tg_t 139 (by decide +kernel) (by decide +kernel)
theorem q_92 : Cond.constant R_J 267 (252645135) ∈ Tg := tg_t 140 (by decide +kernel) (by decide +kernel)
theorem q_93 : Cond.methodLink R_T 94 y_T_lowestWith ∈ Tg := tg_t 141 (by decide +kernel) (by decide +kernel)
theorem q_94 : Cond.instanceMethod y_T_lowestWith ∈ Tg := tg_t 143 (by decide +kernel) (by decide +kernel)
theorem q_95 : Cond.code y_T_lowestWith b_T_lowestWith 6 (some .int) ∈ Tg := tg_t 144 (by decide +kernel) (by decide +kernel)
theorem q_96 : Cond.methodLink R_T 97 y_T_stateOf ∈ Tg := tg_t 145 (by decide +kernel) (by decide +kernel)
theorem q_97 : Cond.instanceMethod y_T_stateOf ∈ Tg := tg_t 147 (by decide +kernel) (by decide +kernel)
theorem q_98 : Cond.code y_T_stateOf b_T_stateOf 4 (some .int) ∈ Tg := tg_t 148 (by decide +kernel) (by decide +kernel)
theorem q_99 : Cond.methodLink R_T 100 y_T_reduceFree ∈ Tg := tg_t 149 (by decide +kernel) (by decide +kernel)
theorem q_100 : Cond.instanceMethod y_T_reduceFree ∈ Tg := tg_t 151 (by decide +kernel) (by decide +kernel)
theorem q_101 : Cond.code y_T_reduceFree b_T_reduceFree 6 (some .boolean) ∈ Tg := tg_t 152 (by decide +kernel) (by decide +kernel)
theorem q_102 : Cond.methodLink R_T 110 y_T_partIn ∈ Tg := tg_t 153 (by decide +kernel) (by decide +kernel)
theorem q_103 : Cond.instanceMethod y_T_partIn ∈ Tg := tg_t 155 (by decide +kernel) (by decide +kernel)
theorem q_104 : Cond.code y_T_partIn b_T_partIn 7 (some .int) ∈ Tg := tg_t 156 (by decide +kernel) (by decide +kernel)
theorem q_105 : Cond.methodLink R_T 114 y_T_splitToLine ∈ Tg := tg_t 157 (by decide +kernel) (by decide +kernel)
theorem q_106 : Cond.instanceMethod y_T_splitToLine ∈ Tg := tg_t 159 (by decide +kernel) (by decide +kernel)
theorem q_107 : Cond.code y_T_splitToLine b_T_splitToLine 8 (some .boolean) ∈ Tg := tg_t 160 (by decide +kernel) (by decide +kernel)
theorem q_108 : Cond.methodLink R_T 118 y_T_bundle ∈ Tg := tg_t 161 (by decide +kernel) (by decide +kernel)
theorem q_109 : Cond.instanceMethod y_T_bundle ∈ Tg := tg_t 163 (by decide +kernel) (by decide +kernel)
theorem q_110 : Cond.code y_T_bundle b_T_bundle 6 (some .int) ∈ Tg := tg_t 164 (by decide +kernel) (by decide +kernel)
theorem q_111 : Cond.methodLink R_T 131 y_T_unusedNode ∈ Tg := tg_t 165 (by decide +kernel) (by decide +kernel)
theorem q_112 : Cond.instanceMethod y_T_unusedNode ∈ Tg := tg_t 167 (by decide +kernel) (by decide +kernel)
theorem q_113 : Cond.code y_T_unusedNode b_T_unusedNode 2 (some .int) ∈ Tg := tg_t 168 (by decide +kernel) (by decide +kernel)
theorem q_114 : Cond.methodLink R_T 122 y_T_append ∈ Tg := tg_t 169 (by decide +kernel) (by decide +kernel)
theorem q_115 : Cond.instanceMethod y_T_append ∈ Tg := tg_t 171 (by decide +kernel) (by decide +kernel)
theorem q_116 : Cond.code y_T_append b_T_append 2 none ∈ Tg := tg_t 172 (by decide +kernel) (by decide +kernel)
theorem q_117 : Cond.methodLink R_T 135 y_T_hold ∈ Tg := tg_t 173 (by decide +kernel) (by decide +kernel)
theorem q_118 : Cond.instanceMethod y_T_hold ∈ Tg := tg_t 175 (by decide +kernel) (by decide +kernel)
theorem q_119 : Cond.code y_T_hold b_T_hold 2 none ∈ Tg := tg_t 176 (by decide +kernel) (by decide +kernel)
theorem q_120 : Cond.methodLink R_T 138 y_T_splitTurning ∈ Tg := tg_t 177 (by decide +kernel) (by decide +kernel)
theorem q_121 : Cond.instanceMethod y_T_splitTurning ∈ Tg := tg_t 179 (by decide +kernel) (by decide +kernel)
theorem q_122 : Cond.code y_T_splitTurning b_T_splitTurning 8 (some .boolean) ∈ Tg := tg_t 180 (by decide +kernel) (by decide +kernel)
theorem q_123 : Cond.methodLink R_T 141 y_T_markSplit ∈ Tg := tg_t 181 (by decide +kernel) (by decide +kernel)
theorem q_124 : Cond.instanceMethod y_T_markSplit ∈ Tg := tg_t 183 (by decide +kernel) (by decide +kernel)
theorem q_125 : Cond.code y_T_markSplit b_T_markSplit 2 none ∈ Tg := tg_t 184 (by decide +kernel) (by decide +kernel)
theorem q_126 : Cond.methodLink R_T 125 y_T_keepEmpty ∈ Tg := tg_t 185 (by decide +kernel) (by decide +kernel)
theorem q_127 : Cond.instanceMethod y_T_keepEmpty ∈ Tg := tg_t 187 (by decide +kernel) (by decide +kernel)
theorem q_128 : Cond.code y_T_keepEmpty b_T_keepEmpty 5 none ∈ Tg := tg_t 188 (by decide +kernel) (by decide +kernel)
theorem q_129 : Cond.methodLink R_T 128 y_T_fillFromLine ∈ Tg := tg_t 189 (by decide +kernel) (by decide +kernel)
theorem q_130 : Cond.instanceMethod y_T_fillFromLine ∈ Tg := tg_t 191 (by decide +kernel) (by decide +kernel)
theorem q_131 : Cond.code y_T_fillFromLine b_T_fillFromLine 3 none ∈ Tg := tg_t 192 (by decide +kernel) (by decide +kernel)
theorem q_132 : Cond.methodLink R_T 104 y_T_reduceTurning ∈ Tg := tg_t 193 (by decide +kernel) (by decide +kernel)
theorem q_133 : Cond.instanceMethod y_T_reduceTurning ∈ Tg := tg_t 195 (by decide +kernel) (by decide +kernel)
theorem q_134 : Cond.code y_T_reduceTurning b_T_reduceTurning 8 (some .boolean) ∈ Tg := tg_t 196 (by decide +kernel) (by decide +kernel)
theorem q_135 : Cond.methodLink R_T 107 y_T_giveBackSplit ∈ Tg := tg_t 197 (by decide +kernel) (by decide +kernel)
theorem q_136 : Cond.instanceMethod y_T_giveBackSplit ∈ Tg := tg_t 199 (by decide +kernel) (by decide +kernel)
theorem q_137 : Cond.code y_T_giveBackSplit b_T_giveBackSplit 2 none ∈ Tg := tg_t 200 (by decide +kernel) (by decide +kernel)
theorem q_138 : Cond.methodLink R_O 81 y_T_show ∈ Tg := tg_t 201 (by decide +kernel) (by decide +kernel)
theorem q_139 : Cond.instanceMethod y_T_show ∈ Tg := tg_t 202 (by decide +kernel) (by decide +kernel)
theorem q_140 : Cond.selects R_T y_T_show y_T_show ∈ Tg := tg_t 203 (by decide +kernel) (by decide +kernel)
theorem q_141 : Cond.code y_T_show b_T_show 6 (some .int) ∈ Tg := tg_t 204 (by decide +kernel) (by decide +kernel)
theorem q_142 : Cond.methodLink R_T 147 y_T_setAt ∈ Tg := tg_t 205 (by decide +kernel) (by decide +kernel)
theorem q_143 : Cond.static y_T_setAt ∈ Tg := tg_t 206 (by decide +kernel) (by decide +kernel)
theorem q_144 : Cond.code y_T_setAt b_T_setAt 3 none ∈ Tg := tg_t 207 (by decide +kernel) (by decide +kernel)
theorem q_145 : Cond.fieldLink R_O 9 "OrderTrees" "thingCount" "I" ∈ Tg := tg_t 208 (by decide +kernel) (by decide +kernel)
theorem q_146 : Cond.fieldLink R_O 13 "OrderTrees" "groups" "[I" ∈ Tg := tg_t 209 (by decide +kernel) (by decide +kernel)
theorem q_147 : Cond.fieldLink R_O 17 "OrderTrees" "groupCount" "I" ∈ Tg := tg_t 210 (by decide +kernel) (by decide +kernel)
theorem q_148 : Cond.fieldLink R_O 20 "OrderTrees" "takenBits" "I" ∈ Tg := tg_t 211 (by decide +kernel) (by decide +kernel)
theorem q_149 : Cond.fieldLink R_O 23 "OrderTrees" "told" "[I" ∈ Tg := tg_t 212 (by decide +kernel) (by decide +kernel)
theorem q_150 : Cond.fieldLink R_O 26 "OrderTrees" "toldCount" "I" ∈ Tg := tg_t 213 (by decide +kernel) (by decide +kernel)
theorem q_151 : Cond.fieldLink R_O 29 "OrderTrees" "latestFinding" "I" ∈ Tg := tg_t 214 (by decide +kernel) (by decide +kernel)
theorem q_152 : Cond.fieldLink R_O 35 "OrderTrees" "sheets" "LOrderTrees$Sheets;" ∈ Tg := tg_t 215 (by decide +kernel) (by decide +kernel)
theorem q_153 : Cond.fieldLink R_O 42 "OrderTrees" "shown" "LOrderTrees$Tree;" ∈ Tg := tg_t 216 (by decide +kernel) (by decide +kernel)
theorem q_154 : Cond.fieldLink R_O 46 "OrderTrees" "text" "[I" ∈ Tg := tg_t 217 (by decide +kernel) (by decide +kernel)
theorem q_155 : Cond.fieldLink R_O 49 "OrderTrees" "textSize" "I" ∈ Tg := tg_t 218 (by decide +kernel) (by decide +kernel)
theorem q_156 : Cond.fieldLink R_O 52 "OrderTrees" "base" "LOrderTrees$Tree;" ∈ Tg := tg_t 219 (by decide +kernel) (by decide +kernel)
theorem q_157 : Cond.fieldLink R_O 55 "OrderTrees" "trial" "LOrderTrees$Tree;" ∈ Tg := tg_t 220 (by decide +kernel) (by decide +kernel)
theorem q_158 : Cond.fieldLink R_O 58 "OrderTrees" "rowThings" "[I" ∈ Tg := tg_t 221 (by decide +kernel) (by decide +kernel)
theorem q_159 : Cond.fieldLink R_O 61 "OrderTrees" "places" "[I" ∈ Tg := tg_t 222 (by decide +kernel) (by decide +kernel)
theorem q_160 : Cond.methodLink "OrderTreesLaw" 13 y_O_things ∈ Tg := tg_t 254 (by decide +kernel) (by decide +kernel)
theorem q_161 : Cond.instanceMethod y_O_things ∈ Tg := tg_t 255 (by decide +kernel) (by decide +kernel)
theorem q_162 : Cond.selects R_O y_O_things y_O_things ∈ Tg := tg_t 256 (by decide +kernel) (by decide +kernel)
theorem q_163 : Cond.code y_O_things b_O_things 3 (some .int) ∈ Tg := tg_t 257 (by decide +kernel) (by decide +kernel)
theorem q_164 : Cond.methodLink "OrderTreesLaw" 18 y_O_group ∈ Tg := tg_t 258 (by decide +kernel) (by decide +kernel)
theorem q_165 : Cond.instanceMethod y_O_group ∈ Tg := tg_t 259 (by decide +kernel) (by decide +kernel)
theorem q_166 : Cond.selects R_O y_O_group y_O_group ∈ Tg := tg_t 260 (by decide +kernel) (by decide +kernel)
theorem q_167 : Cond.code y_O_group b_O_group 2 (some .int) ∈ Tg := tg_t 261 (by decide +kernel) (by decide +kernel)
theorem q_168 : Cond.methodLink R_O 67 y_O_isSet ∈ Tg := tg_t 262 (by decide +kernel) (by decide +kernel)
theorem q_169 : Cond.static y_O_isSet ∈ Tg := tg_t 263 (by decide +kernel) (by decide +kernel)
theorem q_170 : Cond.code y_O_isSet b_O_isSet 1 (some .boolean) ∈ Tg := tg_t 264 (by decide +kernel) (by decide +kernel)
theorem q_171 : Cond.methodLink R_O 71 y_J_bitCount ∈ Tg := tg_t 265 (by decide +kernel) (by decide +kernel)
theorem q_172 : Cond.methodLink R_O 85 y_O_taken ∈ Tg := tg_t 266 (by decide +kernel) (by decide +kernel)
theorem q_173 : Cond.instanceMethod y_O_taken ∈ Tg := tg_t 267 (by decide +kernel) (by decide +kernel)
theorem q_174 : Cond.selects R_O y_O_taken y_O_taken ∈ Tg := tg_t 268 (by decide +kernel) (by decide +kernel)
theorem q_175 : Cond.code y_O_taken b_O_taken 2 (some .int) ∈ Tg := tg_t 269 (by decide +kernel) (by decide +kernel)
theorem q_176 : Cond.methodLink R_O 88 y_O_isGroup ∈ Tg := tg_t 270 (by decide +kernel) (by decide +kernel)
theorem q_177 : Cond.instanceMethod y_O_isGroup ∈ Tg := tg_t 272 (by decide +kernel) (by decide +kernel)
theorem q_178 : Cond.code y_O_isGroup b_O_isGroup 2 (some .boolean) ∈ Tg := tg_t 273 (by decide +kernel) (by decide +kernel)
theorem q_179 : Cond.methodLink R_O 91 y_O_isTaken ∈ Tg := tg_t 274 (by decide +kernel) (by decide +kernel)
theorem q_180 : Cond.instanceMethod y_O_isTaken ∈ Tg := tg_t 276 (by decide +kernel) (by decide +kernel)
theorem q_181 : Cond.code y_O_isTaken b_O_isTaken 2 (some .boolean) ∈ Tg := tg_t 277 (by decide +kernel) (by decide +kernel)
theorem q_182 : Cond.methodLink "OrderTreesLaw" 22 y_O_back ∈ Tg := tg_t 278 (by decide +kernel) (by decide +kernel)
theorem q_183 : Cond.instanceMethod y_O_back ∈ Tg := tg_t 279 (by decide +kernel) (by decide +kernel)
theorem q_184 : Cond.selects R_O y_O_back y_O_back ∈ Tg := tg_t 280 (by decide +kernel) (by decide +kernel)
theorem q_185 : Cond.code y_O_back b_O_back 1 (some .int) ∈ Tg := tg_t 281 (by decide +kernel) (by decide +kernel)
theorem q_186 : Cond.methodLink "OrderTreesLaw" 27 y_O_taken ∈ Tg := tg_t 282 (by decide +kernel) (by decide +kernel)
theorem q_187 : Cond.methodLink "OrderTreesLaw" 31 y_O_reason ∈ Tg := tg_t 283 (by decide +kernel) (by decide +kernel)
theorem q_188 : Cond.instanceMethod y_O_reason ∈ Tg := tg_t 284 (by decide +kernel) (by decide +kernel)
theorem q_189 : Cond.selects R_O y_O_reason y_O_reason ∈ Tg := tg_t 285 (by decide +kernel) (by decide +kernel)
theorem q_190 : Cond.code y_O_reason b_O_reason 6 (some .int) ∈ Tg := tg_t 286 (by decide +kernel) (by decide +kernel)
theorem q_191 : Cond.methodLink "OrderTreesLaw" 35 y_O_read ∈ Tg := tg_t 287 (by decide +kernel) (by decide +kernel)
theorem q_192 : Cond.instanceMethod y_O_read ∈ Tg := tg_t 288 (by decide +kernel) (by decide +kernel)
theorem q_193 : Cond.selects R_O y_O_read y_O_read ∈ Tg := tg_t 289 (by decide +kernel) (by decide +kernel)
theorem q_194 : Cond.code y_O_read b_O_read 4 (some .int) ∈ Tg := tg_t 290 (by decide +kernel) (by decide +kernel)
theorem q_195 : Cond.methodLink R_O 104 y_O_isSheet ∈ Tg := tg_t 291 (by decide +kernel) (by decide +kernel)
theorem q_196 : Cond.static y_O_isSheet ∈ Tg := tg_t 292 (by decide +kernel) (by decide +kernel)
theorem q_197 : Cond.code y_O_isSheet b_O_isSheet 1 (some .boolean) ∈ Tg := tg_t 293 (by decide +kernel) (by decide +kernel)
theorem q_198 : Cond.methodLink R_O 107 y_S_isLost ∈ Tg := tg_t 294 (by decide +kernel) (by decide +kernel)
theorem q_199 : Cond.instanceMethod y_S_isLost ∈ Tg := tg_t 295 (by decide +kernel) (by decide +kernel)
theorem q_200 : Cond.selects R_S y_S_isLost y_S_isLost ∈ Tg := tg_t 296 (by decide +kernel) (by decide +kernel)
theorem q_201 : Cond.code y_S_isLost b_S_isLost 2 (some .boolean) ∈ Tg := tg_t 297 (by decide +kernel) (by decide +kernel)
theorem q_202 : Cond.methodLink R_O 110 y_O_found ∈ Tg := tg_t 298 (by decide +kernel) (by decide +kernel)
theorem q_203 : Cond.instanceMethod y_O_found ∈ Tg := tg_t 300 (by decide +kernel) (by decide +kernel)
theorem q_204 : Cond.code y_O_found b_O_found 2 (some .int) ∈ Tg := tg_t 301 (by decide +kernel) (by decide +kernel)
theorem q_205 : Cond.methodLink R_O 113 y_S_sizeOf ∈ Tg := tg_t 302 (by decide +kernel) (by decide +kernel)
theorem q_206 : Cond.instanceMethod y_S_sizeOf ∈ Tg := tg_t 303 (by decide +kernel) (by decide +kernel)
theorem q_207 : Cond.selects R_S y_S_sizeOf y_S_sizeOf ∈ Tg := tg_t 304 (by decide +kernel) (by decide +kernel)
theorem q_208 : Cond.code y_S_sizeOf b_S_sizeOf 2 (some .int) ∈ Tg := tg_t 305 (by decide +kernel) (by decide +kernel)
theorem q_209 : Cond.methodLink R_O 116 y_S_item ∈ Tg := tg_t 306 (by decide +kernel) (by decide +kernel)
theorem q_210 : Cond.instanceMethod y_S_item ∈ Tg := tg_t 307 (by decide +kernel) (by decide +kernel)
theorem q_211 : Cond.selects R_S y_S_item y_S_item ∈ Tg := tg_t 308 (by decide +kernel) (by decide +kernel)
theorem q_212 : Cond.code y_S_item b_S_item 3 (some .int) ∈ Tg := tg_t 309 (by decide +kernel) (by decide +kernel)
theorem q_213 : Cond.methodLink R_O 120 y_O_group ∈ Tg := tg_t 310 (by decide +kernel) (by decide +kernel)
theorem q_214 : Cond.methodLink "OrderTreesLaw" 39 y_O_many ∈ Tg := tg_t 311 (by decide +kernel) (by decide +kernel)
theorem q_215 : Cond.instanceMethod y_O_many ∈ Tg := tg_t 312 (by decide +kernel) (by decide +kernel)
theorem q_216 : Cond.selects R_O y_O_many y_O_many ∈ Tg := tg_t 313 (by decide +kernel) (by decide +kernel)
theorem q_217 : Cond.code y_O_many b_O_many 1 (some .long) ∈ Tg := tg_t 314 (by decide +kernel) (by decide +kernel)
theorem q_218 : Cond.methodLink R_O 123 y_T_rowCount ∈ Tg := tg_t 315 (by decide +kernel) (by decide +kernel)
theorem q_219 : Cond.instanceMethod y_T_rowCount ∈ Tg := tg_t 316 (by decide +kernel) (by decide +kernel)
theorem q_220 : Cond.selects R_T y_T_rowCount y_T_rowCount ∈ Tg := tg_t 317 (by decide +kernel) (by decide +kernel)
theorem q_221 : Cond.code y_T_rowCount b_T_rowCount 4 (some .long) ∈ Tg := tg_t 318 (by decide +kernel) (by decide +kernel)
theorem q_222 : Cond.methodLink R_T 144 y_T_ways ∈ Tg := tg_t 319 (by decide +kernel) (by decide +kernel)
theorem q_223 : Cond.instanceMethod y_T_ways ∈ Tg := tg_t 321 (by decide +kernel) (by decide +kernel)
theorem q_224 : Cond.code y_T_ways b_T_ways 2 (some .int) ∈ Tg := tg_t 322 (by decide +kernel) (by decide +kernel)
theorem q_225 : Cond.static y_O_factorial ∈ Tg := tg_t 324 (by decide +kernel) (by decide +kernel)
theorem q_226 : Cond.code y_O_factorial b_O_factorial 1 (some .int) ∈ Tg := tg_t 325 (by decide +kernel) (by decide +kernel)
theorem q_227 : Cond.fieldLink R_O 256 "OrderTrees" "FACTORIALS" "[I" ∈ Tg := tg_t 326 (by decide +kernel) (by decide +kernel)
theorem q_228 : Cond.methodLink "OrderTreesLaw" 44 y_O_tree ∈ Tg := tg_t 328 (by decide +kernel) (by decide +kernel)
theorem q_229 : Cond.instanceMethod y_O_tree ∈ Tg := tg_t 329 (by decide +kernel) (by decide +kernel)
theorem q_230 : Cond.selects R_O y_O_tree y_O_tree ∈ Tg := tg_t 330 (by decide +kernel) (by decide +kernel)
theorem q_231 : Cond.code y_O_tree b_O_tree 2 (some .int) ∈ Tg := tg_t 331 (by decide +kernel) (by decide +kernel)
theorem q_232 : Cond.methodLink "OrderTreesLaw" 48 y_O_node ∈ Tg := tg_t 332 (by decide +kernel) (by decide +kernel)
theorem q_233 : Cond.instanceMethod y_O_node ∈ Tg := tg_t 333 (by decide +kernel) (by decide +kernel)
theorem q_234 : Cond.selects R_O y_O_node y_O_node ∈ Tg := tg_t 334 (by decide +kernel) (by decide +kernel)
theorem q_235 : Cond.code y_O_node b_O_node 3 (some .int) ∈ Tg := tg_t 335 (by decide +kernel) (by decide +kernel)
theorem q_236 : Cond.methodLink R_O 127 y_T_nodeCount ∈ Tg := tg_t 336 (by decide +kernel) (by decide +kernel)
theorem q_237 : Cond.instanceMethod y_T_nodeCount ∈ Tg := tg_t 337 (by decide +kernel) (by decide +kernel)
theorem q_238 : Cond.selects R_T y_T_nodeCount y_T_nodeCount ∈ Tg := tg_t 338 (by decide +kernel) (by decide +kernel)
theorem q_239 : Cond.code y_T_nodeCount b_T_nodeCount 1 (some .int) ∈ Tg := tg_t 339 (by decide +kernel) (by decide +kernel)
theorem q_240 : Cond.methodLink R_O 131 y_T_isTurning ∈ Tg := tg_t 340 (by decide +kernel) (by decide +kernel)
theorem q_241 : Cond.instanceMethod y_T_isTurning ∈ Tg := tg_t 341 (by decide +kernel) (by decide +kernel)
theorem q_242 : Cond.selects R_T y_T_isTurning y_T_isTurning ∈ Tg := tg_t 342 (by decide +kernel) (by decide +kernel)
theorem q_243 : Cond.code y_T_isTurning b_T_isTurning 2 (some .boolean) ∈ Tg := tg_t 343 (by decide +kernel) (by decide +kernel)
theorem q_244 : Cond.methodLink R_O 134 y_T_partCount ∈ Tg := tg_t 344 (by decide +kernel) (by decide +kernel)
theorem q_245 : Cond.instanceMethod y_T_partCount ∈ Tg := tg_t 345 (by decide +kernel) (by decide +kernel)
theorem q_246 : Cond.selects R_T y_T_partCount y_T_partCount ∈ Tg := tg_t 346 (by decide +kernel) (by decide +kernel)
theorem q_247 : Cond.code y_T_partCount b_T_partCount 2 (some .int) ∈ Tg := tg_t 347 (by decide +kernel) (by decide +kernel)
theorem q_248 : Cond.methodLink R_O 137 y_T_thingsOf ∈ Tg := tg_t 348 (by decide +kernel) (by decide +kernel)
theorem q_249 : Cond.instanceMethod y_T_thingsOf ∈ Tg := tg_t 349 (by decide +kernel) (by decide +kernel)
theorem q_250 : Cond.selects R_T y_T_thingsOf y_T_thingsOf ∈ Tg := tg_t 350 (by decide +kernel) (by decide +kernel)
theorem q_251 : Cond.code y_T_thingsOf b_T_thingsOf 2 (some .int) ∈ Tg := tg_t 351 (by decide +kernel) (by decide +kernel)
theorem q_252 : Cond.methodLink "OrderTreesLaw" 53 y_O_row ∈ Tg := tg_t 352 (by decide +kernel) (by decide +kernel)
theorem q_253 : Cond.instanceMethod y_O_row ∈ Tg := tg_t 353 (by decide +kernel) (by decide +kernel)
theorem q_254 : Cond.selects R_O y_O_row y_O_row ∈ Tg := tg_t 354 (by decide +kernel) (by decide +kernel)
theorem q_255 : Cond.code y_O_row b_O_row 3 (some .int) ∈ Tg := tg_t 355 (by decide +kernel) (by decide +kernel)
theorem q_256 : Cond.methodLink R_O 140 y_O_isRowNumber ∈ Tg := tg_t 356 (by decide +kernel) (by decide +kernel)
theorem q_257 : Cond.static y_O_isRowNumber ∈ Tg := tg_t 357 (by decide +kernel) (by decide +kernel)
theorem q_258 : Cond.code y_O_isRowNumber b_O_isRowNumber 1 (some .boolean) ∈ Tg := tg_t 358 (by decide +kernel) (by decide +kernel)
theorem q_259 : Cond.constant R_O 255 (40320) ∈ Tg := tg_t 359 (by decide +kernel) (by decide +kernel)
theorem q_260 : Cond.methodLink R_O 143 y_T_layRow ∈ Tg := tg_t 360 (by decide +kernel) (by decide +kernel)
theorem q_261 : Cond.instanceMethod y_T_layRow ∈ Tg := tg_t 361 (by decide +kernel) (by decide +kernel)
theorem q_262 : Cond.selects R_T y_T_layRow y_T_layRow ∈ Tg := tg_t 362 (by decide +kernel) (by decide +kernel)
theorem q_263 : Cond.code y_T_layRow b_T_layRow 6 none ∈ Tg := tg_t 363 (by decide +kernel) (by decide +kernel)
theorem q_264 : Cond.methodLink R_T 150 Lib.Math.max.name ∈ Tg := tg_t 364 (by decide +kernel) (by decide +kernel)
theorem q_265 : Cond.static Lib.Math.max.name ∈ Tg := tg_t 365 (by decide +kernel) (by decide +kernel)
theorem q_266 : Cond.code Lib.Math.max.name Lib.Math.max.code 2 (some .int) ∈ Tg := tg_t 366 (by decide +kernel) (by decide +kernel)
theorem q_267 : Cond.methodLink R_T 155 y_T_layParts ∈ Tg := tg_t 367 (by decide +kernel) (by decide +kernel)
theorem q_268 : Cond.instanceMethod y_T_layParts ∈ Tg := tg_t 369 (by decide +kernel) (by decide +kernel)
theorem q_269 : Cond.code y_T_layParts b_T_layParts 10 none ∈ Tg := tg_t 370 (by decide +kernel) (by decide +kernel)
theorem q_270 : Cond.methodLink R_T 161 y_T_nthBit ∈ Tg := tg_t 371 (by decide +kernel) (by decide +kernel)
theorem q_271 : Cond.static y_T_nthBit ∈ Tg := tg_t 372 (by decide +kernel) (by decide +kernel)
theorem q_272 : Cond.code y_T_nthBit b_T_nthBit 4 (some .int) ∈ Tg := tg_t 373 (by decide +kernel) (by decide +kernel)
theorem q_273 : Cond.methodLink "OrderTreesLaw" 57 y_O_may ∈ Tg := tg_t 374 (by decide +kernel) (by decide +kernel)
theorem q_274 : Cond.instanceMethod y_O_may ∈ Tg := tg_t 375 (by decide +kernel) (by decide +kernel)
theorem q_275 : Cond.selects R_O y_O_may y_O_may ∈ Tg := tg_t 376 (by decide +kernel) (by decide +kernel)
theorem q_276 : Cond.code y_O_may b_O_may 2 (some .int) ∈ Tg := tg_t 377 (by decide +kernel) (by decide +kernel)
theorem q_277 : Cond.methodLink R_O 147 y_O_isSetOfThings ∈ Tg := tg_t 378 (by decide +kernel) (by decide +kernel)
theorem q_278 : Cond.instanceMethod y_O_isSetOfThings ∈ Tg := tg_t 380 (by decide +kernel) (by decide +kernel)
theorem q_279 : Cond.code y_O_isSetOfThings b_O_isSetOfThings 2 (some .boolean) ∈ Tg := tg_t 381 (by decide +kernel) (by decide +kernel)
theorem q_280 : Cond.methodLink "OrderTreesLaw" 61 y_O_must ∈ Tg := tg_t 382 (by decide +kernel) (by decide +kernel)
theorem q_281 : Cond.instanceMethod y_O_must ∈ Tg := tg_t 383 (by decide +kernel) (by decide +kernel)
theorem q_282 : Cond.selects R_O y_O_must y_O_must ∈ Tg := tg_t 384 (by decide +kernel) (by decide +kernel)
theorem q_283 : Cond.code y_O_must b_O_must 2 (some .int) ∈ Tg := tg_t 385 (by decide +kernel) (by decide +kernel)
theorem q_284 : Cond.methodLink "OrderTreesLaw" 65 y_O_apart ∈ Tg := tg_t 386 (by decide +kernel) (by decide +kernel)
theorem q_285 : Cond.instanceMethod y_O_apart ∈ Tg := tg_t 387 (by decide +kernel) (by decide +kernel)
theorem q_286 : Cond.selects R_O y_O_apart y_O_apart ∈ Tg := tg_t 388 (by decide +kernel) (by decide +kernel)
theorem q_287 : Cond.code y_O_apart b_O_apart 4 (some .int) ∈ Tg := tg_t 389 (by decide +kernel) (by decide +kernel)
theorem q_288 : Cond.methodLink R_O 150 y_O_isThing ∈ Tg := tg_t 390 (by decide +kernel) (by decide +kernel)
theorem q_289 : Cond.instanceMethod y_O_isThing ∈ Tg := tg_t 392 (by decide +kernel) (by decide +kernel)
theorem q_290 : Cond.code y_O_isThing b_O_isThing 2 (some .boolean) ∈ Tg := tg_t 393 (by decide +kernel) (by decide +kernel)
theorem q_291 : Cond.methodLink R_O 153 y_T_between ∈ Tg := tg_t 394 (by decide +kernel) (by decide +kernel)
theorem q_292 : Cond.instanceMethod y_T_between ∈ Tg := tg_t 395 (by decide +kernel) (by decide +kernel)
theorem q_293 : Cond.selects R_T y_T_between y_T_between ∈ Tg := tg_t 396 (by decide +kernel) (by decide +kernel)
theorem q_294 : Cond.code y_T_between b_T_between 9 (some .int) ∈ Tg := tg_t 397 (by decide +kernel) (by decide +kernel)
theorem q_295 : Cond.methodLink R_T 171 y_T_besideIn ∈ Tg := tg_t 398 (by decide +kernel) (by decide +kernel)
theorem q_296 : Cond.instanceMethod y_T_besideIn ∈ Tg := tg_t 400 (by decide +kernel) (by decide +kernel)
theorem q_297 : Cond.code y_T_besideIn b_T_besideIn 9 (some .int) ∈ Tg := tg_t 401 (by decide +kernel) (by decide +kernel)
theorem q_298 : Cond.methodLink R_T 179 Lib.Math.min.name ∈ Tg := tg_t 402 (by decide +kernel) (by decide +kernel)
theorem q_299 : Cond.static Lib.Math.min.name ∈ Tg := tg_t 403 (by decide +kernel) (by decide +kernel)
theorem q_300 : Cond.code Lib.Math.min.name Lib.Math.min.code 2 (some .int) ∈ Tg := tg_t 404 (by decide +kernel) (by decide +kernel)
theorem q_301 : Cond.methodLink R_T 175 y_T_betweenIn ∈ Tg := tg_t 405 (by decide +kernel) (by decide +kernel)
theorem q_302 : Cond.instanceMethod y_T_betweenIn ∈ Tg := tg_t 407 (by decide +kernel) (by decide +kernel)
theorem q_303 : Cond.code y_T_betweenIn b_T_betweenIn 10 (some .int) ∈ Tg := tg_t 408 (by decide +kernel) (by decide +kernel)
theorem q_304 : Cond.methodLink "OrderTreesLaw" 70 y_O_spare ∈ Tg := tg_t 409 (by decide +kernel) (by decide +kernel)
theorem q_305 : Cond.instanceMethod y_O_spare ∈ Tg := tg_t 410 (by decide +kernel) (by decide +kernel)
theorem q_306 : Cond.selects R_O y_O_spare y_O_spare ∈ Tg := tg_t 411 (by decide +kernel) (by decide +kernel)
theorem q_307 : Cond.code y_O_spare b_O_spare 6 (some .int) ∈ Tg := tg_t 412 (by decide +kernel) (by decide +kernel)
theorem q_308 : Cond.methodLink "OrderTreesLaw" 74 y_O_type ∈ Tg := tg_t 413 (by decide +kernel) (by decide +kernel)
theorem q_309 : Cond.instanceMethod y_O_type ∈ Tg := tg_t 414 (by decide +kernel) (by decide +kernel)
theorem q_310 : Cond.selects R_O y_O_type y_O_type ∈ Tg := tg_t 415 (by decide +kernel) (by decide +kernel)
theorem q_311 : Cond.code y_O_type b_O_type 2 (some .int) ∈ Tg := tg_t 416 (by decide +kernel) (by decide +kernel)
theorem q_312 : Cond.methodLink "OrderTreesLaw" 78 y_O_wipe ∈ Tg := tg_t 417 (by decide +kernel) (by decide +kernel)
theorem q_313 : Cond.instanceMethod y_O_wipe ∈ Tg := tg_t 418 (by decide +kernel) (by decide +kernel)
theorem q_314 : Cond.selects R_O y_O_wipe y_O_wipe ∈ Tg := tg_t 419 (by decide +kernel) (by decide +kernel)
theorem q_315 : Cond.code y_O_wipe b_O_wipe 2 (some .int) ∈ Tg := tg_t 420 (by decide +kernel) (by decide +kernel)
theorem q_316 : Cond.methodLink "OrderTreesLaw" 82 y_O_undo ∈ Tg := tg_t 421 (by decide +kernel) (by decide +kernel)
theorem q_317 : Cond.instanceMethod y_O_undo ∈ Tg := tg_t 422 (by decide +kernel) (by decide +kernel)
theorem q_318 : Cond.selects R_O y_O_undo y_O_undo ∈ Tg := tg_t 423 (by decide +kernel) (by decide +kernel)
theorem q_319 : Cond.code y_O_undo b_O_undo 1 (some .int) ∈ Tg := tg_t 424 (by decide +kernel) (by decide +kernel)
theorem q_320 : Cond.methodLink "OrderTreesLaw" 86 y_O_fault ∈ Tg := tg_t 425 (by decide +kernel) (by decide +kernel)
theorem q_321 : Cond.instanceMethod y_O_fault ∈ Tg := tg_t 426 (by decide +kernel) (by decide +kernel)
theorem q_322 : Cond.selects R_O y_O_fault y_O_fault ∈ Tg := tg_t 427 (by decide +kernel) (by decide +kernel)
theorem q_323 : Cond.code y_O_fault b_O_fault 4 (some .int) ∈ Tg := tg_t 428 (by decide +kernel) (by decide +kernel)
theorem q_324 : Cond.methodLink "OrderTreesLaw" 90 y_O_misses ∈ Tg := tg_t 429 (by decide +kernel) (by decide +kernel)
theorem q_325 : Cond.instanceMethod y_O_misses ∈ Tg := tg_t 430 (by decide +kernel) (by decide +kernel)
theorem q_326 : Cond.selects R_O y_O_misses y_O_misses ∈ Tg := tg_t 431 (by decide +kernel) (by decide +kernel)
theorem q_327 : Cond.code y_O_misses b_O_misses 3 (some .int) ∈ Tg := tg_t 432 (by decide +kernel) (by decide +kernel)
theorem q_328 : Cond.methodLink R_O 157 y_O_fault ∈ Tg := tg_t 433 (by decide +kernel) (by decide +kernel)
theorem q_329 : Cond.methodLink R_O 160 y_O_findPlaces ∈ Tg := tg_t 434 (by decide +kernel) (by decide +kernel)
theorem q_330 : Cond.instanceMethod y_O_findPlaces ∈ Tg := tg_t 436 (by decide +kernel) (by decide +kernel)
theorem q_331 : Cond.code y_O_findPlaces b_O_findPlaces 3 none ∈ Tg := tg_t 437 (by decide +kernel) (by decide +kernel)
theorem q_332 : Cond.methodLink R_O 163 y_O_isSideBySide ∈ Tg := tg_t 438 (by decide +kernel) (by decide +kernel)
theorem q_333 : Cond.instanceMethod y_O_isSideBySide ∈ Tg := tg_t 440 (by decide +kernel) (by decide +kernel)
theorem q_334 : Cond.code y_O_isSideBySide b_O_isSideBySide 6 (some .boolean) ∈ Tg := tg_t 441 (by decide +kernel) (by decide +kernel)
theorem q_335 : Cond.methodLink R_O 201 Lib.Math.min.name ∈ Tg := tg_t 442 (by decide +kernel) (by decide +kernel)
theorem q_336 : Cond.methodLink R_O 252 Lib.Math.max.name ∈ Tg := tg_t 443 (by decide +kernel) (by decide +kernel)
theorem q_337 : Cond.methodLink "OrderTreesLaw" 94 y_O_number ∈ Tg := tg_t 444 (by decide +kernel) (by decide +kernel)
theorem q_338 : Cond.instanceMethod y_O_number ∈ Tg := tg_t 445 (by decide +kernel) (by decide +kernel)
theorem q_339 : Cond.selects R_O y_O_number y_O_number ∈ Tg := tg_t 446 (by decide +kernel) (by decide +kernel)
theorem q_340 : Cond.code y_O_number b_O_number 2 (some .int) ∈ Tg := tg_t 447 (by decide +kernel) (by decide +kernel)
theorem q_341 : Cond.methodLink R_O 166 y_O_misses ∈ Tg := tg_t 448 (by decide +kernel) (by decide +kernel)
theorem q_342 : Cond.methodLink R_O 169 y_T_numberOf ∈ Tg := tg_t 449 (by decide +kernel) (by decide +kernel)
theorem q_343 : Cond.instanceMethod y_T_numberOf ∈ Tg := tg_t 450 (by decide +kernel) (by decide +kernel)
theorem q_344 : Cond.selects R_T y_T_numberOf y_T_numberOf ∈ Tg := tg_t 451 (by decide +kernel) (by decide +kernel)
theorem q_345 : Cond.code y_T_numberOf b_T_numberOf 4 (some .int) ∈ Tg := tg_t 452 (by decide +kernel) (by decide +kernel)
theorem q_346 : Cond.methodLink R_T 164 y_T_wayOf ∈ Tg := tg_t 453 (by decide +kernel) (by decide +kernel)
theorem q_347 : Cond.instanceMethod y_T_wayOf ∈ Tg := tg_t 455 (by decide +kernel) (by decide +kernel)
theorem q_348 : Cond.code y_T_wayOf b_T_wayOf 9 (some .int) ∈ Tg := tg_t 456 (by decide +kernel) (by decide +kernel)
theorem q_349 : Cond.methodLink R_T 168 y_T_leastThing ∈ Tg := tg_t 457 (by decide +kernel) (by decide +kernel)
theorem q_350 : Cond.instanceMethod y_T_leastThing ∈ Tg := tg_t 459 (by decide +kernel) (by decide +kernel)
theorem q_351 : Cond.code y_T_leastThing b_T_leastThing 2 (some .int) ∈ Tg := tg_t 460 (by decide +kernel) (by decide +kernel)
theorem q_352 : Cond.methodLink "OrderTreesLaw" 98 y_O_sheet ∈ Tg := tg_t 461 (by decide +kernel) (by decide +kernel)
theorem q_353 : Cond.instanceMethod y_O_sheet ∈ Tg := tg_t 462 (by decide +kernel) (by decide +kernel)
theorem q_354 : Cond.selects R_O y_O_sheet y_O_sheet ∈ Tg := tg_t 463 (by decide +kernel) (by decide +kernel)
theorem q_355 : Cond.code y_O_sheet b_O_sheet 4 (some .int) ∈ Tg := tg_t 464 (by decide +kernel) (by decide +kernel)
theorem q_356 : Cond.methodLink R_O 172 y_O_isForm ∈ Tg := tg_t 465 (by decide +kernel) (by decide +kernel)
theorem q_357 : Cond.static y_O_isForm ∈ Tg := tg_t 466 (by decide +kernel) (by decide +kernel)
theorem q_358 : Cond.code y_O_isForm b_O_isForm 1 (some .boolean) ∈ Tg := tg_t 467 (by decide +kernel) (by decide +kernel)
theorem q_359 : Cond.methodLink R_O 175 y_S_lay ∈ Tg := tg_t 468 (by decide +kernel) (by decide +kernel)
theorem q_360 : Cond.instanceMethod y_S_lay ∈ Tg := tg_t 469 (by decide +kernel) (by decide +kernel)
theorem q_361 : Cond.selects R_S y_S_lay y_S_lay ∈ Tg := tg_t 470 (by decide +kernel) (by decide +kernel)
theorem q_362 : Cond.code y_S_lay b_S_lay 5 none ∈ Tg := tg_t 471 (by decide +kernel) (by decide +kernel)
theorem q_363 : Cond.methodLink "OrderTreesLaw" 102 y_O_lose ∈ Tg := tg_t 472 (by decide +kernel) (by decide +kernel)
theorem q_364 : Cond.instanceMethod y_O_lose ∈ Tg := tg_t 473 (by decide +kernel) (by decide +kernel)
theorem q_365 : Cond.selects R_O y_O_lose y_O_lose ∈ Tg := tg_t 474 (by decide +kernel) (by decide +kernel)
theorem q_366 : Cond.code y_O_lose b_O_lose 3 (some .int) ∈ Tg := tg_t 475 (by decide +kernel) (by decide +kernel)
theorem q_367 : Cond.methodLink R_O 179 y_S_drop ∈ Tg := tg_t 476 (by decide +kernel) (by decide +kernel)
theorem q_368 : Cond.instanceMethod y_S_drop ∈ Tg := tg_t 477 (by decide +kernel) (by decide +kernel)
theorem q_369 : Cond.selects R_S y_S_drop y_S_drop ∈ Tg := tg_t 478 (by decide +kernel) (by decide +kernel)
theorem q_370 : Cond.code y_S_drop b_S_drop 2 none ∈ Tg := tg_t 479 (by decide +kernel) (by decide +kernel)
theorem q_371 : Cond.methodLink "OrderTreesLaw" 106 y_O_put ∈ Tg := tg_t 480 (by decide +kernel) (by decide +kernel)
theorem q_372 : Cond.instanceMethod y_O_put ∈ Tg := tg_t 481 (by decide +kernel) (by decide +kernel)
theorem q_373 : Cond.selects R_O y_O_put y_O_put ∈ Tg := tg_t 482 (by decide +kernel) (by decide +kernel)
theorem q_374 : Cond.code y_O_put b_O_put 6 (some .int) ∈ Tg := tg_t 483 (by decide +kernel) (by decide +kernel)
theorem q_375 : Cond.methodLink R_O 182 y_O_findingOf ∈ Tg := tg_t 484 (by decide +kernel) (by decide +kernel)
theorem q_376 : Cond.instanceMethod y_O_findingOf ∈ Tg := tg_t 486 (by decide +kernel) (by decide +kernel)
theorem q_377 : Cond.code y_O_findingOf b_O_findingOf 4 (some .int) ∈ Tg := tg_t 487 (by decide +kernel) (by decide +kernel)
theorem q_378 : Cond.methodLink R_O 190 y_S_formOf ∈ Tg := tg_t 488 (by decide +kernel) (by decide +kernel)
theorem q_379 : Cond.instanceMethod y_S_formOf ∈ Tg := tg_t 489 (by decide +kernel) (by decide +kernel)
theorem q_380 : Cond.selects R_S y_S_formOf y_S_formOf ∈ Tg := tg_t 490 (by decide +kernel) (by decide +kernel)
theorem q_381 : Cond.code y_S_formOf b_S_formOf 2 (some .int) ∈ Tg := tg_t 491 (by decide +kernel) (by decide +kernel)
theorem q_382 : Cond.methodLink R_O 186 y_S_setItem ∈ Tg := tg_t 492 (by decide +kernel) (by decide +kernel)
theorem q_383 : Cond.instanceMethod y_S_setItem ∈ Tg := tg_t 493 (by decide +kernel) (by decide +kernel)
theorem q_384 : Cond.selects R_S y_S_setItem y_S_setItem ∈ Tg := tg_t 494 (by decide +kernel) (by decide +kernel)
theorem q_385 : Cond.code y_S_setItem b_S_setItem 5 none ∈ Tg := tg_t 495 (by decide +kernel) (by decide +kernel)
theorem q_386 : Cond.methodLink "OrderTreesLaw" 111 y_O_get ∈ Tg := tg_t 496 (by decide +kernel) (by decide +kernel)
theorem q_387 : Cond.instanceMethod y_O_get ∈ Tg := tg_t 497 (by decide +kernel) (by decide +kernel)
theorem q_388 : Cond.selects R_O y_O_get y_O_get ∈ Tg := tg_t 498 (by decide +kernel) (by decide +kernel)
theorem q_389 : Cond.code y_O_get b_O_get 5 (some .int) ∈ Tg := tg_t 499 (by decide +kernel) (by decide +kernel)
theorem q_390 : Cond.constant R_O 189 (-2147483648) ∈ Tg := tg_t 500 (by decide +kernel) (by decide +kernel)
theorem q_391 : Cond.methodLink "OrderTreesLaw" 115 y_O_copy ∈ Tg := tg_t 501 (by decide +kernel) (by decide +kernel)
theorem q_392 : Cond.instanceMethod y_O_copy ∈ Tg := tg_t 502 (by decide +kernel) (by decide +kernel)
theorem q_393 : Cond.selects R_O y_O_copy y_O_copy ∈ Tg := tg_t 503 (by decide +kernel) (by decide +kernel)
theorem q_394 : Cond.code y_O_copy b_O_copy 6 (some .int) ∈ Tg := tg_t 504 (by decide +kernel) (by decide +kernel)
theorem q_395 : Cond.methodLink R_O 193 y_S_hasItems ∈ Tg := tg_t 505 (by decide +kernel) (by decide +kernel)
theorem q_396 : Cond.instanceMethod y_S_hasItems ∈ Tg := tg_t 506 (by decide +kernel) (by decide +kernel)
theorem q_397 : Cond.selects R_S y_S_hasItems y_S_hasItems ∈ Tg := tg_t 507 (by decide +kernel) (by decide +kernel)
theorem q_398 : Cond.code y_S_hasItems b_S_hasItems 4 (some .boolean) ∈ Tg := tg_t 508 (by decide +kernel) (by decide +kernel)
theorem q_399 : Cond.methodLink R_O 197 y_S_move ∈ Tg := tg_t 509 (by decide +kernel) (by decide +kernel)
theorem q_400 : Cond.instanceMethod y_S_move ∈ Tg := tg_t 510 (by decide +kernel) (by decide +kernel)
theorem q_401 : Cond.selects R_S y_S_move y_S_move ∈ Tg := tg_t 511 (by decide +kernel) (by decide +kernel)
theorem q_402 : Cond.code y_S_move b_S_move 6 none ∈ Tg := tg_t 512 (by decide +kernel) (by decide +kernel)
theorem q_403 : Cond.methodLink R_S 19 arraycopyName ∈ Tg := tg_t 513 (by decide +kernel) (by decide +kernel)
theorem q_404 : Cond.static arraycopyName ∈ Tg := tg_t 514 (by decide +kernel) (by decide +kernel)
theorem q_405 : Cond.native arraycopyName ∈ Tg := tg_t 515 (by decide +kernel) (by decide +kernel)
theorem q_406 : Cond.methodLink "OrderTreesLaw" 120 y_O_write ∈ Tg := tg_t 516 (by decide +kernel) (by decide +kernel)
theorem q_407 : Cond.instanceMethod y_O_write ∈ Tg := tg_t 517 (by decide +kernel) (by decide +kernel)
theorem q_408 : Cond.selects R_O y_O_write y_O_write ∈ Tg := tg_t 518 (by decide +kernel) (by decide +kernel)
theorem q_409 : Cond.code y_O_write b_O_write 5 (some .int) ∈ Tg := tg_t 519 (by decide +kernel) (by decide +kernel)
theorem q_410 : Cond.methodLink "OrderTreesLaw" 124 y_O_count ∈ Tg := tg_t 520 (by decide +kernel) (by decide +kernel)
theorem q_411 : Cond.instanceMethod y_O_count ∈ Tg := tg_t 521 (by decide +kernel) (by decide +kernel)
theorem q_412 : Cond.selects R_O y_O_count y_O_count ∈ Tg := tg_t 522 (by decide +kernel) (by decide +kernel)
theorem q_413 : Cond.code y_O_count b_O_count 2 (some .int) ∈ Tg := tg_t 523 (by decide +kernel) (by decide +kernel)
theorem q_414 : Cond.methodLink R_O 206 y_T_turningCount ∈ Tg := tg_t 524 (by decide +kernel) (by decide +kernel)
theorem q_415 : Cond.instanceMethod y_T_turningCount ∈ Tg := tg_t 525 (by decide +kernel) (by decide +kernel)
theorem q_416 : Cond.selects R_T y_T_turningCount y_T_turningCount ∈ Tg := tg_t 526 (by decide +kernel) (by decide +kernel)
theorem q_417 : Cond.code y_T_turningCount b_T_turningCount 3 (some .int) ∈ Tg := tg_t 527 (by decide +kernel) (by decide +kernel)
theorem q_418 : Cond.methodLink "OrderTreesLaw" 128 y_O_digest ∈ Tg := tg_t 528 (by decide +kernel) (by decide +kernel)
theorem q_419 : Cond.instanceMethod y_O_digest ∈ Tg := tg_t 529 (by decide +kernel) (by decide +kernel)
theorem q_420 : Cond.selects R_O y_O_digest y_O_digest ∈ Tg := tg_t 530 (by decide +kernel) (by decide +kernel)
theorem q_421 : Cond.code y_O_digest b_O_digest 8 (some .long) ∈ Tg := tg_t 531 (by decide +kernel) (by decide +kernel)
theorem q_422 : Cond.constantLong R_O 209 (17) ∈ Tg := tg_t 532 (by decide +kernel) (by decide +kernel)
theorem q_423 : Cond.constantLong R_O 211 (31) ∈ Tg := tg_t 533 (by decide +kernel) (by decide +kernel)
theorem q_424 : Cond.methodLink R_O 213 y_O_count ∈ Tg := tg_t 534 (by decide +kernel) (by decide +kernel)
theorem q_425 : Cond.methodLink R_O 216 y_O_reason ∈ Tg := tg_t 535 (by decide +kernel) (by decide +kernel)
theorem q_426 : Cond.methodLink R_O 219 y_O_many ∈ Tg := tg_t 536 (by decide +kernel) (by decide +kernel)
theorem q_427 : Cond.methodLink R_O 222 y_O_tree ∈ Tg := tg_t 537 (by decide +kernel) (by decide +kernel)
theorem q_428 : Cond.methodLink R_O 225 y_O_node ∈ Tg := tg_t 538 (by decide +kernel) (by decide +kernel)
theorem q_429 : Cond.fieldLink R_O 228 "OrderTrees" "DIGEST_ROWS" "[I" ∈ Tg := tg_t 539 (by decide +kernel) (by decide +kernel)
theorem q_430 : Cond.methodLink R_O 231 y_O_row ∈ Tg := tg_t 541 (by decide +kernel) (by decide +kernel)
theorem q_431 : Cond.fieldLink R_O 234 "OrderTrees" "DIGEST_SETS" "[I" ∈ Tg := tg_t 542 (by decide +kernel) (by decide +kernel)
theorem q_432 : Cond.methodLink R_O 237 y_O_may ∈ Tg := tg_t 544 (by decide +kernel) (by decide +kernel)
theorem q_433 : Cond.methodLink R_O 240 y_O_must ∈ Tg := tg_t 545 (by decide +kernel) (by decide +kernel)
theorem q_434 : Cond.methodLink R_O 243 y_O_apart ∈ Tg := tg_t 546 (by decide +kernel) (by decide +kernel)
theorem q_435 : Cond.methodLink R_O 246 y_O_spare ∈ Tg := tg_t 547 (by decide +kernel) (by decide +kernel)
theorem q_436 : Cond.methodLink R_O 249 y_O_number ∈ Tg := tg_t 548 (by decide +kernel) (by decide +kernel)
theorem q_437 : Cond.classLink "OrderTreesLaw" 10 R_M ∈ Tg := tg_t 549 (by decide +kernel) (by decide +kernel)
theorem q_438 : Cond.instantiable R_M 30 ∈ Tg := tg_t 550 (by decide +kernel) (by decide +kernel)
theorem q_439 : Cond.methodLink "OrderTreesLaw" 12 y_M_init ∈ Tg := tg_t 551 (by decide +kernel) (by decide +kernel)
theorem q_440 : Cond.instanceMethod y_M_init ∈ Tg := tg_t 552 (by decide +kernel) (by decide +kernel)
theorem q_441 : Cond.code y_M_init b_M_init 1 none ∈ Tg := tg_t 553 (by decide +kernel) (by decide +kernel)
theorem q_442 : Cond.methodLink R_M 1 objectInit ∈ Tg := tg_t 554 (by decide +kernel) (by decide +kernel)
theorem q_443 : Cond.fieldLink R_M 7 "OrderTreesModel" "thingsTold" "I" ∈ Tg := tg_t 555 (by decide +kernel) (by decide +kernel)
theorem q_444 : Cond.fieldLink R_M 93 "OrderTreesModel" "groups" "I" ∈ Tg := tg_t 556 (by decide +kernel) (by decide +kernel)
theorem q_445 : Cond.fieldLink R_M 13 "OrderTreesModel" "groupSet" "[I" ∈ Tg := tg_t 557 (by decide +kernel) (by decide +kernel)
theorem q_446 : Cond.fieldLink R_M 17 "OrderTreesModel" "ways" "[I" ∈ Tg := tg_t 558 (by decide +kernel) (by decide +kernel)
theorem q_447 : Cond.fieldLink R_M 20 "OrderTreesModel" "go" "[I" ∈ Tg := tg_t 559 (by decide +kernel) (by decide +kernel)
theorem q_448 : Cond.fieldLink R_M 23 "OrderTreesModel" "ends" "[I" ∈ Tg := tg_t 560 (by decide +kernel) (by decide +kernel)
theorem q_449 : Cond.fieldLink R_M 26 "OrderTreesModel" "sure" "[I" ∈ Tg := tg_t 561 (by decide +kernel) (by decide +kernel)
theorem q_450 : Cond.fieldLink R_M 156 "OrderTreesModel" "nodes" "I" ∈ Tg := tg_t 562 (by decide +kernel) (by decide +kernel)
theorem q_451 : Cond.fieldLink R_M 29 "OrderTreesModel" "nodeSet" "[I" ∈ Tg := tg_t 563 (by decide +kernel) (by decide +kernel)
theorem q_452 : Cond.fieldLink R_M 32 "OrderTreesModel" "nodeKind" "[I" ∈ Tg := tg_t 564 (by decide +kernel) (by decide +kernel)
theorem q_453 : Cond.fieldLink R_M 35 "OrderTreesModel" "nodeParts" "[I" ∈ Tg := tg_t 565 (by decide +kernel) (by decide +kernel)
theorem q_454 : Cond.fieldLink R_M 38 "OrderTreesModel" "partSet" "[I" ∈ Tg := tg_t 566 (by decide +kernel) (by decide +kernel)
theorem q_455 : Cond.fieldLink R_M 159 "OrderTreesModel" "shownMany" "I" ∈ Tg := tg_t 567 (by decide +kernel) (by decide +kernel)
theorem q_456 : Cond.fieldLink R_M 41 "OrderTreesModel" "shown" "[I" ∈ Tg := tg_t 568 (by decide +kernel) (by decide +kernel)
theorem q_457 : Cond.fieldLink R_M 44 "OrderTreesModel" "isNode" "[I" ∈ Tg := tg_t 569 (by decide +kernel) (by decide +kernel)
theorem q_458 : Cond.fieldLink R_M 47 "OrderTreesModel" "pile" "[I" ∈ Tg := tg_t 570 (by decide +kernel) (by decide +kernel)
theorem q_459 : Cond.fieldLink R_M 50 "OrderTreesModel" "wayOf" "[I" ∈ Tg := tg_t 571 (by decide +kernel) (by decide +kernel)
theorem q_460 : Cond.fieldLink R_M 53 "OrderTreesModel" "rowNow" "[I" ∈ Tg := tg_t 572 (by decide +kernel) (by decide +kernel)
theorem q_461 : Cond.fieldLink R_M 56 "OrderTreesModel" "order" "[I" ∈ Tg := tg_t 573 (by decide +kernel) (by decide +kernel)
theorem q_462 : Cond.fieldLink R_M 59 "OrderTreesModel" "since" "[I" ∈ Tg := tg_t 574 (by decide +kernel) (by decide +kernel)
theorem q_463 : Cond.fieldLink R_M 205 "OrderTreesModel" "nearest" "I" ∈ Tg := tg_t 575 (by decide +kernel) (by decide +kernel)
theorem q_464 : Cond.fieldLink R_M 208 "OrderTreesModel" "farthest" "I" ∈ Tg := tg_t 576 (by decide +kernel) (by decide +kernel)
theorem q_465 : Cond.fieldLink R_M 223 "OrderTreesModel" "typed" "I" ∈ Tg := tg_t 577 (by decide +kernel) (by decide +kernel)
theorem q_466 : Cond.fieldLink R_M 62 "OrderTreesModel" "text" "[I" ∈ Tg := tg_t 578 (by decide +kernel) (by decide +kernel)
theorem q_467 : Cond.fieldLink R_M 65 "OrderTreesModel" "isThere" "[Z" ∈ Tg := tg_t 579 (by decide +kernel) (by decide +kernel)
theorem q_468 : Cond.fieldLink R_M 69 "OrderTreesModel" "forms" "[I" ∈ Tg := tg_t 580 (by decide +kernel) (by decide +kernel)
theorem q_469 : Cond.fieldLink R_M 72 "OrderTreesModel" "sizes" "[I" ∈ Tg := tg_t 581 (by decide +kernel) (by decide +kernel)
theorem q_470 : Cond.fieldLink R_M 75 "OrderTreesModel" "items" "[I" ∈ Tg := tg_t 582 (by decide +kernel) (by decide +kernel)
theorem q_471 : Cond.fieldLink R_M 78 "OrderTreesModel" "moved" "[I" ∈ Tg := tg_t 583 (by decide +kernel) (by decide +kernel)
theorem q_472 : Cond.fieldLink R_M 248 "OrderTreesModel" "finding" "I" ∈ Tg := tg_t 584 (by decide +kernel) (by decide +kernel)
theorem q_473 : Cond.arrayClass .boolean ∈ Tg := tg_t 646 (by decide +kernel) (by decide +kernel)
theorem q_474 : Cond.methodLink "OrderTreesLaw" 17 y_M_things ∈ Tg := tg_t 647 (by decide +kernel) (by decide +kernel)
theorem q_475 : Cond.instanceMethod y_M_things ∈ Tg := tg_t 648 (by decide +kernel) (by decide +kernel)
theorem q_476 : Cond.selects R_M y_M_things y_M_things ∈ Tg := tg_t 649 (by decide +kernel) (by decide +kernel)
theorem q_477 : Cond.code y_M_things b_M_things 3 (some .int) ∈ Tg := tg_t 650 (by decide +kernel) (by decide +kernel)
theorem q_478 : Cond.methodLink R_M 85 y_M_in ∈ Tg := tg_t 651 (by decide +kernel) (by decide +kernel)
theorem q_479 : Cond.static y_M_in ∈ Tg := tg_t 652 (by decide +kernel) (by decide +kernel)
theorem q_480 : Cond.code y_M_in b_M_in 3 (some .boolean) ∈ Tg := tg_t 653 (by decide +kernel) (by decide +kernel)
theorem q_481 : Cond.methodLink "OrderTreesLaw" 21 y_M_group ∈ Tg := tg_t 654 (by decide +kernel) (by decide +kernel)
theorem q_482 : Cond.instanceMethod y_M_group ∈ Tg := tg_t 655 (by decide +kernel) (by decide +kernel)
theorem q_483 : Cond.selects R_M y_M_group y_M_group ∈ Tg := tg_t 656 (by decide +kernel) (by decide +kernel)
theorem q_484 : Cond.code y_M_group b_M_group 2 (some .int) ∈ Tg := tg_t 657 (by decide +kernel) (by decide +kernel)
theorem q_485 : Cond.methodLink R_M 100 y_M_adds ∈ Tg := tg_t 658 (by decide +kernel) (by decide +kernel)
theorem q_486 : Cond.instanceMethod y_M_adds ∈ Tg := tg_t 660 (by decide +kernel) (by decide +kernel)
theorem q_487 : Cond.code y_M_adds b_M_adds 2 (some .int) ∈ Tg := tg_t 661 (by decide +kernel) (by decide +kernel)
theorem q_488 : Cond.methodLink R_M 89 y_M_many ∈ Tg := tg_t 662 (by decide +kernel) (by decide +kernel)
theorem q_489 : Cond.static y_M_many ∈ Tg := tg_t 663 (by decide +kernel) (by decide +kernel)
theorem q_490 : Cond.code y_M_many b_M_many 3 (some .int) ∈ Tg := tg_t 664 (by decide +kernel) (by decide +kernel)
theorem q_491 : Cond.methodLink R_M 81 y_M_isIn ∈ Tg := tg_t 665 (by decide +kernel) (by decide +kernel)
theorem q_492 : Cond.static y_M_isIn ∈ Tg := tg_t 666 (by decide +kernel) (by decide +kernel)
theorem q_493 : Cond.code y_M_isIn b_M_isIn 2 (some .boolean) ∈ Tg := tg_t 667 (by decide +kernel) (by decide +kernel)
theorem q_494 : Cond.methodLink R_M 96 y_M_takenNow ∈ Tg := tg_t 668 (by decide +kernel) (by decide +kernel)
theorem q_495 : Cond.instanceMethod y_M_takenNow ∈ Tg := tg_t 670 (by decide +kernel) (by decide +kernel)
theorem q_496 : Cond.code y_M_takenNow b_M_takenNow 3 (some .int) ∈ Tg := tg_t 671 (by decide +kernel) (by decide +kernel)
theorem q_497 : Cond.methodLink R_M 117 y_M_rowsBy ∈ Tg := tg_t 672 (by decide +kernel) (by decide +kernel)
theorem q_498 : Cond.instanceMethod y_M_rowsBy ∈ Tg := tg_t 674 (by decide +kernel) (by decide +kernel)
theorem q_499 : Cond.code y_M_rowsBy b_M_rowsBy 6 (some .int) ∈ Tg := tg_t 675 (by decide +kernel) (by decide +kernel)
theorem q_500 : Cond.methodLink R_M 110 y_M_all ∈ Tg := tg_t 676 (by decide +kernel) (by decide +kernel)
theorem q_501 : Cond.instanceMethod y_M_all ∈ Tg := tg_t 678 (by decide +kernel) (by decide +kernel)
theorem q_502 : Cond.code y_M_all b_M_all 1 (some .int) ∈ Tg := tg_t 679 (by decide +kernel) (by decide +kernel)
theorem q_503 : Cond.methodLink R_M 113 y_M_nexts ∈ Tg := tg_t 680 (by decide +kernel) (by decide +kernel)
theorem q_504 : Cond.instanceMethod y_M_nexts ∈ Tg := tg_t 682 (by decide +kernel) (by decide +kernel)
theorem q_505 : Cond.code y_M_nexts b_M_nexts 9 (some .int) ∈ Tg := tg_t 683 (by decide +kernel) (by decide +kernel)
theorem q_506 : Cond.methodLink "OrderTreesLaw" 26 y_M_back ∈ Tg := tg_t 684 (by decide +kernel) (by decide +kernel)
theorem q_507 : Cond.instanceMethod y_M_back ∈ Tg := tg_t 685 (by decide +kernel) (by decide +kernel)
theorem q_508 : Cond.selects R_M y_M_back y_M_back ∈ Tg := tg_t 686 (by decide +kernel) (by decide +kernel)
theorem q_509 : Cond.code y_M_back b_M_back 1 (some .int) ∈ Tg := tg_t 687 (by decide +kernel) (by decide +kernel)
theorem q_510 : Cond.methodLink "OrderTreesLaw" 38 y_M_read ∈ Tg := tg_t 688 (by decide +kernel) (by decide +kernel)
theorem q_511 : Cond.instanceMethod y_M_read ∈ Tg := tg_t 689 (by decide +kernel) (by decide +kernel)
theorem q_512 : Cond.selects R_M y_M_read y_M_read ∈ Tg := tg_t 690 (by decide +kernel) (by decide +kernel)
theorem q_513 : Cond.code y_M_read b_M_read 3 (some .int) ∈ Tg := tg_t 691 (by decide +kernel) (by decide +kernel)
theorem q_514 : Cond.methodLink R_M 103 y_M_isSheet ∈ Tg := tg_t 692 (by decide +kernel) (by decide +kernel)
theorem q_515 : Cond.static y_M_isSheet ∈ Tg := tg_t 693 (by decide +kernel) (by decide +kernel)
theorem q_516 : Cond.code y_M_isSheet b_M_isSheet 1 (some .boolean) ∈ Tg := tg_t 694 (by decide +kernel) (by decide +kernel)
theorem q_517 : Cond.methodLink R_M 107 y_M_meets ∈ Tg := tg_t 695 (by decide +kernel) (by decide +kernel)
theorem q_518 : Cond.instanceMethod y_M_meets ∈ Tg := tg_t 697 (by decide +kernel) (by decide +kernel)
theorem q_519 : Cond.code y_M_meets b_M_meets 2 (some .int) ∈ Tg := tg_t 698 (by decide +kernel) (by decide +kernel)
theorem q_520 : Cond.methodLink "OrderTreesLaw" 30 y_M_taken ∈ Tg := tg_t 699 (by decide +kernel) (by decide +kernel)
theorem q_521 : Cond.instanceMethod y_M_taken ∈ Tg := tg_t 700 (by decide +kernel) (by decide +kernel)
theorem q_522 : Cond.selects R_M y_M_taken y_M_taken ∈ Tg := tg_t 701 (by decide +kernel) (by decide +kernel)
theorem q_523 : Cond.code y_M_taken b_M_taken 2 (some .int) ∈ Tg := tg_t 702 (by decide +kernel) (by decide +kernel)
theorem q_524 : Cond.methodLink R_M 121 y_M_isGroup ∈ Tg := tg_t 703 (by decide +kernel) (by decide +kernel)
theorem q_525 : Cond.instanceMethod y_M_isGroup ∈ Tg := tg_t 705 (by decide +kernel) (by decide +kernel)
theorem q_526 : Cond.code y_M_isGroup b_M_isGroup 2 (some .boolean) ∈ Tg := tg_t 706 (by decide +kernel) (by decide +kernel)
theorem q_527 : Cond.methodLink "OrderTreesLaw" 34 y_M_reason ∈ Tg := tg_t 707 (by decide +kernel) (by decide +kernel)
theorem q_528 : Cond.instanceMethod y_M_reason ∈ Tg := tg_t 708 (by decide +kernel) (by decide +kernel)
theorem q_529 : Cond.selects R_M y_M_reason y_M_reason ∈ Tg := tg_t 709 (by decide +kernel) (by decide +kernel)
theorem q_530 : Cond.code y_M_reason b_M_reason 2 (some .int) ∈ Tg := tg_t 710 (by decide +kernel) (by decide +kernel)
theorem q_531 : Cond.methodLink R_M 124 y_M_reasonOf ∈ Tg := tg_t 711 (by decide +kernel) (by decide +kernel)
theorem q_532 : Cond.instanceMethod y_M_reasonOf ∈ Tg := tg_t 713 (by decide +kernel) (by decide +kernel)
theorem q_533 : Cond.code y_M_reasonOf b_M_reasonOf 6 (some .int) ∈ Tg := tg_t 714 (by decide +kernel) (by decide +kernel)
theorem q_534 : Cond.methodLink "OrderTreesLaw" 43 y_M_many_ ∈ Tg := tg_t 715 (by decide +kernel) (by decide +kernel)
theorem q_535 : Cond.instanceMethod y_M_many_ ∈ Tg := tg_t 716 (by decide +kernel) (by decide +kernel)
theorem q_536 : Cond.selects R_M y_M_many_ y_M_many_ ∈ Tg := tg_t 717 (by decide +kernel) (by decide +kernel)
theorem q_537 : Cond.code y_M_many_ b_M_many_ 1 (some .long) ∈ Tg := tg_t 718 (by decide +kernel) (by decide +kernel)
theorem q_538 : Cond.methodLink R_M 127 y_M_manyNow ∈ Tg := tg_t 719 (by decide +kernel) (by decide +kernel)
theorem q_539 : Cond.instanceMethod y_M_manyNow ∈ Tg := tg_t 721 (by decide +kernel) (by decide +kernel)
theorem q_540 : Cond.code y_M_manyNow b_M_manyNow 1 (some .int) ∈ Tg := tg_t 722 (by decide +kernel) (by decide +kernel)
theorem q_541 : Cond.methodLink "OrderTreesLaw" 47 y_M_tree ∈ Tg := tg_t 723 (by decide +kernel) (by decide +kernel)
theorem q_542 : Cond.instanceMethod y_M_tree ∈ Tg := tg_t 724 (by decide +kernel) (by decide +kernel)
theorem q_543 : Cond.selects R_M y_M_tree y_M_tree ∈ Tg := tg_t 725 (by decide +kernel) (by decide +kernel)
theorem q_544 : Cond.code y_M_tree b_M_tree 2 (some .int) ∈ Tg := tg_t 726 (by decide +kernel) (by decide +kernel)
theorem q_545 : Cond.methodLink R_M 174 y_M_treeOf ∈ Tg := tg_t 727 (by decide +kernel) (by decide +kernel)
theorem q_546 : Cond.instanceMethod y_M_treeOf ∈ Tg := tg_t 729 (by decide +kernel) (by decide +kernel)
theorem q_547 : Cond.code y_M_treeOf b_M_treeOf 2 (some .int) ∈ Tg := tg_t 730 (by decide +kernel) (by decide +kernel)
theorem q_548 : Cond.methodLink R_M 171 y_M_findsTree ∈ Tg := tg_t 731 (by decide +kernel) (by decide +kernel)
theorem q_549 : Cond.instanceMethod y_M_findsTree ∈ Tg := tg_t 733 (by decide +kernel) (by decide +kernel)
theorem q_550 : Cond.code y_M_findsTree b_M_findsTree 5 none ∈ Tg := tg_t 734 (by decide +kernel) (by decide +kernel)
theorem q_551 : Cond.methodLink R_M 162 y_M_findsStrong ∈ Tg := tg_t 735 (by decide +kernel) (by decide +kernel)
theorem q_552 : Cond.instanceMethod y_M_findsStrong ∈ Tg := tg_t 737 (by decide +kernel) (by decide +kernel)
theorem q_553 : Cond.code y_M_findsStrong b_M_findsStrong 4 none ∈ Tg := tg_t 738 (by decide +kernel) (by decide +kernel)
theorem q_554 : Cond.methodLink R_M 130 y_M_findsGo ∈ Tg := tg_t 739 (by decide +kernel) (by decide +kernel)
theorem q_555 : Cond.instanceMethod y_M_findsGo ∈ Tg := tg_t 741 (by decide +kernel) (by decide +kernel)
theorem q_556 : Cond.code y_M_findsGo b_M_findsGo 5 none ∈ Tg := tg_t 742 (by decide +kernel) (by decide +kernel)
theorem q_557 : Cond.methodLink R_M 133 y_M_isSure ∈ Tg := tg_t 743 (by decide +kernel) (by decide +kernel)
theorem q_558 : Cond.instanceMethod y_M_isSure ∈ Tg := tg_t 745 (by decide +kernel) (by decide +kernel)
theorem q_559 : Cond.code y_M_isSure b_M_isSure 4 (some .boolean) ∈ Tg := tg_t 746 (by decide +kernel) (by decide +kernel)
theorem q_560 : Cond.methodLink R_M 136 y_M_areCrossing ∈ Tg := tg_t 747 (by decide +kernel) (by decide +kernel)
theorem q_561 : Cond.static y_M_areCrossing ∈ Tg := tg_t 748 (by decide +kernel) (by decide +kernel)
theorem q_562 : Cond.code y_M_areCrossing b_M_areCrossing 2 (some .boolean) ∈ Tg := tg_t 749 (by decide +kernel) (by decide +kernel)
theorem q_563 : Cond.methodLink R_M 165 y_M_shows ∈ Tg := tg_t 750 (by decide +kernel) (by decide +kernel)
theorem q_564 : Cond.instanceMethod y_M_shows ∈ Tg := tg_t 752 (by decide +kernel) (by decide +kernel)
theorem q_565 : Cond.code y_M_shows b_M_shows 2 none ∈ Tg := tg_t 753 (by decide +kernel) (by decide +kernel)
theorem q_566 : Cond.methodLink R_M 142 y_M_least ∈ Tg := tg_t 754 (by decide +kernel) (by decide +kernel)
theorem q_567 : Cond.static y_M_least ∈ Tg := tg_t 755 (by decide +kernel) (by decide +kernel)
theorem q_568 : Cond.code y_M_least b_M_least 2 (some .int) ∈ Tg := tg_t 756 (by decide +kernel) (by decide +kernel)
theorem q_569 : Cond.methodLink R_M 168 y_M_findsParts ∈ Tg := tg_t 757 (by decide +kernel) (by decide +kernel)
theorem q_570 : Cond.instanceMethod y_M_findsParts ∈ Tg := tg_t 759 (by decide +kernel) (by decide +kernel)
theorem q_571 : Cond.code y_M_findsParts b_M_findsParts 6 none ∈ Tg := tg_t 760 (by decide +kernel) (by decide +kernel)
theorem q_572 : Cond.methodLink R_M 139 y_M_partWith ∈ Tg := tg_t 761 (by decide +kernel) (by decide +kernel)
theorem q_573 : Cond.instanceMethod y_M_partWith ∈ Tg := tg_t 763 (by decide +kernel) (by decide +kernel)
theorem q_574 : Cond.code y_M_partWith b_M_partWith 6 (some .int) ∈ Tg := tg_t 764 (by decide +kernel) (by decide +kernel)
theorem q_575 : Cond.methodLink R_M 145 y_M_turnsRight ∈ Tg := tg_t 765 (by decide +kernel) (by decide +kernel)
theorem q_576 : Cond.instanceMethod y_M_turnsRight ∈ Tg := tg_t 767 (by decide +kernel) (by decide +kernel)
theorem q_577 : Cond.code y_M_turnsRight b_M_turnsRight 8 none ∈ Tg := tg_t 768 (by decide +kernel) (by decide +kernel)
theorem q_578 : Cond.methodLink R_M 149 y_M_areBeside ∈ Tg := tg_t 769 (by decide +kernel) (by decide +kernel)
theorem q_579 : Cond.instanceMethod y_M_areBeside ∈ Tg := tg_t 771 (by decide +kernel) (by decide +kernel)
theorem q_580 : Cond.code y_M_areBeside b_M_areBeside 3 (some .boolean) ∈ Tg := tg_t 772 (by decide +kernel) (by decide +kernel)
theorem q_581 : Cond.methodLink R_M 152 y_M_swaps ∈ Tg := tg_t 773 (by decide +kernel) (by decide +kernel)
theorem q_582 : Cond.instanceMethod y_M_swaps ∈ Tg := tg_t 775 (by decide +kernel) (by decide +kernel)
theorem q_583 : Cond.code y_M_swaps b_M_swaps 4 none ∈ Tg := tg_t 776 (by decide +kernel) (by decide +kernel)
theorem q_584 : Cond.methodLink "OrderTreesLaw" 52 y_M_node ∈ Tg := tg_t 777 (by decide +kernel) (by decide +kernel)
theorem q_585 : Cond.instanceMethod y_M_node ∈ Tg := tg_t 778 (by decide +kernel) (by decide +kernel)
theorem q_586 : Cond.selects R_M y_M_node y_M_node ∈ Tg := tg_t 779 (by decide +kernel) (by decide +kernel)
theorem q_587 : Cond.code y_M_node b_M_node 3 (some .int) ∈ Tg := tg_t 780 (by decide +kernel) (by decide +kernel)
theorem q_588 : Cond.methodLink R_M 177 y_M_nodeFor ∈ Tg := tg_t 781 (by decide +kernel) (by decide +kernel)
theorem q_589 : Cond.instanceMethod y_M_nodeFor ∈ Tg := tg_t 783 (by decide +kernel) (by decide +kernel)
theorem q_590 : Cond.code y_M_nodeFor b_M_nodeFor 3 (some .int) ∈ Tg := tg_t 784 (by decide +kernel) (by decide +kernel)
theorem q_591 : Cond.methodLink "OrderTreesLaw" 56 y_M_row ∈ Tg := tg_t 785 (by decide +kernel) (by decide +kernel)
theorem q_592 : Cond.instanceMethod y_M_row ∈ Tg := tg_t 786 (by decide +kernel) (by decide +kernel)
theorem q_593 : Cond.selects R_M y_M_row y_M_row ∈ Tg := tg_t 787 (by decide +kernel) (by decide +kernel)
theorem q_594 : Cond.code y_M_row b_M_row 3 (some .int) ∈ Tg := tg_t 788 (by decide +kernel) (by decide +kernel)
theorem q_595 : Cond.constant R_M 195 (40319) ∈ Tg := tg_t 789 (by decide +kernel) (by decide +kernel)
theorem q_596 : Cond.methodLink R_M 196 y_M_rowOf ∈ Tg := tg_t 790 (by decide +kernel) (by decide +kernel)
theorem q_597 : Cond.instanceMethod y_M_rowOf ∈ Tg := tg_t 792 (by decide +kernel) (by decide +kernel)
theorem q_598 : Cond.code y_M_rowOf b_M_rowOf 3 (some .int) ∈ Tg := tg_t 793 (by decide +kernel) (by decide +kernel)
theorem q_599 : Cond.methodLink R_M 192 y_M_findsRow ∈ Tg := tg_t 794 (by decide +kernel) (by decide +kernel)
theorem q_600 : Cond.instanceMethod y_M_findsRow ∈ Tg := tg_t 796 (by decide +kernel) (by decide +kernel)
theorem q_601 : Cond.code y_M_findsRow b_M_findsRow 8 none ∈ Tg := tg_t 797 (by decide +kernel) (by decide +kernel)
theorem q_602 : Cond.methodLink R_M 183 y_M_waysAt ∈ Tg := tg_t 798 (by decide +kernel) (by decide +kernel)
theorem q_603 : Cond.instanceMethod y_M_waysAt ∈ Tg := tg_t 800 (by decide +kernel) (by decide +kernel)
theorem q_604 : Cond.code y_M_waysAt b_M_waysAt 2 (some .int) ∈ Tg := tg_t 801 (by decide +kernel) (by decide +kernel)
theorem q_605 : Cond.methodLink R_M 180 y_M_factorial ∈ Tg := tg_t 802 (by decide +kernel) (by decide +kernel)
theorem q_606 : Cond.static y_M_factorial ∈ Tg := tg_t 803 (by decide +kernel) (by decide +kernel)
theorem q_607 : Cond.code y_M_factorial b_M_factorial 3 (some .int) ∈ Tg := tg_t 804 (by decide +kernel) (by decide +kernel)
theorem q_608 : Cond.methodLink R_M 186 y_M_nodeOf ∈ Tg := tg_t 805 (by decide +kernel) (by decide +kernel)
theorem q_609 : Cond.instanceMethod y_M_nodeOf ∈ Tg := tg_t 807 (by decide +kernel) (by decide +kernel)
theorem q_610 : Cond.code y_M_nodeOf b_M_nodeOf 4 (some .int) ∈ Tg := tg_t 808 (by decide +kernel) (by decide +kernel)
theorem q_611 : Cond.methodLink R_M 189 y_M_orders ∈ Tg := tg_t 809 (by decide +kernel) (by decide +kernel)
theorem q_612 : Cond.instanceMethod y_M_orders ∈ Tg := tg_t 811 (by decide +kernel) (by decide +kernel)
theorem q_613 : Cond.code y_M_orders b_M_orders 9 none ∈ Tg := tg_t 812 (by decide +kernel) (by decide +kernel)
theorem q_614 : Cond.methodLink "OrderTreesLaw" 60 y_M_may ∈ Tg := tg_t 813 (by decide +kernel) (by decide +kernel)
theorem q_615 : Cond.instanceMethod y_M_may ∈ Tg := tg_t 814 (by decide +kernel) (by decide +kernel)
theorem q_616 : Cond.selects R_M y_M_may y_M_may ∈ Tg := tg_t 815 (by decide +kernel) (by decide +kernel)
theorem q_617 : Cond.code y_M_may b_M_may 2 (some .int) ∈ Tg := tg_t 816 (by decide +kernel) (by decide +kernel)
theorem q_618 : Cond.methodLink R_M 199 y_M_isSet ∈ Tg := tg_t 817 (by decide +kernel) (by decide +kernel)
theorem q_619 : Cond.instanceMethod y_M_isSet ∈ Tg := tg_t 819 (by decide +kernel) (by decide +kernel)
theorem q_620 : Cond.code y_M_isSet b_M_isSet 2 (some .boolean) ∈ Tg := tg_t 820 (by decide +kernel) (by decide +kernel)
theorem q_621 : Cond.methodLink "OrderTreesLaw" 64 y_M_must ∈ Tg := tg_t 821 (by decide +kernel) (by decide +kernel)
theorem q_622 : Cond.instanceMethod y_M_must ∈ Tg := tg_t 822 (by decide +kernel) (by decide +kernel)
theorem q_623 : Cond.selects R_M y_M_must y_M_must ∈ Tg := tg_t 823 (by decide +kernel) (by decide +kernel)
theorem q_624 : Cond.code y_M_must b_M_must 2 (some .int) ∈ Tg := tg_t 824 (by decide +kernel) (by decide +kernel)
theorem q_625 : Cond.methodLink R_M 202 y_M_mustOf ∈ Tg := tg_t 825 (by decide +kernel) (by decide +kernel)
theorem q_626 : Cond.instanceMethod y_M_mustOf ∈ Tg := tg_t 827 (by decide +kernel) (by decide +kernel)
theorem q_627 : Cond.code y_M_mustOf b_M_mustOf 4 (some .int) ∈ Tg := tg_t 828 (by decide +kernel) (by decide +kernel)
theorem q_628 : Cond.methodLink "OrderTreesLaw" 69 y_M_apart ∈ Tg := tg_t 829 (by decide +kernel) (by decide +kernel)
theorem q_629 : Cond.instanceMethod y_M_apart ∈ Tg := tg_t 830 (by decide +kernel) (by decide +kernel)
theorem q_630 : Cond.selects R_M y_M_apart y_M_apart ∈ Tg := tg_t 831 (by decide +kernel) (by decide +kernel)
theorem q_631 : Cond.code y_M_apart b_M_apart 4 (some .int) ∈ Tg := tg_t 832 (by decide +kernel) (by decide +kernel)
theorem q_632 : Cond.methodLink R_M 214 y_M_isThing ∈ Tg := tg_t 833 (by decide +kernel) (by decide +kernel)
theorem q_633 : Cond.instanceMethod y_M_isThing ∈ Tg := tg_t 835 (by decide +kernel) (by decide +kernel)
theorem q_634 : Cond.code y_M_isThing b_M_isThing 2 (some .boolean) ∈ Tg := tg_t 836 (by decide +kernel) (by decide +kernel)
theorem q_635 : Cond.methodLink R_M 217 y_M_apartOf ∈ Tg := tg_t 837 (by decide +kernel) (by decide +kernel)
theorem q_636 : Cond.instanceMethod y_M_apartOf ∈ Tg := tg_t 839 (by decide +kernel) (by decide +kernel)
theorem q_637 : Cond.code y_M_apartOf b_M_apartOf 4 (some .int) ∈ Tg := tg_t 840 (by decide +kernel) (by decide +kernel)
theorem q_638 : Cond.methodLink R_M 211 y_M_spansFrom ∈ Tg := tg_t 841 (by decide +kernel) (by decide +kernel)
theorem q_639 : Cond.instanceMethod y_M_spansFrom ∈ Tg := tg_t 843 (by decide +kernel) (by decide +kernel)
theorem q_640 : Cond.code y_M_spansFrom b_M_spansFrom 7 none ∈ Tg := tg_t 844 (by decide +kernel) (by decide +kernel)
theorem q_641 : Cond.methodLink "OrderTreesLaw" 73 y_M_spare ∈ Tg := tg_t 845 (by decide +kernel) (by decide +kernel)
theorem q_642 : Cond.instanceMethod y_M_spare ∈ Tg := tg_t 846 (by decide +kernel) (by decide +kernel)
theorem q_643 : Cond.selects R_M y_M_spare y_M_spare ∈ Tg := tg_t 847 (by decide +kernel) (by decide +kernel)
theorem q_644 : Cond.code y_M_spare b_M_spare 1 (some .int) ∈ Tg := tg_t 848 (by decide +kernel) (by decide +kernel)
theorem q_645 : Cond.methodLink R_M 220 y_M_spareOf ∈ Tg := tg_t 849 (by decide +kernel) (by decide +kernel)
theorem q_646 : Cond.instanceMethod y_M_spareOf ∈ Tg := tg_t 851 (by decide +kernel) (by decide +kernel)
theorem q_647 : Cond.code y_M_spareOf b_M_spareOf 5 (some .int) ∈ Tg := tg_t 852 (by decide +kernel) (by decide +kernel)
theorem q_648 : Cond.methodLink "OrderTreesLaw" 77 y_M_type ∈ Tg := tg_t 853 (by decide +kernel) (by decide +kernel)
theorem q_649 : Cond.instanceMethod y_M_type ∈ Tg := tg_t 854 (by decide +kernel) (by decide +kernel)
theorem q_650 : Cond.selects R_M y_M_type y_M_type ∈ Tg := tg_t 855 (by decide +kernel) (by decide +kernel)
theorem q_651 : Cond.code y_M_type b_M_type 2 (some .int) ∈ Tg := tg_t 856 (by decide +kernel) (by decide +kernel)
theorem q_652 : Cond.methodLink "OrderTreesLaw" 81 y_M_wipe ∈ Tg := tg_t 857 (by decide +kernel) (by decide +kernel)
theorem q_653 : Cond.instanceMethod y_M_wipe ∈ Tg := tg_t 858 (by decide +kernel) (by decide +kernel)
theorem q_654 : Cond.selects R_M y_M_wipe y_M_wipe ∈ Tg := tg_t 859 (by decide +kernel) (by decide +kernel)
theorem q_655 : Cond.code y_M_wipe b_M_wipe 2 (some .int) ∈ Tg := tg_t 860 (by decide +kernel) (by decide +kernel)
theorem q_656 : Cond.methodLink "OrderTreesLaw" 85 y_M_undo ∈ Tg := tg_t 861 (by decide +kernel) (by decide +kernel)
theorem q_657 : Cond.instanceMethod y_M_undo ∈ Tg := tg_t 862 (by decide +kernel) (by decide +kernel)
theorem q_658 : Cond.selects R_M y_M_undo y_M_undo ∈ Tg := tg_t 863 (by decide +kernel) (by decide +kernel)
theorem q_659 : Cond.code y_M_undo b_M_undo 1 (some .int) ∈ Tg := tg_t 864 (by decide +kernel) (by decide +kernel)
theorem q_660 : Cond.methodLink "OrderTreesLaw" 89 y_M_fault ∈ Tg := tg_t 865 (by decide +kernel) (by decide +kernel)
theorem q_661 : Cond.instanceMethod y_M_fault ∈ Tg := tg_t 866 (by decide +kernel) (by decide +kernel)
theorem q_662 : Cond.selects R_M y_M_fault y_M_fault ∈ Tg := tg_t 867 (by decide +kernel) (by decide +kernel)
theorem q_663 : Cond.code y_M_fault b_M_fault 1 (some .int) ∈ Tg := tg_t 868 (by decide +kernel) (by decide +kernel)
theorem q_664 : Cond.methodLink R_M 226 y_M_faultOf ∈ Tg := tg_t 869 (by decide +kernel) (by decide +kernel)
theorem q_665 : Cond.instanceMethod y_M_faultOf ∈ Tg := tg_t 871 (by decide +kernel) (by decide +kernel)
theorem q_666 : Cond.code y_M_faultOf b_M_faultOf 4 (some .int) ∈ Tg := tg_t 872 (by decide +kernel) (by decide +kernel)
theorem q_667 : Cond.methodLink "OrderTreesLaw" 93 y_M_misses ∈ Tg := tg_t 873 (by decide +kernel) (by decide +kernel)
theorem q_668 : Cond.instanceMethod y_M_misses ∈ Tg := tg_t 874 (by decide +kernel) (by decide +kernel)
theorem q_669 : Cond.selects R_M y_M_misses y_M_misses ∈ Tg := tg_t 875 (by decide +kernel) (by decide +kernel)
theorem q_670 : Cond.code y_M_misses b_M_misses 1 (some .int) ∈ Tg := tg_t 876 (by decide +kernel) (by decide +kernel)
theorem q_671 : Cond.methodLink R_M 232 y_M_isRow ∈ Tg := tg_t 877 (by decide +kernel) (by decide +kernel)
theorem q_672 : Cond.instanceMethod y_M_isRow ∈ Tg := tg_t 879 (by decide +kernel) (by decide +kernel)
theorem q_673 : Cond.code y_M_isRow b_M_isRow 1 (some .boolean) ∈ Tg := tg_t 880 (by decide +kernel) (by decide +kernel)
theorem q_674 : Cond.methodLink R_M 236 y_M_missesOf ∈ Tg := tg_t 881 (by decide +kernel) (by decide +kernel)
theorem q_675 : Cond.instanceMethod y_M_missesOf ∈ Tg := tg_t 883 (by decide +kernel) (by decide +kernel)
theorem q_676 : Cond.code y_M_missesOf b_M_missesOf 3 (some .int) ∈ Tg := tg_t 884 (by decide +kernel) (by decide +kernel)
theorem q_677 : Cond.methodLink R_M 229 y_M_isHad ∈ Tg := tg_t 885 (by decide +kernel) (by decide +kernel)
theorem q_678 : Cond.instanceMethod y_M_isHad ∈ Tg := tg_t 887 (by decide +kernel) (by decide +kernel)
theorem q_679 : Cond.code y_M_isHad b_M_isHad 7 (some .boolean) ∈ Tg := tg_t 888 (by decide +kernel) (by decide +kernel)
theorem q_680 : Cond.methodLink "OrderTreesLaw" 97 y_M_number ∈ Tg := tg_t 889 (by decide +kernel) (by decide +kernel)
theorem q_681 : Cond.instanceMethod y_M_number ∈ Tg := tg_t 890 (by decide +kernel) (by decide +kernel)
theorem q_682 : Cond.selects R_M y_M_number y_M_number ∈ Tg := tg_t 891 (by decide +kernel) (by decide +kernel)
theorem q_683 : Cond.code y_M_number b_M_number 1 (some .int) ∈ Tg := tg_t 892 (by decide +kernel) (by decide +kernel)
theorem q_684 : Cond.methodLink R_M 245 y_M_numberOf ∈ Tg := tg_t 893 (by decide +kernel) (by decide +kernel)
theorem q_685 : Cond.instanceMethod y_M_numberOf ∈ Tg := tg_t 895 (by decide +kernel) (by decide +kernel)
theorem q_686 : Cond.code y_M_numberOf b_M_numberOf 3 (some .int) ∈ Tg := tg_t 896 (by decide +kernel) (by decide +kernel)
theorem q_687 : Cond.methodLink R_M 242 y_M_wayTold ∈ Tg := tg_t 897 (by decide +kernel) (by decide +kernel)
theorem q_688 : Cond.instanceMethod y_M_wayTold ∈ Tg := tg_t 899 (by decide +kernel) (by decide +kernel)
theorem q_689 : Cond.code y_M_wayTold b_M_wayTold 10 (some .int) ∈ Tg := tg_t 900 (by decide +kernel) (by decide +kernel)
theorem q_690 : Cond.methodLink R_M 239 y_M_placeOf ∈ Tg := tg_t 901 (by decide +kernel) (by decide +kernel)
theorem q_691 : Cond.instanceMethod y_M_placeOf ∈ Tg := tg_t 903 (by decide +kernel) (by decide +kernel)
theorem q_692 : Cond.code y_M_placeOf b_M_placeOf 3 (some .int) ∈ Tg := tg_t 904 (by decide +kernel) (by decide +kernel)
theorem q_693 : Cond.methodLink "OrderTreesLaw" 101 y_M_sheet ∈ Tg := tg_t 905 (by decide +kernel) (by decide +kernel)
theorem q_694 : Cond.instanceMethod y_M_sheet ∈ Tg := tg_t 906 (by decide +kernel) (by decide +kernel)
theorem q_695 : Cond.selects R_M y_M_sheet y_M_sheet ∈ Tg := tg_t 907 (by decide +kernel) (by decide +kernel)
theorem q_696 : Cond.code y_M_sheet b_M_sheet 5 (some .int) ∈ Tg := tg_t 908 (by decide +kernel) (by decide +kernel)
theorem q_697 : Cond.methodLink "OrderTreesLaw" 105 y_M_lose ∈ Tg := tg_t 909 (by decide +kernel) (by decide +kernel)
theorem q_698 : Cond.instanceMethod y_M_lose ∈ Tg := tg_t 910 (by decide +kernel) (by decide +kernel)
theorem q_699 : Cond.selects R_M y_M_lose y_M_lose ∈ Tg := tg_t 911 (by decide +kernel) (by decide +kernel)
theorem q_700 : Cond.code y_M_lose b_M_lose 2 (some .int) ∈ Tg := tg_t 912 (by decide +kernel) (by decide +kernel)
theorem q_701 : Cond.methodLink "OrderTreesLaw" 110 y_M_put ∈ Tg := tg_t 913 (by decide +kernel) (by decide +kernel)
theorem q_702 : Cond.instanceMethod y_M_put ∈ Tg := tg_t 914 (by decide +kernel) (by decide +kernel)
theorem q_703 : Cond.selects R_M y_M_put y_M_put ∈ Tg := tg_t 915 (by decide +kernel) (by decide +kernel)
theorem q_704 : Cond.code y_M_put b_M_put 6 (some .int) ∈ Tg := tg_t 916 (by decide +kernel) (by decide +kernel)
theorem q_705 : Cond.methodLink R_M 251 y_M_lacks ∈ Tg := tg_t 917 (by decide +kernel) (by decide +kernel)
theorem q_706 : Cond.instanceMethod y_M_lacks ∈ Tg := tg_t 919 (by decide +kernel) (by decide +kernel)
theorem q_707 : Cond.code y_M_lacks b_M_lacks 4 (some .int) ∈ Tg := tg_t 920 (by decide +kernel) (by decide +kernel)
theorem q_708 : Cond.methodLink R_M 254 y_M_keep ∈ Tg := tg_t 921 (by decide +kernel) (by decide +kernel)
theorem q_709 : Cond.instanceMethod y_M_keep ∈ Tg := tg_t 923 (by decide +kernel) (by decide +kernel)
theorem q_710 : Cond.code y_M_keep b_M_keep 4 none ∈ Tg := tg_t 924 (by decide +kernel) (by decide +kernel)
theorem q_711 : Cond.methodLink "OrderTreesLaw" 114 y_M_get ∈ Tg := tg_t 925 (by decide +kernel) (by decide +kernel)
theorem q_712 : Cond.instanceMethod y_M_get ∈ Tg := tg_t 926 (by decide +kernel) (by decide +kernel)
theorem q_713 : Cond.selects R_M y_M_get y_M_get ∈ Tg := tg_t 927 (by decide +kernel) (by decide +kernel)
theorem q_714 : Cond.code y_M_get b_M_get 5 (some .int) ∈ Tg := tg_t 928 (by decide +kernel) (by decide +kernel)
theorem q_715 : Cond.constant R_M 258 (-2147483648) ∈ Tg := tg_t 929 (by decide +kernel) (by decide +kernel)
theorem q_716 : Cond.methodLink "OrderTreesLaw" 119 y_M_copy ∈ Tg := tg_t 930 (by decide +kernel) (by decide +kernel)
theorem q_717 : Cond.instanceMethod y_M_copy ∈ Tg := tg_t 931 (by decide +kernel) (by decide +kernel)
theorem q_718 : Cond.selects R_M y_M_copy y_M_copy ∈ Tg := tg_t 932 (by decide +kernel) (by decide +kernel)
theorem q_719 : Cond.code y_M_copy b_M_copy 7 (some .int) ∈ Tg := tg_t 933 (by decide +kernel) (by decide +kernel)
theorem q_720 : Cond.methodLink "OrderTreesLaw" 123 y_M_write ∈ Tg := tg_t 934 (by decide +kernel) (by decide +kernel)
theorem q_721 : Cond.instanceMethod y_M_write ∈ Tg := tg_t 935 (by decide +kernel) (by decide +kernel)
theorem q_722 : Cond.selects R_M y_M_write y_M_write ∈ Tg := tg_t 936 (by decide +kernel) (by decide +kernel)
theorem q_723 : Cond.code y_M_write b_M_write 4 (some .int) ∈ Tg := tg_t 937 (by decide +kernel) (by decide +kernel)
theorem q_724 : Cond.methodLink "OrderTreesLaw" 127 y_M_count ∈ Tg := tg_t 938 (by decide +kernel) (by decide +kernel)
theorem q_725 : Cond.instanceMethod y_M_count ∈ Tg := tg_t 939 (by decide +kernel) (by decide +kernel)
theorem q_726 : Cond.selects R_M y_M_count y_M_count ∈ Tg := tg_t 940 (by decide +kernel) (by decide +kernel)
theorem q_727 : Cond.code y_M_count b_M_count 2 (some .int) ∈ Tg := tg_t 941 (by decide +kernel) (by decide +kernel)
theorem q_728 : Cond.methodLink R_M 259 y_M_takenMany ∈ Tg := tg_t 942 (by decide +kernel) (by decide +kernel)
theorem q_729 : Cond.instanceMethod y_M_takenMany ∈ Tg := tg_t 944 (by decide +kernel) (by decide +kernel)
theorem q_730 : Cond.code y_M_takenMany b_M_takenMany 4 (some .int) ∈ Tg := tg_t 945 (by decide +kernel) (by decide +kernel)
theorem q_731 : Cond.methodLink R_M 262 y_M_nodesOf ∈ Tg := tg_t 946 (by decide +kernel) (by decide +kernel)
theorem q_732 : Cond.instanceMethod y_M_nodesOf ∈ Tg := tg_t 948 (by decide +kernel) (by decide +kernel)
theorem q_733 : Cond.code y_M_nodesOf b_M_nodesOf 4 (some .int) ∈ Tg := tg_t 949 (by decide +kernel) (by decide +kernel)
theorem q_734 : Cond.methodLink "OrderTreesLaw" 131 y_M_digest ∈ Tg := tg_t 950 (by decide +kernel) (by decide +kernel)
theorem q_735 : Cond.instanceMethod y_M_digest ∈ Tg := tg_t 951 (by decide +kernel) (by decide +kernel)
theorem q_736 : Cond.selects R_M y_M_digest y_M_digest ∈ Tg := tg_t 952 (by decide +kernel) (by decide +kernel)
theorem q_737 : Cond.code y_M_digest b_M_digest 5 (some .long) ∈ Tg := tg_t 953 (by decide +kernel) (by decide +kernel)
theorem q_738 : Cond.constantLong R_M 274 (17) ∈ Tg := tg_t 954 (by decide +kernel) (by decide +kernel)
theorem q_739 : Cond.constantLong R_M 266 (31) ∈ Tg := tg_t 955 (by decide +kernel) (by decide +kernel)
theorem q_740 : Cond.methodLink R_M 276 y_M_count ∈ Tg := tg_t 956 (by decide +kernel) (by decide +kernel)
theorem q_741 : Cond.methodLink R_M 279 y_M_taken ∈ Tg := tg_t 957 (by decide +kernel) (by decide +kernel)
theorem q_742 : Cond.methodLink R_M 282 y_M_reason ∈ Tg := tg_t 958 (by decide +kernel) (by decide +kernel)
theorem q_743 : Cond.methodLink R_M 285 y_M_rowDigest ∈ Tg := tg_t 959 (by decide +kernel) (by decide +kernel)
theorem q_744 : Cond.instanceMethod y_M_rowDigest ∈ Tg := tg_t 961 (by decide +kernel) (by decide +kernel)
theorem q_745 : Cond.code y_M_rowDigest b_M_rowDigest 7 (some .long) ∈ Tg := tg_t 962 (by decide +kernel) (by decide +kernel)
theorem q_746 : Cond.methodLink R_M 289 y_M_setDigest ∈ Tg := tg_t 963 (by decide +kernel) (by decide +kernel)
theorem q_747 : Cond.instanceMethod y_M_setDigest ∈ Tg := tg_t 965 (by decide +kernel) (by decide +kernel)
theorem q_748 : Cond.code y_M_setDigest b_M_setDigest 6 (some .long) ∈ Tg := tg_t 966 (by decide +kernel) (by decide +kernel)
theorem q_749 : Cond.methodLink R_M 268 y_M_may ∈ Tg := tg_t 967 (by decide +kernel) (by decide +kernel)
theorem q_750 : Cond.methodLink R_M 271 y_M_must ∈ Tg := tg_t 968 (by decide +kernel) (by decide +kernel)
theorem q_751 : Cond.methodLink R_M 292 y_M_apart ∈ Tg := tg_t 969 (by decide +kernel) (by decide +kernel)
theorem q_752 : Cond.methodLink R_M 295 y_M_misses ∈ Tg := tg_t 970 (by decide +kernel) (by decide +kernel)
theorem q_753 : Cond.methodLink R_M 298 y_M_number ∈ Tg := tg_t 971 (by decide +kernel) (by decide +kernel)
theorem q_754 : Cond.selects R_O y_O_drawAll y_O_drawAll ∈ Tg := tg_s 0 (by decide +kernel) (by decide +kernel)
theorem q_755 : Cond.selects R_T y_T_clear y_T_clear ∈ Tg := tg_s 1 (by decide +kernel) (by decide +kernel)
theorem q_756 : Cond.selects R_T y_T_add y_T_add ∈ Tg := tg_s 2 (by decide +kernel) (by decide +kernel)
theorem q_757 : Cond.selects R_O y_O_takeGroup y_O_takeGroup ∈ Tg := tg_s 3 (by decide +kernel) (by decide +kernel)
theorem q_758 : Cond.selects R_T y_T_order y_T_order ∈ Tg := tg_s 4 (by decide +kernel) (by decide +kernel)
theorem q_759 : Cond.selects R_T y_T_part y_T_part ∈ Tg := tg_s 5 (by decide +kernel) (by decide +kernel)
theorem q_760 : Cond.selects R_T y_T_least y_T_least ∈ Tg := tg_s 6 (by decide +kernel) (by decide +kernel)
theorem q_761 : Cond.selects R_T y_T_setPart y_T_setPart ∈ Tg := tg_s 7 (by decide +kernel) (by decide +kernel)
theorem q_762 : Cond.selects R_T y_T_lowestWith y_T_lowestWith ∈ Tg := tg_s 8 (by decide +kernel) (by decide +kernel)
theorem q_763 : Cond.selects R_T y_T_stateOf y_T_stateOf ∈ Tg := tg_s 9 (by decide +kernel) (by decide +kernel)
theorem q_764 : Cond.selects R_T y_T_reduceFree y_T_reduceFree ∈ Tg := tg_s 10 (by decide +kernel) (by decide +kernel)
theorem q_765 : Cond.selects R_T y_T_partIn y_T_partIn ∈ Tg := tg_s 11 (by decide +kernel) (by decide +kernel)
theorem q_766 : Cond.selects R_T y_T_splitToLine y_T_splitToLine ∈ Tg := tg_s 12 (by decide +kernel) (by decide +kernel)
theorem q_767 : Cond.selects R_T y_T_bundle y_T_bundle ∈ Tg := tg_s 13 (by decide +kernel) (by decide +kernel)
theorem q_768 : Cond.selects R_T y_T_unusedNode y_T_unusedNode ∈ Tg := tg_s 14 (by decide +kernel) (by decide +kernel)
theorem q_769 : Cond.selects R_T y_T_append y_T_append ∈ Tg := tg_s 15 (by decide +kernel) (by decide +kernel)
theorem q_770 : Cond.selects R_T y_T_hold y_T_hold ∈ Tg := tg_s 16 (by decide +kernel) (by decide +kernel)
theorem q_771 : Cond.selects R_T y_T_splitTurning y_T_splitTurning ∈ Tg := tg_s 17 (by decide +kernel) (by decide +kernel)
theorem q_772 : Cond.selects R_T y_T_markSplit y_T_markSplit ∈ Tg := tg_s 18 (by decide +kernel) (by decide +kernel)
theorem q_773 : Cond.selects R_T y_T_keepEmpty y_T_keepEmpty ∈ Tg := tg_s 19 (by decide +kernel) (by decide +kernel)
theorem q_774 : Cond.selects R_T y_T_fillFromLine y_T_fillFromLine ∈ Tg := tg_s 20 (by decide +kernel) (by decide +kernel)
theorem q_775 : Cond.selects R_T y_T_reduceTurning y_T_reduceTurning ∈ Tg := tg_s 21 (by decide +kernel) (by decide +kernel)
theorem q_776 : Cond.selects R_T y_T_giveBackSplit y_T_giveBackSplit ∈ Tg := tg_s 22 (by decide +kernel) (by decide +kernel)
theorem q_777 : Cond.selects R_O y_O_isGroup y_O_isGroup ∈ Tg := tg_s 23 (by decide +kernel) (by decide +kernel)
theorem q_778 : Cond.selects R_O y_O_isTaken y_O_isTaken ∈ Tg := tg_s 24 (by decide +kernel) (by decide +kernel)
theorem q_779 : Cond.selects R_O y_O_found y_O_found ∈ Tg := tg_s 25 (by decide +kernel) (by decide +kernel)
theorem q_780 : Cond.selects R_T y_T_ways y_T_ways ∈ Tg := tg_s 26 (by decide +kernel) (by decide +kernel)
theorem q_781 : Cond.selects R_T y_T_layParts y_T_layParts ∈ Tg := tg_s 27 (by decide +kernel) (by decide +kernel)
theorem q_782 : Cond.selects R_O y_O_isSetOfThings y_O_isSetOfThings ∈ Tg := tg_s 28 (by decide +kernel) (by decide +kernel)
theorem q_783 : Cond.selects R_O y_O_isThing y_O_isThing ∈ Tg := tg_s 29 (by decide +kernel) (by decide +kernel)
theorem q_784 : Cond.selects R_T y_T_besideIn y_T_besideIn ∈ Tg := tg_s 30 (by decide +kernel) (by decide +kernel)
theorem q_785 : Cond.selects R_T y_T_betweenIn y_T_betweenIn ∈ Tg := tg_s 31 (by decide +kernel) (by decide +kernel)
theorem q_786 : Cond.selects R_O y_O_findPlaces y_O_findPlaces ∈ Tg := tg_s 32 (by decide +kernel) (by decide +kernel)
theorem q_787 : Cond.selects R_O y_O_isSideBySide y_O_isSideBySide ∈ Tg := tg_s 33 (by decide +kernel) (by decide +kernel)
theorem q_788 : Cond.selects R_T y_T_wayOf y_T_wayOf ∈ Tg := tg_s 34 (by decide +kernel) (by decide +kernel)
theorem q_789 : Cond.selects R_T y_T_leastThing y_T_leastThing ∈ Tg := tg_s 35 (by decide +kernel) (by decide +kernel)
theorem q_790 : Cond.selects R_O y_O_findingOf y_O_findingOf ∈ Tg := tg_s 36 (by decide +kernel) (by decide +kernel)
theorem q_791 : Cond.selects R_M y_M_adds y_M_adds ∈ Tg := tg_s 37 (by decide +kernel) (by decide +kernel)
theorem q_792 : Cond.selects R_M y_M_takenNow y_M_takenNow ∈ Tg := tg_s 38 (by decide +kernel) (by decide +kernel)
theorem q_793 : Cond.selects R_M y_M_rowsBy y_M_rowsBy ∈ Tg := tg_s 39 (by decide +kernel) (by decide +kernel)
theorem q_794 : Cond.selects R_M y_M_all y_M_all ∈ Tg := tg_s 40 (by decide +kernel) (by decide +kernel)
theorem q_795 : Cond.selects R_M y_M_nexts y_M_nexts ∈ Tg := tg_s 41 (by decide +kernel) (by decide +kernel)
theorem q_796 : Cond.selects R_M y_M_meets y_M_meets ∈ Tg := tg_s 42 (by decide +kernel) (by decide +kernel)
theorem q_797 : Cond.selects R_M y_M_isGroup y_M_isGroup ∈ Tg := tg_s 43 (by decide +kernel) (by decide +kernel)
theorem q_798 : Cond.selects R_M y_M_reasonOf y_M_reasonOf ∈ Tg := tg_s 44 (by decide +kernel) (by decide +kernel)
theorem q_799 : Cond.selects R_M y_M_manyNow y_M_manyNow ∈ Tg := tg_s 45 (by decide +kernel) (by decide +kernel)
theorem q_800 : Cond.selects R_M y_M_treeOf y_M_treeOf ∈ Tg := tg_s 46 (by decide +kernel) (by decide +kernel)
theorem q_801 : Cond.selects R_M y_M_findsTree y_M_findsTree ∈ Tg := tg_s 47 (by decide +kernel) (by decide +kernel)
theorem q_802 : Cond.selects R_M y_M_findsStrong y_M_findsStrong ∈ Tg := tg_s 48 (by decide +kernel) (by decide +kernel)
theorem q_803 : Cond.selects R_M y_M_findsGo y_M_findsGo ∈ Tg := tg_s 49 (by decide +kernel) (by decide +kernel)
theorem q_804 : Cond.selects R_M y_M_isSure y_M_isSure ∈ Tg := tg_s 50 (by decide +kernel) (by decide +kernel)
theorem q_805 : Cond.selects R_M y_M_shows y_M_shows ∈ Tg := tg_s 51 (by decide +kernel) (by decide +kernel)
theorem q_806 : Cond.selects R_M y_M_findsParts y_M_findsParts ∈ Tg := tg_s 52 (by decide +kernel) (by decide +kernel)
theorem q_807 : Cond.selects R_M y_M_partWith y_M_partWith ∈ Tg := tg_s 53 (by decide +kernel) (by decide +kernel)
theorem q_808 : Cond.selects R_M y_M_turnsRight y_M_turnsRight ∈ Tg := tg_s 54 (by decide +kernel) (by decide +kernel)
theorem q_809 : Cond.selects R_M y_M_areBeside y_M_areBeside ∈ Tg := tg_s 55 (by decide +kernel) (by decide +kernel)
theorem q_810 : Cond.selects R_M y_M_swaps y_M_swaps ∈ Tg := tg_s 56 (by decide +kernel) (by decide +kernel)
theorem q_811 : Cond.selects R_M y_M_nodeFor y_M_nodeFor ∈ Tg := tg_s 57 (by decide +kernel) (by decide +kernel)
theorem q_812 : Cond.selects R_M y_M_rowOf y_M_rowOf ∈ Tg := tg_s 58 (by decide +kernel) (by decide +kernel)
theorem q_813 : Cond.selects R_M y_M_findsRow y_M_findsRow ∈ Tg := tg_s 59 (by decide +kernel) (by decide +kernel)
theorem q_814 : Cond.selects R_M y_M_waysAt y_M_waysAt ∈ Tg := tg_s 60 (by decide +kernel) (by decide +kernel)
theorem q_815 : Cond.selects R_M y_M_nodeOf y_M_nodeOf ∈ Tg := tg_s 61 (by decide +kernel) (by decide +kernel)
theorem q_816 : Cond.selects R_M y_M_orders y_M_orders ∈ Tg := tg_s 62 (by decide +kernel) (by decide +kernel)
theorem q_817 : Cond.selects R_M y_M_isSet y_M_isSet ∈ Tg := tg_s 63 (by decide +kernel) (by decide +kernel)
theorem q_818 : Cond.selects R_M y_M_mustOf y_M_mustOf ∈ Tg := tg_s 64 (by decide +kernel) (by decide +kernel)
theorem q_819 : Cond.selects R_M y_M_isThing y_M_isThing ∈ Tg := tg_s 65 (by decide +kernel) (by decide +kernel)
theorem q_820 : Cond.selects R_M y_M_apartOf y_M_apartOf ∈ Tg := tg_s 66 (by decide +kernel) (by decide +kernel)
theorem q_821 : Cond.selects R_M y_M_spansFrom y_M_spansFrom ∈ Tg := tg_s 67 (by decide +kernel) (by decide +kernel)
theorem q_822 : Cond.selects R_M y_M_spareOf y_M_spareOf ∈ Tg := tg_s 68 (by decide +kernel) (by decide +kernel)
theorem q_823 : Cond.selects R_M y_M_faultOf y_M_faultOf ∈ Tg := tg_s 69 (by decide +kernel) (by decide +kernel)
theorem q_824 : Cond.selects R_M y_M_isRow y_M_isRow ∈ Tg := tg_s 70 (by decide +kernel) (by decide +kernel)
theorem q_825 : Cond.selects R_M y_M_missesOf y_M_missesOf ∈ Tg := tg_s 71 (by decide +kernel) (by decide +kernel)
theorem q_826 : Cond.selects R_M y_M_isHad y_M_isHad ∈ Tg := tg_s 72 (by decide +kernel) (by decide +kernel)
theorem q_827 : Cond.selects R_M y_M_numberOf y_M_numberOf ∈ Tg := tg_s 73 (by decide +kernel) (by decide +kernel)
theorem q_828 : Cond.selects R_M y_M_wayTold y_M_wayTold ∈ Tg := tg_s 74 (by decide +kernel) (by decide +kernel)
theorem q_829 : Cond.selects R_M y_M_placeOf y_M_placeOf ∈ Tg := tg_s 75 (by decide +kernel) (by decide +kernel)
theorem q_830 : Cond.selects R_M y_M_lacks y_M_lacks ∈ Tg := tg_s 76 (by decide +kernel) (by decide +kernel)
theorem q_831 : Cond.selects R_M y_M_keep y_M_keep ∈ Tg := tg_s 77 (by decide +kernel) (by decide +kernel)
theorem q_832 : Cond.selects R_M y_M_takenMany y_M_takenMany ∈ Tg := tg_s 78 (by decide +kernel) (by decide +kernel)
theorem q_833 : Cond.selects R_M y_M_nodesOf y_M_nodesOf ∈ Tg := tg_s 79 (by decide +kernel) (by decide +kernel)
theorem q_834 : Cond.selects R_M y_M_rowDigest y_M_rowDigest ∈ Tg := tg_s 80 (by decide +kernel) (by decide +kernel)
theorem q_835 : Cond.selects R_M y_M_setDigest y_M_setDigest ∈ Tg := tg_s 81 (by decide +kernel) (by decide +kernel)
theorem lw_S : ∀ z ∈ u_ws R_S F_S 3, z ∈ Tg := by
  intro z hz
  obtain ⟨k, hk, rfl⟩ := List.mem_map.mp hz
  have hk : k < 3 := List.mem_range.mp hk
  match k, hk with
  | 0, _ => exact tg_t 25 (by decide +kernel) (by decide +kernel)
  | 1, _ => exact tg_t 27 (by decide +kernel) (by decide +kernel)
  | 2, _ => exact tg_t 29 (by decide +kernel) (by decide +kernel)
  | k + 3, h => exact absurd h (by omega)
theorem lw_T : ∀ z ∈ u_ws R_T F_T 15, z ∈ Tg := by
  intro z hz
  obtain ⟨k, hk, rfl⟩ := List.mem_map.mp hz
  have hk : k < 15 := List.mem_range.mp hk
  match k, hk with
  | 0, _ => exact tg_t 54 (by decide +kernel) (by decide +kernel)
  | 1, _ => exact tg_t 56 (by decide +kernel) (by decide +kernel)
  | 2, _ => exact tg_t 58 (by decide +kernel) (by decide +kernel)
  | 3, _ => exact tg_t 60 (by decide +kernel) (by decide +kernel)
  | 4, _ => exact tg_t 62 (by decide +kernel) (by decide +kernel)
  | 5, _ => exact tg_t 64 (by decide +kernel) (by decide +kernel)
  | 6, _ => exact tg_t 66 (by decide +kernel) (by decide +kernel)
  | 7, _ => exact tg_t 68 (by decide +kernel) (by decide +kernel)
  | 8, _ => exact tg_t 70 (by decide +kernel) (by decide +kernel)
  | 9, _ => exact tg_t 72 (by decide +kernel) (by decide +kernel)
  | 10, _ => exact tg_t 74 (by decide +kernel) (by decide +kernel)
  | 11, _ => exact tg_t 76 (by decide +kernel) (by decide +kernel)
  | 12, _ => exact tg_t 78 (by decide +kernel) (by decide +kernel)
  | 13, _ => exact tg_t 80 (by decide +kernel) (by decide +kernel)
  | 14, _ => exact tg_t 82 (by decide +kernel) (by decide +kernel)
  | k + 15, h => exact absurd h (by omega)
theorem lw_O : ∀ z ∈ u_ws R_O F_O 15, z ∈ Tg := by
  intro z hz
  obtain ⟨k, hk, rfl⟩ := List.mem_map.mp hz
  have hk : k < 15 := List.mem_range.mp hk
  match k, hk with
  | 0, _ => exact tg_t 223 (by decide +kernel) (by decide +kernel)
  | 1, _ => exact tg_t 225 (by decide +kernel) (by decide +kernel)
  | 2, _ => exact tg_t 227 (by decide +kernel) (by decide +kernel)
  | 3, _ => exact tg_t 229 (by decide +kernel) (by decide +kernel)
  | 4, _ => exact tg_t 231 (by decide +kernel) (by decide +kernel)
  | 5, _ => exact tg_t 233 (by decide +kernel) (by decide +kernel)
  | 6, _ => exact tg_t 235 (by decide +kernel) (by decide +kernel)
  | 7, _ => exact tg_t 237 (by decide +kernel) (by decide +kernel)
  | 8, _ => exact tg_t 239 (by decide +kernel) (by decide +kernel)
  | 9, _ => exact tg_t 241 (by decide +kernel) (by decide +kernel)
  | 10, _ => exact tg_t 243 (by decide +kernel) (by decide +kernel)
  | 11, _ => exact tg_t 245 (by decide +kernel) (by decide +kernel)
  | 12, _ => exact tg_t 247 (by decide +kernel) (by decide +kernel)
  | 13, _ => exact tg_t 249 (by decide +kernel) (by decide +kernel)
  | 14, _ => exact tg_t 251 (by decide +kernel) (by decide +kernel)
  | k + 15, h => exact absurd h (by omega)
theorem lw_M : ∀ z ∈ u_ws R_M F_M 30, z ∈ Tg := by
  intro z hz
  obtain ⟨k, hk, rfl⟩ := List.mem_map.mp hz
  have hk : k < 30 := List.mem_range.mp hk
  match k, hk with
  | 0, _ => exact tg_t 585 (by decide +kernel) (by decide +kernel)
  | 1, _ => exact tg_t 587 (by decide +kernel) (by decide +kernel)
  | 2, _ => exact tg_t 589 (by decide +kernel) (by decide +kernel)
  | 3, _ => exact tg_t 591 (by decide +kernel) (by decide +kernel)
  | 4, _ => exact tg_t 593 (by decide +kernel) (by decide +kernel)
  | 5, _ => exact tg_t 595 (by decide +kernel) (by decide +kernel)
  | 6, _ => exact tg_t 597 (by decide +kernel) (by decide +kernel)
  | 7, _ => exact tg_t 599 (by decide +kernel) (by decide +kernel)
  | 8, _ => exact tg_t 601 (by decide +kernel) (by decide +kernel)
  | 9, _ => exact tg_t 603 (by decide +kernel) (by decide +kernel)
  | 10, _ => exact tg_t 605 (by decide +kernel) (by decide +kernel)
  | 11, _ => exact tg_t 607 (by decide +kernel) (by decide +kernel)
  | 12, _ => exact tg_t 609 (by decide +kernel) (by decide +kernel)
  | 13, _ => exact tg_t 611 (by decide +kernel) (by decide +kernel)
  | 14, _ => exact tg_t 613 (by decide +kernel) (by decide +kernel)
  | 15, _ => exact tg_t 615 (by decide +kernel) (by decide +kernel)
  | 16, _ => exact tg_t 617 (by decide +kernel) (by decide +kernel)
  | 17, _ => exact tg_t 619 (by decide +kernel) (by decide +kernel)
  | 18, _ => exact tg_t 621 (by decide +kernel) (by decide +kernel)
  | 19, _ => exact tg_t 623 (by decide +kernel) (by decide +kernel)
  | 20, _ => exact tg_t 625 (by decide +kernel) (by decide +kernel)
  | 21, _ => exact tg_t 627 (by decide +kernel) (by decide +kernel)
  | 22, _ => exact tg_t 629 (by decide +kernel) (by decide +kernel)
  | 23, _ => exact tg_t 631 (by decide +kernel) (by decide +kernel)
  | 24, _ => exact tg_t 633 (by decide +kernel) (by decide +kernel)
  | 25, _ => exact tg_t 635 (by decide +kernel) (by decide +kernel)
  | 26, _ => exact tg_t 637 (by decide +kernel) (by decide +kernel)
  | 27, _ => exact tg_t 639 (by decide +kernel) (by decide +kernel)
  | 28, _ => exact tg_t 641 (by decide +kernel) (by decide +kernel)
  | 29, _ => exact tg_t 643 (by decide +kernel) (by decide +kernel)
  | k + 30, h => exact absurd h (by omega)
end
section
-- ===== the worlds: cells by number, one shape table; memory as ints by cell and slot =====
abbrev Mem : Type := Nat → Nat → Int32
def mset (σ : Mem) (k : Nat) (f : Nat → Int32) : Mem := fun j => if j = k then f else σ j
def mput (σ : Mem) (k i : Nat) (v : Int32) : Mem := mset σ k (upd (σ k) i v)
def shT (t : Nat) : List (Option Nat) := [some (t + 1), some (t + 2), some (t + 3), some (t + 4), none, none, some (t + 5), none, some (t + 6), none, some (t + 7), none, some (t + 8), some (t + 9), some (t + 10)]
def shp : Nat → Nat × Nat × List (Option Nat)
  | 0 => (2, 2, [none, some 1, none, none, some 2, none, none, some 6, some 10, some 3, none, some 21, some 32, some 4, some 5])
  | 1 => (0, 10, [])
  | 2 => (0, 8, [])
  | 3 => (0, 40, [])
  | 4 => (0, 8, [])
  | 5 => (0, 8, [])
  | 6 => (2, 0, [some 7, some 8, some 9])
  | 7 => (0, 4, [])
  | 8 => (0, 4, [])
  | 9 => (0, 240, [])
  | 10 => (2, 1, shT 10)
  | 11 => (0, 24, [])
  | 12 => (0, 24, [])
  | 13 => (0, 24, [])
  | 14 => (0, 192, [])
  | 15 => (0, 8, [])
  | 16 => (0, 8, [])
  | 17 => (0, 7, [])
  | 18 => (0, 24, [])
  | 19 => (0, 24, [])
  | 20 => (0, 24, [])
  | 21 => (2, 1, shT 21)
  | 22 => (0, 24, [])
  | 23 => (0, 24, [])
  | 24 => (0, 24, [])
  | 25 => (0, 192, [])
  | 26 => (0, 8, [])
  | 27 => (0, 8, [])
  | 28 => (0, 7, [])
  | 29 => (0, 24, [])
  | 30 => (0, 24, [])
  | 31 => (0, 24, [])
  | 32 => (2, 1, shT 32)
  | 33 => (0, 24, [])
  | 34 => (0, 24, [])
  | 35 => (0, 24, [])
  | 36 => (0, 192, [])
  | 37 => (0, 8, [])
  | 38 => (0, 8, [])
  | 39 => (0, 7, [])
  | 40 => (0, 24, [])
  | 41 => (0, 24, [])
  | 42 => (0, 24, [])
  | 43 => (2, 3, [none, none, some 44, some 45, some 46, some 47, some 48, none, some 49, some 50, some 51, some 52, none, some 53, some 54, some 55, some 56, some 57, some 58, some 59, none, none, none, some 60, some 61, some 62, some 63, some 64, some 65, none])
  | 44 => (0, 10, [])
  | 45 => (0, 256, [])
  | 46 => (0, 256, [])
  | 47 => (0, 256, [])
  | 48 => (0, 256, [])
  | 49 => (0, 8, [])
  | 50 => (0, 8, [])
  | 51 => (0, 8, [])
  | 52 => (0, 64, [])
  | 53 => (0, 40, [])
  | 54 => (0, 256, [])
  | 55 => (0, 64, [])
  | 56 => (0, 8, [])
  | 57 => (0, 8, [])
  | 58 => (0, 8, [])
  | 59 => (0, 256, [])
  | 60 => (0, 8, [])
  | 61 => (1, 4, [])
  | 62 => (0, 4, [])
  | 63 => (0, 4, [])
  | 64 => (0, 240, [])
  | 65 => (0, 60, [])
  | _ => (3, 0, [])
def lenOf (k : Nat) : Nat := (shp k).2.1
def rd (σ : Mem) (k : Nat) (i : Int32) : Option Int32 := if i < 0 ∨ lenOf k ≤ i.toNatClampNeg then none else some (σ k i.toNatClampNeg)
def wr (σ : Mem) (k : Nat) (i v : Int32) : Option Mem := if i < 0 ∨ lenOf k ≤ i.toNatClampNeg then none else some (mput σ k i.toNatClampNeg v)
def stA : Nat → List Int32
  | 0 => [1, 1, 2, 6, 24, 120, 720, 5040, 40320]
  | 1 => [0, 1, 2, 5, 100]
  | _ => [3, 6, 12, 5, 7, 14]
def stNm : Nat → String
  | 0 => "FACTORIALS"
  | 1 => "DIGEST_ROWS"
  | _ => "DIGEST_SETS"
def rds (k : Nat) (i : Int32) : Option Int32 := if i < 0 ∨ (stA k).length ≤ i.toNatClampNeg then none else some ((stA k).getD i.toNatClampNeg 0)
def dv (x y : Int32) : Option Int32 := if y = 0 then none else some (x / y)
def rm (x y : Int32) : Option Int32 := if y = 0 then none else some (x - x / y * y)
def lt {α β : Type} (a : α) (f : α → β) : β := f a
def lp {S R : Type} (f : S → Option (S ⊕ R)) : Nat → S → Option R
  | 0, _ => none
  | n + 1, s => (f s).bind (fun y => Sum.elim (fun s2 => lp f n s2) (fun r => some r) y)
def fuel : Nat := 1000000
theorem obind {α β : Type} {x : Option α} {f : α → Option β} {o : β} (h : x.bind f = some o) : ∃ a, x = some a ∧ f a = some o := Option.bind_eq_some_iff.mp h
abbrev Wx : Type := va_G × ClassId × ClassId × (Nat → Nat) × (Nat → Nat)
abbrev classes : List vw_C := [(R_S, F_S, 3), (R_T, F_T, 15), (R_O, F_O, 15), (R_M, F_M, 30)]
def tysY (Y : Wx) : List (ClassId × FieldType) := [(Y.2.1, .int), (Y.2.2.1, .boolean)]
def adr (Y : Wx) (k : Nat) : Nat := Y.2.2.2.1 k
def sad (Y : Wx) (k : Nat) : Nat := Y.2.2.2.2 k
def fldV (Y : Wx) (f : Nat → Int32) (i : Nat) (o : Option Nat) : Value := match o with
  | none => .int (f i)
  | some j => .ref (adr Y j)
def cellE (Y : Wx) (σ : Mem) (k : Nat) : va_E := match shp k with
  | (0, L, _) => .inl (Y.2.1, L, .inl (σ k))
  | (1, L, _) => .inl (Y.2.2.1, L, .inl (σ k))
  | (_, ci, fs) => .inr (ci, fs.mapIdx (fldV Y (σ k)))
def wlo (w : Nat) : Nat := if w = 0 then 0 else 43
def wn (w : Nat) : Nat := if w = 0 then 43 else 23
def inW (w k : Nat) : Prop := wlo w ≤ k ∧ k < wlo w + wn w
def wd (Y : Wx) (w : Nat) (σ : Mem) : va_W := (List.range (wn w)).map (fun i => (adr Y (wlo w + i), cellE Y σ (wlo w + i)))
def Aw (Y : Wx) (w : Nat) : Nat → Prop := fun q => ∃ k, inW w k ∧ q = adr Y k
def Inj (Y : Wx) (w : Nat) : Prop := ∀ i j, inW w i → inW w j → adr Y i = adr Y j → i = j
def Sts (Y : Wx) (A : Nat → Prop) (U : State) (H : Heap) : Prop := ∀ k, k < 3 → va_Z "OrderTrees" (stNm k) "[I" (.ref (sad Y k)) A U H ∧ va_T .int (sad Y k) (stA k).length (fun j => .int ((stA k).getD j 0)) A U H
def Nwf (U : State) : Prop := va_Nw (.methodLinkNest R_T 158 y_O_factorial R_O) U
def Iv (Y : Wx) (w : Nat) (σ : Mem) (U : State) : Prop := va_P Y.1 classes (wd Y w σ) U.heap ∧ va_K Y.1 classes (tysY Y) U ∧ Inj Y w ∧ Sts Y (Aw Y w) U U.heap ∧ Nwf U
def rmL (n : Nat) : Room := { frames := n, cells := 0, slots := 0, locals := 40 * n }
def okR (ret : Option FieldType) (r : Option Value) : Prop := match ret, r with
  | some .boolean, some (.int v) => narrow .boolean (.int v) = .int v
  | _, _ => True
def Qo (Y : Wx) (w : Nat) (ret : Option FieldType) (r : Option Value) (σ : Mem) : Array Value → State → Outcome → State → Prop := fun _ st oc t => oc = .returned r ∧ okR ret r ∧ va_P Y.1 classes (wd Y w σ) t.heap ∧ va_F (Aw Y w) st t
def Ct (l : Launch) (Y : Wx) (w : Nat) (y : MethodName) (b : ByteArray) (nL : Nat) (ret : Option FieldType) (lvl : Nat) (as : List Value) (σ : Mem) (r : Option Value) (σ2 : Mem) : Prop :=
  Met l y (.code y b nL ret :: Tg) (rmL lvl) (va_Pc as (Iv Y w σ)) (Qo Y w ret r σ2) 0 0 (Aw Y w)
abbrev Cx : Type := Program × Launch × Env × Room × State × MethodId × Array Value × List Frame × Method × Code × (State → Prop)
def Gd (X : Cx) (Y : Wx) (w : Nat) (σ : Mem) (lv : List (Nat × Value)) (pc : Nat) (st : List Value) : Prop := match X with
  | (p, l, e, R, s, m, args, below, meth, c, Q) => ∀ (H : Heap) (locs : List Loc) (ls : Array Slot), va_P Y.1 classes (wd Y w σ) H → va_S (Aw Y w) s.heap H locs → lv_has ls c.maxLocals lv → W p l e R s m args below meth c H locs 0 0 Q (F0 m pc ls st)
def Fx (X : Cx) (Y : Wx) (w : Nat) (cc : ByteArray) (nL : Nat) (own : String) (lvl : Nat) : Prop := match X with
  | (p, l, e, R, s, m, args, below, meth, c, Q) => p.tables.exec = Jvm.exec ∧ c.code = cc ∧ c.maxLocals = nL ∧ s.vm.findClass own = some m.cls ∧ (∀ z ∈ Tg, z.before args s = true) ∧ va_K Y.1 classes (tysY Y) s ∧ Inj Y w ∧ Sts Y (Aw Y w) s s.heap ∧ R = rmL lvl ∧ Nwf s
def Rt (X : Cx) (Y : Wx) (w : Nat) (ret : Option FieldType) (r : Option Value) (σ : Mem) : Prop := match X with
  | (p, l, e, R, s, m, args, below, meth, c, Q) => meth.sig.returnType = ret ∧ meth.locks = false ∧ Q = MQ below (Qo Y w ret r σ) args s 0 0 (Aw Y w)
-- ===== the worlds' own laws =====
theorem cellE_congr {Y : Wx} {σ σ2 : Mem} {k : Nat} (h : σ2 k = σ k) : cellE Y σ2 k = cellE Y σ k := by
  unfold cellE; rw [h]
theorem wd_get {Y : Wx} {w k : Nat} {σ : Mem} (hk : inW w k) : (wd Y w σ)[k - wlo w]? = some (adr Y k, cellE Y σ k) := by
  have h1 : k - wlo w < wn w := by unfold inW at hk; omega
  have h2 : wlo w + (k - wlo w) = k := by unfold inW at hk; omega
  unfold wd
  rw [List.getElem?_map, List.getElem?_range h1]
  simp [h2]
theorem wd_at {Y : Wx} {w n : Nat} {σ : Mem} {q : Nat × va_E} (h : (wd Y w σ)[n]? = some q) : inW w (wlo w + n) ∧ q = (adr Y (wlo w + n), cellE Y σ (wlo w + n)) := by
  unfold wd at h
  rw [List.getElem?_map] at h
  obtain ⟨a, ha, hq⟩ := Option.map_eq_some_iff.mp h
  obtain ⟨hn, e⟩ := List.getElem?_eq_some_iff.mp ha
  simp at hn e
  subst e
  exact ⟨⟨Nat.le_add_right _ _, by omega⟩, hq.symm⟩
theorem wd_D {Y : Wx} {w : Nat} (h : Inj Y w) (σ : Mem) : va_D (Aw Y w) (wd Y w σ) := by
  refine ⟨fun i j p q hi hj e => ?_, fun k q hk => ?_⟩
  · obtain ⟨a1, rfl⟩ := wd_at hi
    obtain ⟨b1, rfl⟩ := wd_at hj
    have := h _ _ a1 b1 e
    omega
  · obtain ⟨a1, rfl⟩ := wd_at hk
    exact ⟨_, a1, rfl⟩
theorem wd_set {Y : Wx} {w k : Nat} {σ σ2 : Mem} (hk : inW w k) (hσ : ∀ j, j ≠ k → σ2 j = σ j) {e : va_E} (he : e = cellE Y σ2 k) : (wd Y w σ).set (k - wlo w) (adr Y k, e) = wd Y w σ2 := by
  subst he
  apply List.ext_getElem?
  intro n
  have h1 : k - wlo w < wn w := by unfold inW at hk; omega
  have h2 : wlo w + (k - wlo w) = k := by unfold inW at hk; omega
  have hl : (wd Y w σ).length = wn w := by simp [wd]
  have hl2 : (wd Y w σ2).length = wn w := by simp [wd]
  rw [List.getElem?_set]
  by_cases hn : k - wlo w = n
  · subst hn
    rw [if_pos rfl, if_pos (by rw [hl]; exact h1), wd_get hk]
  · rw [if_neg hn]
    by_cases hn2 : n < wn w
    · unfold wd
      rw [List.getElem?_map, List.getElem?_map, List.getElem?_range hn2]
      simp only [Option.map_some]
      rw [cellE_congr (hσ (wlo w + n) (fun h => hn (by omega)))]
    · rw [List.getElem?_eq_none (by omega), List.getElem?_eq_none (by omega)]
theorem mput_ne {σ : Mem} {k i : Nat} {v : Int32} : ∀ j, j ≠ k → mput σ k i v j = σ j := fun j h => by simp [mput, mset, h]
theorem mput_eq {σ : Mem} {k i : Nat} {v : Int32} : mput σ k i v k = upd (σ k) i v := by simp [mput, mset]
theorem cellE_arr {Y : Wx} {σ : Mem} {k L : Nat} {l : List (Option Nat)} (hs : shp k = (0, L, l)) : cellE Y σ k = .inl (Y.2.1, L, .inl (σ k)) := by unfold cellE; rw [hs]
theorem cellE_arrZ {Y : Wx} {σ : Mem} {k L : Nat} {l : List (Option Nat)} (hs : shp k = (1, L, l)) : cellE Y σ k = .inl (Y.2.2.1, L, .inl (σ k)) := by unfold cellE; rw [hs]
theorem cellE_obj {Y : Wx} {σ : Mem} {k ci : Nat} {fs : List (Option Nat)} (hs : shp k = (2, ci, fs)) : cellE Y σ k = .inr (ci, fs.mapIdx (fldV Y (σ k))) := by unfold cellE; rw [hs]
theorem fld_put {Y : Wx} {f : Nat → Int32} {fs : List (Option Nat)} {i : Nat} {v : Int32} (hi : fs[i]? = some none) : (fs.mapIdx (fldV Y f)).set i (.int v) = fs.mapIdx (fldV Y (upd f i v)) := by
  apply List.ext_getElem?
  intro n
  have hl := (List.getElem?_eq_some_iff.mp hi).1
  rw [List.getElem?_set, List.getElem?_mapIdx, List.getElem?_mapIdx]
  by_cases hn : i = n
  · subst hn
    rw [if_pos rfl, if_pos (by simpa using hl), hi]
    simp [fldV, upd]
  · rw [if_neg hn]
    congr 1
    funext o
    cases o <;> simp [fldV, upd, fun h => hn (Eq.symm h)]
-- ===== links =====
def FLok (own : String) (idx ci i : Nat) : Prop := ∃ (C : String) (T : u_T) (N : Nat) (ty0 : Nat → FieldType), classes[ci]? = some (C, T, N) ∧ i < N ∧ (∀ z ∈ u_ws C T N, z ∈ Tg) ∧ Cond.fieldLink own idx (T i).1 (T i).2.1 (T i).2.2.1 ∈ Tg ∧ (∀ k, k < N → parseFieldDescriptor (T k).2.2.1 = some (ty0 k)) ∧ (∀ a, a < N → ∀ b, b < N → a ≠ b → (T a).2.1 ≠ (T b).2.1)
def FIok (own : String) (idx ci i : Nat) : Prop := ∃ (C : String) (T : u_T) (N : Nat) (ty0 : Nat → FieldType), classes[ci]? = some (C, T, N) ∧ i < N ∧ (∀ z ∈ u_ws C T N, z ∈ Tg) ∧ Cond.fieldLink own idx (T i).1 (T i).2.1 (T i).2.2.1 ∈ Tg ∧ (∀ k, k < N → parseFieldDescriptor (T k).2.2.1 = some (ty0 k)) ∧ (∀ a, a < N → ∀ b, b < N → a ≠ b → (T a).2.1 ≠ (T b).2.1) ∧ (T i).2.2.1 = "I" ∧ (T i).2.2.2 = false
theorem FIok.f {own : String} {idx ci i : Nat} (h : FIok own idx ci i) : FLok own idx ci i := by
  obtain ⟨C, T, N, ty0, h1, h2, h3, h4, h5, h6, -, -⟩ := h
  exact ⟨C, T, N, ty0, h1, h2, h3, h4, h5, h6⟩
def nMax : Nat := 21
/-- a method's own words in the table: what it is called by, its code, how many arguments -/
def MVok (own : String) (idx : Nat) (C : String) (y : MethodName) (b : ByteArray) (nL : Nat) (ret : Option FieldType) (n : Nat) : Prop :=
  Cond.methodLink own idx y ∈ Tg ∧ Cond.instanceMethod y ∈ Tg ∧ Cond.selects C y y ∈ Tg ∧ Cond.initialized C ∈ Tg ∧ Cond.code y b nL ret ∈ Tg ∧ (y.cls = C ∧ y.cls ≠ "java/lang/invoke/MethodHandle" ∧ y.cls ≠ "java/lang/invoke/VarHandle" ∧ (parseMethodDescriptor y.desc).map (fun d => d.parameters.length) = some n) ∧ nL ≤ nMax
def MSok (own : String) (idx : Nat) (y : MethodName) (b : ByteArray) (nL : Nat) (ret : Option FieldType) (n : Nat) : Prop :=
  Cond.methodLink own idx y ∈ Tg ∧ Cond.static y ∈ Tg ∧ Cond.initialized y.cls ∈ Tg ∧ Cond.code y b nL ret ∈ Tg ∧ (y.cls ≠ "java/lang/invoke/MethodHandle" ∧ y.cls ≠ "java/lang/invoke/VarHandle" ∧ (parseMethodDescriptor y.desc).map (fun d => d.parameters.length) = some n) ∧ nL ≤ nMax
theorem tg_good {z : Cond} (h : z ∈ Tg) : goodWord z = true := (List.mem_filter.mp h).2
theorem tg_in {big ws : List Cond} (hb : ∀ z ∈ Tg, z ∈ big) (h : ∀ z ∈ ws, z ∈ Tg) : GoodIn big ws := fun z hz => ⟨hb z (h z hz), good_of_word (tg_good (h z hz))⟩
-- ===== the rows =====
section GR
variable {X : Cx} {Y : Wx} {w : Nat} {cc : ByteArray} {nL : Nat} {own : String} {lvl : Nat} {σ : Mem} {lv : List (Nat × Value)} {pc : Nat} {st : List Value}
theorem g_iconst (hX : Fx X Y w cc nL own lvl) {n : Int} (v : Int32) (hd : decode cc pc = .ok (.iconst n, 1)) (hv : Int32.ofInt n = v) (k : Gd X Y w σ lv (pc + 1) (.int v :: st)) : Gd X Y w σ lv pc st := by
  obtain ⟨p, l, e, R, s, m, args, below, meth, c, Q⟩ := X
  intro H locs ls hP hS hl
  exact lv_iconst hX.1 hX.2.1 hd hv (k H locs ls hP hS hl)
theorem g_bipush (hX : Fx X Y w cc nL own lvl) {n : Int} (v : Int32) (hd : decode cc pc = .ok (.bipush n, 2)) (hv : (Int8.ofInt n).toInt32 = v) (k : Gd X Y w σ lv (pc + 2) (.int v :: st)) : Gd X Y w σ lv pc st := by
  obtain ⟨p, l, e, R, s, m, args, below, meth, c, Q⟩ := X
  intro H locs ls hP hS hl
  exact lv_bipush hX.1 hX.2.1 hd hv (k H locs ls hP hS hl)
theorem g_sipush (hX : Fx X Y w cc nL own lvl) {n : Int} (v : Int32) (hd : decode cc pc = .ok (.sipush n, 3)) (hv : (Int16.ofInt n).toInt32 = v) (k : Gd X Y w σ lv (pc + 3) (.int v :: st)) : Gd X Y w σ lv pc st := by
  obtain ⟨p, l, e, R, s, m, args, below, meth, c, Q⟩ := X
  intro H locs ls hP hS hl
  exact lv_sipush hX.1 hX.2.1 hd hv (k H locs ls hP hS hl)
theorem g_lconst (hX : Fx X Y w cc nL own lvl) {n : Fin 2} (v : Int64) (hd : decode cc pc = .ok (.lconst n, 1)) (hv : Int64.ofNat (n : Nat) = v) (k : Gd X Y w σ lv (pc + 1) (.long v :: st)) : Gd X Y w σ lv pc st := by
  obtain ⟨p, l, e, R, s, m, args, below, meth, c, Q⟩ := X
  intro H locs ls hP hS hl
  exact lv_lconst hX.1 hX.2.1 hd hv (k H locs ls hP hS hl)
theorem g_ldc (hX : Fx X Y w cc nL own lvl) {idx : Nat} {v : Int32} (hd : decode cc pc = .ok (.ldc idx, 2)) (hv : Cond.constant own idx v ∈ Tg) (k : Gd X Y w σ lv (pc + 2) (.int v :: st)) : Gd X Y w σ lv pc st := by
  obtain ⟨p, l, e, R, s, m, args, below, meth, c, Q⟩ := X
  obtain ⟨hx, hb, hml, ho, hts, hK, hI, hZ, hR, hN⟩ := hX
  intro H locs ls hP hS hl
  exact lv_ldc hx hb ho (hts _ hv) hd (k H locs ls hP hS hl)
theorem g_ldcw (hX : Fx X Y w cc nL own lvl) {idx : Nat} {v : Int32} (hd : decode cc pc = .ok (.ldc_w idx, 3)) (hv : Cond.constant own idx v ∈ Tg) (k : Gd X Y w σ lv (pc + 3) (.int v :: st)) : Gd X Y w σ lv pc st := by
  obtain ⟨p, l, e, R, s, m, args, below, meth, c, Q⟩ := X
  obtain ⟨hx, hb, hml, ho, hts, hK, hI, hZ, hR, hN⟩ := hX
  intro H locs ls hP hS hl
  exact lv_ldcw hx hb ho (hts _ hv) hd (k H locs ls hP hS hl)
theorem g_ldc2 (hX : Fx X Y w cc nL own lvl) {idx : Nat} {v : Int64} (hd : decode cc pc = .ok (.ldc2_w idx, 3)) (hv : Cond.constantLong own idx v ∈ Tg) (k : Gd X Y w σ lv (pc + 3) (.long v :: st)) : Gd X Y w σ lv pc st := by
  obtain ⟨p, l, e, R, s, m, args, below, meth, c, Q⟩ := X
  obtain ⟨hx, hb, hml, ho, hts, hK, hI, hZ, hR, hN⟩ := hX
  intro H locs ls hP hS hl
  exact lv_ldc2 hx hb ho (hts _ hv) hd (k H locs ls hP hS hl)
theorem g_iload_n (hX : Fx X Y w cc nL own lvl) {j : Fin 4} {x : Int32} (hd : decode cc pc = .ok (.iload_n j, 1)) (q : Nat) (hq : lv[q]? = some (j.val, .int x)) (k : Gd X Y w σ lv (pc + 1) (.int x :: st)) : Gd X Y w σ lv pc st := by
  obtain ⟨p, l, e, R, s, m, args, below, meth, c, Q⟩ := X
  intro H locs ls hP hS hl
  exact lv_iload_n hX.1 hX.2.1 hd rfl (lv_at hl q hq) (k H locs ls hP hS hl)
theorem g_iload (hX : Fx X Y w cc nL own lvl) {j : Nat} {x : Int32} (hd : decode cc pc = .ok (.iload j, 2)) (q : Nat) (hq : lv[q]? = some (j, .int x)) (k : Gd X Y w σ lv (pc + 2) (.int x :: st)) : Gd X Y w σ lv pc st := by
  obtain ⟨p, l, e, R, s, m, args, below, meth, c, Q⟩ := X
  intro H locs ls hP hS hl
  exact lv_iload hX.1 hX.2.1 hd (lv_at hl q hq) (k H locs ls hP hS hl)
theorem g_lload_n (hX : Fx X Y w cc nL own lvl) {j : Fin 4} {x : Int64} (hd : decode cc pc = .ok (.lload_n j, 1)) (q : Nat) (hq : lv[q]? = some (j.val, .long x)) (k : Gd X Y w σ lv (pc + 1) (.long x :: st)) : Gd X Y w σ lv pc st := by
  obtain ⟨p, l, e, R, s, m, args, below, meth, c, Q⟩ := X
  intro H locs ls hP hS hl
  exact lv_lload_n hX.1 hX.2.1 hd rfl (lv_at hl q hq) (k H locs ls hP hS hl)
theorem g_lload (hX : Fx X Y w cc nL own lvl) {j : Nat} {x : Int64} (hd : decode cc pc = .ok (.lload j, 2)) (q : Nat) (hq : lv[q]? = some (j, .long x)) (k : Gd X Y w σ lv (pc + 2) (.long x :: st)) : Gd X Y w σ lv pc st := by
  obtain ⟨p, l, e, R, s, m, args, below, meth, c, Q⟩ := X
  intro H locs ls hP hS hl
  exact lv_lload hX.1 hX.2.1 hd (lv_at hl q hq) (k H locs ls hP hS hl)
theorem g_aload_n (hX : Fx X Y w cc nL own lvl) {j : Fin 4} {x : Nat} (hd : decode cc pc = .ok (.aload_n j, 1)) (q : Nat) (hq : lv[q]? = some (j.val, .ref x)) (k : Gd X Y w σ lv (pc + 1) (.ref x :: st)) : Gd X Y w σ lv pc st := by
  obtain ⟨p, l, e, R, s, m, args, below, meth, c, Q⟩ := X
  intro H locs ls hP hS hl
  exact lv_aload_n hX.1 hX.2.1 hd rfl (lv_at hl q hq) (k H locs ls hP hS hl)
theorem g_istore_n (hX : Fx X Y w cc nL own lvl) {j : Fin 4} {x : Int32} {β : Type} {z : β} {f : Int32 → β} (lf : Int32 → List (Nat × Value)) (hd : decode cc pc = .ok (.istore_n j, 1)) (hn : j.val < nL) (hl2 : ∀ x : Int32, (j.val, Value.int x) :: lv.filter (fun q => !(q.1 == j.val) && !(q.1 + 1 == j.val && q.2.category == 2)) = lf x) (hf : lt x f = z) (k : ∀ y : Int32, f y = z → Gd X Y w σ (lf y) (pc + 1) st) : Gd X Y w σ lv pc (.int x :: st) := by
  obtain ⟨p, l, e, R, s, m, args, below, meth, c, Q⟩ := X
  obtain ⟨hx, hb, hml, ho, hts, hK, hI, hZ, hR, hN⟩ := hX
  intro H locs ls hP hS hl
  rw [hml] at hl
  exact lv_istore_n hx hb hd rfl hl hn (hl2 x) (fun ls2 hl3 => k x hf H locs ls2 hP hS (by rw [hml]; exact hl3))
theorem g_istore (hX : Fx X Y w cc nL own lvl) {j : Nat} {x : Int32} {β : Type} {z : β} {f : Int32 → β} (lf : Int32 → List (Nat × Value)) (hd : decode cc pc = .ok (.istore j, 2)) (hn : j < nL) (hl2 : ∀ x : Int32, (j, Value.int x) :: lv.filter (fun q => !(q.1 == j) && !(q.1 + 1 == j && q.2.category == 2)) = lf x) (hf : lt x f = z) (k : ∀ y : Int32, f y = z → Gd X Y w σ (lf y) (pc + 2) st) : Gd X Y w σ lv pc (.int x :: st) := by
  obtain ⟨p, l, e, R, s, m, args, below, meth, c, Q⟩ := X
  obtain ⟨hx, hb, hml, ho, hts, hK, hI, hZ, hR, hN⟩ := hX
  intro H locs ls hP hS hl
  rw [hml] at hl
  exact lv_istore hx hb hd hl hn (hl2 x) (fun ls2 hl3 => k x hf H locs ls2 hP hS (by rw [hml]; exact hl3))
theorem g_istore_nV (hX : Fx X Y w cc nL own lvl) {j : Fin 4} {x : Int32} (lf : List (Nat × Value)) (hd : decode cc pc = .ok (.istore_n j, 1)) (hn : j.val < nL) (hl2 : (j.val, Value.int x) :: lv.filter (fun q => !(q.1 == j.val) && !(q.1 + 1 == j.val && q.2.category == 2)) = lf) (k : Gd X Y w σ lf (pc + 1) st) : Gd X Y w σ lv pc (.int x :: st) := by
  obtain ⟨p, l, e, R, s, m, args, below, meth, c, Q⟩ := X
  obtain ⟨hx, hb, hml, ho, hts, hK, hI, hZ, hR, hN⟩ := hX
  intro H locs ls hP hS hl
  rw [hml] at hl
  exact lv_istore_n hx hb hd rfl hl hn hl2 (fun ls2 hl3 => k H locs ls2 hP hS (by rw [hml]; exact hl3))
theorem g_istoreV (hX : Fx X Y w cc nL own lvl) {j : Nat} {x : Int32} (lf : List (Nat × Value)) (hd : decode cc pc = .ok (.istore j, 2)) (hn : j < nL) (hl2 : (j, Value.int x) :: lv.filter (fun q => !(q.1 == j) && !(q.1 + 1 == j && q.2.category == 2)) = lf) (k : Gd X Y w σ lf (pc + 2) st) : Gd X Y w σ lv pc (.int x :: st) := by
  obtain ⟨p, l, e, R, s, m, args, below, meth, c, Q⟩ := X
  obtain ⟨hx, hb, hml, ho, hts, hK, hI, hZ, hR, hN⟩ := hX
  intro H locs ls hP hS hl
  rw [hml] at hl
  exact lv_istore hx hb hd hl hn hl2 (fun ls2 hl3 => k H locs ls2 hP hS (by rw [hml]; exact hl3))
theorem g_lstore_n (hX : Fx X Y w cc nL own lvl) {j : Fin 4} {x : Int64} {β : Type} {z : β} {f : Int64 → β} (lf : Int64 → List (Nat × Value)) (hd : decode cc pc = .ok (.lstore_n j, 1)) (hn : j.val + 1 < nL) (hl2 : ∀ x : Int64, (j.val, Value.long x) :: lv.filter (fun q => !(q.1 == j.val) && (!(q.1 == j.val + 1) && !(q.1 + 1 == j.val && q.2.category == 2))) = lf x) (hf : lt x f = z) (k : ∀ y : Int64, f y = z → Gd X Y w σ (lf y) (pc + 1) st) : Gd X Y w σ lv pc (.long x :: st) := by
  obtain ⟨p, l, e, R, s, m, args, below, meth, c, Q⟩ := X
  obtain ⟨hx, hb, hml, ho, hts, hK, hI, hZ, hR, hN⟩ := hX
  intro H locs ls hP hS hl
  rw [hml] at hl
  exact lv_lstore_n hx hb hd rfl hl hn (hl2 x) (fun ls2 hl3 => k x hf H locs ls2 hP hS (by rw [hml]; exact hl3))
theorem g_lstore (hX : Fx X Y w cc nL own lvl) {j : Nat} {x : Int64} {β : Type} {z : β} {f : Int64 → β} (lf : Int64 → List (Nat × Value)) (hd : decode cc pc = .ok (.lstore j, 2)) (hn : j + 1 < nL) (hl2 : ∀ x : Int64, (j, Value.long x) :: lv.filter (fun q => !(q.1 == j) && (!(q.1 == j + 1) && !(q.1 + 1 == j && q.2.category == 2))) = lf x) (hf : lt x f = z) (k : ∀ y : Int64, f y = z → Gd X Y w σ (lf y) (pc + 2) st) : Gd X Y w σ lv pc (.long x :: st) := by
  obtain ⟨p, l, e, R, s, m, args, below, meth, c, Q⟩ := X
  obtain ⟨hx, hb, hml, ho, hts, hK, hI, hZ, hR, hN⟩ := hX
  intro H locs ls hP hS hl
  rw [hml] at hl
  exact lv_lstore hx hb hd hl hn (hl2 x) (fun ls2 hl3 => k x hf H locs ls2 hP hS (by rw [hml]; exact hl3))
theorem g_astore_n (hX : Fx X Y w cc nL own lvl) {j : Fin 4} {x : Nat} (lf : List (Nat × Value)) (hd : decode cc pc = .ok (.astore_n j, 1)) (hn : j.val < nL) (hl2 : (j.val, Value.ref x) :: lv.filter (fun q => !(q.1 == j.val) && !(q.1 + 1 == j.val && q.2.category == 2)) = lf) (k : Gd X Y w σ lf (pc + 1) st) : Gd X Y w σ lv pc (.ref x :: st) := by
  obtain ⟨p, l, e, R, s, m, args, below, meth, c, Q⟩ := X
  obtain ⟨hx, hb, hml, ho, hts, hK, hI, hZ, hR, hN⟩ := hX
  intro H locs ls hP hS hl
  rw [hml] at hl
  exact lv_astore_n hx hb hd rfl hl hn hl2 (fun ls2 hl3 => k H locs ls2 hP hS (by rw [hml]; exact hl3))
theorem g_iinc (hX : Fx X Y w cc nL own lvl) {j : Nat} {n : Int} {x v : Int32} {β : Type} {z : β} {f : Int32 → β} (lf : Int32 → List (Nat × Value)) (hd : decode cc pc = .ok (.iinc j n, 3)) (q : Nat) (hq : lv[q]? = some (j, .int x)) (hv : x + Int32.ofInt n = v) (hn : j < nL) (hl2 : ∀ x : Int32, (j, Value.int x) :: lv.filter (fun q => !(q.1 == j) && !(q.1 + 1 == j && q.2.category == 2)) = lf x) (hf : lt v f = z) (k : ∀ y : Int32, f y = z → Gd X Y w σ (lf y) (pc + 3) st) : Gd X Y w σ lv pc st := by
  obtain ⟨p, l, e, R, s, m, args, below, meth, c, Q⟩ := X
  obtain ⟨hx, hb, hml, ho, hts, hK, hI, hZ, hR, hN⟩ := hX
  intro H locs ls hP hS hl
  rw [hml] at hl
  exact lv_iinc hx hb hd hl hq hv hn (hl2 v) (fun ls2 hl3 => k v hf H locs ls2 hP hS (by rw [hml]; exact hl3))
theorem g_sub (qs : List Nat) {lv2 : List (Nat × Value)} (h : lv_pick lv qs = lv2) (k : Gd X Y w σ lv2 pc st) : Gd X Y w σ lv pc st := by
  obtain ⟨p, l, e, R, s, m, args, below, meth, c, Q⟩ := X
  intro H locs ls hP hS hl
  exact k H locs ls hP hS (lv_sub hl qs h)
theorem g_iadd (hX : Fx X Y w cc nL own lvl) {x y : Int32} (hd : decode cc pc = .ok (.iadd, 1)) (k : Gd X Y w σ lv (pc + 1) (.int (x + y) :: st)) : Gd X Y w σ lv pc (.int y :: .int x :: st) := by
  obtain ⟨p, l, e, R, s, m, args, below, meth, c, Q⟩ := X
  intro H locs ls hP hS hl
  exact lv_iadd hX.1 hX.2.1 hd (k H locs ls hP hS hl)
theorem g_isub (hX : Fx X Y w cc nL own lvl) {x y : Int32} (hd : decode cc pc = .ok (.isub, 1)) (k : Gd X Y w σ lv (pc + 1) (.int (x - y) :: st)) : Gd X Y w σ lv pc (.int y :: .int x :: st) := by
  obtain ⟨p, l, e, R, s, m, args, below, meth, c, Q⟩ := X
  intro H locs ls hP hS hl
  exact lv_isub hX.1 hX.2.1 hd (k H locs ls hP hS hl)
theorem g_imul (hX : Fx X Y w cc nL own lvl) {x y : Int32} (hd : decode cc pc = .ok (.imul, 1)) (k : Gd X Y w σ lv (pc + 1) (.int (x * y) :: st)) : Gd X Y w σ lv pc (.int y :: .int x :: st) := by
  obtain ⟨p, l, e, R, s, m, args, below, meth, c, Q⟩ := X
  intro H locs ls hP hS hl
  exact lv_imul hX.1 hX.2.1 hd (k H locs ls hP hS hl)
theorem g_iand (hX : Fx X Y w cc nL own lvl) {x y : Int32} (hd : decode cc pc = .ok (.iand, 1)) (k : Gd X Y w σ lv (pc + 1) (.int (x &&& y) :: st)) : Gd X Y w σ lv pc (.int y :: .int x :: st) := by
  obtain ⟨p, l, e, R, s, m, args, below, meth, c, Q⟩ := X
  intro H locs ls hP hS hl
  exact lv_iand hX.1 hX.2.1 hd (k H locs ls hP hS hl)
theorem g_ior (hX : Fx X Y w cc nL own lvl) {x y : Int32} (hd : decode cc pc = .ok (.ior, 1)) (k : Gd X Y w σ lv (pc + 1) (.int (x ||| y) :: st)) : Gd X Y w σ lv pc (.int y :: .int x :: st) := by
  obtain ⟨p, l, e, R, s, m, args, below, meth, c, Q⟩ := X
  intro H locs ls hP hS hl
  exact lv_ior hX.1 hX.2.1 hd (k H locs ls hP hS hl)
theorem g_ixor (hX : Fx X Y w cc nL own lvl) {x y : Int32} (hd : decode cc pc = .ok (.ixor, 1)) (k : Gd X Y w σ lv (pc + 1) (.int (x ^^^ y) :: st)) : Gd X Y w σ lv pc (.int y :: .int x :: st) := by
  obtain ⟨p, l, e, R, s, m, args, below, meth, c, Q⟩ := X
  intro H locs ls hP hS hl
  exact lv_ixor hX.1 hX.2.1 hd (k H locs ls hP hS hl)
theorem g_ishl (hX : Fx X Y w cc nL own lvl) {x y : Int32} (hd : decode cc pc = .ok (.ishl, 1)) (k : Gd X Y w σ lv (pc + 1) (.int (x <<< (y &&& 31)) :: st)) : Gd X Y w σ lv pc (.int y :: .int x :: st) := by
  obtain ⟨p, l, e, R, s, m, args, below, meth, c, Q⟩ := X
  intro H locs ls hP hS hl
  exact lv_ishl hX.1 hX.2.1 hd (k H locs ls hP hS hl)
theorem g_ishr (hX : Fx X Y w cc nL own lvl) {x y : Int32} (hd : decode cc pc = .ok (.ishr, 1)) (k : Gd X Y w σ lv (pc + 1) (.int (x >>> (y &&& 31)) :: st)) : Gd X Y w σ lv pc (.int y :: .int x :: st) := by
  obtain ⟨p, l, e, R, s, m, args, below, meth, c, Q⟩ := X
  intro H locs ls hP hS hl
  exact lv_ishr hX.1 hX.2.1 hd (k H locs ls hP hS hl)
theorem g_ladd (hX : Fx X Y w cc nL own lvl) {x y : Int64} (hd : decode cc pc = .ok (.ladd, 1)) (k : Gd X Y w σ lv (pc + 1) (.long (x + y) :: st)) : Gd X Y w σ lv pc (.long y :: .long x :: st) := by
  obtain ⟨p, l, e, R, s, m, args, below, meth, c, Q⟩ := X
  intro H locs ls hP hS hl
  exact lv_ladd hX.1 hX.2.1 hd (k H locs ls hP hS hl)
theorem g_lmul (hX : Fx X Y w cc nL own lvl) {x y : Int64} (hd : decode cc pc = .ok (.lmul, 1)) (k : Gd X Y w σ lv (pc + 1) (.long (x * y) :: st)) : Gd X Y w σ lv pc (.long y :: .long x :: st) := by
  obtain ⟨p, l, e, R, s, m, args, below, meth, c, Q⟩ := X
  intro H locs ls hP hS hl
  exact lv_lmul hX.1 hX.2.1 hd (k H locs ls hP hS hl)
theorem g_lcmp (hX : Fx X Y w cc nL own lvl) {x y : Int64} (hd : decode cc pc = .ok (.lcmp, 1)) (k : Gd X Y w σ lv (pc + 1) (.int (lg_cmp x y) :: st)) : Gd X Y w σ lv pc (.long y :: .long x :: st) := by
  obtain ⟨p, l, e, R, s, m, args, below, meth, c, Q⟩ := X
  intro H locs ls hP hS hl
  exact W.lcmp hX.1 hX.2.1 hd (k H locs ls hP hS hl)
theorem g_ineg (hX : Fx X Y w cc nL own lvl) {x : Int32} (hd : decode cc pc = .ok (.ineg, 1)) (k : Gd X Y w σ lv (pc + 1) (.int (-x) :: st)) : Gd X Y w σ lv pc (.int x :: st) := by
  obtain ⟨p, l, e, R, s, m, args, below, meth, c, Q⟩ := X
  intro H locs ls hP hS hl
  exact lv_ineg hX.1 hX.2.1 hd (k H locs ls hP hS hl)
theorem g_i2l (hX : Fx X Y w cc nL own lvl) {x : Int32} (hd : decode cc pc = .ok (.i2l, 1)) (k : Gd X Y w σ lv (pc + 1) (.long (x.toInt64) :: st)) : Gd X Y w σ lv pc (.int x :: st) := by
  obtain ⟨p, l, e, R, s, m, args, below, meth, c, Q⟩ := X
  intro H locs ls hP hS hl
  exact lv_i2l hX.1 hX.2.1 hd rfl (k H locs ls hP hS hl)
theorem g_l2i (hX : Fx X Y w cc nL own lvl) {x : Int64} (hd : decode cc pc = .ok (.l2i, 1)) (k : Gd X Y w σ lv (pc + 1) (.int (x.toInt32) :: st)) : Gd X Y w σ lv pc (.long x :: st) := by
  obtain ⟨p, l, e, R, s, m, args, below, meth, c, Q⟩ := X
  intro H locs ls hP hS hl
  exact lv_l2i hX.1 hX.2.1 hd rfl (k H locs ls hP hS hl)
theorem g_i2b (hX : Fx X Y w cc nL own lvl) {x : Int32} (hd : decode cc pc = .ok (.i2b, 1)) (k : Gd X Y w σ lv (pc + 1) (.int (x.toInt8.toInt32) :: st)) : Gd X Y w σ lv pc (.int x :: st) := by
  obtain ⟨p, l, e, R, s, m, args, below, meth, c, Q⟩ := X
  intro H locs ls hP hS hl
  exact lv_i2b hX.1 hX.2.1 hd rfl (k H locs ls hP hS hl)
theorem g_i2s (hX : Fx X Y w cc nL own lvl) {x : Int32} (hd : decode cc pc = .ok (.i2s, 1)) (k : Gd X Y w σ lv (pc + 1) (.int (x.toInt16.toInt32) :: st)) : Gd X Y w σ lv pc (.int x :: st) := by
  obtain ⟨p, l, e, R, s, m, args, below, meth, c, Q⟩ := X
  intro H locs ls hP hS hl
  exact lv_i2s hX.1 hX.2.1 hd rfl (k H locs ls hP hS hl)
theorem g_idiv (hX : Fx X Y w cc nL own lvl) {x y : Int32} {β : Type} {o : β} {f : Int32 → Option β} (hd : decode cc pc = .ok (.idiv, 1)) (hf : (dv x y).bind f = some o) (k : ∀ v : Int32, f v = some o → Gd X Y w σ lv (pc + 1) (.int v :: st)) : Gd X Y w σ lv pc (.int y :: .int x :: st) := by
  obtain ⟨a, h1, h2⟩ := obind hf
  unfold dv at h1
  by_cases hy : y = 0
  · rw [if_pos hy] at h1; cases h1
  · rw [if_neg hy] at h1
    cases h1
    obtain ⟨p, l, e, R, s, m, args, below, meth, c, Q⟩ := X
    intro H locs ls hP hS hl
    exact lv_idiv hX.1 hX.2.1 hd hy (k _ h2 H locs ls hP hS hl)
theorem g_irem (hX : Fx X Y w cc nL own lvl) {x y : Int32} {β : Type} {o : β} {f : Int32 → Option β} (hd : decode cc pc = .ok (.irem, 1)) (hf : (rm x y).bind f = some o) (k : ∀ v : Int32, f v = some o → Gd X Y w σ lv (pc + 1) (.int v :: st)) : Gd X Y w σ lv pc (.int y :: .int x :: st) := by
  obtain ⟨a, h1, h2⟩ := obind hf
  unfold rm at h1
  by_cases hy : y = 0
  · rw [if_pos hy] at h1; cases h1
  · rw [if_neg hy] at h1
    cases h1
    obtain ⟨p, l, e, R, s, m, args, below, meth, c, Q⟩ := X
    intro H locs ls hP hS hl
    exact lv_irem hX.1 hX.2.1 hd hy (k _ h2 H locs ls hP hS hl)
theorem g_dup (hX : Fx X Y w cc nL own lvl) {v : Value} (hd : decode cc pc = .ok (.dup, 1)) (hc : v.category = 1) (k : Gd X Y w σ lv (pc + 1) (v :: v :: st)) : Gd X Y w σ lv pc (v :: st) := by
  obtain ⟨p, l, e, R, s, m, args, below, meth, c, Q⟩ := X
  intro H locs ls hP hS hl
  exact lv_dup hX.1 hX.2.1 hd hc (k H locs ls hP hS hl)
theorem g_dup2 (hX : Fx X Y w cc nL own lvl) {u v : Value} (hd : decode cc pc = .ok (.dup2, 1)) (hu : u.category = 1) (hv : v.category = 1) (k : Gd X Y w σ lv (pc + 1) (u :: v :: u :: v :: st)) : Gd X Y w σ lv pc (u :: v :: st) := by
  obtain ⟨p, l, e, R, s, m, args, below, meth, c, Q⟩ := X
  intro H locs ls hP hS hl
  exact lv_dup2_11 hX.1 hX.2.1 hd hu hv (k H locs ls hP hS hl)
theorem g_pop (hX : Fx X Y w cc nL own lvl) {v : Value} (hd : decode cc pc = .ok (.pop, 1)) (hc : v.category = 1) (k : Gd X Y w σ lv (pc + 1) st) : Gd X Y w σ lv pc (v :: st) := by
  obtain ⟨p, l, e, R, s, m, args, below, meth, c, Q⟩ := X
  intro H locs ls hP hS hl
  exact lv_pop hX.1 hX.2.1 hd hc (k H locs ls hP hS hl)
theorem g_goto (hX : Fx X Y w cc nL own lvl) {off : Int} (tgt : Nat) (hd : decode cc pc = .ok (.goto off, 3)) (ht : (pc : Int) + off = (tgt : Int)) (k : Gd X Y w σ lv tgt st) : Gd X Y w σ lv pc st := by
  obtain ⟨p, l, e, R, s, m, args, below, meth, c, Q⟩ := X
  intro H locs ls hP hS hl
  exact lv_goto hX.1 hX.2.1 hd ht (k H locs ls hP hS hl)
theorem g_if_eq (hX : Fx X Y w cc nL own lvl) {x : Int32} {off : Int} (tgt : Nat) {β : Type} {z a b : β} {i0 : Decidable (x = 0)} (hd : decode cc pc = .ok (.ifCond .eq off, 3)) (ht : (pc : Int) + off = (tgt : Int)) (hf : (if x = 0 then a else b) = z) (kt : a = z → Gd X Y w σ lv tgt st) (kf : b = z → Gd X Y w σ lv (pc + 3) st) : Gd X Y w σ lv pc (.int x :: st) := by
  obtain ⟨p, l, e, R, s, m, args, below, meth, c, Q⟩ := X
  intro H locs ls hP hS hl
  exact lv_if_eq hX.1 hX.2.1 hd ht (fun h => kt (by rw [if_pos h] at hf; exact hf) H locs ls hP hS hl) (fun h => kf (by rw [if_neg h] at hf; exact hf) H locs ls hP hS hl)
theorem g_icmp_eq (hX : Fx X Y w cc nL own lvl) {x y : Int32} {off : Int} (tgt : Nat) {β : Type} {z a b : β} {i0 : Decidable (x = y)} (hd : decode cc pc = .ok (.if_icmp .eq off, 3)) (ht : (pc : Int) + off = (tgt : Int)) (hf : (if x = y then a else b) = z) (kt : a = z → Gd X Y w σ lv tgt st) (kf : b = z → Gd X Y w σ lv (pc + 3) st) : Gd X Y w σ lv pc (.int y :: .int x :: st) := by
  obtain ⟨p, l, e, R, s, m, args, below, meth, c, Q⟩ := X
  intro H locs ls hP hS hl
  exact lv_icmp_eq hX.1 hX.2.1 hd ht (fun h => kt (by rw [if_pos h] at hf; exact hf) H locs ls hP hS hl) (fun h => kf (by rw [if_neg h] at hf; exact hf) H locs ls hP hS hl)
theorem g_if_ne (hX : Fx X Y w cc nL own lvl) {x : Int32} {off : Int} (tgt : Nat) {β : Type} {z a b : β} {i0 : Decidable (x = 0)} (hd : decode cc pc = .ok (.ifCond .ne off, 3)) (ht : (pc : Int) + off = (tgt : Int)) (hf : (if x = 0 then b else a) = z) (kt : a = z → Gd X Y w σ lv tgt st) (kf : b = z → Gd X Y w σ lv (pc + 3) st) : Gd X Y w σ lv pc (.int x :: st) := by
  obtain ⟨p, l, e, R, s, m, args, below, meth, c, Q⟩ := X
  intro H locs ls hP hS hl
  exact lv_if_ne hX.1 hX.2.1 hd ht (fun h => kt (by rw [if_neg h] at hf; exact hf) H locs ls hP hS hl) (fun h => kf (by rw [if_pos h] at hf; exact hf) H locs ls hP hS hl)
theorem g_icmp_ne (hX : Fx X Y w cc nL own lvl) {x y : Int32} {off : Int} (tgt : Nat) {β : Type} {z a b : β} {i0 : Decidable (x = y)} (hd : decode cc pc = .ok (.if_icmp .ne off, 3)) (ht : (pc : Int) + off = (tgt : Int)) (hf : (if x = y then b else a) = z) (kt : a = z → Gd X Y w σ lv tgt st) (kf : b = z → Gd X Y w σ lv (pc + 3) st) : Gd X Y w σ lv pc (.int y :: .int x :: st) := by
  obtain ⟨p, l, e, R, s, m, args, below, meth, c, Q⟩ := X
  intro H locs ls hP hS hl
  exact lv_icmp_ne hX.1 hX.2.1 hd ht (fun h => kt (by rw [if_neg h] at hf; exact hf) H locs ls hP hS hl) (fun h => kf (by rw [if_pos h] at hf; exact hf) H locs ls hP hS hl)
theorem g_if_lt (hX : Fx X Y w cc nL own lvl) {x : Int32} {off : Int} (tgt : Nat) {β : Type} {z a b : β} {i0 : Decidable (x < 0)} (hd : decode cc pc = .ok (.ifCond .lt off, 3)) (ht : (pc : Int) + off = (tgt : Int)) (hf : (if x < 0 then a else b) = z) (kt : a = z → Gd X Y w σ lv tgt st) (kf : b = z → Gd X Y w σ lv (pc + 3) st) : Gd X Y w σ lv pc (.int x :: st) := by
  obtain ⟨p, l, e, R, s, m, args, below, meth, c, Q⟩ := X
  intro H locs ls hP hS hl
  exact lv_if_lt hX.1 hX.2.1 hd ht (fun h => kt (by rw [if_pos h] at hf; exact hf) H locs ls hP hS hl) (fun h => kf (by rw [if_neg h] at hf; exact hf) H locs ls hP hS hl)
theorem g_icmp_lt (hX : Fx X Y w cc nL own lvl) {x y : Int32} {off : Int} (tgt : Nat) {β : Type} {z a b : β} {i0 : Decidable (x < y)} (hd : decode cc pc = .ok (.if_icmp .lt off, 3)) (ht : (pc : Int) + off = (tgt : Int)) (hf : (if x < y then a else b) = z) (kt : a = z → Gd X Y w σ lv tgt st) (kf : b = z → Gd X Y w σ lv (pc + 3) st) : Gd X Y w σ lv pc (.int y :: .int x :: st) := by
  obtain ⟨p, l, e, R, s, m, args, below, meth, c, Q⟩ := X
  intro H locs ls hP hS hl
  exact lv_icmp_lt hX.1 hX.2.1 hd ht (fun h => kt (by rw [if_pos h] at hf; exact hf) H locs ls hP hS hl) (fun h => kf (by rw [if_neg h] at hf; exact hf) H locs ls hP hS hl)
theorem g_if_ge (hX : Fx X Y w cc nL own lvl) {x : Int32} {off : Int} (tgt : Nat) {β : Type} {z a b : β} {i0 : Decidable (0 ≤ x)} (hd : decode cc pc = .ok (.ifCond .ge off, 3)) (ht : (pc : Int) + off = (tgt : Int)) (hf : (if 0 ≤ x then a else b) = z) (kt : a = z → Gd X Y w σ lv tgt st) (kf : b = z → Gd X Y w σ lv (pc + 3) st) : Gd X Y w σ lv pc (.int x :: st) := by
  obtain ⟨p, l, e, R, s, m, args, below, meth, c, Q⟩ := X
  intro H locs ls hP hS hl
  exact lv_if_ge hX.1 hX.2.1 hd ht (fun h => kt (by rw [if_pos h] at hf; exact hf) H locs ls hP hS hl) (fun h => kf (by rw [if_neg h] at hf; exact hf) H locs ls hP hS hl)
theorem g_icmp_ge (hX : Fx X Y w cc nL own lvl) {x y : Int32} {off : Int} (tgt : Nat) {β : Type} {z a b : β} {i0 : Decidable (y ≤ x)} (hd : decode cc pc = .ok (.if_icmp .ge off, 3)) (ht : (pc : Int) + off = (tgt : Int)) (hf : (if y ≤ x then a else b) = z) (kt : a = z → Gd X Y w σ lv tgt st) (kf : b = z → Gd X Y w σ lv (pc + 3) st) : Gd X Y w σ lv pc (.int y :: .int x :: st) := by
  obtain ⟨p, l, e, R, s, m, args, below, meth, c, Q⟩ := X
  intro H locs ls hP hS hl
  exact lv_icmp_ge hX.1 hX.2.1 hd ht (fun h => kt (by rw [if_pos h] at hf; exact hf) H locs ls hP hS hl) (fun h => kf (by rw [if_neg h] at hf; exact hf) H locs ls hP hS hl)
theorem g_if_gt (hX : Fx X Y w cc nL own lvl) {x : Int32} {off : Int} (tgt : Nat) {β : Type} {z a b : β} {i0 : Decidable (0 < x)} (hd : decode cc pc = .ok (.ifCond .gt off, 3)) (ht : (pc : Int) + off = (tgt : Int)) (hf : (if 0 < x then a else b) = z) (kt : a = z → Gd X Y w σ lv tgt st) (kf : b = z → Gd X Y w σ lv (pc + 3) st) : Gd X Y w σ lv pc (.int x :: st) := by
  obtain ⟨p, l, e, R, s, m, args, below, meth, c, Q⟩ := X
  intro H locs ls hP hS hl
  exact lv_if_gt hX.1 hX.2.1 hd ht (fun h => kt (by rw [if_pos h] at hf; exact hf) H locs ls hP hS hl) (fun h => kf (by rw [if_neg h] at hf; exact hf) H locs ls hP hS hl)
theorem g_icmp_gt (hX : Fx X Y w cc nL own lvl) {x y : Int32} {off : Int} (tgt : Nat) {β : Type} {z a b : β} {i0 : Decidable (y < x)} (hd : decode cc pc = .ok (.if_icmp .gt off, 3)) (ht : (pc : Int) + off = (tgt : Int)) (hf : (if y < x then a else b) = z) (kt : a = z → Gd X Y w σ lv tgt st) (kf : b = z → Gd X Y w σ lv (pc + 3) st) : Gd X Y w σ lv pc (.int y :: .int x :: st) := by
  obtain ⟨p, l, e, R, s, m, args, below, meth, c, Q⟩ := X
  intro H locs ls hP hS hl
  exact lv_icmp_gt hX.1 hX.2.1 hd ht (fun h => kt (by rw [if_pos h] at hf; exact hf) H locs ls hP hS hl) (fun h => kf (by rw [if_neg h] at hf; exact hf) H locs ls hP hS hl)
theorem g_if_le (hX : Fx X Y w cc nL own lvl) {x : Int32} {off : Int} (tgt : Nat) {β : Type} {z a b : β} {i0 : Decidable (x ≤ 0)} (hd : decode cc pc = .ok (.ifCond .le off, 3)) (ht : (pc : Int) + off = (tgt : Int)) (hf : (if x ≤ 0 then a else b) = z) (kt : a = z → Gd X Y w σ lv tgt st) (kf : b = z → Gd X Y w σ lv (pc + 3) st) : Gd X Y w σ lv pc (.int x :: st) := by
  obtain ⟨p, l, e, R, s, m, args, below, meth, c, Q⟩ := X
  intro H locs ls hP hS hl
  exact lv_if_le hX.1 hX.2.1 hd ht (fun h => kt (by rw [if_pos h] at hf; exact hf) H locs ls hP hS hl) (fun h => kf (by rw [if_neg h] at hf; exact hf) H locs ls hP hS hl)
theorem g_icmp_le (hX : Fx X Y w cc nL own lvl) {x y : Int32} {off : Int} (tgt : Nat) {β : Type} {z a b : β} {i0 : Decidable (x ≤ y)} (hd : decode cc pc = .ok (.if_icmp .le off, 3)) (ht : (pc : Int) + off = (tgt : Int)) (hf : (if x ≤ y then a else b) = z) (kt : a = z → Gd X Y w σ lv tgt st) (kf : b = z → Gd X Y w σ lv (pc + 3) st) : Gd X Y w σ lv pc (.int y :: .int x :: st) := by
  obtain ⟨p, l, e, R, s, m, args, below, meth, c, Q⟩ := X
  intro H locs ls hP hS hl
  exact lv_icmp_le hX.1 hX.2.1 hd ht (fun h => kt (by rw [if_pos h] at hf; exact hf) H locs ls hP hS hl) (fun h => kf (by rw [if_neg h] at hf; exact hf) H locs ls hP hS hl)
theorem g_getI (hX : Fx X Y w cc nL own lvl) {idx k ci i : Nat} {fs : List (Option Nat)} (hk : inW w k) (hs : shp k = (2, ci, fs)) (hi : fs[i]? = some none) (hl : FLok own idx ci i) (hd : decode cc pc = .ok (.getfield idx, 3)) (kk : Gd X Y w σ lv (pc + 3) (.int (σ k i) :: st)) : Gd X Y w σ lv pc (.ref (adr Y k) :: st) := by
  obtain ⟨p, l, e, R, s, m, args, below, meth, c, Q⟩ := X
  obtain ⟨hx, hb, hml, ho, hts, hK, hI, hZ, hR, hN⟩ := hX
  obtain ⟨C, T, N, ty0, h1, h2, h3, h4, h5, h6⟩ := hl
  intro H locs ls hP hS hl
  have he := wd_get (Y := Y) (σ := σ) hk
  rw [cellE_obj hs] at he
  exact va_get hx hb hts h3 ho hK hP (k - wlo w) he h1 i h2 (hts _ h4) (fun _ h => h) (v := .int (σ k i)) (by rw [List.getElem?_mapIdx, hi]; rfl) hd (kk H locs ls hP hS hl)
theorem g_getR (hX : Fx X Y w cc nL own lvl) {idx k ci i j : Nat} {fs : List (Option Nat)} (hk : inW w k) (hs : shp k = (2, ci, fs)) (hi : fs[i]? = some (some j)) (hl : FLok own idx ci i) (hd : decode cc pc = .ok (.getfield idx, 3)) (kk : Gd X Y w σ lv (pc + 3) (.ref (adr Y j) :: st)) : Gd X Y w σ lv pc (.ref (adr Y k) :: st) := by
  obtain ⟨p, l, e, R, s, m, args, below, meth, c, Q⟩ := X
  obtain ⟨hx, hb, hml, ho, hts, hK, hI, hZ, hR, hN⟩ := hX
  obtain ⟨C, T, N, ty0, h1, h2, h3, h4, h5, h6⟩ := hl
  intro H locs ls hP hS hl
  have he := wd_get (Y := Y) (σ := σ) hk
  rw [cellE_obj hs] at he
  exact va_get hx hb hts h3 ho hK hP (k - wlo w) he h1 i h2 (hts _ h4) (fun _ h => h) (v := .ref (adr Y j)) (by rw [List.getElem?_mapIdx, hi]; rfl) hd (kk H locs ls hP hS hl)
theorem g_putI (hX : Fx X Y w cc nL own lvl) {idx k ci i : Nat} {fs : List (Option Nat)} {v : Int32} {β : Type} {z : β} {f : Mem → β} (hk : inW w k) (hs : shp k = (2, ci, fs)) (hi : fs[i]? = some none) (hl : FIok own idx ci i) (hd : decode cc pc = .ok (.putfield idx, 3)) (hf : lt (mput σ k i v) f = z) (kk : ∀ σ2 : Mem, f σ2 = z → Gd X Y w σ2 lv (pc + 3) st) : Gd X Y w σ lv pc (.int v :: .ref (adr Y k) :: st) := by
  obtain ⟨p, l, e, R, s, m, args, below, meth, c, Q⟩ := X
  obtain ⟨hx, hb, hml, ho, hts, hK, hI, hZ, hR, hN⟩ := hX
  obtain ⟨C, T, N, ty0, h1, h2, h3, h4, h5, h6, h7, h8⟩ := hl
  intro H locs ls hP hS hl
  have he := wd_get (Y := Y) (σ := σ) hk
  rw [cellE_obj hs] at he
  have hlen := (List.getElem?_eq_some_iff.mp hi).1
  refine va_put (ty := .int) (v := .int v) hx hb hts h3 ty0 h5 h6 ho hK hP (wd_D hI σ) hS (k - wlo w) he h1 i h2 (hts _ h4) (fun _ h => h) h8 (by rw [h7]; decide +kernel) (vp_nar_int v) rfl (by simpa using hlen) hd (fun H1 locs1 hP1 hD1 hS1 => ?_)
  have e1 : (wd Y w σ).set (k - wlo w) (adr Y k, .inr (ci, (fs.mapIdx (fldV Y (σ k))).set i (.int v))) = wd Y w (mput σ k i v) := wd_set hk mput_ne (by rw [cellE_obj hs, mput_eq, fld_put hi])
  rw [e1] at hP1
  exact kk _ hf H1 locs1 ls hP1 hS1 hl
theorem rd_spec {σ : Mem} {k : Nat} {i : Int32} {v : Int32} (h : rd σ k i = some v) : vp_in i (lenOf k) ∧ v = σ k i.toNatClampNeg := by
  unfold rd at h
  by_cases hc : i < 0 ∨ lenOf k ≤ i.toNatClampNeg
  · rw [if_pos hc] at h; cases h
  · rw [if_neg hc] at h; cases h; exact ⟨hc, rfl⟩
theorem wr_spec {σ σ2 : Mem} {k : Nat} {i : Int32} {v : Int32} (h : wr σ k i v = some σ2) : vp_in i (lenOf k) ∧ σ2 = mput σ k i.toNatClampNeg v := by
  unfold wr at h
  by_cases hc : i < 0 ∨ lenOf k ≤ i.toNatClampNeg
  · rw [if_pos hc] at h; cases h
  · rw [if_neg hc] at h; cases h; exact ⟨hc, rfl⟩
theorem g_iaload (hX : Fx X Y w cc nL own lvl) {k L : Nat} {fs : List (Option Nat)} {i : Int32} {β : Type} {o : β} {f : Int32 → Option β} (hk : inW w k) (hs : shp k = (0, L, fs)) (hd : decode cc pc = .ok (.iaload, 1)) (hf : (rd σ k i).bind f = some o) (kk : ∀ v : Int32, f v = some o → Gd X Y w σ lv (pc + 1) (.int v :: st)) : Gd X Y w σ lv pc (.int i :: .ref (adr Y k) :: st) := by
  obtain ⟨a, ha, hf⟩ := obind hf
  obtain ⟨hin, rfl⟩ := rd_spec ha
  obtain ⟨p, l, e, R, s, m, args, below, meth, c, Q⟩ := X
  obtain ⟨hx, hb, hml, ho, hts, hK, hI, hZ, hR, hN⟩ := hX
  intro H locs ls hP hS hl
  have he := wd_get (Y := Y) (σ := σ) hk
  rw [cellE_arr hs] at he
  have hin : vp_in i L := by have : lenOf k = L := by unfold lenOf; rw [hs]
                             rw [← this]; exact hin
  exact va_iald hx hb hK hP (k - wlo w) 0 he rfl hin hd (kk _ hf H locs ls hP hS hl)
theorem g_iastore (hX : Fx X Y w cc nL own lvl) {k L : Nat} {fs : List (Option Nat)} {i v : Int32} {β : Type} {o : β} {f : Mem → Option β} (hk : inW w k) (hs : shp k = (0, L, fs)) (hd : decode cc pc = .ok (.iastore, 1)) (hf : (wr σ k i v).bind f = some o) (kk : ∀ σ2 : Mem, f σ2 = some o → Gd X Y w σ2 lv (pc + 1) st) : Gd X Y w σ lv pc (.int v :: .int i :: .ref (adr Y k) :: st) := by
  obtain ⟨a, ha, hf⟩ := obind hf
  obtain ⟨hin, rfl⟩ := wr_spec ha
  obtain ⟨p, l, e, R, s, m, args, below, meth, c, Q⟩ := X
  obtain ⟨hx, hb, hml, ho, hts, hK, hI, hZ, hR, hN⟩ := hX
  intro H locs ls hP hS hl
  have he := wd_get (Y := Y) (σ := σ) hk
  rw [cellE_arr hs] at he
  have hin : vp_in i L := by have : lenOf k = L := by unfold lenOf; rw [hs]
                             rw [← this]; exact hin
  refine va_iast hx hb hK hP (wd_D hI σ) hS (k - wlo w) 0 he rfl hin hd (fun H1 locs1 hP1 hD1 hS1 => ?_)
  have e1 : (wd Y w σ).set (k - wlo w) (adr Y k, .inl (Y.2.1, L, .inl (upd (σ k) i.toNatClampNeg v))) = wd Y w (mput σ k i.toNatClampNeg v) := wd_set hk mput_ne (by rw [cellE_arr hs, mput_eq])
  rw [e1] at hP1
  exact kk _ hf H1 locs1 ls hP1 hS1 hl
theorem g_baload (hX : Fx X Y w cc nL own lvl) {k L : Nat} {fs : List (Option Nat)} {i : Int32} {β : Type} {o : β} {f : Int32 → Option β} (hk : inW w k) (hs : shp k = (1, L, fs)) (hd : decode cc pc = .ok (.baload, 1)) (hf : (rd σ k i).bind f = some o) (kk : ∀ v : Int32, f v = some o → Gd X Y w σ lv (pc + 1) (.int v :: st)) : Gd X Y w σ lv pc (.int i :: .ref (adr Y k) :: st) := by
  obtain ⟨a, ha, hf⟩ := obind hf
  obtain ⟨hin, rfl⟩ := rd_spec ha
  obtain ⟨p, l, e, R, s, m, args, below, meth, c, Q⟩ := X
  obtain ⟨hx, hb, hml, ho, hts, hK, hI, hZ, hR, hN⟩ := hX
  intro H locs ls hP hS hl
  have he := wd_get (Y := Y) (σ := σ) hk
  rw [cellE_arrZ hs] at he
  have hin : vp_in i L := by have : lenOf k = L := by unfold lenOf; rw [hs]
                             rw [← this]; exact hin
  exact va_zald hx hb hK hP (k - wlo w) 1 he rfl hin hd (kk _ hf H locs ls hP hS hl)
theorem g_bastore (hX : Fx X Y w cc nL own lvl) {k L : Nat} {fs : List (Option Nat)} {i v : Int32} {β : Type} {o : β} {f : Mem → Option β} (hk : inW w k) (hs : shp k = (1, L, fs)) (hn : vp_nar .boolean v = v) (hd : decode cc pc = .ok (.bastore, 1)) (hf : (wr σ k i v).bind f = some o) (kk : ∀ σ2 : Mem, f σ2 = some o → Gd X Y w σ2 lv (pc + 1) st) : Gd X Y w σ lv pc (.int v :: .int i :: .ref (adr Y k) :: st) := by
  obtain ⟨a, ha, hf⟩ := obind hf
  obtain ⟨hin, rfl⟩ := wr_spec ha
  obtain ⟨p, l, e, R, s, m, args, below, meth, c, Q⟩ := X
  obtain ⟨hx, hb, hml, ho, hts, hK, hI, hZ, hR, hN⟩ := hX
  intro H locs ls hP hS hl
  have he := wd_get (Y := Y) (σ := σ) hk
  rw [cellE_arrZ hs] at he
  have hin : vp_in i L := by have : lenOf k = L := by unfold lenOf; rw [hs]
                             rw [← this]; exact hin
  refine va_zast hx hb hK hP (wd_D hI σ) hS (k - wlo w) 1 he rfl hin hd (fun H1 locs1 hP1 hD1 hS1 => ?_)
  have e1 : (wd Y w σ).set (k - wlo w) (adr Y k, .inl (Y.2.2.1, L, .inl (upd (σ k) i.toNatClampNeg (vp_nar .boolean v)))) = wd Y w (mput σ k i.toNatClampNeg v) := wd_set hk mput_ne (by rw [cellE_arrZ hs, mput_eq, hn])
  rw [e1] at hP1
  exact kk _ hf H1 locs1 ls hP1 hS1 hl
theorem g_alen (hX : Fx X Y w cc nL own lvl) {k L : Nat} {fs : List (Option Nat)} (hk : inW w k) (hs : shp k = (0, L, fs)) (hd : decode cc pc = .ok (.arraylength, 1)) (kk : Gd X Y w σ lv (pc + 1) (.int (nI (lenOf k)) :: st)) : Gd X Y w σ lv pc (.ref (adr Y k) :: st) := by
  obtain ⟨p, l, e, R, s, m, args, below, meth, c, Q⟩ := X
  obtain ⟨hx, hb, hml, ho, hts, hK, hI, hZ, hR, hN⟩ := hX
  intro H locs ls hP hS hl
  have he := wd_get (Y := Y) (σ := σ) hk
  rw [cellE_arr hs] at he
  have hL : lenOf k = L := by unfold lenOf; rw [hs]
  exact va_alen hx hb hK hP (k - wlo w) 0 he rfl (v := nI (lenOf k)) (by rw [hL]; rfl) hd (kk H locs ls hP hS hl)
theorem g_getst (hX : Fx X Y w cc nL own lvl) {idx k : Nat} (hk : k < 3) (hl : Cond.fieldLink own idx "OrderTrees" (stNm k) "[I" ∈ Tg) (hd : decode cc pc = .ok (.getstatic idx, 3)) (kk : Gd X Y w σ lv (pc + 3) (.ref (sad Y k) :: st)) : Gd X Y w σ lv pc st := by
  obtain ⟨p, l, e, R, s, m, args, below, meth, c, Q⟩ := X
  obtain ⟨hx, hb, hml, ho, hts, hK, hI, hZ, hR, hN⟩ := hX
  intro H locs ls hP hS hls
  exact va_gets hx hb (hZ k hk).1 hS ho (hts _ hl) (fun _ h => h) hd (kk H locs ls hP hS hls)
theorem rds_spec {k : Nat} {i v : Int32} (h : rds k i = some v) : vp_in i (stA k).length ∧ v = (stA k).getD i.toNatClampNeg 0 := by
  unfold rds at h
  by_cases hc : i < 0 ∨ (stA k).length ≤ i.toNatClampNeg
  · rw [if_pos hc] at h; cases h
  · rw [if_neg hc] at h; cases h; exact ⟨hc, rfl⟩
theorem g_ialoadS (hX : Fx X Y w cc nL own lvl) {k : Nat} {i : Int32} {β : Type} {o : β} {f : Int32 → Option β} (hk : k < 3) (hd : decode cc pc = .ok (.iaload, 1)) (hf : (rds k i).bind f = some o) (kk : ∀ v : Int32, f v = some o → Gd X Y w σ lv (pc + 1) (.int v :: st)) : Gd X Y w σ lv pc (.int i :: .ref (sad Y k) :: st) := by
  obtain ⟨a, ha, hf⟩ := obind hf
  obtain ⟨hin, rfl⟩ := rds_spec ha
  obtain ⟨p, l, e, R, s, m, args, below, meth, c, Q⟩ := X
  obtain ⟨hx, hb, hml, ho, hts, hK, hI, hZ, hR, hN⟩ := hX
  intro H locs ls hP hS hl
  exact va_ti hx hb (hZ k hk).2 hS hin rfl hd (kk _ hf H locs ls hP hS hl)
theorem g_alenS (hX : Fx X Y w cc nL own lvl) {k : Nat} {v : Int32} (hk : k < 3) (hv : Int32.ofNat (stA k).length = v) (hd : decode cc pc = .ok (.arraylength, 1)) (kk : Gd X Y w σ lv (pc + 1) (.int v :: st)) : Gd X Y w σ lv pc (.ref (sad Y k) :: st) := by
  obtain ⟨p, l, e, R, s, m, args, below, meth, c, Q⟩ := X
  obtain ⟨hx, hb, hml, ho, hts, hK, hI, hZ, hR, hN⟩ := hX
  intro H locs ls hP hS hl
  exact va_tlen hx hb (hZ k hk).2 hS hv hd (kk H locs ls hP hS hl)
theorem g_max (hX : Fx X Y w cc nL own lvl) {idx : Nat} {x y : Int32} (hL : 1 ≤ lvl) (hl1 : Cond.methodLink own idx Lib.Math.max.name ∈ Tg) (hl2 : Cond.static Lib.Math.max.name ∈ Tg) (hl3 : Cond.initialized "java/lang/Math" ∈ Tg) (hl4 : Cond.code Lib.Math.max.name Lib.Math.max.code 2 (some .int) ∈ Tg) (hr : (st.map fun v => v.category).sum ≤ 8) (hd : decode cc pc = .ok (.invokestatic idx, 3)) (kk : Gd X Y w σ lv (pc + 3) (.int (if x < y then y else x) :: st)) : Gd X Y w σ lv pc (.int y :: .int x :: st) := by
  obtain ⟨p, l, e, R, s, m, args, below, meth, c, Q⟩ := X
  obtain ⟨hx, hb, hml, ho, hts, hK, hI, hZ, hR, hN⟩ := hX
  subst hR
  intro H locs ls hP hS hl
  exact va_mmax hx hb hl.1.symm ho (hts _ hl1) (hts _ hl2) (hts _ hl3) (hts _ hl4) hL (by show _ ≤ 40 * lvl; omega) (Nat.le_refl 0) (Nat.le_refl 0) hd (kk H locs ls hP hS hl)
theorem g_min (hX : Fx X Y w cc nL own lvl) {idx : Nat} {x y : Int32} (hL : 1 ≤ lvl) (hl1 : Cond.methodLink own idx Lib.Math.min.name ∈ Tg) (hl2 : Cond.static Lib.Math.min.name ∈ Tg) (hl3 : Cond.initialized "java/lang/Math" ∈ Tg) (hl4 : Cond.code Lib.Math.min.name Lib.Math.min.code 2 (some .int) ∈ Tg) (hr : (st.map fun v => v.category).sum ≤ 8) (hd : decode cc pc = .ok (.invokestatic idx, 3)) (kk : Gd X Y w σ lv (pc + 3) (.int (if y < x then y else x) :: st)) : Gd X Y w σ lv pc (.int y :: .int x :: st) := by
  obtain ⟨p, l, e, R, s, m, args, below, meth, c, Q⟩ := X
  obtain ⟨hx, hb, hml, ho, hts, hK, hI, hZ, hR, hN⟩ := hX
  subst hR
  intro H locs ls hP hS hl
  exact va_mmin hx hb hl.1.symm ho (hts _ hl1) (hts _ hl2) (hts _ hl3) (hts _ hl4) hL (by show _ ≤ 40 * lvl; omega) (Nat.le_refl 0) (Nat.le_refl 0) hd (kk H locs ls hP hS hl)
-- copy within one row of ints (System.arraycopy of a cell onto itself)
def cpy (σ : Mem) (k : Nat) (sp dp n : Int32) : Option Mem := if sp < 0 ∨ dp < 0 ∨ n < 0 ∨ lenOf k < sp.toNatClampNeg + n.toNatClampNeg ∨ lenOf k < dp.toNatClampNeg + n.toNatClampNeg then none else some (mset σ k (va_cpy (σ k) (σ k) sp.toNatClampNeg dp.toNatClampNeg n.toNatClampNeg))
theorem g_copy (hX : Fx X Y w cc nL own lvl) {idx k L : Nat} {fs : List (Option Nat)} {sp dp n : Int32} {β : Type} {o : β} {f : Mem → Option β} (hk : inW w k) (hs : shp k = (0, L, fs)) (hL : 1 ≤ lvl) (hl1 : Cond.methodLink own idx arraycopyName ∈ Tg) (hl2 : Cond.native arraycopyName ∈ Tg) (hl3 : Cond.static arraycopyName ∈ Tg) (hl4 : Cond.initialized "java/lang/System" ∈ Tg) (hr : (st.map fun v => v.category).sum + (nativeFrameWords "java/lang/System" "arraycopy" 5 + 11) ≤ 40) (hd : decode cc pc = .ok (.invokestatic idx, 3)) (hf : (cpy σ k sp dp n).bind f = some o) (kk : ∀ σ2 : Mem, f σ2 = some o → Gd X Y w σ2 lv (pc + 3) st) : Gd X Y w σ lv pc (.int n :: .int dp :: .ref (adr Y k) :: .int sp :: .ref (adr Y k) :: st) := by
  obtain ⟨a, ha, hf⟩ := obind hf
  unfold cpy at ha
  by_cases hc : sp < 0 ∨ dp < 0 ∨ n < 0 ∨ lenOf k < sp.toNatClampNeg + n.toNatClampNeg ∨ lenOf k < dp.toNatClampNeg + n.toNatClampNeg
  · rw [if_pos hc] at ha; cases ha
  · rw [if_neg hc] at ha
    cases ha
    obtain ⟨p, l, e, R, s, m, args, below, meth, c, Q⟩ := X
    obtain ⟨hx, hb, hml, ho, hts, hK, hI, hZ, hR, hN⟩ := hX
    subst hR
    intro H locs ls hP hS hl
    have he := wd_get (Y := Y) (σ := σ) hk
    rw [cellE_arr hs] at he
    have hLk : lenOf k = L := by unfold lenOf; rw [hs]
    rw [hLk] at hc
    refine va_copyi hx hb hl.1.symm ho (hts _ hl1) (hts _ hl2) (hts _ hl3) (hts _ hl4) hK hP (wd_D hI σ) hS (k - wlo w) (k - wlo w) 0 0 he he rfl rfl rfl (fun h => hc (Or.inl h)) (fun h => hc (Or.inr (Or.inl h))) (fun h => hc (Or.inr (Or.inr (Or.inl h)))) (by omega) (by omega) (fun i hi => rfl) hL (by show _ ≤ 40 * lvl; omega) hd (fun H1 locs1 hP1 hD1 hS1 => ?_)
    have e1 : (wd Y w σ).set (k - wlo w) (adr Y k, .inl (Y.2.1, L, .inl (va_cpy (σ k) (σ k) sp.toNatClampNeg dp.toNatClampNeg n.toNatClampNeg))) = wd Y w (mset σ k (va_cpy (σ k) (σ k) sp.toNatClampNeg dp.toNatClampNeg n.toNatClampNeg)) := wd_set hk (fun j hj => by simp [mset, hj]) (by rw [cellE_arr hs]; simp [mset])
    rw [e1] at hP1
    exact kk _ hf H1 locs1 ls hP1 hS1 hl
-- calls
theorem Sts.to {A : Nat → Prop} {s U : State} {H : Heap} {locs : List Loc} (h : Sts Y A s s.heap) (hS : va_S A s.heap H locs) (hU : U.heap = H) (hW : s.WarmedH U.vm) : Sts Y A U U.heap := fun k hk => by
  obtain ⟨h1, h2⟩ := h k hk
  rw [hU]
  exact ⟨(h1.kept hS.2.1).moved hW.alike, (h2.kept hS.2.1).moved hW.alike⟩
theorem iv_blind {as : List Value} : FrameBlind (va_Pc as (Iv Y w σ)) := fun a U g mk q => by
  obtain ⟨q0, q1, q2, q3, q4, q5⟩ := q
  exact ⟨q0, q1, va_K.moved (u := U) (U := U.calling g mk a) (Vm.Alike.refl U.vm) q2, q3, q4, va_Nw.same rfl (u := U) (U := U.calling g mk a) rfl q5⟩
theorem g_run {p : Program} {l : Launch} {e : Env} {R : Room} {s : State} {m : MethodId} {args : Array Value} {below : List Frame} {meth : Method} {c : Code} {H : Heap} {locs : List Loc} {Q : State → Prop} {ls : Array Slot} {st0 rest : List Value} {a : Array Value} {ret : Option FieldType} {r : Option Value} {σ2 : Mem}
    (hr : va_Run p l e R s m args below meth c H locs 0 0 0 0 (F0 m pc ls st0) rest (Qo Y w ret r σ2 a) (Aw Y w)) (hS : va_S (Aw Y w) s.heap H locs)
    (kk : okR ret r → ∀ (H1 : Heap) (locs1 : List Loc), va_P Y.1 classes (wd Y w σ2) H1 → va_S (Aw Y w) s.heap H1 locs1 → W p l e R s m args below meth c H1 locs1 0 0 Q (F0 m (pc + 3) ls (r.toList ++ rest))) : W p l e R s m args below meth c H locs 0 0 Q (F0 m pc ls st0) := by
  intro T hT X
  obtain ⟨v, st₀, t, T', L, h0, X', hL, e1, e2, ⟨hv, hok, hb, hz, hk⟩, st⟩ := hr T hT X
  cases hv
  rw [h0] at hz hk
  obtain ⟨t2, a1, b1⟩ := kk hok T'.heap (locs ++ L) (by rw [e1]; exact hb)
    ⟨Nat.le_trans hS.1 (by rw [e1]; exact hz), fun q h1 h2 => by rw [e1, hk q (Nat.lt_of_lt_of_le h1 hS.1) h2]; exact hS.2.1 q h1 h2, fun q hq => by
      rcases List.mem_append.mp hq with h | h
      · exact hS.2.2 q h
      · exact hL q h⟩ T' rfl X'
  exact ⟨t2, st t2 a1, b1⟩
theorem g_callV (hX : Fx X Y w cc nL own lvl) {C : String} {y : MethodName} {b : ByteArray} {nC idx n lv2 k ci : Nat} {fs : List (Option Nat)} {ret : Option FieldType} {T : u_T} {N : Nat} (As : List Value) (rest : List Value) {r : Option Value} {σ2 : Mem} (hm : MVok own idx C y b nC ret n) (hc : Ct X.2.1 Y w y b nC ret lv2 (.ref (adr Y k) :: As) σ r σ2) (hv : lv2 + 1 ≤ lvl) (hk : inW w k) (hs : shp k = (2, ci, fs)) (hcl : classes[ci]? = some (C, T, N)) (hst : st = As.reverse ++ .ref (adr Y k) :: rest) (hn : As.length = n) (hrs : (rest.map fun v => v.category).sum ≤ 8) (hd : decode cc pc = .ok (.invokevirtual idx, 3))
    (kk : okR ret r → Gd X Y w σ2 lv (pc + 3) (r.toList ++ rest)) : Gd X Y w σ lv pc st := by
  obtain ⟨p, l, e, R, s, m, args, below, meth, c, Q⟩ := X
  obtain ⟨hx, hb, hml, ho, hts, hK, hI, hZ, hR, hN⟩ := hX
  obtain ⟨m1, m2, m3, m4, m5, m6, m7⟩ := hm
  subst hR; subst hst
  intro H locs ls hP hS hl
  have he := wd_get (Y := Y) (σ := σ) hk
  rw [cellE_obj hs] at he
  have hG : GoodIn Tg (wsV own idx C y (.code y b nC ret :: Tg)) := tg_in (fun _ h => h) (fun z hz => by
    simp only [wsV, List.mem_append, List.mem_cons, List.not_mem_nil, or_false] at hz
    rcases hz with (h | h | h | h) | h | h <;> first | (rw [h]; assumption) | exact h)
  refine g_run (ret := ret) (r := r) (σ2 := σ2) (va_runV (As := As) (rest := rest) ⟨hx, hb, hml, ho, hts⟩ hc (cwV n hts hG rfl rfl rfl m6 ⟨hv, ?_⟩) ⟨iv_blind, va_recv hK hP hcl he, fun U hU hW => ⟨rfl, by rw [hU]; exact hP, va_K.moved hW.alike hK, hI, hZ.to hS hU hW, va_Nw.warmM hW hN⟩⟩ rfl hn (by rw [← hml]; exact hl.1) rfl (lv_room hrs) hd ⟨Nat.le_refl 0, Nat.le_refl 0⟩) hS (fun hok H1 locs1 hP1 hS1 => kk hok H1 locs1 ls hP1 hS1 hl)
  show 8 + (nC + 11) + 40 * lv2 ≤ 40 * lvl
  unfold nMax at m7
  omega
theorem g_callS (hX : Fx X Y w cc nL own lvl) {y : MethodName} {b : ByteArray} {nC idx n lv2 : Nat} {ret : Option FieldType} (As : List Value) (rest : List Value) {r : Option Value} {σ2 : Mem} (hm : MSok own idx y b nC ret n) (hc : Ct X.2.1 Y w y b nC ret lv2 As σ r σ2) (hv : lv2 + 1 ≤ lvl) (hst : st = As.reverse ++ rest) (hn : As.length = n) (hrs : (rest.map fun v => v.category).sum ≤ 8) (hd : decode cc pc = .ok (.invokestatic idx, 3))
    (kk : okR ret r → Gd X Y w σ2 lv (pc + 3) (r.toList ++ rest)) : Gd X Y w σ lv pc st := by
  obtain ⟨p, l, e, R, s, m, args, below, meth, c, Q⟩ := X
  obtain ⟨hx, hb, hml, ho, hts, hK, hI, hZ, hR, hN⟩ := hX
  obtain ⟨m1, m2, m4, m5, m6, m7⟩ := hm
  subst hR; subst hst
  intro H locs ls hP hS hl
  have hG : GoodIn Tg (va_wsS own idx y (.code y b nC ret :: Tg)) := tg_in (fun _ h => h) (fun z hz => by
    simp only [va_wsS, List.mem_append, List.mem_cons, List.not_mem_nil, or_false] at hz
    rcases hz with (h | h | h) | h | h <;> first | (rw [h]; assumption) | exact h)
  refine g_run (ret := ret) (r := r) (σ2 := σ2) (va_runS (As := As) (rest := rest) ⟨hx, hb, hml, ho, hts⟩ hc (va_cwS n hts hG rfl rfl rfl m6 ⟨hv, ?_⟩) ⟨iv_blind, fun U hU hW => ⟨rfl, by rw [hU]; exact hP, va_K.moved hW.alike hK, hI, hZ.to hS hU hW, va_Nw.warmM hW hN⟩⟩ rfl hn (by rw [← hml]; exact hl.1) rfl (lv_room hrs) hd ⟨Nat.le_refl 0, Nat.le_refl 0⟩) hS (fun hok H1 locs1 hP1 hS1 => kk hok H1 locs1 ls hP1 hS1 hl)
  show 8 + (nC + 11) + 40 * lv2 ≤ 40 * lvl
  unfold nMax at m7
  omega
/-- the nest mate's factorial, called out of Tree -/
theorem g_callF (hX : Fx X Y w cc nL R_T lvl) {lv2 : Nat} (As : List Value) (rest : List Value) {r : Option Value} {σ2 : Mem} (h1 : Cond.static y_O_factorial ∈ Tg) (h2 : Cond.initialized R_O ∈ Tg) (h3 : Cond.code y_O_factorial b_O_factorial 1 (some .int) ∈ Tg) (hc : Ct X.2.1 Y w y_O_factorial b_O_factorial 1 (some .int) lv2 As σ r σ2) (hv : lv2 + 1 ≤ lvl) (hst : st = As.reverse ++ rest) (hn : As.length = 1) (hrs : (rest.map fun v => v.category).sum ≤ 8) (hd : decode cc pc = .ok (.invokestatic 158, 3))
    (kk : okR (some .int) r → Gd X Y w σ2 lv (pc + 3) (r.toList ++ rest)) : Gd X Y w σ lv pc st := by
  obtain ⟨p, l, e, R, s, m, args, below, meth, c, Q⟩ := X
  obtain ⟨hx, hb, hml, ho, hts, hK, hI, hZ, hR, hN⟩ := hX
  subst hR; subst hst
  intro H locs ls hP hS hl
  have hG : GoodIn Tg (.code y_O_factorial b_O_factorial 1 (some .int) :: Tg) := tg_in (fun _ h => h) (fun z hz => by
    rcases List.mem_cons.mp hz with h | h
    · rw [h]; exact h3
    · exact h)
  refine g_run (ret := some .int) (r := r) (σ2 := σ2) (va_runSN (As := As) (rest := rest) ⟨hx, hb, hml, ho, hts⟩ hc ⟨va_cnB 1 hts hG rfl rfl rfl hN (hts _ h2) (by decide +kernel) ⟨hv, ?_⟩, hts _ h1, trivial⟩ ⟨iv_blind, fun U hU hW => ⟨rfl, by rw [hU]; exact hP, va_K.moved hW.alike hK, hI, hZ.to hS hU hW, va_Nw.warmM hW hN⟩⟩ rfl hn (by rw [← hml]; exact hl.1) rfl (lv_room hrs) hd ⟨Nat.le_refl 0, Nat.le_refl 0⟩) hS (fun hok H1 locs1 hP1 hS1 => kk hok H1 locs1 ls hP1 hS1 hl)
  show 8 + (1 + 11) + 40 * lv2 ≤ 40 * lvl
  omega
-- ends
theorem g_ireturn (hX : Fx X Y w cc nL own lvl) {v : Int32} (hR : Rt X Y w (some .int) (some (.int v)) σ) (hd : decode cc pc = .ok (.ireturn, 1)) : Gd X Y w σ lv pc [.int v] := by
  obtain ⟨p, l, e, R, s, m, args, below, meth, c, Q⟩ := X
  obtain ⟨h1, h2, rfl⟩ := hR
  intro H locs ls hP hS hl
  exact W.iret hX.1 hX.2.1 h1 (fun t ht hW => ⟨rfl, trivial, by rw [ht]; exact hP, hS.F ht⟩) hS.2.2 hd h2
theorem g_zreturn (hX : Fx X Y w cc nL own lvl) {v : Int32} (hR : Rt X Y w (some .boolean) (some (.int v)) σ) (hn : okR (some .boolean) (some (.int v))) (hd : decode cc pc = .ok (.ireturn, 1)) : Gd X Y w σ lv pc [.int v] := by
  obtain ⟨p, l, e, R, s, m, args, below, meth, c, Q⟩ := X
  obtain ⟨h1, h2, rfl⟩ := hR
  intro H locs ls hP hS hl
  exact W.zret hX.1 hX.2.1 h1 hn (fun t ht hW => ⟨rfl, hn, by rw [ht]; exact hP, hS.F ht⟩) hS.2.2 hd h2
theorem g_lreturn (hX : Fx X Y w cc nL own lvl) {v : Int64} (hR : Rt X Y w (some .long) (some (.long v)) σ) (hd : decode cc pc = .ok (.lreturn, 1)) : Gd X Y w σ lv pc [.long v] := by
  obtain ⟨p, l, e, R, s, m, args, below, meth, c, Q⟩ := X
  obtain ⟨h1, h2, rfl⟩ := hR
  intro H locs ls hP hS hl
  exact W.lret hX.1 hX.2.1 h1 (fun t ht hW => ⟨rfl, trivial, by rw [ht]; exact hP, hS.F ht⟩) hS.2.2 hd h2
theorem g_return (hX : Fx X Y w cc nL own lvl) (hR : Rt X Y w none none σ) (hd : decode cc pc = .ok (.return_, 1)) : Gd X Y w σ lv pc [] := by
  obtain ⟨p, l, e, R, s, m, args, below, meth, c, Q⟩ := X
  obtain ⟨h1, h2, rfl⟩ := hR
  intro H locs ls hP hS hl
  exact W.vret hX.1 hX.2.1 h1 (fun t ht hW => ⟨rfl, trivial, by rw [ht]; exact hP, hS.F ht⟩) hS.2.2 hd h2
theorem g_tabIn (hX : Fx X Y w cc nL own lvl) {x : Int32} {dflt lo hi : Int} {offs : Array Int} {len : Nat} {off : Int} (tgt : Nat) (hd : decode cc pc = .ok (.tableswitch dflt lo hi offs, len)) (h1 : ¬ x.toInt < lo) (h2 : ¬ hi < x.toInt) (ho : offs[(x.toInt - lo).toNat]? = some off) (ht : (pc : Int) + off = (tgt : Int)) (k : Gd X Y w σ lv tgt st) : Gd X Y w σ lv pc (.int x :: st) := by
  obtain ⟨p, l, e, R, s, m, args, below, meth, c, Q⟩ := X
  intro H locs ls hP hS hl
  exact lv_tableIn hX.1 hX.2.1 hd h1 h2 ho ht (k H locs ls hP hS hl)
theorem g_tabOut (hX : Fx X Y w cc nL own lvl) {x : Int32} {dflt lo hi : Int} {offs : Array Int} {len : Nat} (tgt : Nat) (hd : decode cc pc = .ok (.tableswitch dflt lo hi offs, len)) (h : x.toInt < lo ∨ hi < x.toInt) (ht : (pc : Int) + dflt = (tgt : Int)) (k : Gd X Y w σ lv tgt st) : Gd X Y w σ lv pc (.int x :: st) := by
  obtain ⟨p, l, e, R, s, m, args, below, meth, c, Q⟩ := X
  intro H locs ls hP hS hl
  exact lv_tableOut hX.1 hX.2.1 hd h ht (k H locs ls hP hS hl)
end GR
theorem g_loop {S R : Type} (f : S → Option (S ⊕ R)) (hd : S → Prop) (x : R) (step : ∀ s y, f s = some y → (∀ s2, y = .inl s2 → hd s2) → (∀ r, y = .inr r → r = x) → hd s) : ∀ n s, lp f n s = some x → hd s := by
  intro n
  induction n with
  | zero => intro s h; cases h
  | succ n ih =>
    intro s h
    obtain ⟨y, hy, h2⟩ := obind h
    refine step s y hy (fun s2 e => ?_) (fun r e => ?_)
    · subst e; exact ih s2 h2
    · subst e; exact Option.some.inj h2
/-- a method's contract out of the walk of its body -/
theorem ct_of {l : Launch} {Y : Wx} {w : Nat} {y : MethodName} {b : ByteArray} {nL : Nat} {ret : Option FieldType} {lvl : Nat} {as : List Value} {σ : Mem} {r : Option Value} {σ2 : Mem} {lv : List (Nat × Value)} (hy : plainName y.cls = true) (hn : (lg_sl as).length ≤ nL) (hlv : lv_args 0 as = lv)
    (h : ∀ X : Cx, X.2.1 = l → Fx X Y w b nL y.cls lvl → Rt X Y w ret r σ2 → Gd X Y w σ lv 0 []) : Ct l Y w y b nL ret lvl as σ r σ2 := by
  subst hlv
  refine Met.ofW (cc := b) (maxL := nL) (ret := ret) hy rfl ?_
  intro p e s m args below meth c s₁ B hml hv
  obtain ⟨rfl, hP, hK, hI, hZ, hN⟩ := hv
  have hts := atoms_spec (ws := .code y b nL ret :: Tg) B.pre
  have hown : s.vm.findClass y.cls = some m.cls := findClass_of_methodNamed B.named
  have hl := lv_entry as (n := nL) hn
  rw [lg_entry_eq]
  exact h (p, l, e, rmL lvl, s, m, as.toArray, below, meth, c, MQ below (Qo Y w ret r σ2) as.toArray s 0 0 (Aw Y w)) rfl ⟨B.exec, B.bytes, hml, hown, fun z hz => hts z (List.mem_cons_of_mem _ hz), hK, hI, hZ, rfl, hN⟩ ⟨B.returns, B.notSynchronized, rfl⟩ s.heap [] _ hP va_S.rf (by rw [hml]; exact hl)
end
