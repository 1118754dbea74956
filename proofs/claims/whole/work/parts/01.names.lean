-- ===== PART A: goes FIRST, ahead of the names: the tables' words, and 'selects' of the private methods out of them =====
/-- a private method of a class that the tables say can be made, by its rows of tables_1 -/
def lw_okq (q : MethodName × Nat) : Prop := (q.1.cls ≠ "java/lang/invoke/MethodHandle" ∧ q.1.cls ≠ "java/lang/invoke/VarHandle") ∧ Cond.instantiable q.1.cls q.2 ∈ tables_1 ∧ Cond.privateMethod q.1 ∈ tables_1 ∧ Cond.instanceMethod q.1 ∈ tables_1
theorem lw_p0 : lw_okq (⟨"BarkPost", "refuseAsBad", "()I"⟩, 16) := ⟨⟨by decide +kernel, by decide +kernel⟩, List.mem_of_getElem? (i := 21) (by decide +kernel), List.mem_of_getElem? (i := 259) (by decide +kernel), List.mem_of_getElem? (i := 260) (by decide +kernel)⟩
theorem lw_p1 : lw_okq (⟨"BarkPost", "refuseAsFull", "()I"⟩, 16) := ⟨⟨by decide +kernel, by decide +kernel⟩, List.mem_of_getElem? (i := 21) (by decide +kernel), List.mem_of_getElem? (i := 271) (by decide +kernel), List.mem_of_getElem? (i := 272) (by decide +kernel)⟩
theorem lw_p2 : lw_okq (⟨"BarkPost", "isTree", "(I)Z"⟩, 16) := ⟨⟨by decide +kernel, by decide +kernel⟩, List.mem_of_getElem? (i := 21) (by decide +kernel), List.mem_of_getElem? (i := 283) (by decide +kernel), List.mem_of_getElem? (i := 284) (by decide +kernel)⟩
theorem lw_p3 : lw_okq (⟨"BarkPost$TextReader", "advance", "()V"⟩, 8) := ⟨⟨by decide +kernel, by decide +kernel⟩, List.mem_of_getElem? (i := 171) (by decide +kernel), List.mem_of_getElem? (i := 311) (by decide +kernel), List.mem_of_getElem? (i := 312) (by decide +kernel)⟩
theorem lw_p4 : lw_okq (⟨"BarkPost$TextReader", "behindRun", "(ICC)I"⟩, 8) := ⟨⟨by decide +kernel, by decide +kernel⟩, List.mem_of_getElem? (i := 171) (by decide +kernel), List.mem_of_getElem? (i := 315) (by decide +kernel), List.mem_of_getElem? (i := 316) (by decide +kernel)⟩
theorem lw_p5 : lw_okq (⟨"BarkPost$TextReader", "numberAtStart", "()I"⟩, 8) := ⟨⟨by decide +kernel, by decide +kernel⟩, List.mem_of_getElem? (i := 171) (by decide +kernel), List.mem_of_getElem? (i := 320) (by decide +kernel), List.mem_of_getElem? (i := 321) (by decide +kernel)⟩
theorem lw_p6 : lw_okq (⟨"BarkPost$TextReader", "takesItem", "()Z"⟩, 8) := ⟨⟨by decide +kernel, by decide +kernel⟩, List.mem_of_getElem? (i := 171) (by decide +kernel), List.mem_of_getElem? (i := 324) (by decide +kernel), List.mem_of_getElem? (i := 325) (by decide +kernel)⟩
theorem lw_p7 : lw_okq (⟨"BarkPost$TextReader", "spells", "(Ljava/lang/String;)Z"⟩, 8) := ⟨⟨by decide +kernel, by decide +kernel⟩, List.mem_of_getElem? (i := 171) (by decide +kernel), List.mem_of_getElem? (i := 329) (by decide +kernel), List.mem_of_getElem? (i := 330) (by decide +kernel)⟩
theorem lw_p8 : lw_okq (⟨"BarkPost$TextReader", "takesWood", "()Z"⟩, 8) := ⟨⟨by decide +kernel, by decide +kernel⟩, List.mem_of_getElem? (i := 171) (by decide +kernel), List.mem_of_getElem? (i := 381) (by decide +kernel), List.mem_of_getElem? (i := 382) (by decide +kernel)⟩
theorem lw_p9 : lw_okq (⟨"BarkPost$TextReader", "takesNumber", "(I)Z"⟩, 8) := ⟨⟨by decide +kernel, by decide +kernel⟩, List.mem_of_getElem? (i := 171) (by decide +kernel), List.mem_of_getElem? (i := 385) (by decide +kernel), List.mem_of_getElem? (i := 386) (by decide +kernel)⟩
theorem lw_p10 : lw_okq (⟨"BarkPost$TextReader", "takesTree", "()Z"⟩, 8) := ⟨⟨by decide +kernel, by decide +kernel⟩, List.mem_of_getElem? (i := 171) (by decide +kernel), List.mem_of_getElem? (i := 390) (by decide +kernel), List.mem_of_getElem? (i := 391) (by decide +kernel)⟩
theorem lw_p11 : lw_okq (⟨"BarkPost$TextReader", "takesTouch", "()Z"⟩, 8) := ⟨⟨by decide +kernel, by decide +kernel⟩, List.mem_of_getElem? (i := 171) (by decide +kernel), List.mem_of_getElem? (i := 396) (by decide +kernel), List.mem_of_getElem? (i := 397) (by decide +kernel)⟩
theorem lw_p12 : lw_okq (⟨"BarkPost$TextReader", "takesFelled", "()Z"⟩, 8) := ⟨⟨by decide +kernel, by decide +kernel⟩, List.mem_of_getElem? (i := 171) (by decide +kernel), List.mem_of_getElem? (i := 402) (by decide +kernel), List.mem_of_getElem? (i := 403) (by decide +kernel)⟩
theorem lw_p13 : lw_okq (⟨"BarkPost$TextReader", "takesSemicolon", "()Z"⟩, 8) := ⟨⟨by decide +kernel, by decide +kernel⟩, List.mem_of_getElem? (i := 171) (by decide +kernel), List.mem_of_getElem? (i := 410) (by decide +kernel), List.mem_of_getElem? (i := 411) (by decide +kernel)⟩
theorem lw_p14 : lw_okq (⟨"BarkPost", "refuseAsNo", "()I"⟩, 16) := ⟨⟨by decide +kernel, by decide +kernel⟩, List.mem_of_getElem? (i := 21) (by decide +kernel), List.mem_of_getElem? (i := 439) (by decide +kernel), List.mem_of_getElem? (i := 440) (by decide +kernel)⟩
theorem lw_p15 : lw_okq (⟨"BarkPost$Rows", "enter", "(IIIII)V"⟩, 9) := ⟨⟨by decide +kernel, by decide +kernel⟩, List.mem_of_getElem? (i := 133) (by decide +kernel), List.mem_of_getElem? (i := 544) (by decide +kernel), List.mem_of_getElem? (i := 545) (by decide +kernel)⟩
def lw_privs_1 : List (MethodName × Nat) := [(⟨"BarkPost", "refuseAsBad", "()I"⟩, 16), (⟨"BarkPost", "refuseAsFull", "()I"⟩, 16), (⟨"BarkPost", "isTree", "(I)Z"⟩, 16), (⟨"BarkPost$TextReader", "advance", "()V"⟩, 8), (⟨"BarkPost$TextReader", "behindRun", "(ICC)I"⟩, 8), (⟨"BarkPost$TextReader", "numberAtStart", "()I"⟩, 8), (⟨"BarkPost$TextReader", "takesItem", "()Z"⟩, 8), (⟨"BarkPost$TextReader", "spells", "(Ljava/lang/String;)Z"⟩, 8), (⟨"BarkPost$TextReader", "takesWood", "()Z"⟩, 8), (⟨"BarkPost$TextReader", "takesNumber", "(I)Z"⟩, 8), (⟨"BarkPost$TextReader", "takesTree", "()Z"⟩, 8), (⟨"BarkPost$TextReader", "takesTouch", "()Z"⟩, 8), (⟨"BarkPost$TextReader", "takesFelled", "()Z"⟩, 8), (⟨"BarkPost$TextReader", "takesSemicolon", "()Z"⟩, 8), (⟨"BarkPost", "refuseAsNo", "()I"⟩, 16), (⟨"BarkPost$Rows", "enter", "(IIIII)V"⟩, 9)]
theorem lw_r1 : ∀ q ∈ lw_privs_1, lw_okq q := List.forall_mem_cons.mpr ⟨lw_p0, List.forall_mem_cons.mpr ⟨lw_p1, List.forall_mem_cons.mpr ⟨lw_p2, List.forall_mem_cons.mpr ⟨lw_p3, List.forall_mem_cons.mpr ⟨lw_p4, List.forall_mem_cons.mpr ⟨lw_p5, List.forall_mem_cons.mpr ⟨lw_p6, List.forall_mem_cons.mpr ⟨lw_p7, List.forall_mem_cons.mpr ⟨lw_p8, List.forall_mem_cons.mpr ⟨lw_p9, List.forall_mem_cons.mpr ⟨lw_p10, List.forall_mem_cons.mpr ⟨lw_p11, List.forall_mem_cons.mpr ⟨lw_p12, List.forall_mem_cons.mpr ⟨lw_p13, List.forall_mem_cons.mpr ⟨lw_p14, List.forall_mem_cons.mpr ⟨lw_p15, fun _ h => absurd h List.not_mem_nil⟩⟩⟩⟩⟩⟩⟩⟩⟩⟩⟩⟩⟩⟩⟩⟩
theorem lw_p16 : lw_okq (⟨"BarkPost$Rows", "keepIfSooner", "(III)V"⟩, 9) := ⟨⟨by decide +kernel, by decide +kernel⟩, List.mem_of_getElem? (i := 133) (by decide +kernel), List.mem_of_getElem? (i := 548) (by decide +kernel), List.mem_of_getElem? (i := 549) (by decide +kernel)⟩
theorem lw_p17 : lw_okq (⟨"BarkPost$Rows", "rowsOn", "(IIII)I"⟩, 9) := ⟨⟨by decide +kernel, by decide +kernel⟩, List.mem_of_getElem? (i := 133) (by decide +kernel), List.mem_of_getElem? (i := 564) (by decide +kernel), List.mem_of_getElem? (i := 565) (by decide +kernel)⟩
theorem lw_p18 : lw_okq (⟨"BarkPost$Rows", "countRowsBySets", "()V"⟩, 9) := ⟨⟨by decide +kernel, by decide +kernel⟩, List.mem_of_getElem? (i := 133) (by decide +kernel), List.mem_of_getElem? (i := 608) (by decide +kernel), List.mem_of_getElem? (i := 609) (by decide +kernel)⟩
theorem lw_p19 : lw_okq (⟨"BarkPost$Rows", "rowsEnding", "(II)I"⟩, 9) := ⟨⟨by decide +kernel, by decide +kernel⟩, List.mem_of_getElem? (i := 133) (by decide +kernel), List.mem_of_getElem? (i := 612) (by decide +kernel), List.mem_of_getElem? (i := 613) (by decide +kernel)⟩
theorem lw_p20 : lw_okq (⟨"BarkPost", "fittingKinds", "(I)I"⟩, 16) := ⟨⟨by decide +kernel, by decide +kernel⟩, List.mem_of_getElem? (i := 21) (by decide +kernel), List.mem_of_getElem? (i := 640) (by decide +kernel), List.mem_of_getElem? (i := 641) (by decide +kernel)⟩
theorem lw_p21 : lw_okq (⟨"BarkPost", "fitsAllNotes", "(II)Z"⟩, 16) := ⟨⟨by decide +kernel, by decide +kernel⟩, List.mem_of_getElem? (i := 21) (by decide +kernel), List.mem_of_getElem? (i := 644) (by decide +kernel), List.mem_of_getElem? (i := 645) (by decide +kernel)⟩
theorem lw_p22 : lw_okq (⟨"BarkPost", "mostAlike", "(II)I"⟩, 16) := ⟨⟨by decide +kernel, by decide +kernel⟩, List.mem_of_getElem? (i := 21) (by decide +kernel), List.mem_of_getElem? (i := 652) (by decide +kernel), List.mem_of_getElem? (i := 653) (by decide +kernel)⟩
theorem lw_p23 : lw_okq (⟨"BarkPost", "mayHaveBeenPutIn", "(I)Z"⟩, 16) := ⟨⟨by decide +kernel, by decide +kernel⟩, List.mem_of_getElem? (i := 21) (by decide +kernel), List.mem_of_getElem? (i := 663) (by decide +kernel), List.mem_of_getElem? (i := 664) (by decide +kernel)⟩
theorem lw_p24 : lw_okq (⟨"BarkPost", "keepChanceToStand", "(II)V"⟩, 16) := ⟨⟨by decide +kernel, by decide +kernel⟩, List.mem_of_getElem? (i := 21) (by decide +kernel), List.mem_of_getElem? (i := 682) (by decide +kernel), List.mem_of_getElem? (i := 683) (by decide +kernel)⟩
theorem lw_p25 : lw_okq (⟨"BarkPost", "howMuch", "(I)I"⟩, 16) := ⟨⟨by decide +kernel, by decide +kernel⟩, List.mem_of_getElem? (i := 21) (by decide +kernel), List.mem_of_getElem? (i := 719) (by decide +kernel), List.mem_of_getElem? (i := 720) (by decide +kernel)⟩
theorem lw_p26 : lw_okq (⟨"BarkPostModel", "bad", "(I)I"⟩, 25) := ⟨⟨by decide +kernel, by decide +kernel⟩, List.mem_of_getElem? (i := 735) (by decide +kernel), List.mem_of_getElem? (i := 828) (by decide +kernel), List.mem_of_getElem? (i := 829) (by decide +kernel)⟩
theorem lw_p27 : lw_okq (⟨"BarkPostModel", "many", "()I"⟩, 25) := ⟨⟨by decide +kernel, by decide +kernel⟩, List.mem_of_getElem? (i := 735) (by decide +kernel), List.mem_of_getElem? (i := 832) (by decide +kernel), List.mem_of_getElem? (i := 833) (by decide +kernel)⟩
theorem lw_p28 : lw_okq (⟨"BarkPostModel", "full", "()I"⟩, 25) := ⟨⟨by decide +kernel, by decide +kernel⟩, List.mem_of_getElem? (i := 735) (by decide +kernel), List.mem_of_getElem? (i := 841) (by decide +kernel), List.mem_of_getElem? (i := 842) (by decide +kernel)⟩
theorem lw_p29 : lw_okq (⟨"BarkPostModel", "isTree", "(I)Z"⟩, 25) := ⟨⟨by decide +kernel, by decide +kernel⟩, List.mem_of_getElem? (i := 735) (by decide +kernel), List.mem_of_getElem? (i := 849) (by decide +kernel), List.mem_of_getElem? (i := 850) (by decide +kernel)⟩
theorem lw_p30 : lw_okq (⟨"BarkPostModel", "keep", "()V"⟩, 25) := ⟨⟨by decide +kernel, by decide +kernel⟩, List.mem_of_getElem? (i := 735) (by decide +kernel), List.mem_of_getElem? (i := 860) (by decide +kernel), List.mem_of_getElem? (i := 861) (by decide +kernel)⟩
theorem lw_p31 : lw_okq (⟨"BarkPostModel", "no", "()I"⟩, 25) := ⟨⟨by decide +kernel, by decide +kernel⟩, List.mem_of_getElem? (i := 735) (by decide +kernel), List.mem_of_getElem? (i := 873) (by decide +kernel), List.mem_of_getElem? (i := 874) (by decide +kernel)⟩
def lw_privs_2 : List (MethodName × Nat) := [(⟨"BarkPost$Rows", "keepIfSooner", "(III)V"⟩, 9), (⟨"BarkPost$Rows", "rowsOn", "(IIII)I"⟩, 9), (⟨"BarkPost$Rows", "countRowsBySets", "()V"⟩, 9), (⟨"BarkPost$Rows", "rowsEnding", "(II)I"⟩, 9), (⟨"BarkPost", "fittingKinds", "(I)I"⟩, 16), (⟨"BarkPost", "fitsAllNotes", "(II)Z"⟩, 16), (⟨"BarkPost", "mostAlike", "(II)I"⟩, 16), (⟨"BarkPost", "mayHaveBeenPutIn", "(I)Z"⟩, 16), (⟨"BarkPost", "keepChanceToStand", "(II)V"⟩, 16), (⟨"BarkPost", "howMuch", "(I)I"⟩, 16), (⟨"BarkPostModel", "bad", "(I)I"⟩, 25), (⟨"BarkPostModel", "many", "()I"⟩, 25), (⟨"BarkPostModel", "full", "()I"⟩, 25), (⟨"BarkPostModel", "isTree", "(I)Z"⟩, 25), (⟨"BarkPostModel", "keep", "()V"⟩, 25), (⟨"BarkPostModel", "no", "()I"⟩, 25)]
theorem lw_r2 : ∀ q ∈ lw_privs_2, lw_okq q := List.forall_mem_cons.mpr ⟨lw_p16, List.forall_mem_cons.mpr ⟨lw_p17, List.forall_mem_cons.mpr ⟨lw_p18, List.forall_mem_cons.mpr ⟨lw_p19, List.forall_mem_cons.mpr ⟨lw_p20, List.forall_mem_cons.mpr ⟨lw_p21, List.forall_mem_cons.mpr ⟨lw_p22, List.forall_mem_cons.mpr ⟨lw_p23, List.forall_mem_cons.mpr ⟨lw_p24, List.forall_mem_cons.mpr ⟨lw_p25, List.forall_mem_cons.mpr ⟨lw_p26, List.forall_mem_cons.mpr ⟨lw_p27, List.forall_mem_cons.mpr ⟨lw_p28, List.forall_mem_cons.mpr ⟨lw_p29, List.forall_mem_cons.mpr ⟨lw_p30, List.forall_mem_cons.mpr ⟨lw_p31, fun _ h => absurd h List.not_mem_nil⟩⟩⟩⟩⟩⟩⟩⟩⟩⟩⟩⟩⟩⟩⟩⟩
theorem lw_p32 : lw_okq (⟨"BarkPostModel", "layRow", "(I)Z"⟩, 25) := ⟨⟨by decide +kernel, by decide +kernel⟩, List.mem_of_getElem? (i := 735) (by decide +kernel), List.mem_of_getElem? (i := 907) (by decide +kernel), List.mem_of_getElem? (i := 908) (by decide +kernel)⟩
theorem lw_p33 : lw_okq (⟨"BarkPostModel", "readBy", "(II)V"⟩, 25) := ⟨⟨by decide +kernel, by decide +kernel⟩, List.mem_of_getElem? (i := 735) (by decide +kernel), List.mem_of_getElem? (i := 914) (by decide +kernel), List.mem_of_getElem? (i := 915) (by decide +kernel)⟩
theorem lw_p34 : lw_okq (⟨"BarkPostModel", "isRow", "()Z"⟩, 25) := ⟨⟨by decide +kernel, by decide +kernel⟩, List.mem_of_getElem? (i := 735) (by decide +kernel), List.mem_of_getElem? (i := 918) (by decide +kernel), List.mem_of_getElem? (i := 919) (by decide +kernel)⟩
theorem lw_p35 : lw_okq (⟨"BarkPostModel", "laySoonest", "(IIIZ)V"⟩, 25) := ⟨⟨by decide +kernel, by decide +kernel⟩, List.mem_of_getElem? (i := 735) (by decide +kernel), List.mem_of_getElem? (i := 926) (by decide +kernel), List.mem_of_getElem? (i := 927) (by decide +kernel)⟩
theorem lw_p36 : lw_okq (⟨"BarkPostModel", "layFirst", "(II)V"⟩, 25) := ⟨⟨by decide +kernel, by decide +kernel⟩, List.mem_of_getElem? (i := 735) (by decide +kernel), List.mem_of_getElem? (i := 930) (by decide +kernel), List.mem_of_getElem? (i := 931) (by decide +kernel)⟩
theorem lw_p37 : lw_okq (⟨"BarkPostModel", "ends", "(I)Z"⟩, 25) := ⟨⟨by decide +kernel, by decide +kernel⟩, List.mem_of_getElem? (i := 735) (by decide +kernel), List.mem_of_getElem? (i := 934) (by decide +kernel), List.mem_of_getElem? (i := 935) (by decide +kernel)⟩
theorem lw_p38 : lw_okq (⟨"BarkPostModel", "numberOfRow", "()I"⟩, 25) := ⟨⟨by decide +kernel, by decide +kernel⟩, List.mem_of_getElem? (i := 735) (by decide +kernel), List.mem_of_getElem? (i := 938) (by decide +kernel), List.mem_of_getElem? (i := 939) (by decide +kernel)⟩
theorem lw_p39 : lw_okq (⟨"BarkPostModel", "goOn", "()V"⟩, 25) := ⟨⟨by decide +kernel, by decide +kernel⟩, List.mem_of_getElem? (i := 735) (by decide +kernel), List.mem_of_getElem? (i := 942) (by decide +kernel), List.mem_of_getElem? (i := 943) (by decide +kernel)⟩
theorem lw_p40 : lw_okq (⟨"BarkPostModel", "used", "()I"⟩, 25) := ⟨⟨by decide +kernel, by decide +kernel⟩, List.mem_of_getElem? (i := 735) (by decide +kernel), List.mem_of_getElem? (i := 946) (by decide +kernel), List.mem_of_getElem? (i := 947) (by decide +kernel)⟩
theorem lw_p41 : lw_okq (⟨"BarkPostModel", "manyWays", "(III)I"⟩, 25) := ⟨⟨by decide +kernel, by decide +kernel⟩, List.mem_of_getElem? (i := 735) (by decide +kernel), List.mem_of_getElem? (i := 958) (by decide +kernel), List.mem_of_getElem? (i := 959) (by decide +kernel)⟩
theorem lw_p42 : lw_okq (⟨"BarkPostModel", "isThereWay", "(III)Z"⟩, 25) := ⟨⟨by decide +kernel, by decide +kernel⟩, List.mem_of_getElem? (i := 735) (by decide +kernel), List.mem_of_getElem? (i := 986) (by decide +kernel), List.mem_of_getElem? (i := 987) (by decide +kernel)⟩
theorem lw_p43 : lw_okq (⟨"BarkPostModel", "kindsOf", "(I)I"⟩, 25) := ⟨⟨by decide +kernel, by decide +kernel⟩, List.mem_of_getElem? (i := 735) (by decide +kernel), List.mem_of_getElem? (i := 1011) (by decide +kernel), List.mem_of_getElem? (i := 1012) (by decide +kernel)⟩
theorem lw_p44 : lw_okq (⟨"BarkPostModel", "isAllSo", "(I)Z"⟩, 25) := ⟨⟨by decide +kernel, by decide +kernel⟩, List.mem_of_getElem? (i := 735) (by decide +kernel), List.mem_of_getElem? (i := 1027) (by decide +kernel), List.mem_of_getElem? (i := 1028) (by decide +kernel)⟩
theorem lw_p45 : lw_okq (⟨"BarkPostModel", "fraction", "(JJ)V"⟩, 25) := ⟨⟨by decide +kernel, by decide +kernel⟩, List.mem_of_getElem? (i := 735) (by decide +kernel), List.mem_of_getElem? (i := 1040) (by decide +kernel), List.mem_of_getElem? (i := 1041) (by decide +kernel)⟩
theorem lw_p46 : lw_okq (⟨"BarkPostModel", "lookAt", "(I)V"⟩, 25) := ⟨⟨by decide +kernel, by decide +kernel⟩, List.mem_of_getElem? (i := 735) (by decide +kernel), List.mem_of_getElem? (i := 1066) (by decide +kernel), List.mem_of_getElem? (i := 1067) (by decide +kernel)⟩
theorem lw_p47 : lw_okq (⟨"BarkPostModel", "takesWood", "()Z"⟩, 25) := ⟨⟨by decide +kernel, by decide +kernel⟩, List.mem_of_getElem? (i := 735) (by decide +kernel), List.mem_of_getElem? (i := 1080) (by decide +kernel), List.mem_of_getElem? (i := 1081) (by decide +kernel)⟩
def lw_privs_3 : List (MethodName × Nat) := [(⟨"BarkPostModel", "layRow", "(I)Z"⟩, 25), (⟨"BarkPostModel", "readBy", "(II)V"⟩, 25), (⟨"BarkPostModel", "isRow", "()Z"⟩, 25), (⟨"BarkPostModel", "laySoonest", "(IIIZ)V"⟩, 25), (⟨"BarkPostModel", "layFirst", "(II)V"⟩, 25), (⟨"BarkPostModel", "ends", "(I)Z"⟩, 25), (⟨"BarkPostModel", "numberOfRow", "()I"⟩, 25), (⟨"BarkPostModel", "goOn", "()V"⟩, 25), (⟨"BarkPostModel", "used", "()I"⟩, 25), (⟨"BarkPostModel", "manyWays", "(III)I"⟩, 25), (⟨"BarkPostModel", "isThereWay", "(III)Z"⟩, 25), (⟨"BarkPostModel", "kindsOf", "(I)I"⟩, 25), (⟨"BarkPostModel", "isAllSo", "(I)Z"⟩, 25), (⟨"BarkPostModel", "fraction", "(JJ)V"⟩, 25), (⟨"BarkPostModel", "lookAt", "(I)V"⟩, 25), (⟨"BarkPostModel", "takesWood", "()Z"⟩, 25)]
theorem lw_r3 : ∀ q ∈ lw_privs_3, lw_okq q := List.forall_mem_cons.mpr ⟨lw_p32, List.forall_mem_cons.mpr ⟨lw_p33, List.forall_mem_cons.mpr ⟨lw_p34, List.forall_mem_cons.mpr ⟨lw_p35, List.forall_mem_cons.mpr ⟨lw_p36, List.forall_mem_cons.mpr ⟨lw_p37, List.forall_mem_cons.mpr ⟨lw_p38, List.forall_mem_cons.mpr ⟨lw_p39, List.forall_mem_cons.mpr ⟨lw_p40, List.forall_mem_cons.mpr ⟨lw_p41, List.forall_mem_cons.mpr ⟨lw_p42, List.forall_mem_cons.mpr ⟨lw_p43, List.forall_mem_cons.mpr ⟨lw_p44, List.forall_mem_cons.mpr ⟨lw_p45, List.forall_mem_cons.mpr ⟨lw_p46, List.forall_mem_cons.mpr ⟨lw_p47, fun _ h => absurd h List.not_mem_nil⟩⟩⟩⟩⟩⟩⟩⟩⟩⟩⟩⟩⟩⟩⟩⟩
theorem lw_p48 : lw_okq (⟨"BarkPostModel", "spells", "(IIIIIII)Z"⟩, 25) := ⟨⟨by decide +kernel, by decide +kernel⟩, List.mem_of_getElem? (i := 735) (by decide +kernel), List.mem_of_getElem? (i := 1084) (by decide +kernel), List.mem_of_getElem? (i := 1085) (by decide +kernel)⟩
theorem lw_p49 : lw_okq (⟨"BarkPostModel", "goBehind", "()V"⟩, 25) := ⟨⟨by decide +kernel, by decide +kernel⟩, List.mem_of_getElem? (i := 735) (by decide +kernel), List.mem_of_getElem? (i := 1088) (by decide +kernel), List.mem_of_getElem? (i := 1089) (by decide +kernel)⟩
theorem lw_p50 : lw_okq (⟨"BarkPostModel", "takes", "(III)Z"⟩, 25) := ⟨⟨by decide +kernel, by decide +kernel⟩, List.mem_of_getElem? (i := 735) (by decide +kernel), List.mem_of_getElem? (i := 1092) (by decide +kernel), List.mem_of_getElem? (i := 1093) (by decide +kernel)⟩
theorem lw_p51 : lw_okq (⟨"BarkPostModel", "takesItem", "()Z"⟩, 25) := ⟨⟨by decide +kernel, by decide +kernel⟩, List.mem_of_getElem? (i := 735) (by decide +kernel), List.mem_of_getElem? (i := 1096) (by decide +kernel), List.mem_of_getElem? (i := 1097) (by decide +kernel)⟩
theorem lw_p52 : lw_okq (⟨"BarkPostModel", "takesTree", "()Z"⟩, 25) := ⟨⟨by decide +kernel, by decide +kernel⟩, List.mem_of_getElem? (i := 735) (by decide +kernel), List.mem_of_getElem? (i := 1100) (by decide +kernel), List.mem_of_getElem? (i := 1101) (by decide +kernel)⟩
theorem lw_p53 : lw_okq (⟨"BarkPostModel", "takesTouch", "()Z"⟩, 25) := ⟨⟨by decide +kernel, by decide +kernel⟩, List.mem_of_getElem? (i := 735) (by decide +kernel), List.mem_of_getElem? (i := 1104) (by decide +kernel), List.mem_of_getElem? (i := 1105) (by decide +kernel)⟩
theorem lw_p54 : lw_okq (⟨"BarkPostModel", "takesFell", "()Z"⟩, 25) := ⟨⟨by decide +kernel, by decide +kernel⟩, List.mem_of_getElem? (i := 735) (by decide +kernel), List.mem_of_getElem? (i := 1108) (by decide +kernel), List.mem_of_getElem? (i := 1109) (by decide +kernel)⟩
theorem lw_p55 : lw_okq (⟨"BarkPostModel", "counted", "(I)I"⟩, 25) := ⟨⟨by decide +kernel, by decide +kernel⟩, List.mem_of_getElem? (i := 735) (by decide +kernel), List.mem_of_getElem? (i := 1133) (by decide +kernel), List.mem_of_getElem? (i := 1134) (by decide +kernel)⟩
theorem lw_p56 : lw_okq (⟨"BarkPostModel", "manyTouches", "()I"⟩, 25) := ⟨⟨by decide +kernel, by decide +kernel⟩, List.mem_of_getElem? (i := 735) (by decide +kernel), List.mem_of_getElem? (i := 1137) (by decide +kernel), List.mem_of_getElem? (i := 1138) (by decide +kernel)⟩
theorem lw_p57 : lw_okq (⟨"BarkPostModel", "sums", "(JII)J"⟩, 25) := ⟨⟨by decide +kernel, by decide +kernel⟩, List.mem_of_getElem? (i := 735) (by decide +kernel), List.mem_of_getElem? (i := 1147) (by decide +kernel), List.mem_of_getElem? (i := 1148) (by decide +kernel)⟩
def lw_privs_4 : List (MethodName × Nat) := [(⟨"BarkPostModel", "spells", "(IIIIIII)Z"⟩, 25), (⟨"BarkPostModel", "goBehind", "()V"⟩, 25), (⟨"BarkPostModel", "takes", "(III)Z"⟩, 25), (⟨"BarkPostModel", "takesItem", "()Z"⟩, 25), (⟨"BarkPostModel", "takesTree", "()Z"⟩, 25), (⟨"BarkPostModel", "takesTouch", "()Z"⟩, 25), (⟨"BarkPostModel", "takesFell", "()Z"⟩, 25), (⟨"BarkPostModel", "counted", "(I)I"⟩, 25), (⟨"BarkPostModel", "manyTouches", "()I"⟩, 25), (⟨"BarkPostModel", "sums", "(JII)J"⟩, 25)]
theorem lw_r4 : ∀ q ∈ lw_privs_4, lw_okq q := List.forall_mem_cons.mpr ⟨lw_p48, List.forall_mem_cons.mpr ⟨lw_p49, List.forall_mem_cons.mpr ⟨lw_p50, List.forall_mem_cons.mpr ⟨lw_p51, List.forall_mem_cons.mpr ⟨lw_p52, List.forall_mem_cons.mpr ⟨lw_p53, List.forall_mem_cons.mpr ⟨lw_p54, List.forall_mem_cons.mpr ⟨lw_p55, List.forall_mem_cons.mpr ⟨lw_p56, List.forall_mem_cons.mpr ⟨lw_p57, fun _ h => absurd h List.not_mem_nil⟩⟩⟩⟩⟩⟩⟩⟩⟩⟩
def lw_privs : List (MethodName × Nat) := lw_privs_1 ++ (lw_privs_2 ++ (lw_privs_3 ++ (lw_privs_4)))
def lw_tbl : List Cond := k2_sels lw_privs ++ tables_1
theorem lw_privs_ok : ∀ q ∈ lw_privs, lw_okq q := by
  show ∀ q ∈ lw_privs_1 ++ (lw_privs_2 ++ (lw_privs_3 ++ (lw_privs_4))), lw_okq q
  exact List.forall_mem_append.mpr ⟨lw_r1, List.forall_mem_append.mpr ⟨lw_r2, List.forall_mem_append.mpr ⟨lw_r3, lw_r4⟩⟩⟩
/-! ===== BEGIN words of one list among another's, by their places ===== -/
theorem goodIn_r {big : List Cond} (ws : List Cond) (ps : List Nat) (hp : ws = ps.filterMap (fun i => big[i]?)) (h : ws.all goodWord = true) : GoodIn big ws := by
  intro w hw
  have h1 := List.all_eq_true.mp h w hw
  rw [hp] at hw
  obtain ⟨i, -, hi⟩ := List.mem_filterMap.mp hw
  have hm : w ∈ big := by first | exact List.mem_of_getElem? hi | exact List.getElem?_mem hi
  exact ⟨hm, good_of_word h1⟩
theorem goodIn_app {big a b : List Cond} (ha : GoodIn big a) (hb : GoodIn big b) : GoodIn big (a ++ b) := fun w h => (List.mem_append.mp h).elim (ha w) (hb w)
theorem goodIn_ca {big a b : List Cond} {c : Cond} (ha : GoodIn big (c :: a)) (hb : GoodIn big b) : GoodIn big (c :: (a ++ b)) := fun w h => (List.mem_cons.mp h).elim (fun e => ha w (List.mem_cons.mpr (Or.inl e))) (fun h => (List.mem_append.mp h).elim (fun h => ha w (List.mem_cons.mpr (Or.inr h))) (hb w))
theorem goodIn_sub {big ws : List Cond} (hm : ∀ w ∈ ws, w ∈ big) (h : ws.all goodWord = true) : GoodIn big ws := fun w hw => ⟨hm w hw, good_of_word (List.all_eq_true.mp h w hw)⟩
/-! ===== END ===== -/

def RX0 : String := "BarkPost$Ash"
def TX0 : u_T := fun k => match k with
  | _ => ("", "", "", false)
def tyX0 : Nat → FieldType := fun k => match k with
  | _ => .int
abbrev wsX00 : List Cond := u_ws RX0 TX0 0
theorem nmX0 : ∀ a, a < 0 → ∀ b, b < 0 → a ≠ b → (TX0 a).2.1 ≠ (TX0 b).2.1 := by decide +kernel
theorem tyX0_ok : ∀ k, k < 0 → parseFieldDescriptor (TX0 k).2.2.1 = some (tyX0 k) := by decide +kernel
abbrev cX0_init : ByteArray := prog_2_method_1_code
def yX0_init : MethodName := ⟨RX0, "<init>", "()V"⟩
abbrev cX0_copied : ByteArray := prog_2_method_2_code
def yX0_copied : MethodName := ⟨RX0, "copied", "(II)I"⟩
def RX1 : String := "BarkPost$Beech"
def TX1 : u_T := fun k => match k with
  | _ => ("", "", "", false)
def tyX1 : Nat → FieldType := fun k => match k with
  | _ => .int
abbrev wsX10 : List Cond := u_ws RX1 TX1 0
theorem nmX1 : ∀ a, a < 0 → ∀ b, b < 0 → a ≠ b → (TX1 a).2.1 ≠ (TX1 b).2.1 := by decide +kernel
theorem tyX1_ok : ∀ k, k < 0 → parseFieldDescriptor (TX1 k).2.2.1 = some (tyX1 k) := by decide +kernel
abbrev cX1_init : ByteArray := prog_3_method_1_code
def yX1_init : MethodName := ⟨RX1, "<init>", "()V"⟩
abbrev cX1_copied : ByteArray := prog_3_method_2_code
def yX1_copied : MethodName := ⟨RX1, "copied", "(II)I"⟩
def RX2 : String := "BarkPost$Forest"
def TX2 : u_T := fun k => match k with
  | 0 => ("BarkPost$Forest", "kindOf", "[I", true)
  | 1 => ("BarkPost$Forest", "touching", "[I", true)
  | 2 => ("BarkPost$Forest", "notes", "[I", true)
  | 3 => ("BarkPost$Forest", "reads", "[I", true)
  | 4 => ("BarkPost$Forest", "felledBefore", "[I", true)
  | 5 => ("BarkPost$Forest", "seasonBefore", "[I", true)
  | 6 => ("BarkPost$Forest", "trees", "I", false)
  | 7 => ("BarkPost$Forest", "felled", "I", false)
  | 8 => ("BarkPost$Forest", "now", "I", false)
  | 9 => ("BarkPost$Forest", "noted", "I", false)
  | 10 => ("BarkPost$Forest", "readOnes", "I", false)
  | _ => ("BarkPost$Forest", "undos", "I", false)
def tyX2 : Nat → FieldType := fun k => match k with
  | 0 => .array .int
  | 1 => .array .int
  | 2 => .array .int
  | 3 => .array .int
  | 4 => .array .int
  | 5 => .array .int
  | 6 => .int
  | 7 => .int
  | 8 => .int
  | 9 => .int
  | 10 => .int
  | _ => .int
abbrev wsX20 : List Cond := u_ws RX2 TX2 12
theorem nmX2 : ∀ a, a < 12 → ∀ b, b < 12 → a ≠ b → (TX2 a).2.1 ≠ (TX2 b).2.1 := by decide +kernel
theorem tyX2_ok : ∀ k, k < 12 → parseFieldDescriptor (TX2 k).2.2.1 = some (tyX2 k) := by decide +kernel
abbrev cX2_init : ByteArray := prog_4_method_1_code
def yX2_init : MethodName := ⟨RX2, "<init>", "()V"⟩
abbrev cX2_startAt : ByteArray := prog_4_method_2_code
def yX2_startAt : MethodName := ⟨RX2, "startAt", "(I)V"⟩
abbrev cX2_takeAll : ByteArray := prog_4_method_3_code
def yX2_takeAll : MethodName := ⟨RX2, "takeAll", "(LBarkPost$Forest;)V"⟩
abbrev cX2_plant : ByteArray := prog_4_method_4_code
def yX2_plant : MethodName := ⟨RX2, "plant", "(I)V"⟩
abbrev cX2_join : ByteArray := prog_4_method_5_code
def yX2_join : MethodName := ⟨RX2, "join", "(III)V"⟩
abbrev cX2_markFelled : ByteArray := prog_4_method_6_code
def yX2_markFelled : MethodName := ⟨RX2, "markFelled", "(II)V"⟩
abbrev cX2_touches : ByteArray := prog_4_method_7_code
def yX2_touches : MethodName := ⟨RX2, "touches", "()I"⟩
abbrev cX2_addNote : ByteArray := prog_4_method_8_code
def yX2_addNote : MethodName := ⟨RX2, "addNote", "(IIIII)V"⟩
abbrev cX2_addReadOne : ByteArray := prog_4_method_9_code
def yX2_addReadOne : MethodName := ⟨RX2, "addReadOne", "(III)V"⟩
abbrev cX2_remember : ByteArray := prog_4_method_10_code
def yX2_remember : MethodName := ⟨RX2, "remember", "()V"⟩
abbrev cX2_takeBack : ByteArray := prog_4_method_11_code
def yX2_takeBack : MethodName := ⟨RX2, "takeBack", "()V"⟩
def RX3 : String := "BarkPost$Letters"
def TX3 : u_T := fun k => match k with
  | _ => ("", "", "", false)
def tyX3 : Nat → FieldType := fun k => match k with
  | _ => .int
abbrev wsX30 : List Cond := u_ws RX3 TX3 0
theorem nmX3 : ∀ a, a < 0 → ∀ b, b < 0 → a ≠ b → (TX3 a).2.1 ≠ (TX3 b).2.1 := by decide +kernel
theorem tyX3_ok : ∀ k, k < 0 → parseFieldDescriptor (TX3 k).2.2.1 = some (tyX3 k) := by decide +kernel
abbrev cX3_isLetter : ByteArray := prog_5_method_2_code
def yX3_isLetter : MethodName := ⟨RX3, "isLetter", "(I)Z"⟩
abbrev cX3_raised : ByteArray := prog_5_method_3_code
def yX3_raised : MethodName := ⟨RX3, "raised", "(I)I"⟩
abbrev cX3_turned : ByteArray := prog_5_method_4_code
def yX3_turned : MethodName := ⟨RX3, "turned", "(I)I"⟩
abbrev cX3_third : ByteArray := prog_5_method_5_code
def yX3_third : MethodName := ⟨RX3, "third", "(II)I"⟩
abbrev cX3_together : ByteArray := prog_5_method_6_code
def yX3_together : MethodName := ⟨RX3, "together", "(II)I"⟩
abbrev cX3_shortLetter : ByteArray := prog_5_method_7_code
def yX3_shortLetter : MethodName := ⟨RX3, "shortLetter", "(I)I"⟩
def RX4 : String := "BarkPost$Oak"
def TX4 : u_T := fun k => match k with
  | _ => ("", "", "", false)
def tyX4 : Nat → FieldType := fun k => match k with
  | _ => .int
abbrev wsX40 : List Cond := u_ws RX4 TX4 0
theorem nmX4 : ∀ a, a < 0 → ∀ b, b < 0 → a ≠ b → (TX4 a).2.1 ≠ (TX4 b).2.1 := by decide +kernel
theorem tyX4_ok : ∀ k, k < 0 → parseFieldDescriptor (TX4 k).2.2.1 = some (tyX4 k) := by decide +kernel
abbrev cX4_init : ByteArray := prog_6_method_1_code
def yX4_init : MethodName := ⟨RX4, "<init>", "()V"⟩
abbrev cX4_lasts : ByteArray := prog_6_method_2_code
def yX4_lasts : MethodName := ⟨RX4, "lasts", "(I)I"⟩
def RX5 : String := "BarkPost$Plain"
def TX5 : u_T := fun k => match k with
  | _ => ("", "", "", false)
def tyX5 : Nat → FieldType := fun k => match k with
  | _ => .int
abbrev wsX50 : List Cond := u_ws RX5 TX5 0
theorem nmX5 : ∀ a, a < 0 → ∀ b, b < 0 → a ≠ b → (TX5 a).2.1 ≠ (TX5 b).2.1 := by decide +kernel
theorem tyX5_ok : ∀ k, k < 0 → parseFieldDescriptor (TX5 k).2.2.1 = some (tyX5 k) := by decide +kernel
abbrev cX5_init : ByteArray := prog_7_method_1_code
def yX5_init : MethodName := ⟨RX5, "<init>", "()V"⟩
abbrev cX5_copied : ByteArray := prog_7_method_2_code
def yX5_copied : MethodName := ⟨RX5, "copied", "(II)I"⟩
abbrev cX5_lasts : ByteArray := prog_7_method_3_code
def yX5_lasts : MethodName := ⟨RX5, "lasts", "(I)I"⟩
def RX6 : String := "BarkPost$Resin"
def TX6 : u_T := fun k => match k with
  | _ => ("", "", "", false)
def tyX6 : Nat → FieldType := fun k => match k with
  | _ => .int
abbrev wsX60 : List Cond := u_ws RX6 TX6 0
theorem nmX6 : ∀ a, a < 0 → ∀ b, b < 0 → a ≠ b → (TX6 a).2.1 ≠ (TX6 b).2.1 := by decide +kernel
theorem tyX6_ok : ∀ k, k < 0 → parseFieldDescriptor (TX6 k).2.2.1 = some (tyX6 k) := by decide +kernel
abbrev cX6_init : ByteArray := prog_8_method_1_code
def yX6_init : MethodName := ⟨RX6, "<init>", "()V"⟩
abbrev cX6_copied : ByteArray := prog_8_method_2_code
def yX6_copied : MethodName := ⟨RX6, "copied", "(II)I"⟩
abbrev cX6_lasts : ByteArray := prog_8_method_3_code
def yX6_lasts : MethodName := ⟨RX6, "lasts", "(I)I"⟩
def RX7 : String := "BarkPost$Rows"
def TX7 : u_T := fun k => match k with
  | 0 => ("BarkPost$Rows", "forest", "LBarkPost$Forest;", true)
  | 1 => ("BarkPost$Rows", "kinds", "[LBarkPost$Plain;", true)
  | 2 => ("BarkPost$Rows", "endings", "[I", true)
  | 3 => ("BarkPost$Rows", "onRows", "[I", true)
  | 4 => ("BarkPost$Rows", "goal", "I", false)
  | 5 => ("BarkPost$Rows", "wanted", "I", false)
  | 6 => ("BarkPost$Rows", "row", "I", false)
  | 7 => ("BarkPost$Rows", "time", "I", false)
  | _ => ("BarkPost$Rows", "letter", "I", false)
def tyX7 : Nat → FieldType := fun k => match k with
  | 0 => .object "BarkPost$Forest"
  | 1 => .array (.object "BarkPost$Plain")
  | 2 => .array .int
  | 3 => .array .int
  | 4 => .int
  | 5 => .int
  | 6 => .int
  | 7 => .int
  | _ => .int
abbrev wsX70 : List Cond := u_ws RX7 TX7 9
theorem nmX7 : ∀ a, a < 9 → ∀ b, b < 9 → a ≠ b → (TX7 a).2.1 ≠ (TX7 b).2.1 := by decide +kernel
theorem tyX7_ok : ∀ k, k < 9 → parseFieldDescriptor (TX7 k).2.2.1 = some (tyX7 k) := by decide +kernel
abbrev cX7_init : ByteArray := prog_9_method_1_code
def yX7_init : MethodName := ⟨RX7, "<init>", "(LBarkPost$Forest;[LBarkPost$Plain;)V"⟩
abbrev cX7_isTold : ByteArray := prog_9_method_2_code
def yX7_isTold : MethodName := ⟨RX7, "isTold", "(I)Z"⟩
abbrev cX7_stands : ByteArray := prog_9_method_3_code
def yX7_stands : MethodName := ⟨RX7, "stands", "(I)Z"⟩
abbrev cX7_follow : ByteArray := prog_9_method_4_code
def yX7_follow : MethodName := ⟨RX7, "follow", "(III)V"⟩
abbrev cX7_seek : ByteArray := prog_9_method_5_code
def yX7_seek : MethodName := ⟨RX7, "seek", "(IIII)Z"⟩
abbrev cX7_enter : ByteArray := prog_9_method_6_code
def yX7_enter : MethodName := ⟨RX7, "enter", "(IIIII)V"⟩
abbrev cX7_keepIfSooner : ByteArray := prog_9_method_7_code
def yX7_keepIfSooner : MethodName := ⟨RX7, "keepIfSooner", "(III)V"⟩
abbrev cX7_howMany : ByteArray := prog_9_method_8_code
def yX7_howMany : MethodName := ⟨RX7, "howMany", "(II)I"⟩
abbrev cX7_rowsOn : ByteArray := prog_9_method_9_code
def yX7_rowsOn : MethodName := ⟨RX7, "rowsOn", "(IIII)I"⟩
abbrev cX7_joins : ByteArray := prog_9_method_10_code
def yX7_joins : MethodName := ⟨RX7, "joins", "(III)Z"⟩
abbrev cX7_fewestToPart : ByteArray := prog_9_method_11_code
def yX7_fewestToPart : MethodName := ⟨RX7, "fewestToPart", "(II)I"⟩
abbrev cX7_onMost : ByteArray := prog_9_method_12_code
def yX7_onMost : MethodName := ⟨RX7, "onMost", "()I"⟩
abbrev cX7_countRowsBySets : ByteArray := prog_9_method_13_code
def yX7_countRowsBySets : MethodName := ⟨RX7, "countRowsBySets", "()V"⟩
abbrev cX7_rowsEnding : ByteArray := prog_9_method_14_code
def yX7_rowsEnding : MethodName := ⟨RX7, "rowsEnding", "(II)I"⟩
def RX8 : String := "BarkPost$Stump"
def TX8 : u_T := fun k => match k with
  | _ => ("", "", "", false)
def tyX8 : Nat → FieldType := fun k => match k with
  | _ => .int
abbrev wsX80 : List Cond := u_ws RX8 TX8 0
theorem nmX8 : ∀ a, a < 0 → ∀ b, b < 0 → a ≠ b → (TX8 a).2.1 ≠ (TX8 b).2.1 := by decide +kernel
theorem tyX8_ok : ∀ k, k < 0 → parseFieldDescriptor (TX8 k).2.2.1 = some (tyX8 k) := by decide +kernel
abbrev cX8_init : ByteArray := prog_10_method_1_code
def yX8_init : MethodName := ⟨RX8, "<init>", "()V"⟩
abbrev cX8_copied : ByteArray := prog_10_method_2_code
def yX8_copied : MethodName := ⟨RX8, "copied", "(II)I"⟩
abbrev cX8_lasts : ByteArray := prog_10_method_3_code
def yX8_lasts : MethodName := ⟨RX8, "lasts", "(I)I"⟩
def RX9 : String := "BarkPost$TextReader"
def TX9 : u_T := fun k => match k with
  | 0 => ("BarkPost$TextReader", "text", "[B", true)
  | 1 => ("BarkPost$TextReader", "draft", "LBarkPost$Forest;", true)
  | 2 => ("BarkPost$TextReader", "length", "I", false)
  | 3 => ("BarkPost$TextReader", "place", "I", false)
  | 4 => ("BarkPost$TextReader", "start", "I", false)
  | 5 => ("BarkPost$TextReader", "token", "I", false)
  | 6 => ("BarkPost$TextReader", "value", "I", false)
  | _ => ("BarkPost$TextReader", "items", "I", false)
def tyX9 : Nat → FieldType := fun k => match k with
  | 0 => .array .byte
  | 1 => .object "BarkPost$Forest"
  | 2 => .int
  | 3 => .int
  | 4 => .int
  | 5 => .int
  | 6 => .int
  | _ => .int
abbrev wsX90 : List Cond := u_ws RX9 TX9 8
theorem nmX9 : ∀ a, a < 8 → ∀ b, b < 8 → a ≠ b → (TX9 a).2.1 ≠ (TX9 b).2.1 := by decide +kernel
theorem tyX9_ok : ∀ k, k < 8 → parseFieldDescriptor (TX9 k).2.2.1 = some (tyX9 k) := by decide +kernel
abbrev cX9_init : ByteArray := prog_11_method_1_code
def yX9_init : MethodName := ⟨RX9, "<init>", "([BLBarkPost$Forest;)V"⟩
abbrev cX9_readAll : ByteArray := prog_11_method_2_code
def yX9_readAll : MethodName := ⟨RX9, "readAll", "(I)I"⟩
abbrev cX9_takesItem : ByteArray := prog_11_method_3_code
def yX9_takesItem : MethodName := ⟨RX9, "takesItem", "()Z"⟩
abbrev cX9_takesWood : ByteArray := prog_11_method_4_code
def yX9_takesWood : MethodName := ⟨RX9, "takesWood", "()Z"⟩
abbrev cX9_takesTree : ByteArray := prog_11_method_5_code
def yX9_takesTree : MethodName := ⟨RX9, "takesTree", "()Z"⟩
abbrev cX9_takesTouch : ByteArray := prog_11_method_6_code
def yX9_takesTouch : MethodName := ⟨RX9, "takesTouch", "()Z"⟩
abbrev cX9_takesFelled : ByteArray := prog_11_method_7_code
def yX9_takesFelled : MethodName := ⟨RX9, "takesFelled", "()Z"⟩
abbrev cX9_takesNumber : ByteArray := prog_11_method_8_code
def yX9_takesNumber : MethodName := ⟨RX9, "takesNumber", "(I)Z"⟩
abbrev cX9_takesSemicolon : ByteArray := prog_11_method_9_code
def yX9_takesSemicolon : MethodName := ⟨RX9, "takesSemicolon", "()Z"⟩
abbrev cX9_advance : ByteArray := prog_11_method_10_code
def yX9_advance : MethodName := ⟨RX9, "advance", "()V"⟩
abbrev cX9_behindRun : ByteArray := prog_11_method_11_code
def yX9_behindRun : MethodName := ⟨RX9, "behindRun", "(ICC)I"⟩
abbrev cX9_numberAtStart : ByteArray := prog_11_method_12_code
def yX9_numberAtStart : MethodName := ⟨RX9, "numberAtStart", "()I"⟩
abbrev cX9_spells : ByteArray := prog_11_method_13_code
def yX9_spells : MethodName := ⟨RX9, "spells", "(Ljava/lang/String;)Z"⟩
def RX10 : String := "BarkPost"
def TX10 : u_T := fun k => match k with
  | 0 => ("BarkPost", "kinds", "[LBarkPost$Plain;", true)
  | 1 => ("BarkPost", "forest", "LBarkPost$Forest;", true)
  | 2 => ("BarkPost", "draft", "LBarkPost$Forest;", true)
  | 3 => ("BarkPost", "images", "[LBarkPost$Forest;", true)
  | 4 => ("BarkPost", "kept", "[Z", true)
  | 5 => ("BarkPost", "rows", "LBarkPost$Rows;", true)
  | 6 => ("BarkPost", "reader", "LBarkPost$TextReader;", true)
  | 7 => ("BarkPost", "text", "[B", true)
  | 8 => ("BarkPost", "copies", "[I", true)
  | 9 => ("BarkPost", "lengths", "[I", true)
  | 10 => ("BarkPost", "typed", "I", false)
  | 11 => ("BarkPost", "above", "J", false)
  | 12 => ("BarkPost", "below", "J", false)
  | 13 => ("BarkPost", "refusedBad", "I", false)
  | 14 => ("BarkPost", "refusedNo", "I", false)
  | _ => ("BarkPost", "refusedFull", "I", false)
def tyX10 : Nat → FieldType := fun k => match k with
  | 0 => .array (.object "BarkPost$Plain")
  | 1 => .object "BarkPost$Forest"
  | 2 => .object "BarkPost$Forest"
  | 3 => .array (.object "BarkPost$Forest")
  | 4 => .array .boolean
  | 5 => .object "BarkPost$Rows"
  | 6 => .object "BarkPost$TextReader"
  | 7 => .array .byte
  | 8 => .array .int
  | 9 => .array .int
  | 10 => .int
  | 11 => .long
  | 12 => .long
  | 13 => .int
  | 14 => .int
  | _ => .int
abbrev wsX100 : List Cond := u_ws RX10 TX10 16
theorem nmX10 : ∀ a, a < 16 → ∀ b, b < 16 → a ≠ b → (TX10 a).2.1 ≠ (TX10 b).2.1 := by decide +kernel
theorem tyX10_ok : ∀ k, k < 16 → parseFieldDescriptor (TX10 k).2.2.1 = some (tyX10 k) := by decide +kernel
abbrev cX10_init : ByteArray := prog_1_method_1_code
def yX10_init : MethodName := ⟨RX10, "<init>", "()V"⟩
abbrev cX10_wood : ByteArray := prog_1_method_2_code
def yX10_wood : MethodName := ⟨RX10, "wood", "(I)I"⟩
abbrev cX10_tree : ByteArray := prog_1_method_3_code
def yX10_tree : MethodName := ⟨RX10, "tree", "(I)I"⟩
abbrev cX10_touch : ByteArray := prog_1_method_4_code
def yX10_touch : MethodName := ⟨RX10, "touch", "(III)I"⟩
abbrev cX10_type : ByteArray := prog_1_method_5_code
def yX10_type : MethodName := ⟨RX10, "type", "(I)I"⟩
abbrev cX10_clear : ByteArray := prog_1_method_6_code
def yX10_clear : MethodName := ⟨RX10, "clear", "()I"⟩
abbrev cX10_read : ByteArray := prog_1_method_7_code
def yX10_read : MethodName := ⟨RX10, "read", "()I"⟩
abbrev cX10_fell : ByteArray := prog_1_method_8_code
def yX10_fell : MethodName := ⟨RX10, "fell", "(II)I"⟩
abbrev cX10_season : ByteArray := prog_1_method_9_code
def yX10_season : MethodName := ⟨RX10, "season", "(I)I"⟩
abbrev cX10_undo : ByteArray := prog_1_method_10_code
def yX10_undo : MethodName := ⟨RX10, "undo", "()I"⟩
abbrev cX10_of : ByteArray := prog_1_method_11_code
def yX10_of : MethodName := ⟨RX10, "of", "(II)I"⟩
abbrev cX10_copy : ByteArray := prog_1_method_12_code
def yX10_copy : MethodName := ⟨RX10, "copy", "(III)I"⟩
abbrev cX10_byRow : ByteArray := prog_1_method_13_code
def yX10_byRow : MethodName := ⟨RX10, "byRow", "(III)I"⟩
abbrev cX10_soonest : ByteArray := prog_1_method_14_code
def yX10_soonest : MethodName := ⟨RX10, "soonest", "(IIII)I"⟩
abbrev cX10_whole : ByteArray := prog_1_method_15_code
def yX10_whole : MethodName := ⟨RX10, "whole", "(IIII)I"⟩
abbrev cX10_ways : ByteArray := prog_1_method_16_code
def yX10_ways : MethodName := ⟨RX10, "ways", "(II)I"⟩
abbrev cX10_put : ByteArray := prog_1_method_17_code
def yX10_put : MethodName := ⟨RX10, "put", "(IIII)I"⟩
abbrev cX10_meet : ByteArray := prog_1_method_18_code
def yX10_meet : MethodName := ⟨RX10, "meet", "(II)I"⟩
abbrev cX10_apart : ByteArray := prog_1_method_19_code
def yX10_apart : MethodName := ⟨RX10, "apart", "(II)I"⟩
abbrev cX10_most : ByteArray := prog_1_method_20_code
def yX10_most : MethodName := ⟨RX10, "most", "()I"⟩
abbrev cX10_note : ByteArray := prog_1_method_21_code
def yX10_note : MethodName := ⟨RX10, "note", "(IIIII)I"⟩
abbrev cX10_came : ByteArray := prog_1_method_22_code
def yX10_came : MethodName := ⟨RX10, "came", "(III)I"⟩
abbrev cX10_forget : ByteArray := prog_1_method_23_code
def yX10_forget : MethodName := ⟨RX10, "forget", "(I)I"⟩
abbrev cX10_is : ByteArray := prog_1_method_24_code
def yX10_is : MethodName := ⟨RX10, "is", "(I)I"⟩
abbrev cX10_next : ByteArray := prog_1_method_25_code
def yX10_next : MethodName := ⟨RX10, "next", "(I)I"⟩
abbrev cX10_first : ByteArray := prog_1_method_26_code
def yX10_first : MethodName := ⟨RX10, "first", "(I)I"⟩
abbrev cX10_foresters : ByteArray := prog_1_method_27_code
def yX10_foresters : MethodName := ⟨RX10, "foresters", "(IIII)I"⟩
abbrev cX10_storms : ByteArray := prog_1_method_28_code
def yX10_storms : MethodName := ⟨RX10, "storms", "(III)I"⟩
abbrev cX10_forests : ByteArray := prog_1_method_29_code
def yX10_forests : MethodName := ⟨RX10, "forests", "(III)I"⟩
abbrev cX10_part : ByteArray := prog_1_method_30_code
def yX10_part : MethodName := ⟨RX10, "part", "(I)J"⟩
abbrev cX10_image : ByteArray := prog_1_method_31_code
def yX10_image : MethodName := ⟨RX10, "image", "(I)I"⟩
abbrev cX10_from : ByteArray := prog_1_method_32_code
def yX10_from : MethodName := ⟨RX10, "from", "(I)I"⟩
abbrev cX10_status : ByteArray := prog_1_method_33_code
def yX10_status : MethodName := ⟨RX10, "status", "(I)I"⟩
abbrev cX10_count : ByteArray := prog_1_method_34_code
def yX10_count : MethodName := ⟨RX10, "count", "(I)I"⟩
abbrev cX10_digest : ByteArray := prog_1_method_35_code
def yX10_digest : MethodName := ⟨RX10, "digest", "()J"⟩
abbrev cX10_within : ByteArray := prog_1_method_36_code
def yX10_within : MethodName := ⟨RX10, "within", "(III)Z"⟩
abbrev cX10_isTree : ByteArray := prog_1_method_37_code
def yX10_isTree : MethodName := ⟨RX10, "isTree", "(I)Z"⟩
abbrev cX10_refuseAsBad : ByteArray := prog_1_method_38_code
def yX10_refuseAsBad : MethodName := ⟨RX10, "refuseAsBad", "()I"⟩
abbrev cX10_refuseAsNo : ByteArray := prog_1_method_39_code
def yX10_refuseAsNo : MethodName := ⟨RX10, "refuseAsNo", "()I"⟩
abbrev cX10_refuseAsFull : ByteArray := prog_1_method_40_code
def yX10_refuseAsFull : MethodName := ⟨RX10, "refuseAsFull", "()I"⟩
abbrev cX10_howMuch : ByteArray := prog_1_method_41_code
def yX10_howMuch : MethodName := ⟨RX10, "howMuch", "(I)I"⟩
abbrev cX10_fittingKinds : ByteArray := prog_1_method_42_code
def yX10_fittingKinds : MethodName := ⟨RX10, "fittingKinds", "(I)I"⟩
abbrev cX10_fitsAllNotes : ByteArray := prog_1_method_43_code
def yX10_fitsAllNotes : MethodName := ⟨RX10, "fitsAllNotes", "(II)Z"⟩
abbrev cX10_mostAlike : ByteArray := prog_1_method_44_code
def yX10_mostAlike : MethodName := ⟨RX10, "mostAlike", "(II)I"⟩
abbrev cX10_mayHaveBeenPutIn : ByteArray := prog_1_method_45_code
def yX10_mayHaveBeenPutIn : MethodName := ⟨RX10, "mayHaveBeenPutIn", "(I)Z"⟩
abbrev cX10_allUnlike : ByteArray := prog_1_method_46_code
def yX10_allUnlike : MethodName := ⟨RX10, "allUnlike", "(IIII)Z"⟩
abbrev cX10_gain : ByteArray := prog_1_method_47_code
def yX10_gain : MethodName := ⟨RX10, "gain", "(III)I"⟩
abbrev cX10_keepChanceToStand : ByteArray := prog_1_method_48_code
def yX10_keepChanceToStand : MethodName := ⟨RX10, "keepChanceToStand", "(II)V"⟩
abbrev cX10_drawn : ByteArray := prog_1_method_49_code
def yX10_drawn : MethodName := ⟨RX10, "drawn", "(J)J"⟩
def RX11 : String := "BarkPostModel"
def TX11 : u_T := fun k => match k with
  | 0 => ("BarkPostModel", "now", "[I", true)
  | 1 => ("BarkPostModel", "kept", "[I", true)
  | 2 => ("BarkPostModel", "isKept", "[Z", true)
  | 3 => ("BarkPostModel", "refused", "[I", true)
  | 4 => ("BarkPostModel", "above", "J", false)
  | 5 => ("BarkPostModel", "below", "J", false)
  | 6 => ("BarkPostModel", "row", "[I", true)
  | 7 => ("BarkPostModel", "manyRow", "I", false)
  | 8 => ("BarkPostModel", "asRead", "I", false)
  | 9 => ("BarkPostModel", "inSeasons", "I", false)
  | 10 => ("BarkPostModel", "standing", "I", false)
  | 11 => ("BarkPostModel", "bestRow", "I", false)
  | 12 => ("BarkPostModel", "bestTime", "I", false)
  | 13 => ("BarkPostModel", "bestRead", "I", false)
  | 14 => ("BarkPostModel", "manyBy", "[I", true)
  | 15 => ("BarkPostModel", "his", "[I", true)
  | 16 => ("BarkPostModel", "theirs", "[I", true)
  | 17 => ("BarkPostModel", "bytes", "[I", true)
  | 18 => ("BarkPostModel", "bytesLong", "I", false)
  | 19 => ("BarkPostModel", "tokenAt", "I", false)
  | 20 => ("BarkPostModel", "tokenLong", "I", false)
  | 21 => ("BarkPostModel", "token", "I", false)
  | 22 => ("BarkPostModel", "value", "I", false)
  | 23 => ("BarkPostModel", "anew", "[I", true)
  | _ => ("BarkPostModel", "values", "[I", true)
def tyX11 : Nat → FieldType := fun k => match k with
  | 0 => .array .int
  | 1 => .array .int
  | 2 => .array .boolean
  | 3 => .array .int
  | 4 => .long
  | 5 => .long
  | 6 => .array .int
  | 7 => .int
  | 8 => .int
  | 9 => .int
  | 10 => .int
  | 11 => .int
  | 12 => .int
  | 13 => .int
  | 14 => .array .int
  | 15 => .array .int
  | 16 => .array .int
  | 17 => .array .int
  | 18 => .int
  | 19 => .int
  | 20 => .int
  | 21 => .int
  | 22 => .int
  | 23 => .array .int
  | _ => .array .int
abbrev wsX110 : List Cond := u_ws RX11 TX11 25
theorem nmX11 : ∀ a, a < 25 → ∀ b, b < 25 → a ≠ b → (TX11 a).2.1 ≠ (TX11 b).2.1 := by decide +kernel
theorem tyX11_ok : ∀ k, k < 25 → parseFieldDescriptor (TX11 k).2.2.1 = some (tyX11 k) := by decide +kernel
abbrev cX11_init : ByteArray := prog_13_method_1_code
def yX11_init : MethodName := ⟨RX11, "<init>", "()V"⟩
abbrev cX11_in : ByteArray := prog_13_method_3_code
def yX11_in : MethodName := ⟨RX11, "in", "(JJJ)Z"⟩
abbrev cX11_bad : ByteArray := prog_13_method_4_code
def yX11_bad : MethodName := ⟨RX11, "bad", "(I)I"⟩
abbrev cX11_no : ByteArray := prog_13_method_5_code
def yX11_no : MethodName := ⟨RX11, "no", "()I"⟩
abbrev cX11_full : ByteArray := prog_13_method_6_code
def yX11_full : MethodName := ⟨RX11, "full", "()I"⟩
abbrev cX11_bits : ByteArray := prog_13_method_7_code
def yX11_bits : MethodName := ⟨RX11, "bits", "(I)I"⟩
abbrev cX11_has : ByteArray := prog_13_method_8_code
def yX11_has : MethodName := ⟨RX11, "has", "(II)Z"⟩
abbrev cX11_begin : ByteArray := prog_13_method_9_code
def yX11_begin : MethodName := ⟨RX11, "begin", "([II)V"⟩
abbrev cX11_many : ByteArray := prog_13_method_10_code
def yX11_many : MethodName := ⟨RX11, "many", "()I"⟩
abbrev cX11_isTree : ByteArray := prog_13_method_11_code
def yX11_isTree : MethodName := ⟨RX11, "isTree", "(I)Z"⟩
abbrev cX11_isLetter : ByteArray := prog_13_method_12_code
def yX11_isLetter : MethodName := ⟨RX11, "isLetter", "(I)Z"⟩
abbrev cX11_wood : ByteArray := prog_13_method_13_code
def yX11_wood : MethodName := ⟨RX11, "wood", "(I)I"⟩
abbrev cX11_tree : ByteArray := prog_13_method_14_code
def yX11_tree : MethodName := ⟨RX11, "tree", "(I)I"⟩
abbrev cX11_layTouch : ByteArray := prog_13_method_15_code
def yX11_layTouch : MethodName := ⟨RX11, "layTouch", "([IIIZ)V"⟩
abbrev cX11_touch : ByteArray := prog_13_method_16_code
def yX11_touch : MethodName := ⟨RX11, "touch", "(III)I"⟩
abbrev cX11_keep : ByteArray := prog_13_method_17_code
def yX11_keep : MethodName := ⟨RX11, "keep", "()V"⟩
abbrev cX11_fell : ByteArray := prog_13_method_18_code
def yX11_fell : MethodName := ⟨RX11, "fell", "(II)I"⟩
abbrev cX11_season : ByteArray := prog_13_method_19_code
def yX11_season : MethodName := ⟨RX11, "season", "(I)I"⟩
abbrev cX11_undo : ByteArray := prog_13_method_20_code
def yX11_undo : MethodName := ⟨RX11, "undo", "()I"⟩
abbrev cX11_of : ByteArray := prog_13_method_21_code
def yX11_of : MethodName := ⟨RX11, "of", "(II)I"⟩
abbrev cX11_turned : ByteArray := prog_13_method_22_code
def yX11_turned : MethodName := ⟨RX11, "turned", "(I)I"⟩
abbrev cX11_oneMore : ByteArray := prog_13_method_23_code
def yX11_oneMore : MethodName := ⟨RX11, "oneMore", "(I)I"⟩
abbrev cX11_copyAs : ByteArray := prog_13_method_24_code
def yX11_copyAs : MethodName := ⟨RX11, "copyAs", "(III)I"⟩
abbrev cX11_takesAs : ByteArray := prog_13_method_25_code
def yX11_takesAs : MethodName := ⟨RX11, "takesAs", "(II)I"⟩
abbrev cX11_copy : ByteArray := prog_13_method_26_code
def yX11_copy : MethodName := ⟨RX11, "copy", "(III)I"⟩
abbrev cX11_readBy : ByteArray := prog_13_method_27_code
def yX11_readBy : MethodName := ⟨RX11, "readBy", "(II)V"⟩
abbrev cX11_layRow : ByteArray := prog_13_method_28_code
def yX11_layRow : MethodName := ⟨RX11, "layRow", "(I)Z"⟩
abbrev cX11_numberOfRow : ByteArray := prog_13_method_29_code
def yX11_numberOfRow : MethodName := ⟨RX11, "numberOfRow", "()I"⟩
abbrev cX11_isRow : ByteArray := prog_13_method_30_code
def yX11_isRow : MethodName := ⟨RX11, "isRow", "()Z"⟩
abbrev cX11_byRow : ByteArray := prog_13_method_31_code
def yX11_byRow : MethodName := ⟨RX11, "byRow", "(III)I"⟩
abbrev cX11_layFirst : ByteArray := prog_13_method_32_code
def yX11_layFirst : MethodName := ⟨RX11, "layFirst", "(II)V"⟩
abbrev cX11_used : ByteArray := prog_13_method_33_code
def yX11_used : MethodName := ⟨RX11, "used", "()I"⟩
abbrev cX11_goOn : ByteArray := prog_13_method_34_code
def yX11_goOn : MethodName := ⟨RX11, "goOn", "()V"⟩
abbrev cX11_ends : ByteArray := prog_13_method_35_code
def yX11_ends : MethodName := ⟨RX11, "ends", "(I)Z"⟩
abbrev cX11_laySoonest : ByteArray := prog_13_method_36_code
def yX11_laySoonest : MethodName := ⟨RX11, "laySoonest", "(IIIZ)V"⟩
abbrev cX11_soonest : ByteArray := prog_13_method_37_code
def yX11_soonest : MethodName := ⟨RX11, "soonest", "(IIII)I"⟩
abbrev cX11_whole : ByteArray := prog_13_method_38_code
def yX11_whole : MethodName := ⟨RX11, "whole", "(IIII)I"⟩
abbrev cX11_manyWays : ByteArray := prog_13_method_39_code
def yX11_manyWays : MethodName := ⟨RX11, "manyWays", "(III)I"⟩
abbrev cX11_isThereWay : ByteArray := prog_13_method_40_code
def yX11_isThereWay : MethodName := ⟨RX11, "isThereWay", "(III)Z"⟩
abbrev cX11_ways : ByteArray := prog_13_method_41_code
def yX11_ways : MethodName := ⟨RX11, "ways", "(II)I"⟩
abbrev cX11_put : ByteArray := prog_13_method_42_code
def yX11_put : MethodName := ⟨RX11, "put", "(IIII)I"⟩
abbrev cX11_signs : ByteArray := prog_13_method_43_code
def yX11_signs : MethodName := ⟨RX11, "signs", "(I)I"⟩
abbrev cX11_power : ByteArray := prog_13_method_44_code
def yX11_power : MethodName := ⟨RX11, "power", "(I)I"⟩
abbrev cX11_signAt : ByteArray := prog_13_method_45_code
def yX11_signAt : MethodName := ⟨RX11, "signAt", "(II)I"⟩
abbrev cX11_meet : ByteArray := prog_13_method_46_code
def yX11_meet : MethodName := ⟨RX11, "meet", "(II)I"⟩
abbrev cX11_apart : ByteArray := prog_13_method_47_code
def yX11_apart : MethodName := ⟨RX11, "apart", "(II)I"⟩
abbrev cX11_most : ByteArray := prog_13_method_48_code
def yX11_most : MethodName := ⟨RX11, "most", "()I"⟩
abbrev cX11_note : ByteArray := prog_13_method_49_code
def yX11_note : MethodName := ⟨RX11, "note", "(IIIII)I"⟩
abbrev cX11_came : ByteArray := prog_13_method_50_code
def yX11_came : MethodName := ⟨RX11, "came", "(III)I"⟩
abbrev cX11_forget : ByteArray := prog_13_method_51_code
def yX11_forget : MethodName := ⟨RX11, "forget", "(I)I"⟩
abbrev cX11_kindsOf : ByteArray := prog_13_method_52_code
def yX11_kindsOf : MethodName := ⟨RX11, "kindsOf", "(I)I"⟩
abbrev cX11_is : ByteArray := prog_13_method_53_code
def yX11_is : MethodName := ⟨RX11, "is", "(I)I"⟩
abbrev cX11_doAlike : ByteArray := prog_13_method_54_code
def yX11_doAlike : MethodName := ⟨RX11, "doAlike", "(IIII)Z"⟩
abbrev cX11_next : ByteArray := prog_13_method_55_code
def yX11_next : MethodName := ⟨RX11, "next", "(I)I"⟩
abbrev cX11_isAllSo : ByteArray := prog_13_method_56_code
def yX11_isAllSo : MethodName := ⟨RX11, "isAllSo", "(I)Z"⟩
abbrev cX11_first : ByteArray := prog_13_method_57_code
def yX11_first : MethodName := ⟨RX11, "first", "(I)I"⟩
abbrev cX11_foresters : ByteArray := prog_13_method_58_code
def yX11_foresters : MethodName := ⟨RX11, "foresters", "(IIII)I"⟩
abbrev cX11_fraction : ByteArray := prog_13_method_59_code
def yX11_fraction : MethodName := ⟨RX11, "fraction", "(JJ)V"⟩
abbrev cX11_storms : ByteArray := prog_13_method_60_code
def yX11_storms : MethodName := ⟨RX11, "storms", "(III)I"⟩
abbrev cX11_forests : ByteArray := prog_13_method_61_code
def yX11_forests : MethodName := ⟨RX11, "forests", "(III)I"⟩
abbrev cX11_type : ByteArray := prog_13_method_62_code
def yX11_type : MethodName := ⟨RX11, "type", "(I)I"⟩
abbrev cX11_clear : ByteArray := prog_13_method_63_code
def yX11_clear : MethodName := ⟨RX11, "clear", "()I"⟩
abbrev cX11_isSmall : ByteArray := prog_13_method_64_code
def yX11_isSmall : MethodName := ⟨RX11, "isSmall", "(I)Z"⟩
abbrev cX11_isFigure : ByteArray := prog_13_method_65_code
def yX11_isFigure : MethodName := ⟨RX11, "isFigure", "(I)Z"⟩
abbrev cX11_lookAt : ByteArray := prog_13_method_66_code
def yX11_lookAt : MethodName := ⟨RX11, "lookAt", "(I)V"⟩
abbrev cX11_goBehind : ByteArray := prog_13_method_67_code
def yX11_goBehind : MethodName := ⟨RX11, "goBehind", "()V"⟩
abbrev cX11_spells : ByteArray := prog_13_method_68_code
def yX11_spells : MethodName := ⟨RX11, "spells", "(IIIIIII)Z"⟩
abbrev cX11_takes : ByteArray := prog_13_method_69_code
def yX11_takes : MethodName := ⟨RX11, "takes", "(III)Z"⟩
abbrev cX11_takesWood : ByteArray := prog_13_method_70_code
def yX11_takesWood : MethodName := ⟨RX11, "takesWood", "()Z"⟩
abbrev cX11_takesTree : ByteArray := prog_13_method_71_code
def yX11_takesTree : MethodName := ⟨RX11, "takesTree", "()Z"⟩
abbrev cX11_takesTouch : ByteArray := prog_13_method_72_code
def yX11_takesTouch : MethodName := ⟨RX11, "takesTouch", "()Z"⟩
abbrev cX11_takesFell : ByteArray := prog_13_method_73_code
def yX11_takesFell : MethodName := ⟨RX11, "takesFell", "()Z"⟩
abbrev cX11_takesItem : ByteArray := prog_13_method_74_code
def yX11_takesItem : MethodName := ⟨RX11, "takesItem", "()Z"⟩
abbrev cX11_read : ByteArray := prog_13_method_75_code
def yX11_read : MethodName := ⟨RX11, "read", "()I"⟩
abbrev cX11_part : ByteArray := prog_13_method_76_code
def yX11_part : MethodName := ⟨RX11, "part", "(I)J"⟩
abbrev cX11_image : ByteArray := prog_13_method_77_code
def yX11_image : MethodName := ⟨RX11, "image", "(I)I"⟩
abbrev cX11_from : ByteArray := prog_13_method_78_code
def yX11_from : MethodName := ⟨RX11, "from", "(I)I"⟩
abbrev cX11_status : ByteArray := prog_13_method_79_code
def yX11_status : MethodName := ⟨RX11, "status", "(I)I"⟩
abbrev cX11_manyTouches : ByteArray := prog_13_method_80_code
def yX11_manyTouches : MethodName := ⟨RX11, "manyTouches", "()I"⟩
abbrev cX11_counted : ByteArray := prog_13_method_81_code
def yX11_counted : MethodName := ⟨RX11, "counted", "(I)I"⟩
abbrev cX11_count : ByteArray := prog_13_method_82_code
def yX11_count : MethodName := ⟨RX11, "count", "(I)I"⟩
abbrev cX11_sums : ByteArray := prog_13_method_83_code
def yX11_sums : MethodName := ⟨RX11, "sums", "(JII)J"⟩
abbrev cX11_digest : ByteArray := prog_13_method_84_code
def yX11_digest : MethodName := ⟨RX11, "digest", "()J"⟩
def RJ6 : String := "java/lang/Integer"
def TJ6 : u_T := fun k => match k with
  | _ => ("", "", "", false)
def tyJ6 : Nat → FieldType := fun k => match k with
  | _ => .int
abbrev wsJ60 : List Cond := u_ws RJ6 TJ6 0
theorem nmJ6 : ∀ a, a < 0 → ∀ b, b < 0 → a ≠ b → (TJ6 a).2.1 ≠ (TJ6 b).2.1 := by decide +kernel
theorem tyJ6_ok : ∀ k, k < 0 → parseFieldDescriptor (TJ6 k).2.2.1 = some (tyJ6 k) := by decide +kernel
abbrev cJ6_bitCount_0f7a4 : ByteArray := prog_14_method_49_code
def yJ6_bitCount_0f7a4 : MethodName := ⟨RJ6, "bitCount", "(I)I"⟩
def RJ9 : String := "java/lang/Math"
def TJ9 : u_T := fun k => match k with
  | _ => ("", "", "", false)
def tyJ9 : Nat → FieldType := fun k => match k with
  | _ => .int
abbrev wsJ90 : List Cond := u_ws RJ9 TJ9 0
theorem nmJ9 : ∀ a, a < 0 → ∀ b, b < 0 → a ≠ b → (TJ9 a).2.1 ≠ (TJ9 b).2.1 := by decide +kernel
theorem tyJ9_ok : ∀ k, k < 0 → parseFieldDescriptor (TJ9 k).2.2.1 = some (tyJ9 k) := by decide +kernel
abbrev cJ9_max_7cf53 : ByteArray := prog_15_method_65_code
def yJ9_max_7cf53 : MethodName := ⟨RJ9, "max", "(II)I"⟩
abbrev cJ9_min_7cf53 : ByteArray := prog_15_method_69_code
def yJ9_min_7cf53 : MethodName := ⟨RJ9, "min", "(II)I"⟩
def RJ0 : String := "java/lang/String"
def TJ0 : u_T := fun k => match k with
  | _ => ("", "", "", false)
def tyJ0 : Nat → FieldType := fun k => match k with
  | _ => .int
abbrev wsJ00 : List Cond := u_ws RJ0 TJ0 0
theorem nmJ0 : ∀ a, a < 0 → ∀ b, b < 0 → a ≠ b → (TJ0 a).2.1 ≠ (TJ0 b).2.1 := by decide +kernel
theorem tyJ0_ok : ∀ k, k < 0 → parseFieldDescriptor (TJ0 k).2.2.1 = some (tyJ0 k) := by decide +kernel
abbrev cJ0_length_8abf5 : ByteArray := prog_16_method_54_code
def yJ0_length_8abf5 : MethodName := ⟨RJ0, "length", "()I"⟩
abbrev cJ0_charAt_5068e : ByteArray := prog_16_method_56_code
def yJ0_charAt_5068e : MethodName := ⟨RJ0, "charAt", "(I)C"⟩
abbrev cJ0_coder_7d493 : ByteArray := prog_16_method_152_code
def yJ0_coder_7d493 : MethodName := ⟨RJ0, "coder", "()B"⟩
abbrev cJ0_isLatin1_aae02 : ByteArray := prog_16_method_154_code
def yJ0_isLatin1_aae02 : MethodName := ⟨RJ0, "isLatin1", "()Z"⟩
abbrev cJ0_checkIndex_df160 : ByteArray := prog_16_method_155_code
def yJ0_checkIndex_df160 : MethodName := ⟨RJ0, "checkIndex", "(II)V"⟩
def RJ1 : String := "java/lang/StringLatin1"
def TJ1 : u_T := fun k => match k with
  | _ => ("", "", "", false)
def tyJ1 : Nat → FieldType := fun k => match k with
  | _ => .int
abbrev wsJ10 : List Cond := u_ws RJ1 TJ1 0
theorem nmJ1 : ∀ a, a < 0 → ∀ b, b < 0 → a ≠ b → (TJ1 a).2.1 ≠ (TJ1 b).2.1 := by decide +kernel
theorem tyJ1_ok : ∀ k, k < 0 → parseFieldDescriptor (TJ1 k).2.2.1 = some (tyJ1 k) := by decide +kernel
abbrev cJ1_charAt_3b067 : ByteArray := prog_17_method_2_code
def yJ1_charAt_3b067 : MethodName := ⟨RJ1, "charAt", "([BI)C"⟩
def RJ2 : String := "java/lang/StringUTF16"
def TJ2 : u_T := fun k => match k with
  | _ => ("", "", "", false)
def tyJ2 : Nat → FieldType := fun k => match k with
  | _ => .int
abbrev wsJ20 : List Cond := u_ws RJ2 TJ2 0
theorem nmJ2 : ∀ a, a < 0 → ∀ b, b < 0 → a ≠ b → (TJ2 a).2.1 ≠ (TJ2 b).2.1 := by decide +kernel
theorem tyJ2_ok : ∀ k, k < 0 → parseFieldDescriptor (TJ2 k).2.2.1 = some (tyJ2 k) := by decide +kernel
abbrev cJ2_getChar_3b067 : ByteArray := prog_18_method_5_code
def yJ2_getChar_3b067 : MethodName := ⟨RJ2, "getChar", "([BI)C"⟩
abbrev cJ2_length_9d52b : ByteArray := prog_18_method_6_code
def yJ2_length_9d52b : MethodName := ⟨RJ2, "length", "([B)I"⟩
abbrev cJ2_charAt_3b067 : ByteArray := prog_18_method_83_code
def yJ2_charAt_3b067 : MethodName := ⟨RJ2, "charAt", "([BI)C"⟩
abbrev cJ2_checkIndex_2214a : ByteArray := prog_18_method_91_code
def yJ2_checkIndex_2214a : MethodName := ⟨RJ2, "checkIndex", "(I[B)V"⟩
def RJ10 : String := "java/lang/System"
def TJ10 : u_T := fun k => match k with
  | _ => ("", "", "", false)
def tyJ10 : Nat → FieldType := fun k => match k with
  | _ => .int
abbrev wsJ100 : List Cond := u_ws RJ10 TJ10 0
theorem nmJ10 : ∀ a, a < 0 → ∀ b, b < 0 → a ≠ b → (TJ10 a).2.1 ≠ (TJ10 b).2.1 := by decide +kernel
theorem tyJ10_ok : ∀ k, k < 0 → parseFieldDescriptor (TJ10 k).2.2.1 = some (tyJ10 k) := by decide +kernel
def RJ3 : String := "jdk/internal/util/Preconditions"
def TJ3 : u_T := fun k => match k with
  | _ => ("", "", "", false)
def tyJ3 : Nat → FieldType := fun k => match k with
  | _ => .int
abbrev wsJ30 : List Cond := u_ws RJ3 TJ3 0
theorem nmJ3 : ∀ a, a < 0 → ∀ b, b < 0 → a ≠ b → (TJ3 a).2.1 ≠ (TJ3 b).2.1 := by decide +kernel
theorem tyJ3_ok : ∀ k, k < 0 → parseFieldDescriptor (TJ3 k).2.2.1 = some (tyJ3 k) := by decide +kernel
abbrev cJ3_checkIndex_8e157 : ByteArray := prog_20_method_11_code
def yJ3_checkIndex_8e157 : MethodName := ⟨RJ3, "checkIndex", "(IILjava/util/function/BiFunction;)I"⟩
def RL : String := "BarkPostLaw"
abbrev cL_law : ByteArray := code
def yL_law : MethodName := ⟨RL, "law", "([I)Z"⟩
def wsL_law_r1 : List Cond := [Cond.classLink RL 7 RX10, Cond.instantiable RX10 16, Cond.initialized RX10, Cond.classLink RL 10 RX11, Cond.instantiable RX11 25, Cond.initialized RX11, Cond.methodLink RL 9 yX10_init, Cond.instanceMethod yX10_init, Cond.code yX10_init cX10_init 1 none, Cond.methodLink RX10 1 objectInit, Cond.instanceMethod objectInit, Cond.code objectInit ⟨#[0xb1]⟩ 1 none, Cond.classLink RX10 7 RX5, Cond.instantiable RX5 0, Cond.initialized RX5, Cond.classLink RX10 10 RX0, Cond.instantiable RX0 0, Cond.initialized RX0, Cond.classLink RX10 13 RX4, Cond.instantiable RX4 0, Cond.initialized RX4, Cond.classLink RX10 16 RX1, Cond.instantiable RX1 0, Cond.initialized RX1]
def wsL_law_r2 : List Cond := [Cond.classLink RX10 19 RX8, Cond.instantiable RX8 0, Cond.initialized RX8, Cond.classLink RX10 22 RX6, Cond.instantiable RX6 0, Cond.initialized RX6, Cond.fieldLink RX10 25 "BarkPost" "kinds" "[LBarkPost$Plain;", Cond.classLink RX10 31 RX2, Cond.instantiable RX2 12, Cond.initialized RX2, Cond.fieldLink RX10 34 "BarkPost" "forest" "LBarkPost$Forest;", Cond.fieldLink RX10 38 "BarkPost" "draft" "LBarkPost$Forest;", Cond.fieldLink RX10 41 "BarkPost" "images" "[LBarkPost$Forest;", Cond.arrayClass .boolean, Cond.fieldLink RX10 45 "BarkPost" "kept" "[Z", Cond.classLink RX10 49 RX7, Cond.instantiable RX7 9, Cond.initialized RX7, Cond.fieldLink RX10 54 "BarkPost" "rows" "LBarkPost$Rows;", Cond.arrayClass .byte, Cond.fieldLink RX10 58 "BarkPost" "text" "[B", Cond.classLink RX10 62 RX9, Cond.instantiable RX9 8, Cond.initialized RX9]
def wsL_law_r3 : List Cond := [Cond.fieldLink RX10 67 "BarkPost" "reader" "LBarkPost$TextReader;", Cond.arrayClass .int, Cond.fieldLink RX10 71 "BarkPost" "copies" "[I", Cond.fieldLink RX10 75 "BarkPost" "lengths" "[I", Cond.fieldLink RX10 78 "BarkPost" "above" "J", Cond.fieldLink RX10 82 "BarkPost" "below" "J", Cond.instanceMethod yX5_init, Cond.code yX5_init cX5_init 1 none, Cond.methodLink RX5 1 objectInit, Cond.instanceMethod yX0_init, Cond.code yX0_init cX0_init 1 none, Cond.instanceMethod yX4_init, Cond.code yX4_init cX4_init 1 none, Cond.instanceMethod yX1_init, Cond.code yX1_init cX1_init 1 none, Cond.instanceMethod yX8_init, Cond.code yX8_init cX8_init 1 none, Cond.instanceMethod yX6_init, Cond.code yX6_init cX6_init 1 none, Cond.instanceMethod yX2_init, Cond.code yX2_init cX2_init 1 none, Cond.methodLink RX2 3 objectInit, Cond.fieldLink RX2 9 "BarkPost$Forest" "kindOf" "[I", Cond.fieldLink RX2 15 "BarkPost$Forest" "touching" "[I"]
def wsL_law_r4 : List Cond := [Cond.fieldLink RX2 18 "BarkPost$Forest" "notes" "[I", Cond.fieldLink RX2 21 "BarkPost$Forest" "reads" "[I", Cond.fieldLink RX2 24 "BarkPost$Forest" "felledBefore" "[I", Cond.fieldLink RX2 27 "BarkPost$Forest" "seasonBefore" "[I", Cond.methodLink RX10 51 yX7_init, Cond.instanceMethod yX7_init, Cond.code yX7_init cX7_init 3 none, Cond.methodLink RX7 3 objectInit, Cond.fieldLink RX7 9 "BarkPost$Rows" "endings" "[I", Cond.fieldLink RX7 15 "BarkPost$Rows" "onRows" "[I", Cond.fieldLink RX7 18 "BarkPost$Rows" "forest" "LBarkPost$Forest;", Cond.fieldLink RX7 22 "BarkPost$Rows" "kinds" "[LBarkPost$Plain;", Cond.methodLink RX10 64 yX9_init, Cond.instanceMethod yX9_init, Cond.code yX9_init cX9_init 3 none, Cond.methodLink RX9 3 objectInit, Cond.fieldLink RX9 9 "BarkPost$TextReader" "text" "[B", Cond.fieldLink RX9 15 "BarkPost$TextReader" "draft" "LBarkPost$Forest;", Cond.methodLink RL 12 yX11_init, Cond.instanceMethod yX11_init, Cond.code yX11_init cX11_init 1 none, Cond.methodLink RX11 1 objectInit, Cond.fieldLink RX11 7 "BarkPostModel" "now" "[I", Cond.fieldLink RX11 13 "BarkPostModel" "kept" "[I"]
def wsL_law_r5 : List Cond := [Cond.fieldLink RX11 16 "BarkPostModel" "isKept" "[Z", Cond.fieldLink RX11 20 "BarkPostModel" "refused" "[I", Cond.fieldLink RX11 23 "BarkPostModel" "below" "J", Cond.fieldLink RX11 27 "BarkPostModel" "row" "[I", Cond.fieldLink RX11 30 "BarkPostModel" "manyBy" "[I", Cond.fieldLink RX11 33 "BarkPostModel" "his" "[I", Cond.fieldLink RX11 36 "BarkPostModel" "theirs" "[I", Cond.fieldLink RX11 39 "BarkPostModel" "bytes" "[I", Cond.fieldLink RX11 42 "BarkPostModel" "anew" "[I", Cond.fieldLink RX11 45 "BarkPostModel" "values" "[I", Cond.methodLink RX11 48 yX11_begin, Cond.static yX11_begin, Cond.code yX11_begin cX11_begin 3 none, Cond.methodLink RL 13 yX10_wood, Cond.instanceMethod yX10_wood, Cond.selects RX10 yX10_wood yX10_wood, Cond.code yX10_wood cX10_wood 3 (some .int), Cond.fieldLink RX10 93 "BarkPost$Forest" "trees" "I", Cond.methodLink RX10 85 yX10_within, Cond.static yX10_within, Cond.code yX10_within cX10_within 3 (some .boolean), Cond.methodLink RX10 89 yX10_refuseAsBad, Cond.instanceMethod yX10_refuseAsBad, Cond.selects RX10 yX10_refuseAsBad yX10_refuseAsBad]
def wsL_law_r6 : List Cond := [Cond.code yX10_refuseAsBad cX10_refuseAsBad 1 (some .int), Cond.fieldLink RX10 250 "BarkPost" "refusedBad" "I", Cond.methodLink RX10 97 yX2_startAt, Cond.instanceMethod yX2_startAt, Cond.selects RX2 yX2_startAt yX2_startAt, Cond.code yX2_startAt cX2_startAt 2 none, Cond.fieldLink RX2 30 "BarkPost$Forest" "trees" "I", Cond.fieldLink RX2 34 "BarkPost$Forest" "felled" "I", Cond.fieldLink RX2 37 "BarkPost$Forest" "now" "I", Cond.fieldLink RX2 40 "BarkPost$Forest" "noted" "I", Cond.fieldLink RX2 43 "BarkPost$Forest" "readOnes" "I", Cond.fieldLink RX2 46 "BarkPost$Forest" "undos" "I", Cond.methodLink RL 17 yX11_wood, Cond.instanceMethod yX11_wood, Cond.selects RX11 yX11_wood yX11_wood, Cond.code yX11_wood cX11_wood 3 (some .int), Cond.constantLong RX11 64 (99), Cond.methodLink RX11 56 yX11_in, Cond.static yX11_in, Cond.code yX11_in cX11_in 6 (some .boolean), Cond.methodLink RX11 66 yX11_bad, Cond.instanceMethod yX11_bad, Cond.selects RX11 yX11_bad yX11_bad, Cond.code yX11_bad cX11_bad 2 (some .int)]
def wsL_law_r7 : List Cond := [Cond.methodLink RX11 52 yX11_many, Cond.instanceMethod yX11_many, Cond.selects RX11 yX11_many yX11_many, Cond.code yX11_many cX11_many 1 (some .int), Cond.methodLink RL 18 yX10_tree, Cond.instanceMethod yX10_tree, Cond.selects RX10 yX10_tree yX10_tree, Cond.code yX10_tree cX10_tree 2 (some .int), Cond.fieldLink RX10 107 "BarkPost$Forest" "undos" "I", Cond.methodLink RX10 101 yX10_refuseAsFull, Cond.instanceMethod yX10_refuseAsFull, Cond.selects RX10 yX10_refuseAsFull yX10_refuseAsFull, Cond.code yX10_refuseAsFull cX10_refuseAsFull 1 (some .int), Cond.fieldLink RX10 256 "BarkPost" "refusedFull" "I", Cond.methodLink RX10 104 yX2_plant, Cond.instanceMethod yX2_plant, Cond.selects RX2 yX2_plant yX2_plant, Cond.code yX2_plant cX2_plant 2 none, Cond.methodLink RL 21 yX11_tree, Cond.instanceMethod yX11_tree, Cond.selects RX11 yX11_tree yX11_tree, Cond.code yX11_tree cX11_tree 2 (some .int), Cond.constantLong RX11 70 (5), Cond.methodLink RX11 72 yX11_full]
def wsL_law_r8 : List Cond := [Cond.instanceMethod yX11_full, Cond.selects RX11 yX11_full yX11_full, Cond.code yX11_full cX11_full 1 (some .int), Cond.methodLink RL 22 yX10_touch, Cond.instanceMethod yX10_touch, Cond.selects RX10 yX10_touch yX10_touch, Cond.code yX10_touch cX10_touch 5 (some .int), Cond.fieldLink RX10 114 "BarkPost$Forest" "touching" "[I", Cond.methodLink RX10 110 yX10_isTree, Cond.instanceMethod yX10_isTree, Cond.selects RX10 yX10_isTree yX10_isTree, Cond.code yX10_isTree cX10_isTree 2 (some .boolean), Cond.methodLink RX10 117 yX2_join, Cond.instanceMethod yX2_join, Cond.selects RX2 yX2_join yX2_join, Cond.code yX2_join cX2_join 4 none, Cond.methodLink RL 26 yX11_touch, Cond.instanceMethod yX11_touch, Cond.selects RX11 yX11_touch yX11_touch, Cond.code yX11_touch cX11_touch 5 (some .int), Cond.methodLink RX11 75 yX11_isTree, Cond.instanceMethod yX11_isTree, Cond.selects RX11 yX11_isTree yX11_isTree, Cond.code yX11_isTree cX11_isTree 2 (some .boolean)]
def wsL_law_r9 : List Cond := [Cond.methodLink RX11 79 yX11_layTouch, Cond.static yX11_layTouch, Cond.code yX11_layTouch cX11_layTouch 4 none, Cond.methodLink RL 27 yX10_type, Cond.instanceMethod yX10_type, Cond.selects RX10 yX10_type yX10_type, Cond.code yX10_type cX10_type 2 (some .int), Cond.fieldLink RX10 121 "BarkPost" "typed" "I", Cond.methodLink RL 30 yX11_type, Cond.instanceMethod yX11_type, Cond.selects RX11 yX11_type yX11_type, Cond.code yX11_type cX11_type 2 (some .int), Cond.constantLong RX11 217 (127), Cond.fieldLink RX11 219 "BarkPostModel" "bytesLong" "I", Cond.methodLink RL 31 yX10_clear, Cond.instanceMethod yX10_clear, Cond.selects RX10 yX10_clear yX10_clear, Cond.code yX10_clear cX10_clear 2 (some .int), Cond.methodLink RL 35 yX11_clear, Cond.instanceMethod yX11_clear, Cond.selects RX11 yX11_clear yX11_clear, Cond.code yX11_clear cX11_clear 2 (some .int), Cond.methodLink RL 36 yX10_read, Cond.instanceMethod yX10_read]
def wsL_law_r10 : List Cond := [Cond.selects RX10 yX10_read yX10_read, Cond.code yX10_read cX10_read 2 (some .int), Cond.methodLink RX10 124 yX9_readAll, Cond.instanceMethod yX9_readAll, Cond.selects RX9 yX9_readAll yX9_readAll, Cond.code yX9_readAll cX9_readAll 3 (some .int), Cond.methodLink RX9 19 Lib.Math.min.name, Cond.static Lib.Math.min.name, Cond.initialized "java/lang/Math", Cond.code Lib.Math.min.name Lib.Math.min.code 2 (some .int), Cond.fieldLink RX9 25 "BarkPost$TextReader" "length" "I", Cond.fieldLink RX9 29 "BarkPost$TextReader" "place" "I", Cond.fieldLink RX9 32 "BarkPost$TextReader" "items" "I", Cond.fieldLink RX9 44 "BarkPost$TextReader" "token" "I", Cond.fieldLink RX9 51 "BarkPost$TextReader" "start" "I", Cond.methodLink RX9 35 yX2_startAt, Cond.methodLink RX9 41 yX9_advance, Cond.instanceMethod yX9_advance, Cond.selects RX9 yX9_advance yX9_advance, Cond.code yX9_advance cX9_advance 1 none, Cond.fieldLink RX9 88 "BarkPost$TextReader" "value" "I", Cond.methodLink RX9 102 yX9_behindRun, Cond.instanceMethod yX9_behindRun, Cond.selects RX9 yX9_behindRun yX9_behindRun]
def wsL_law_r11 : List Cond := [Cond.code yX9_behindRun cX9_behindRun 5 (some .int), Cond.methodLink RX9 110 yX9_numberAtStart, Cond.instanceMethod yX9_numberAtStart, Cond.selects RX9 yX9_numberAtStart yX9_numberAtStart, Cond.code yX9_numberAtStart cX9_numberAtStart 3 (some .int), Cond.methodLink RX9 47 yX9_takesItem, Cond.instanceMethod yX9_takesItem, Cond.selects RX9 yX9_takesItem yX9_takesItem, Cond.code yX9_takesItem cX9_takesItem 2 (some .boolean), Cond.fieldLink RX9 65 "BarkPost$Forest" "trees" "I", Cond.methodLink RX9 56 yX9_spells, Cond.instanceMethod yX9_spells, Cond.selects RX9 yX9_spells yX9_spells, Cond.code yX9_spells cX9_spells 3 (some .boolean), Cond.methodLink RX9 114 yJ0_length_8abf5, Cond.instanceMethod yJ0_length_8abf5, Cond.selects RJ0 yJ0_length_8abf5 yJ0_length_8abf5, Cond.initialized RJ0, Cond.code yJ0_length_8abf5 cJ0_length_8abf5 1 (some .int), Cond.fieldLink RJ0 9 "java/lang/String" "value" "[B", Cond.methodLink RJ0 335 yJ0_coder_7d493, Cond.instanceMethod yJ0_coder_7d493, Cond.selects RJ0 yJ0_coder_7d493 yJ0_coder_7d493, Cond.code yJ0_coder_7d493 cJ0_coder_7d493 1 (some .byte)]
def wsL_law_r12 : List Cond := [Cond.fieldLink RJ0 38 "java/lang/String" "COMPACT_STRINGS" "Z", Cond.fieldLink RJ0 15 "java/lang/String" "coder" "B", Cond.methodLink RX9 118 yJ0_charAt_5068e, Cond.instanceMethod yJ0_charAt_5068e, Cond.selects RJ0 yJ0_charAt_5068e yJ0_charAt_5068e, Cond.code yJ0_charAt_5068e cJ0_charAt_5068e 2 (some .char), Cond.methodLink RJ0 492 yJ0_isLatin1_aae02, Cond.instanceMethod yJ0_isLatin1_aae02, Cond.selects RJ0 yJ0_isLatin1_aae02 yJ0_isLatin1_aae02, Cond.code yJ0_isLatin1_aae02 cJ0_isLatin1_aae02 1 (some .boolean), Cond.methodLink RJ0 495 yJ1_charAt_3b067, Cond.static yJ1_charAt_3b067, Cond.initialized RJ1, Cond.code yJ1_charAt_3b067 cJ1_charAt_3b067 2 (some .char), Cond.methodLink RJ1 9 yJ0_checkIndex_df160, Cond.static yJ0_checkIndex_df160, Cond.code yJ0_checkIndex_df160 cJ0_checkIndex_df160 2 none, Cond.fieldLink RJ0 1053 "jdk/internal/util/Preconditions" "SIOOBE_FORMATTER" "Ljava/util/function/BiFunction;", Cond.methodLink RJ0 1059 yJ3_checkIndex_8e157, Cond.static yJ3_checkIndex_8e157, Cond.initialized RJ3, Cond.code yJ3_checkIndex_8e157 cJ3_checkIndex_8e157 3 (some .int), Cond.methodLink RJ0 498 yJ2_charAt_3b067, Cond.static yJ2_charAt_3b067]
def wsL_law_r13 : List Cond := [Cond.initialized RJ2, Cond.code yJ2_charAt_3b067 cJ2_charAt_3b067 2 (some .char), Cond.methodLink RJ2 67 yJ2_checkIndex_2214a, Cond.static yJ2_checkIndex_2214a, Cond.code yJ2_checkIndex_2214a cJ2_checkIndex_2214a 2 none, Cond.methodLink RJ2 48 yJ2_length_9d52b, Cond.static yJ2_length_9d52b, Cond.code yJ2_length_9d52b cJ2_length_9d52b 1 (some .int), Cond.methodLink RJ2 414 yJ0_checkIndex_df160, Cond.methodLink RJ2 71 yJ2_getChar_3b067, Cond.static yJ2_getChar_3b067, Cond.code yJ2_getChar_3b067 cJ2_getChar_3b067 2 (some .char), Cond.fieldLink RJ2 44 "java/lang/StringUTF16" "$assertionsDisabled" "Z", Cond.fieldLink RJ2 59 "java/lang/StringUTF16" "HI_BYTE_SHIFT" "I", Cond.fieldLink RJ2 63 "java/lang/StringUTF16" "LO_BYTE_SHIFT" "I", Cond.methodLink RX9 60 yX9_takesWood, Cond.instanceMethod yX9_takesWood, Cond.selects RX9 yX9_takesWood yX9_takesWood, Cond.code yX9_takesWood cX9_takesWood 1 (some .boolean), Cond.methodLink RX9 84 yX9_takesNumber, Cond.instanceMethod yX9_takesNumber, Cond.selects RX9 yX9_takesNumber yX9_takesNumber, Cond.code yX9_takesNumber cX9_takesNumber 2 (some .boolean), Cond.methodLink RX9 68 yX9_takesTree]
def wsL_law_r14 : List Cond := [Cond.instanceMethod yX9_takesTree, Cond.selects RX9 yX9_takesTree yX9_takesTree, Cond.code yX9_takesTree cX9_takesTree 1 (some .boolean), Cond.methodLink RX9 91 yX2_plant, Cond.methodLink RX9 73 yX9_takesTouch, Cond.instanceMethod yX9_takesTouch, Cond.selects RX9 yX9_takesTouch yX9_takesTouch, Cond.code yX9_takesTouch cX9_takesTouch 2 (some .boolean), Cond.methodLink RX9 94 yX2_join, Cond.methodLink RX9 78 yX9_takesFelled, Cond.instanceMethod yX9_takesFelled, Cond.selects RX9 yX9_takesFelled yX9_takesFelled, Cond.code yX9_takesFelled cX9_takesFelled 1 (some .boolean), Cond.methodLink RX9 98 yX2_markFelled, Cond.instanceMethod yX2_markFelled, Cond.selects RX2 yX2_markFelled yX2_markFelled, Cond.code yX2_markFelled cX2_markFelled 3 none, Cond.methodLink RX9 81 yX9_takesSemicolon, Cond.instanceMethod yX9_takesSemicolon, Cond.selects RX9 yX9_takesSemicolon yX9_takesSemicolon, Cond.code yX9_takesSemicolon cX9_takesSemicolon 1 (some .boolean), Cond.methodLink RX10 128 yX2_takeAll, Cond.instanceMethod yX2_takeAll, Cond.selects RX2 yX2_takeAll yX2_takeAll]
def wsL_law_r15 : List Cond := [Cond.code yX2_takeAll cX2_takeAll 2 none, Cond.methodLink RX2 49 arraycopyName, Cond.native arraycopyName, Cond.static arraycopyName, Cond.initialized "java/lang/System", Cond.methodLink RL 39 yX11_read, Cond.instanceMethod yX11_read, Cond.selects RX11 yX11_read yX11_read, Cond.code yX11_read cX11_read 3 (some .int), Cond.fieldLink RX11 230 "BarkPostModel" "tokenAt" "I", Cond.fieldLink RX11 236 "BarkPostModel" "token" "I", Cond.methodLink RX11 248 yX11_lookAt, Cond.instanceMethod yX11_lookAt, Cond.selects RX11 yX11_lookAt yX11_lookAt, Cond.code yX11_lookAt cX11_lookAt 5 none, Cond.fieldLink RX11 233 "BarkPostModel" "tokenLong" "I", Cond.fieldLink RX11 239 "BarkPostModel" "value" "I", Cond.methodLink RX11 242 yX11_isSmall, Cond.static yX11_isSmall, Cond.code yX11_isSmall cX11_isSmall 1 (some .boolean), Cond.constantLong RX11 222 (97), Cond.constantLong RX11 224 (122), Cond.methodLink RX11 245 yX11_isFigure, Cond.static yX11_isFigure]
def wsL_law_r16 : List Cond := [Cond.code yX11_isFigure cX11_isFigure 1 (some .boolean), Cond.constantLong RX11 226 (48), Cond.constantLong RX11 228 (57), Cond.methodLink RX11 271 yX11_takesWood, Cond.instanceMethod yX11_takesWood, Cond.selects RX11 yX11_takesWood yX11_takesWood, Cond.code yX11_takesWood cX11_takesWood 1 (some .boolean), Cond.methodLink RX11 255 yX11_spells, Cond.instanceMethod yX11_spells, Cond.selects RX11 yX11_spells yX11_spells, Cond.code yX11_spells cX11_spells 10 (some .boolean), Cond.methodLink RX11 252 yX11_goBehind, Cond.instanceMethod yX11_goBehind, Cond.selects RX11 yX11_goBehind yX11_goBehind, Cond.code yX11_goBehind cX11_goBehind 1 none, Cond.methodLink RX11 259 yX11_takes, Cond.instanceMethod yX11_takes, Cond.selects RX11 yX11_takes yX11_takes, Cond.code yX11_takes cX11_takes 4 (some .boolean), Cond.methodLink RX11 274 yX11_takesItem, Cond.instanceMethod yX11_takesItem, Cond.selects RX11 yX11_takesItem yX11_takesItem, Cond.code yX11_takesItem cX11_takesItem 1 (some .boolean), Cond.methodLink RX11 262 yX11_takesTree]
def wsL_law_r17 : List Cond := [Cond.instanceMethod yX11_takesTree, Cond.selects RX11 yX11_takesTree yX11_takesTree, Cond.code yX11_takesTree cX11_takesTree 1 (some .boolean), Cond.methodLink RX11 265 yX11_takesTouch, Cond.instanceMethod yX11_takesTouch, Cond.selects RX11 yX11_takesTouch yX11_takesTouch, Cond.code yX11_takesTouch cX11_takesTouch 1 (some .boolean), Cond.methodLink RX11 268 yX11_takesFell, Cond.instanceMethod yX11_takesFell, Cond.selects RX11 yX11_takesFell yX11_takesFell, Cond.code yX11_takesFell cX11_takesFell 1 (some .boolean), Cond.methodLink RL 40 yX10_fell, Cond.instanceMethod yX10_fell, Cond.selects RX10 yX10_fell yX10_fell, Cond.code yX10_fell cX10_fell 4 (some .int), Cond.fieldLink RX10 132 "BarkPost$Forest" "felled" "I", Cond.methodLink RX10 135 yX2_remember, Cond.instanceMethod yX2_remember, Cond.selects RX2 yX2_remember yX2_remember, Cond.code yX2_remember cX2_remember 1 none, Cond.methodLink RX10 138 yX2_markFelled, Cond.methodLink RL 44 yX11_fell, Cond.instanceMethod yX11_fell, Cond.selects RX11 yX11_fell yX11_fell]
def wsL_law_r18 : List Cond := [Cond.code yX11_fell cX11_fell 4 (some .int), Cond.methodLink RX11 83 yX11_keep, Cond.instanceMethod yX11_keep, Cond.selects RX11 yX11_keep yX11_keep, Cond.code yX11_keep cX11_keep 2 none, Cond.methodLink RL 45 yX10_season, Cond.instanceMethod yX10_season, Cond.selects RX10 yX10_season yX10_season, Cond.code yX10_season cX10_season 2 (some .int), Cond.fieldLink RX10 142 "BarkPost$Forest" "now" "I", Cond.methodLink RX10 145 Lib.Math.min.name, Cond.methodLink RL 48 yX11_season, Cond.instanceMethod yX11_season, Cond.selects RX11 yX11_season yX11_season, Cond.code yX11_season cX11_season 2 (some .int), Cond.constantLong RX11 86 (60), Cond.methodLink RL 49 yX10_undo, Cond.instanceMethod yX10_undo, Cond.selects RX10 yX10_undo yX10_undo, Cond.code yX10_undo cX10_undo 1 (some .int), Cond.methodLink RX10 151 yX10_refuseAsNo, Cond.instanceMethod yX10_refuseAsNo, Cond.selects RX10 yX10_refuseAsNo yX10_refuseAsNo, Cond.code yX10_refuseAsNo cX10_refuseAsNo 1 (some .int)]
def wsL_law_r19 : List Cond := [Cond.fieldLink RX10 253 "BarkPost" "refusedNo" "I", Cond.methodLink RX10 154 yX2_takeBack, Cond.instanceMethod yX2_takeBack, Cond.selects RX2 yX2_takeBack yX2_takeBack, Cond.code yX2_takeBack cX2_takeBack 1 none, Cond.methodLink RL 52 yX11_undo, Cond.instanceMethod yX11_undo, Cond.selects RX11 yX11_undo yX11_undo, Cond.code yX11_undo cX11_undo 1 (some .int), Cond.methodLink RX11 88 yX11_no, Cond.instanceMethod yX11_no, Cond.selects RX11 yX11_no yX11_no, Cond.code yX11_no cX11_no 1 (some .int), Cond.methodLink RL 53 yX10_of, Cond.instanceMethod yX10_of, Cond.selects RX10 yX10_of yX10_of, Cond.code yX10_of cX10_of 3 (some .int), Cond.fieldLink RX10 157 "BarkPost$Forest" "kindOf" "[I", Cond.methodLink RL 56 yX11_of, Cond.instanceMethod yX11_of, Cond.selects RX11 yX11_of yX11_of, Cond.code yX11_of cX11_of 3 (some .int), Cond.constantLong RX11 91 (2), Cond.methodLink RL 57 yX10_copy]
def wsL_law_r20 : List Cond := [Cond.instanceMethod yX10_copy, Cond.selects RX10 yX10_copy yX10_copy, Cond.code yX10_copy cX10_copy 5 (some .int), Cond.methodLink RX10 160 yX3_isLetter, Cond.static yX3_isLetter, Cond.initialized RX3, Cond.code yX3_isLetter cX3_isLetter 3 (some .boolean), Cond.constant RX3 9 (444444), Cond.methodLink RX10 165 ⟨"BarkPost$Plain", "copied", "(II)I"⟩, Cond.sameMethod "BarkPost$Plain" "BarkPost$Plain" "copied" "(II)I", Cond.instanceMethod ⟨"BarkPost$Plain", "copied", "(II)I"⟩, Cond.selects RX0 ⟨"BarkPost$Plain", "copied", "(II)I"⟩ yX0_copied, Cond.instanceMethod yX0_copied, Cond.code yX0_copied cX0_copied 3 (some .int), Cond.methodLink RX0 7 yX5_copied, Cond.superclass RX0 RX5, Cond.instanceMethod yX5_copied, Cond.code yX5_copied cX5_copied 3 (some .int), Cond.selects RX1 ⟨"BarkPost$Plain", "copied", "(II)I"⟩ yX1_copied, Cond.instanceMethod yX1_copied, Cond.code yX1_copied cX1_copied 3 (some .int), Cond.methodLink RX1 7 yX5_copied, Cond.superclass RX1 RX5, Cond.methodLink RX1 11 yX3_raised]
def wsL_law_r21 : List Cond := [Cond.static yX3_raised, Cond.code yX3_raised cX3_raised 5 (some .int), Cond.selects RX4 ⟨"BarkPost$Plain", "copied", "(II)I"⟩ yX5_copied, Cond.methodLink RX10 165 yX5_copied, Cond.selects RX5 yX5_copied yX5_copied, Cond.selects RX6 ⟨"BarkPost$Plain", "copied", "(II)I"⟩ yX6_copied, Cond.instanceMethod yX6_copied, Cond.code yX6_copied cX6_copied 3 (some .int), Cond.methodLink RX6 7 yX0_copied, Cond.sameMethod "BarkPost$Ash" "BarkPost$Ash" "copied" "(II)I", Cond.superclass RX6 RX0, Cond.selects RX8 ⟨"BarkPost$Plain", "copied", "(II)I"⟩ yX8_copied, Cond.instanceMethod yX8_copied, Cond.code yX8_copied cX8_copied 3 (some .int), Cond.methodLink RX8 11 yX3_turned, Cond.static yX3_turned, Cond.code yX3_turned cX3_turned 4 (some .int), Cond.methodLink RX10 168 ⟨"BarkPost$Plain", "lasts", "(I)I"⟩, Cond.sameMethod "BarkPost$Plain" "BarkPost$Plain" "lasts" "(I)I", Cond.selects RX0 ⟨"BarkPost$Plain", "lasts", "(I)I"⟩ yX5_lasts, Cond.instanceMethod yX5_lasts, Cond.code yX5_lasts cX5_lasts 2 (some .int), Cond.selects RX1 ⟨"BarkPost$Plain", "lasts", "(I)I"⟩ yX5_lasts, Cond.instanceMethod ⟨"BarkPost$Plain", "lasts", "(I)I"⟩]
def wsL_law_r22 : List Cond := [Cond.selects RX4 ⟨"BarkPost$Plain", "lasts", "(I)I"⟩ yX4_lasts, Cond.instanceMethod yX4_lasts, Cond.code yX4_lasts cX4_lasts 2 (some .int), Cond.methodLink RX4 7 yX5_lasts, Cond.superclass RX4 RX5, Cond.methodLink RX10 168 yX5_lasts, Cond.selects RX5 yX5_lasts yX5_lasts, Cond.selects RX6 ⟨"BarkPost$Plain", "lasts", "(I)I"⟩ yX6_lasts, Cond.instanceMethod yX6_lasts, Cond.code yX6_lasts cX6_lasts 2 (some .int), Cond.selects RX8 ⟨"BarkPost$Plain", "lasts", "(I)I"⟩ yX8_lasts, Cond.instanceMethod yX8_lasts, Cond.code yX8_lasts cX8_lasts 2 (some .int), Cond.methodLink RX8 17 yX4_lasts, Cond.sameMethod "BarkPost$Oak" "BarkPost$Oak" "lasts" "(I)I", Cond.superclass RX8 RX4, Cond.methodLink RL 60 yX11_copy, Cond.instanceMethod yX11_copy, Cond.selects RX11 yX11_copy yX11_copy, Cond.code yX11_copy cX11_copy 4 (some .int), Cond.methodLink RX11 99 yX11_isLetter, Cond.static yX11_isLetter, Cond.code yX11_isLetter cX11_isLetter 3 (some .boolean), Cond.constantLong RX11 60 (444444)]
def wsL_law_r23 : List Cond := [Cond.constantLong RX11 62 (4), Cond.methodLink RX11 102 yX11_copyAs, Cond.static yX11_copyAs, Cond.code yX11_copyAs cX11_copyAs 3 (some .int), Cond.methodLink RX11 96 yX11_oneMore, Cond.static yX11_oneMore, Cond.code yX11_oneMore cX11_oneMore 3 (some .int), Cond.methodLink RX11 93 yX11_turned, Cond.static yX11_turned, Cond.code yX11_turned cX11_turned 3 (some .int), Cond.methodLink RX11 106 yX11_takesAs, Cond.static yX11_takesAs, Cond.code yX11_takesAs cX11_takesAs 2 (some .int), Cond.methodLink RL 61 yX10_byRow, Cond.instanceMethod yX10_byRow, Cond.selects RX10 yX10_byRow yX10_byRow, Cond.code yX10_byRow cX10_byRow 4 (some .int), Cond.fieldLink RX10 180 "BarkPost$Rows" "letter" "I", Cond.fieldLink RX10 183 "BarkPost$Rows" "time" "I", Cond.methodLink RX10 171 yX7_isTold, Cond.instanceMethod yX7_isTold, Cond.selects RX7 yX7_isTold yX7_isTold, Cond.code yX7_isTold cX7_isTold 6 (some .boolean), Cond.constant RX7 26 (7654321)]
def wsL_law_r24 : List Cond := [Cond.fieldLink RX7 27 "BarkPost$Forest" "trees" "I", Cond.methodLink RX10 174 yX7_stands, Cond.instanceMethod yX7_stands, Cond.selects RX7 yX7_stands yX7_stands, Cond.code yX7_stands cX7_stands 6 (some .boolean), Cond.constant RX7 37 (1000000), Cond.fieldLink RX7 38 "BarkPost$Forest" "touching" "[I", Cond.fieldLink RX7 41 "BarkPost$Forest" "felled" "I", Cond.methodLink RX10 177 yX7_follow, Cond.instanceMethod yX7_follow, Cond.selects RX7 yX7_follow yX7_follow, Cond.code yX7_follow cX7_follow 7 none, Cond.fieldLink RX7 44 "BarkPost$Rows" "row" "I", Cond.fieldLink RX7 47 "BarkPost$Rows" "time" "I", Cond.fieldLink RX7 50 "BarkPost$Rows" "letter" "I", Cond.fieldLink RX7 53 "BarkPost$Forest" "kindOf" "[I", Cond.methodLink RX7 56 ⟨"BarkPost$Plain", "copied", "(II)I"⟩, Cond.methodLink RX7 56 yX5_copied, Cond.methodLink RX7 62 ⟨"BarkPost$Plain", "lasts", "(I)I"⟩, Cond.methodLink RX7 62 yX5_lasts, Cond.methodLink RL 64 yX11_byRow, Cond.instanceMethod yX11_byRow, Cond.selects RX11 yX11_byRow yX11_byRow, Cond.code yX11_byRow cX11_byRow 4 (some .int)]
def wsL_law_r25 : List Cond := [Cond.fieldLink RX11 110 "BarkPostModel" "asRead" "I", Cond.fieldLink RX11 114 "BarkPostModel" "inSeasons" "I", Cond.methodLink RX11 124 yX11_layRow, Cond.instanceMethod yX11_layRow, Cond.selects RX11 yX11_layRow yX11_layRow, Cond.code yX11_layRow cX11_layRow 6 (some .boolean), Cond.fieldLink RX11 117 "BarkPostModel" "manyRow" "I", Cond.methodLink RX11 120 yX11_has, Cond.static yX11_has, Cond.code yX11_has cX11_has 2 (some .boolean), Cond.methodLink RX11 127 yX11_readBy, Cond.instanceMethod yX11_readBy, Cond.selects RX11 yX11_readBy yX11_readBy, Cond.code yX11_readBy cX11_readBy 6 none, Cond.methodLink RX11 131 yX11_isRow, Cond.instanceMethod yX11_isRow, Cond.selects RX11 yX11_isRow yX11_isRow, Cond.code yX11_isRow cX11_isRow 3 (some .boolean), Cond.methodLink RL 65 yX10_soonest, Cond.instanceMethod yX10_soonest, Cond.selects RX10 yX10_soonest yX10_soonest, Cond.code yX10_soonest cX10_soonest 5 (some .int), Cond.fieldLink RX10 190 "BarkPost$Rows" "row" "I", Cond.methodLink RX10 186 yX7_seek]
def wsL_law_r26 : List Cond := [Cond.instanceMethod yX7_seek, Cond.selects RX7 yX7_seek yX7_seek, Cond.code yX7_seek cX7_seek 5 (some .boolean), Cond.fieldLink RX7 66 "BarkPost$Rows" "goal" "I", Cond.fieldLink RX7 69 "BarkPost$Rows" "wanted" "I", Cond.methodLink RX7 72 yX7_joins, Cond.instanceMethod yX7_joins, Cond.selects RX7 yX7_joins yX7_joins, Cond.code yX7_joins cX7_joins 8 (some .boolean), Cond.methodLink RX7 75 yX7_enter, Cond.instanceMethod yX7_enter, Cond.selects RX7 yX7_enter yX7_enter, Cond.code yX7_enter cX7_enter 13 none, Cond.fieldLink RX7 79 "BarkPost$Forest" "now" "I", Cond.methodLink RX7 82 yX7_keepIfSooner, Cond.instanceMethod yX7_keepIfSooner, Cond.selects RX7 yX7_keepIfSooner yX7_keepIfSooner, Cond.code yX7_keepIfSooner cX7_keepIfSooner 5 none, Cond.methodLink RL 69 yX11_soonest, Cond.instanceMethod yX11_soonest, Cond.selects RX11 yX11_soonest yX11_soonest, Cond.code yX11_soonest cX11_soonest 5 (some .int), Cond.fieldLink RX11 141 "BarkPostModel" "bestRow" "I", Cond.fieldLink RX11 144 "BarkPostModel" "bestTime" "I"]
def wsL_law_r27 : List Cond := [Cond.fieldLink RX11 147 "BarkPostModel" "bestRead" "I", Cond.methodLink RX11 162 yX11_laySoonest, Cond.instanceMethod yX11_laySoonest, Cond.selects RX11 yX11_laySoonest yX11_laySoonest, Cond.code yX11_laySoonest cX11_laySoonest 5 none, Cond.methodLink RX11 150 yX11_layFirst, Cond.instanceMethod yX11_layFirst, Cond.selects RX11 yX11_layFirst yX11_layFirst, Cond.code yX11_layFirst cX11_layFirst 3 none, Cond.fieldLink RX11 135 "BarkPostModel" "standing" "I", Cond.methodLink RX11 153 yX11_ends, Cond.instanceMethod yX11_ends, Cond.selects RX11 yX11_ends yX11_ends, Cond.code yX11_ends cX11_ends 2 (some .boolean), Cond.methodLink RX11 156 yX11_numberOfRow, Cond.instanceMethod yX11_numberOfRow, Cond.selects RX11 yX11_numberOfRow yX11_numberOfRow, Cond.code yX11_numberOfRow cX11_numberOfRow 3 (some .int), Cond.methodLink RX11 159 yX11_goOn, Cond.instanceMethod yX11_goOn, Cond.selects RX11 yX11_goOn yX11_goOn, Cond.code yX11_goOn cX11_goOn 5 none, Cond.methodLink RX11 138 yX11_used, Cond.instanceMethod yX11_used]
def wsL_law_r28 : List Cond := [Cond.selects RX11 yX11_used yX11_used, Cond.code yX11_used cX11_used 3 (some .int), Cond.methodLink RL 70 yX10_whole, Cond.instanceMethod yX10_whole, Cond.selects RX10 yX10_whole yX10_whole, Cond.code yX10_whole cX10_whole 5 (some .int), Cond.methodLink RL 73 yX11_whole, Cond.instanceMethod yX11_whole, Cond.selects RX11 yX11_whole yX11_whole, Cond.code yX11_whole cX11_whole 5 (some .int), Cond.methodLink RL 74 yX10_ways, Cond.instanceMethod yX10_ways, Cond.selects RX10 yX10_ways yX10_ways, Cond.code yX10_ways cX10_ways 3 (some .int), Cond.methodLink RX10 193 yX7_howMany, Cond.instanceMethod yX7_howMany, Cond.selects RX7 yX7_howMany yX7_howMany, Cond.code yX7_howMany cX7_howMany 4 (some .int), Cond.methodLink RX7 86 yX7_rowsOn, Cond.instanceMethod yX7_rowsOn, Cond.selects RX7 yX7_rowsOn yX7_rowsOn, Cond.code yX7_rowsOn cX7_rowsOn 8 (some .int), Cond.methodLink RL 77 yX11_ways, Cond.instanceMethod yX11_ways]
def wsL_law_r29 : List Cond := [Cond.selects RX11 yX11_ways yX11_ways, Cond.code yX11_ways cX11_ways 3 (some .int), Cond.methodLink RX11 166 yX11_manyWays, Cond.instanceMethod yX11_manyWays, Cond.selects RX11 yX11_manyWays yX11_manyWays, Cond.code yX11_manyWays cX11_manyWays 5 (some .int), Cond.methodLink RL 78 yX10_put, Cond.instanceMethod yX10_put, Cond.selects RX10 yX10_put yX10_put, Cond.code yX10_put cX10_put 10 (some .int), Cond.methodLink RX10 196 yX3_shortLetter, Cond.static yX3_shortLetter, Cond.code yX3_shortLetter cX3_shortLetter 5 (some .int), Cond.methodLink RL 81 yX11_put, Cond.instanceMethod yX11_put, Cond.selects RX11 yX11_put yX11_put, Cond.code yX11_put cX11_put 8 (some .int), Cond.methodLink RL 82 yX10_meet, Cond.instanceMethod yX10_meet, Cond.selects RX10 yX10_meet yX10_meet, Cond.code yX10_meet cX10_meet 3 (some .int), Cond.methodLink RX10 199 yX3_third, Cond.static yX3_third, Cond.code yX3_third cX3_third 6 (some .int)]
def wsL_law_r30 : List Cond := [Cond.methodLink RX3 14 yX3_turned, Cond.methodLink RX3 20 yX3_together, Cond.static yX3_together, Cond.code yX3_together cX3_together 3 (some .int), Cond.methodLink RL 85 yX11_meet, Cond.instanceMethod yX11_meet, Cond.selects RX11 yX11_meet yX11_meet, Cond.code yX11_meet cX11_meet 8 (some .int), Cond.methodLink RX11 175 yX11_signAt, Cond.static yX11_signAt, Cond.code yX11_signAt cX11_signAt 2 (some .int), Cond.methodLink RX11 169 yX11_signs, Cond.static yX11_signs, Cond.code yX11_signs cX11_signs 3 (some .int), Cond.methodLink RX11 172 yX11_power, Cond.static yX11_power, Cond.code yX11_power cX11_power 3 (some .int), Cond.methodLink RL 86 yX10_apart, Cond.instanceMethod yX10_apart, Cond.selects RX10 yX10_apart yX10_apart, Cond.code yX10_apart cX10_apart 3 (some .int), Cond.methodLink RX10 202 yX7_fewestToPart, Cond.instanceMethod yX7_fewestToPart, Cond.selects RX7 yX7_fewestToPart yX7_fewestToPart]
def wsL_law_r31 : List Cond := [Cond.code yX7_fewestToPart cX7_fewestToPart 8 (some .int), Cond.methodLink RX7 90 yJ6_bitCount_0f7a4, Cond.static yJ6_bitCount_0f7a4, Cond.initialized RJ6, Cond.code yJ6_bitCount_0f7a4 cJ6_bitCount_0f7a4 1 (some .int), Cond.constant RJ6 265 (1431655765), Cond.constant RJ6 266 (858993459), Cond.constant RJ6 267 (252645135), Cond.methodLink RL 89 yX11_apart, Cond.instanceMethod yX11_apart, Cond.selects RX11 yX11_apart yX11_apart, Cond.code yX11_apart cX11_apart 7 (some .int), Cond.methodLink RX11 178 yX11_bits, Cond.static yX11_bits, Cond.code yX11_bits cX11_bits 3 (some .int), Cond.methodLink RX11 181 yX11_isThereWay, Cond.instanceMethod yX11_isThereWay, Cond.selects RX11 yX11_isThereWay yX11_isThereWay, Cond.code yX11_isThereWay cX11_isThereWay 5 (some .boolean), Cond.methodLink RL 90 yX10_most, Cond.instanceMethod yX10_most, Cond.selects RX10 yX10_most yX10_most, Cond.code yX10_most cX10_most 1 (some .int), Cond.methodLink RX10 205 yX7_onMost]
def wsL_law_r32 : List Cond := [Cond.instanceMethod yX7_onMost, Cond.selects RX7 yX7_onMost yX7_onMost, Cond.code yX7_onMost cX7_onMost 4 (some .int), Cond.methodLink RX7 95 yX7_countRowsBySets, Cond.instanceMethod yX7_countRowsBySets, Cond.selects RX7 yX7_countRowsBySets yX7_countRowsBySets, Cond.code yX7_countRowsBySets cX7_countRowsBySets 5 none, Cond.methodLink RX7 98 yX7_rowsEnding, Cond.instanceMethod yX7_rowsEnding, Cond.selects RX7 yX7_rowsEnding yX7_rowsEnding, Cond.code yX7_rowsEnding cX7_rowsEnding 7 (some .int), Cond.methodLink RL 93 yX11_most, Cond.instanceMethod yX11_most, Cond.selects RX11 yX11_most yX11_most, Cond.code yX11_most cX11_most 4 (some .int), Cond.methodLink RL 94 yX10_note, Cond.instanceMethod yX10_note, Cond.selects RX10 yX10_note yX10_note, Cond.code yX10_note cX10_note 6 (some .int), Cond.fieldLink RX10 208 "BarkPost$Forest" "noted" "I", Cond.methodLink RX10 211 yX2_addNote, Cond.instanceMethod yX2_addNote, Cond.selects RX2 yX2_addNote yX2_addNote, Cond.code yX2_addNote cX2_addNote 7 none]
def wsL_law_r33 : List Cond := [Cond.methodLink RL 98 yX11_note, Cond.instanceMethod yX11_note, Cond.selects RX11 yX11_note yX11_note, Cond.code yX11_note cX11_note 7 (some .int), Cond.constantLong RX11 185 (20), Cond.methodLink RL 99 yX10_came, Cond.instanceMethod yX10_came, Cond.selects RX10 yX10_came yX10_came, Cond.code yX10_came cX10_came 4 (some .int), Cond.fieldLink RX10 215 "BarkPost$Forest" "readOnes" "I", Cond.methodLink RX10 218 yX2_addReadOne, Cond.instanceMethod yX2_addReadOne, Cond.selects RX2 yX2_addReadOne yX2_addReadOne, Cond.code yX2_addReadOne cX2_addReadOne 5 none, Cond.methodLink RL 102 yX11_came, Cond.instanceMethod yX11_came, Cond.selects RX11 yX11_came yX11_came, Cond.code yX11_came cX11_came 5 (some .int), Cond.methodLink RL 103 yX10_forget, Cond.instanceMethod yX10_forget, Cond.selects RX10 yX10_forget yX10_forget, Cond.code yX10_forget cX10_forget 3 (some .int), Cond.methodLink RL 106 yX11_forget, Cond.instanceMethod yX11_forget]
def wsL_law_r34 : List Cond := [Cond.selects RX11 yX11_forget yX11_forget, Cond.code yX11_forget cX11_forget 3 (some .int), Cond.methodLink RL 107 yX10_is, Cond.instanceMethod yX10_is, Cond.selects RX10 yX10_is yX10_is, Cond.code yX10_is cX10_is 2 (some .int), Cond.methodLink RX10 221 yX10_fittingKinds, Cond.instanceMethod yX10_fittingKinds, Cond.selects RX10 yX10_fittingKinds yX10_fittingKinds, Cond.code yX10_fittingKinds cX10_fittingKinds 4 (some .int), Cond.methodLink RX10 280 yX10_fitsAllNotes, Cond.instanceMethod yX10_fitsAllNotes, Cond.selects RX10 yX10_fitsAllNotes yX10_fitsAllNotes, Cond.code yX10_fitsAllNotes cX10_fitsAllNotes 8 (some .boolean), Cond.fieldLink RX10 266 "BarkPost$Forest" "notes" "[I", Cond.methodLink RL 110 yX11_is, Cond.instanceMethod yX11_is, Cond.selects RX11 yX11_is yX11_is, Cond.code yX11_is cX11_is 2 (some .int), Cond.methodLink RX11 187 yX11_kindsOf, Cond.instanceMethod yX11_kindsOf, Cond.selects RX11 yX11_kindsOf yX11_kindsOf, Cond.code yX11_kindsOf cX11_kindsOf 8 (some .int), Cond.methodLink RL 111 yX10_next]
def wsL_law_r35 : List Cond := [Cond.instanceMethod yX10_next, Cond.selects RX10 yX10_next yX10_next, Cond.code yX10_next cX10_next 8 (some .int), Cond.methodLink RX10 224 yX10_mostAlike, Cond.instanceMethod yX10_mostAlike, Cond.selects RX10 yX10_mostAlike yX10_mostAlike, Cond.code yX10_mostAlike cX10_mostAlike 8 (some .int), Cond.methodLink RX10 284 Lib.Math.max.name, Cond.static Lib.Math.max.name, Cond.code Lib.Math.max.name Lib.Math.max.code 2 (some .int), Cond.methodLink RL 114 yX11_next, Cond.instanceMethod yX11_next, Cond.selects RX11 yX11_next yX11_next, Cond.code yX11_next cX11_next 10 (some .int), Cond.constant RX11 190 (1000000), Cond.methodLink RX11 191 yX11_doAlike, Cond.static yX11_doAlike, Cond.code yX11_doAlike cX11_doAlike 4 (some .boolean), Cond.methodLink RL 115 yX10_first, Cond.instanceMethod yX10_first, Cond.selects RX10 yX10_first yX10_first, Cond.code yX10_first cX10_first 6 (some .int), Cond.methodLink RX10 227 yX10_mayHaveBeenPutIn, Cond.instanceMethod yX10_mayHaveBeenPutIn]
def wsL_law_r36 : List Cond := [Cond.selects RX10 yX10_mayHaveBeenPutIn yX10_mayHaveBeenPutIn, Cond.code yX10_mayHaveBeenPutIn cX10_mayHaveBeenPutIn 4 (some .boolean), Cond.fieldLink RX10 269 "BarkPost$Forest" "reads" "[I", Cond.methodLink RL 118 yX11_first, Cond.instanceMethod yX11_first, Cond.selects RX11 yX11_first yX11_first, Cond.code yX11_first cX11_first 5 (some .int), Cond.methodLink RX11 195 yX11_isAllSo, Cond.instanceMethod yX11_isAllSo, Cond.selects RX11 yX11_isAllSo yX11_isAllSo, Cond.code yX11_isAllSo cX11_isAllSo 5 (some .boolean), Cond.methodLink RL 119 yX10_foresters, Cond.instanceMethod yX10_foresters, Cond.selects RX10 yX10_foresters yX10_foresters, Cond.code yX10_foresters cX10_foresters 10 (some .int), Cond.methodLink RX10 230 yX10_allUnlike, Cond.static yX10_allUnlike, Cond.code yX10_allUnlike cX10_allUnlike 4 (some .boolean), Cond.methodLink RX10 233 yX7_joins, Cond.methodLink RX10 236 yX10_gain, Cond.static yX10_gain, Cond.code yX10_gain cX10_gain 5 (some .int), Cond.methodLink RL 122 yX11_foresters, Cond.instanceMethod yX11_foresters]
def wsL_law_r37 : List Cond := [Cond.selects RX11 yX11_foresters yX11_foresters, Cond.code yX11_foresters cX11_foresters 9 (some .int), Cond.methodLink RL 123 yX10_storms, Cond.instanceMethod yX10_storms, Cond.selects RX10 yX10_storms yX10_storms, Cond.code yX10_storms cX10_storms 4 (some .int), Cond.methodLink RX10 240 yX10_keepChanceToStand, Cond.instanceMethod yX10_keepChanceToStand, Cond.selects RX10 yX10_keepChanceToStand yX10_keepChanceToStand, Cond.code yX10_keepChanceToStand cX10_keepChanceToStand 6 none, Cond.constant RX10 287 (1000000), Cond.methodLink RL 126 yX11_storms, Cond.instanceMethod yX11_storms, Cond.selects RX11 yX11_storms yX11_storms, Cond.code yX11_storms cX11_storms 9 (some .int), Cond.constantLong RX11 201 (10), Cond.methodLink RX11 203 yX11_fraction, Cond.instanceMethod yX11_fraction, Cond.selects RX11 yX11_fraction yX11_fraction, Cond.code yX11_fraction cX11_fraction 11 none, Cond.fieldLink RX11 198 "BarkPostModel" "above" "J", Cond.methodLink RL 127 yX10_forests, Cond.instanceMethod yX10_forests, Cond.selects RX10 yX10_forests yX10_forests]
def wsL_law_r38 : List Cond := [Cond.code yX10_forests cX10_forests 12 (some .int), Cond.constant RX10 243 (999999), Cond.constantLong RX10 248 (65536), Cond.methodLink RX10 244 yX10_drawn, Cond.static yX10_drawn, Cond.code yX10_drawn cX10_drawn 2 (some .long), Cond.constantLong RX10 288 (1103515245), Cond.constantLong RX10 290 (12345), Cond.constantLong RX10 292 (2147483648), Cond.methodLink RL 130 yX11_forests, Cond.instanceMethod yX11_forests, Cond.selects RX11 yX11_forests yX11_forests, Cond.code yX11_forests cX11_forests 10 (some .int), Cond.constantLong RX11 207 (999999), Cond.constantLong RX11 209 (1103515245), Cond.constantLong RX11 211 (12345), Cond.constantLong RX11 213 (2147483648), Cond.constantLong RX11 215 (65536), Cond.methodLink RL 131 yX10_part, Cond.instanceMethod yX10_part, Cond.selects RX10 yX10_part yX10_part, Cond.code yX10_part cX10_part 2 (some .long), Cond.methodLink RL 135 yX11_part, Cond.instanceMethod yX11_part]
def wsL_law_r39 : List Cond := [Cond.selects RX11 yX11_part yX11_part, Cond.code yX11_part cX11_part 2 (some .long), Cond.methodLink RL 136 yX10_image, Cond.instanceMethod yX10_image, Cond.selects RX10 yX10_image yX10_image, Cond.code yX10_image cX10_image 2 (some .int), Cond.methodLink RL 139 yX11_image, Cond.instanceMethod yX11_image, Cond.selects RX11 yX11_image yX11_image, Cond.code yX11_image cX11_image 3 (some .int), Cond.methodLink RL 140 yX10_from, Cond.instanceMethod yX10_from, Cond.selects RX10 yX10_from yX10_from, Cond.code yX10_from cX10_from 2 (some .int), Cond.methodLink RL 143 yX11_from, Cond.instanceMethod yX11_from, Cond.selects RX11 yX11_from yX11_from, Cond.code yX11_from cX11_from 3 (some .int), Cond.methodLink RL 144 yX10_status, Cond.instanceMethod yX10_status, Cond.selects RX10 yX10_status yX10_status, Cond.code yX10_status cX10_status 2 (some .int), Cond.methodLink RL 147 yX11_status, Cond.instanceMethod yX11_status]
def wsL_law_r40 : List Cond := [Cond.selects RX11 yX11_status yX11_status, Cond.code yX11_status cX11_status 2 (some .int), Cond.methodLink RL 148 yX10_count, Cond.instanceMethod yX10_count, Cond.selects RX10 yX10_count yX10_count, Cond.code yX10_count cX10_count 2 (some .int), Cond.methodLink RX10 259 yX10_howMuch, Cond.instanceMethod yX10_howMuch, Cond.selects RX10 yX10_howMuch yX10_howMuch, Cond.code yX10_howMuch cX10_howMuch 2 (some .int), Cond.methodLink RX10 272 yJ6_bitCount_0f7a4, Cond.methodLink RX10 277 yX2_touches, Cond.instanceMethod yX2_touches, Cond.selects RX2 yX2_touches yX2_touches, Cond.code yX2_touches cX2_touches 3 (some .int), Cond.methodLink RX2 55 yJ6_bitCount_0f7a4, Cond.methodLink RL 151 yX11_count, Cond.instanceMethod yX11_count, Cond.selects RX11 yX11_count yX11_count, Cond.code yX11_count cX11_count 2 (some .int), Cond.constantLong RX11 280 (7), Cond.methodLink RX11 282 yX11_counted, Cond.instanceMethod yX11_counted, Cond.selects RX11 yX11_counted yX11_counted]
def wsL_law_r41 : List Cond := [Cond.code yX11_counted cX11_counted 2 (some .int), Cond.methodLink RX11 277 yX11_manyTouches, Cond.instanceMethod yX11_manyTouches, Cond.selects RX11 yX11_manyTouches yX11_manyTouches, Cond.code yX11_manyTouches cX11_manyTouches 3 (some .int), Cond.methodLink RL 152 yX10_digest, Cond.instanceMethod yX10_digest, Cond.selects RX10 yX10_digest yX10_digest, Cond.code yX10_digest cX10_digest 4 (some .long), Cond.constantLong RX10 262 (1319), Cond.constantLong RX10 264 (31), Cond.methodLink RL 156 yX11_digest, Cond.instanceMethod yX11_digest, Cond.selects RX11 yX11_digest yX11_digest, Cond.code yX11_digest cX11_digest 4 (some .long), Cond.constantLong RX11 287 (1319), Cond.constantLong RX11 285 (31), Cond.methodLink RX11 289 yX11_sums, Cond.instanceMethod yX11_sums, Cond.selects RX11 yX11_sums yX11_sums, Cond.code yX11_sums cX11_sums 8 (some .long)]
def wsL_law : List Cond := (wsL_law_r1 ++ (wsL_law_r2 ++ (wsL_law_r3 ++ (wsL_law_r4 ++ (wsL_law_r5 ++ (wsL_law_r6 ++ (wsL_law_r7 ++ (wsL_law_r8 ++ (wsL_law_r9 ++ (wsL_law_r10 ++ (wsL_law_r11 ++ (wsL_law_r12 ++ (wsL_law_r13 ++ (wsL_law_r14 ++ (wsL_law_r15 ++ (wsL_law_r16 ++ (wsL_law_r17 ++ (wsL_law_r18 ++ (wsL_law_r19 ++ (wsL_law_r20 ++ (wsL_law_r21 ++ (wsL_law_r22 ++ (wsL_law_r23 ++ (wsL_law_r24 ++ (wsL_law_r25 ++ (wsL_law_r26 ++ (wsL_law_r27 ++ (wsL_law_r28 ++ (wsL_law_r29 ++ (wsL_law_r30 ++ (wsL_law_r31 ++ (wsL_law_r32 ++ (wsL_law_r33 ++ (wsL_law_r34 ++ (wsL_law_r35 ++ (wsL_law_r36 ++ (wsL_law_r37 ++ (wsL_law_r38 ++ (wsL_law_r39 ++ (wsL_law_r40 ++ wsL_law_r41)))))))))))))))))))))))))))))))))))))))) ++ wsX100 ++ wsX110 ++ wsX50 ++ wsX00 ++ wsX40 ++ wsX10 ++ wsX80 ++ wsX60 ++ wsX20 ++ wsX70 ++ wsX90 ++ ([] : List Cond)
theorem inlX0 : ∀ w ∈ wsX00, w ∈ wsL_law := fun _ h => List.mem_append_left _ (List.mem_append_left _ (List.mem_append_left _ (List.mem_append_left _ (List.mem_append_left _ (List.mem_append_left _ (List.mem_append_left _ (List.mem_append_left _ (List.mem_append_right _ h))))))))
theorem inlX1 : ∀ w ∈ wsX10, w ∈ wsL_law := fun _ h => List.mem_append_left _ (List.mem_append_left _ (List.mem_append_left _ (List.mem_append_left _ (List.mem_append_left _ (List.mem_append_left _ (List.mem_append_right _ h))))))
theorem inlX2 : ∀ w ∈ wsX20, w ∈ wsL_law := fun _ h => List.mem_append_left _ (List.mem_append_left _ (List.mem_append_left _ (List.mem_append_right _ h)))
theorem inlX4 : ∀ w ∈ wsX40, w ∈ wsL_law := fun _ h => List.mem_append_left _ (List.mem_append_left _ (List.mem_append_left _ (List.mem_append_left _ (List.mem_append_left _ (List.mem_append_left _ (List.mem_append_left _ (List.mem_append_right _ h)))))))
theorem inlX5 : ∀ w ∈ wsX50, w ∈ wsL_law := fun _ h => List.mem_append_left _ (List.mem_append_left _ (List.mem_append_left _ (List.mem_append_left _ (List.mem_append_left _ (List.mem_append_left _ (List.mem_append_left _ (List.mem_append_left _ (List.mem_append_left _ (List.mem_append_right _ h)))))))))
theorem inlX6 : ∀ w ∈ wsX60, w ∈ wsL_law := fun _ h => List.mem_append_left _ (List.mem_append_left _ (List.mem_append_left _ (List.mem_append_left _ (List.mem_append_right _ h))))
theorem inlX7 : ∀ w ∈ wsX70, w ∈ wsL_law := fun _ h => List.mem_append_left _ (List.mem_append_left _ (List.mem_append_right _ h))
theorem inlX8 : ∀ w ∈ wsX80, w ∈ wsL_law := fun _ h => List.mem_append_left _ (List.mem_append_left _ (List.mem_append_left _ (List.mem_append_left _ (List.mem_append_left _ (List.mem_append_right _ h)))))
theorem inlX9 : ∀ w ∈ wsX90, w ∈ wsL_law := fun _ h => List.mem_append_left _ (List.mem_append_right _ h)
theorem inlX10 : ∀ w ∈ wsX100, w ∈ wsL_law := fun _ h => List.mem_append_left _ (List.mem_append_left _ (List.mem_append_left _ (List.mem_append_left _ (List.mem_append_left _ (List.mem_append_left _ (List.mem_append_left _ (List.mem_append_left _ (List.mem_append_left _ (List.mem_append_left _ (List.mem_append_left _ (List.mem_append_right _ h)))))))))))
theorem inlX11 : ∀ w ∈ wsX110, w ∈ wsL_law := fun _ h => List.mem_append_left _ (List.mem_append_left _ (List.mem_append_left _ (List.mem_append_left _ (List.mem_append_left _ (List.mem_append_left _ (List.mem_append_left _ (List.mem_append_left _ (List.mem_append_left _ (List.mem_append_left _ (List.mem_append_right _ h))))))))))
abbrev vwCl : List vw_C := [(RX0, TX0, 0), (RX1, TX1, 0), (RX2, TX2, 12), (RX4, TX4, 0), (RX5, TX5, 0), (RX6, TX6, 0), (RX7, TX7, 9), (RX8, TX8, 0), (RX9, TX9, 8), (RX10, TX10, 16), (RX11, TX11, 25)]
