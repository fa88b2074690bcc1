section
-- ===== PART A: goes FIRST, ahead of the names: the tables' words, and 'selects' of the private methods out of them =====
/-- a private method of a class that the tables say can be made, by its rows of tables_1 -/
def lw_okq (q : MethodName × Nat) : Prop := (q.1.cls ≠ "java/lang/invoke/MethodHandle" ∧ q.1.cls ≠ "java/lang/invoke/VarHandle") ∧ Cond.instantiable q.1.cls q.2 ∈ tables_1 ∧ Cond.privateMethod q.1 ∈ tables_1 ∧ Cond.instanceMethod q.1 ∈ tables_1
theorem lw_p0 : lw_okq (⟨"LeftNumbers", "keep", "(LLeftNumbers$Value;)I"⟩, 9) := ⟨⟨by decide +kernel, by decide +kernel⟩, List.mem_of_getElem? (i := 9) (by decide +kernel), List.mem_of_getElem? (i := 204) (by decide +kernel), List.mem_of_getElem? (i := 205) (by decide +kernel)⟩
theorem lw_p1 : lw_okq (⟨"LeftNumbers", "isNoSure", "(I)Z"⟩, 9) := ⟨⟨by decide +kernel, by decide +kernel⟩, List.mem_of_getElem? (i := 9) (by decide +kernel), List.mem_of_getElem? (i := 224) (by decide +kernel), List.mem_of_getElem? (i := 225) (by decide +kernel)⟩
theorem lw_p2 : lw_okq (⟨"LeftNumbers", "find", "(I)LLeftNumbers$Value;"⟩, 9) := ⟨⟨by decide +kernel, by decide +kernel⟩, List.mem_of_getElem? (i := 9) (by decide +kernel), List.mem_of_getElem? (i := 237) (by decide +kernel), List.mem_of_getElem? (i := 238) (by decide +kernel)⟩
theorem lw_p3 : lw_okq (⟨"LeftNumbers$Arithmetic", "combineRatios", "(ILLeftNumbers$Value;LLeftNumbers$Value;LLeftNumbers$Value;)V"⟩, 1) := ⟨⟨by decide +kernel, by decide +kernel⟩, List.mem_of_getElem? (i := 42) (by decide +kernel), List.mem_of_getElem? (i := 258) (by decide +kernel), List.mem_of_getElem? (i := 259) (by decide +kernel)⟩
theorem lw_p4 : lw_okq (⟨"LeftNumbers$Arithmetic", "add", "(LLeftNumbers$Value;LLeftNumbers$Value;ZLLeftNumbers$Value;)V"⟩, 1) := ⟨⟨by decide +kernel, by decide +kernel⟩, List.mem_of_getElem? (i := 42) (by decide +kernel), List.mem_of_getElem? (i := 263) (by decide +kernel), List.mem_of_getElem? (i := 264) (by decide +kernel)⟩
theorem lw_p5 : lw_okq (⟨"LeftNumbers$Arithmetic", "figuresFrom", "(LLeftNumbers$Value;II)J"⟩, 1) := ⟨⟨by decide +kernel, by decide +kernel⟩, List.mem_of_getElem? (i := 42) (by decide +kernel), List.mem_of_getElem? (i := 278) (by decide +kernel), List.mem_of_getElem? (i := 279) (by decide +kernel)⟩
theorem lw_p6 : lw_okq (⟨"LeftNumbers$Arithmetic", "multiply", "(LLeftNumbers$Value;LLeftNumbers$Value;ZLLeftNumbers$Value;)V"⟩, 1) := ⟨⟨by decide +kernel, by decide +kernel⟩, List.mem_of_getElem? (i := 42) (by decide +kernel), List.mem_of_getElem? (i := 284) (by decide +kernel), List.mem_of_getElem? (i := 285) (by decide +kernel)⟩
theorem lw_p7 : lw_okq (⟨"LeftNumbers", "ratioFigure", "(LLeftNumbers$Value;I)I"⟩, 9) := ⟨⟨by decide +kernel, by decide +kernel⟩, List.mem_of_getElem? (i := 9) (by decide +kernel), List.mem_of_getElem? (i := 305) (by decide +kernel), List.mem_of_getElem? (i := 306) (by decide +kernel)⟩
theorem lw_p8 : lw_okq (⟨"LeftNumbers", "copyWithin", "(LLeftNumbers$Value;I)Z"⟩, 9) := ⟨⟨by decide +kernel, by decide +kernel⟩, List.mem_of_getElem? (i := 9) (by decide +kernel), List.mem_of_getElem? (i := 334) (by decide +kernel), List.mem_of_getElem? (i := 335) (by decide +kernel)⟩
theorem lw_p9 : lw_okq (⟨"LeftNumbers", "fractionWithin", "(LLeftNumbers$Value;I)Z"⟩, 9) := ⟨⟨by decide +kernel, by decide +kernel⟩, List.mem_of_getElem? (i := 9) (by decide +kernel), List.mem_of_getElem? (i := 338) (by decide +kernel), List.mem_of_getElem? (i := 339) (by decide +kernel)⟩
theorem lw_p10 : lw_okq (⟨"LeftNumbers", "comingRound", "(LLeftNumbers$Value;Z)I"⟩, 9) := ⟨⟨by decide +kernel, by decide +kernel⟩, List.mem_of_getElem? (i := 9) (by decide +kernel), List.mem_of_getElem? (i := 351) (by decide +kernel), List.mem_of_getElem? (i := 352) (by decide +kernel)⟩
theorem lw_p11 : lw_okq (⟨"LeftNumbers", "isGood", "(I)Z"⟩, 9) := ⟨⟨by decide +kernel, by decide +kernel⟩, List.mem_of_getElem? (i := 9) (by decide +kernel), List.mem_of_getElem? (i := 369) (by decide +kernel), List.mem_of_getElem? (i := 370) (by decide +kernel)⟩
theorem lw_p12 : lw_okq (⟨"LeftNumbers", "isStuck", "(I)Z"⟩, 9) := ⟨⟨by decide +kernel, by decide +kernel⟩, List.mem_of_getElem? (i := 9) (by decide +kernel), List.mem_of_getElem? (i := 381) (by decide +kernel), List.mem_of_getElem? (i := 382) (by decide +kernel)⟩
theorem lw_p13 : lw_okq (⟨"LeftNumbers", "setRoot", "(LLeftNumbers$Value;I)V"⟩, 9) := ⟨⟨by decide +kernel, by decide +kernel⟩, List.mem_of_getElem? (i := 9) (by decide +kernel), List.mem_of_getElem? (i := 390) (by decide +kernel), List.mem_of_getElem? (i := 391) (by decide +kernel)⟩
theorem lw_p14 : lw_okq (⟨"LeftNumbers", "squareOfTwo", "(LLeftNumbers$Value;)I"⟩, 9) := ⟨⟨by decide +kernel, by decide +kernel⟩, List.mem_of_getElem? (i := 9) (by decide +kernel), List.mem_of_getElem? (i := 409) (by decide +kernel), List.mem_of_getElem? (i := 410) (by decide +kernel)⟩
theorem lw_p15 : lw_okq (⟨"LeftNumbers", "squareOfOdd", "(LLeftNumbers$Value;)I"⟩, 9) := ⟨⟨by decide +kernel, by decide +kernel⟩, List.mem_of_getElem? (i := 9) (by decide +kernel), List.mem_of_getElem? (i := 414) (by decide +kernel), List.mem_of_getElem? (i := 415) (by decide +kernel)⟩
def lw_privs_1 : List (MethodName × Nat) := [(⟨"LeftNumbers", "keep", "(LLeftNumbers$Value;)I"⟩, 9), (⟨"LeftNumbers", "isNoSure", "(I)Z"⟩, 9), (⟨"LeftNumbers", "find", "(I)LLeftNumbers$Value;"⟩, 9), (⟨"LeftNumbers$Arithmetic", "combineRatios", "(ILLeftNumbers$Value;LLeftNumbers$Value;LLeftNumbers$Value;)V"⟩, 1), (⟨"LeftNumbers$Arithmetic", "add", "(LLeftNumbers$Value;LLeftNumbers$Value;ZLLeftNumbers$Value;)V"⟩, 1), (⟨"LeftNumbers$Arithmetic", "figuresFrom", "(LLeftNumbers$Value;II)J"⟩, 1), (⟨"LeftNumbers$Arithmetic", "multiply", "(LLeftNumbers$Value;LLeftNumbers$Value;ZLLeftNumbers$Value;)V"⟩, 1), (⟨"LeftNumbers", "ratioFigure", "(LLeftNumbers$Value;I)I"⟩, 9), (⟨"LeftNumbers", "copyWithin", "(LLeftNumbers$Value;I)Z"⟩, 9), (⟨"LeftNumbers", "fractionWithin", "(LLeftNumbers$Value;I)Z"⟩, 9), (⟨"LeftNumbers", "comingRound", "(LLeftNumbers$Value;Z)I"⟩, 9), (⟨"LeftNumbers", "isGood", "(I)Z"⟩, 9), (⟨"LeftNumbers", "isStuck", "(I)Z"⟩, 9), (⟨"LeftNumbers", "setRoot", "(LLeftNumbers$Value;I)V"⟩, 9), (⟨"LeftNumbers", "squareOfTwo", "(LLeftNumbers$Value;)I"⟩, 9), (⟨"LeftNumbers", "squareOfOdd", "(LLeftNumbers$Value;)I"⟩, 9)]
theorem lw_r1 : ∀ q ∈ lw_privs_1, lw_okq q := List.forall_mem_cons.mpr ⟨lw_p0, List.forall_mem_cons.mpr ⟨lw_p1, List.forall_mem_cons.mpr ⟨lw_p2, List.forall_mem_cons.mpr ⟨lw_p3, List.forall_mem_cons.mpr ⟨lw_p4, List.forall_mem_cons.mpr ⟨lw_p5, List.forall_mem_cons.mpr ⟨lw_p6, List.forall_mem_cons.mpr ⟨lw_p7, List.forall_mem_cons.mpr ⟨lw_p8, List.forall_mem_cons.mpr ⟨lw_p9, List.forall_mem_cons.mpr ⟨lw_p10, List.forall_mem_cons.mpr ⟨lw_p11, List.forall_mem_cons.mpr ⟨lw_p12, List.forall_mem_cons.mpr ⟨lw_p13, List.forall_mem_cons.mpr ⟨lw_p14, List.forall_mem_cons.mpr ⟨lw_p15, fun _ h => absurd h List.not_mem_nil⟩⟩⟩⟩⟩⟩⟩⟩⟩⟩⟩⟩⟩⟩⟩⟩
theorem lw_p16 : lw_okq (⟨"LeftNumbersModel", "powers", "()V"⟩, 17) := ⟨⟨by decide +kernel, by decide +kernel⟩, List.mem_of_getElem? (i := 441) (by decide +kernel), List.mem_of_getElem? (i := 447) (by decide +kernel), List.mem_of_getElem? (i := 448) (by decide +kernel)⟩
theorem lw_p17 : lw_okq (⟨"LeftNumbersModel", "layFraction", "(IJJ)V"⟩, 17) := ⟨⟨by decide +kernel, by decide +kernel⟩, List.mem_of_getElem? (i := 441) (by decide +kernel), List.mem_of_getElem? (i := 517) (by decide +kernel), List.mem_of_getElem? (i := 518) (by decide +kernel)⟩
theorem lw_p18 : lw_okq (⟨"LeftNumbersModel", "lay", "(IIIIJ)V"⟩, 17) := ⟨⟨by decide +kernel, by decide +kernel⟩, List.mem_of_getElem? (i := 441) (by decide +kernel), List.mem_of_getElem? (i := 521) (by decide +kernel), List.mem_of_getElem? (i := 522) (by decide +kernel)⟩
theorem lw_p19 : lw_okq (⟨"LeftNumbersModel", "often", "(J)I"⟩, 17) := ⟨⟨by decide +kernel, by decide +kernel⟩, List.mem_of_getElem? (i := 441) (by decide +kernel), List.mem_of_getElem? (i := 528) (by decide +kernel), List.mem_of_getElem? (i := 529) (by decide +kernel)⟩
theorem lw_p20 : lw_okq (⟨"LeftNumbersModel", "figuresOf", "(JJ)J"⟩, 17) := ⟨⟨by decide +kernel, by decide +kernel⟩, List.mem_of_getElem? (i := 441) (by decide +kernel), List.mem_of_getElem? (i := 532) (by decide +kernel), List.mem_of_getElem? (i := 533) (by decide +kernel)⟩
theorem lw_p21 : lw_okq (⟨"LeftNumbersModel", "without", "(J)J"⟩, 17) := ⟨⟨by decide +kernel, by decide +kernel⟩, List.mem_of_getElem? (i := 441) (by decide +kernel), List.mem_of_getElem? (i := 536) (by decide +kernel), List.mem_of_getElem? (i := 537) (by decide +kernel)⟩
theorem lw_p22 : lw_okq (⟨"LeftNumbersModel", "inverse", "(JI)J"⟩, 17) := ⟨⟨by decide +kernel, by decide +kernel⟩, List.mem_of_getElem? (i := 441) (by decide +kernel), List.mem_of_getElem? (i := 543) (by decide +kernel), List.mem_of_getElem? (i := 544) (by decide +kernel)⟩
theorem lw_p23 : lw_okq (⟨"LeftNumbersModel", "keep", "(I)I"⟩, 17) := ⟨⟨by decide +kernel, by decide +kernel⟩, List.mem_of_getElem? (i := 441) (by decide +kernel), List.mem_of_getElem? (i := 551) (by decide +kernel), List.mem_of_getElem? (i := 552) (by decide +kernel)⟩
theorem lw_p24 : lw_okq (⟨"LeftNumbersModel", "copy", "(II)V"⟩, 17) := ⟨⟨by decide +kernel, by decide +kernel⟩, List.mem_of_getElem? (i := 441) (by decide +kernel), List.mem_of_getElem? (i := 555) (by decide +kernel), List.mem_of_getElem? (i := 556) (by decide +kernel)⟩
theorem lw_p25 : lw_okq (⟨"LeftNumbersModel", "settle", "(IIIIJ)V"⟩, 17) := ⟨⟨by decide +kernel, by decide +kernel⟩, List.mem_of_getElem? (i := 441) (by decide +kernel), List.mem_of_getElem? (i := 565) (by decide +kernel), List.mem_of_getElem? (i := 566) (by decide +kernel)⟩
theorem lw_p26 : lw_okq (⟨"LeftNumbersModel", "isBeyond", "(I)Z"⟩, 17) := ⟨⟨by decide +kernel, by decide +kernel⟩, List.mem_of_getElem? (i := 441) (by decide +kernel), List.mem_of_getElem? (i := 569) (by decide +kernel), List.mem_of_getElem? (i := 570) (by decide +kernel)⟩
theorem lw_p27 : lw_okq (⟨"LeftNumbersModel", "isNumber", "(I)Z"⟩, 17) := ⟨⟨by decide +kernel, by decide +kernel⟩, List.mem_of_getElem? (i := 441) (by decide +kernel), List.mem_of_getElem? (i := 577) (by decide +kernel), List.mem_of_getElem? (i := 578) (by decide +kernel)⟩
theorem lw_p28 : lw_okq (⟨"LeftNumbersModel", "isNought", "(I)Z"⟩, 17) := ⟨⟨by decide +kernel, by decide +kernel⟩, List.mem_of_getElem? (i := 441) (by decide +kernel), List.mem_of_getElem? (i := 581) (by decide +kernel), List.mem_of_getElem? (i := 582) (by decide +kernel)⟩
theorem lw_p29 : lw_okq (⟨"LeftNumbersModel", "isZero", "(I)Z"⟩, 17) := ⟨⟨by decide +kernel, by decide +kernel⟩, List.mem_of_getElem? (i := 441) (by decide +kernel), List.mem_of_getElem? (i := 585) (by decide +kernel), List.mem_of_getElem? (i := 586) (by decide +kernel)⟩
theorem lw_p30 : lw_okq (⟨"LeftNumbersModel", "reckon", "(IIII)I"⟩, 17) := ⟨⟨by decide +kernel, by decide +kernel⟩, List.mem_of_getElem? (i := 441) (by decide +kernel), List.mem_of_getElem? (i := 594) (by decide +kernel), List.mem_of_getElem? (i := 595) (by decide +kernel)⟩
theorem lw_p31 : lw_okq (⟨"LeftNumbersModel", "ofRatios", "(IIII)V"⟩, 17) := ⟨⟨by decide +kernel, by decide +kernel⟩, List.mem_of_getElem? (i := 441) (by decide +kernel), List.mem_of_getElem? (i := 598) (by decide +kernel), List.mem_of_getElem? (i := 599) (by decide +kernel)⟩
def lw_privs_2 : List (MethodName × Nat) := [(⟨"LeftNumbersModel", "powers", "()V"⟩, 17), (⟨"LeftNumbersModel", "layFraction", "(IJJ)V"⟩, 17), (⟨"LeftNumbersModel", "lay", "(IIIIJ)V"⟩, 17), (⟨"LeftNumbersModel", "often", "(J)I"⟩, 17), (⟨"LeftNumbersModel", "figuresOf", "(JJ)J"⟩, 17), (⟨"LeftNumbersModel", "without", "(J)J"⟩, 17), (⟨"LeftNumbersModel", "inverse", "(JI)J"⟩, 17), (⟨"LeftNumbersModel", "keep", "(I)I"⟩, 17), (⟨"LeftNumbersModel", "copy", "(II)V"⟩, 17), (⟨"LeftNumbersModel", "settle", "(IIIIJ)V"⟩, 17), (⟨"LeftNumbersModel", "isBeyond", "(I)Z"⟩, 17), (⟨"LeftNumbersModel", "isNumber", "(I)Z"⟩, 17), (⟨"LeftNumbersModel", "isNought", "(I)Z"⟩, 17), (⟨"LeftNumbersModel", "isZero", "(I)Z"⟩, 17), (⟨"LeftNumbersModel", "reckon", "(IIII)I"⟩, 17), (⟨"LeftNumbersModel", "ofRatios", "(IIII)V"⟩, 17)]
theorem lw_r2 : ∀ q ∈ lw_privs_2, lw_okq q := List.forall_mem_cons.mpr ⟨lw_p16, List.forall_mem_cons.mpr ⟨lw_p17, List.forall_mem_cons.mpr ⟨lw_p18, List.forall_mem_cons.mpr ⟨lw_p19, List.forall_mem_cons.mpr ⟨lw_p20, List.forall_mem_cons.mpr ⟨lw_p21, List.forall_mem_cons.mpr ⟨lw_p22, List.forall_mem_cons.mpr ⟨lw_p23, List.forall_mem_cons.mpr ⟨lw_p24, List.forall_mem_cons.mpr ⟨lw_p25, List.forall_mem_cons.mpr ⟨lw_p26, List.forall_mem_cons.mpr ⟨lw_p27, List.forall_mem_cons.mpr ⟨lw_p28, List.forall_mem_cons.mpr ⟨lw_p29, List.forall_mem_cons.mpr ⟨lw_p30, List.forall_mem_cons.mpr ⟨lw_p31, fun _ h => absurd h List.not_mem_nil⟩⟩⟩⟩⟩⟩⟩⟩⟩⟩⟩⟩⟩⟩⟩⟩
theorem lw_p32 : lw_okq (⟨"LeftNumbersModel", "added", "(IIII)V"⟩, 17) := ⟨⟨by decide +kernel, by decide +kernel⟩, List.mem_of_getElem? (i := 441) (by decide +kernel), List.mem_of_getElem? (i := 602) (by decide +kernel), List.mem_of_getElem? (i := 603) (by decide +kernel)⟩
theorem lw_p33 : lw_okq (⟨"LeftNumbersModel", "knownTo", "(I)I"⟩, 17) := ⟨⟨by decide +kernel, by decide +kernel⟩, List.mem_of_getElem? (i := 441) (by decide +kernel), List.mem_of_getElem? (i := 606) (by decide +kernel), List.mem_of_getElem? (i := 607) (by decide +kernel)⟩
theorem lw_p34 : lw_okq (⟨"LeftNumbersModel", "from", "(III)J"⟩, 17) := ⟨⟨by decide +kernel, by decide +kernel⟩, List.mem_of_getElem? (i := 441) (by decide +kernel), List.mem_of_getElem? (i := 611) (by decide +kernel), List.mem_of_getElem? (i := 612) (by decide +kernel)⟩
theorem lw_p35 : lw_okq (⟨"LeftNumbersModel", "multiplied", "(IIII)V"⟩, 17) := ⟨⟨by decide +kernel, by decide +kernel⟩, List.mem_of_getElem? (i := 441) (by decide +kernel), List.mem_of_getElem? (i := 615) (by decide +kernel), List.mem_of_getElem? (i := 616) (by decide +kernel)⟩
theorem lw_p36 : lw_okq (⟨"LeftNumbersModel", "ratioFigure", "(II)I"⟩, 17) := ⟨⟨by decide +kernel, by decide +kernel⟩, List.mem_of_getElem? (i := 441) (by decide +kernel), List.mem_of_getElem? (i := 637) (by decide +kernel), List.mem_of_getElem? (i := 638) (by decide +kernel)⟩
theorem lw_p37 : lw_okq (⟨"LeftNumbersModel", "guessed", "(JIJJ)Z"⟩, 17) := ⟨⟨by decide +kernel, by decide +kernel⟩, List.mem_of_getElem? (i := 441) (by decide +kernel), List.mem_of_getElem? (i := 659) (by decide +kernel), List.mem_of_getElem? (i := 660) (by decide +kernel)⟩
theorem lw_p38 : lw_okq (⟨"LeftNumbersModel", "isFirst", "(IZ)Z"⟩, 17) := ⟨⟨by decide +kernel, by decide +kernel⟩, List.mem_of_getElem? (i := 441) (by decide +kernel), List.mem_of_getElem? (i := 683) (by decide +kernel), List.mem_of_getElem? (i := 684) (by decide +kernel)⟩
theorem lw_p39 : lw_okq (⟨"LeftNumbersModel", "rootOf", "(II)J"⟩, 17) := ⟨⟨by decide +kernel, by decide +kernel⟩, List.mem_of_getElem? (i := 441) (by decide +kernel), List.mem_of_getElem? (i := 694) (by decide +kernel), List.mem_of_getElem? (i := 695) (by decide +kernel)⟩
theorem lw_p40 : lw_okq (⟨"LeftNumbersModel", "firstRoot", "(J)I"⟩, 17) := ⟨⟨by decide +kernel, by decide +kernel⟩, List.mem_of_getElem? (i := 441) (by decide +kernel), List.mem_of_getElem? (i := 706) (by decide +kernel), List.mem_of_getElem? (i := 707) (by decide +kernel)⟩
theorem lw_p41 : lw_okq (⟨"LeftNumbersModel", "rootTwo", "(JI)J"⟩, 17) := ⟨⟨by decide +kernel, by decide +kernel⟩, List.mem_of_getElem? (i := 441) (by decide +kernel), List.mem_of_getElem? (i := 711) (by decide +kernel), List.mem_of_getElem? (i := 712) (by decide +kernel)⟩
theorem lw_p42 : lw_okq (⟨"LeftNumbersModel", "rootOdd", "(JII)J"⟩, 17) := ⟨⟨by decide +kernel, by decide +kernel⟩, List.mem_of_getElem? (i := 441) (by decide +kernel), List.mem_of_getElem? (i := 715) (by decide +kernel), List.mem_of_getElem? (i := 716) (by decide +kernel)⟩
def lw_privs_3 : List (MethodName × Nat) := [(⟨"LeftNumbersModel", "added", "(IIII)V"⟩, 17), (⟨"LeftNumbersModel", "knownTo", "(I)I"⟩, 17), (⟨"LeftNumbersModel", "from", "(III)J"⟩, 17), (⟨"LeftNumbersModel", "multiplied", "(IIII)V"⟩, 17), (⟨"LeftNumbersModel", "ratioFigure", "(II)I"⟩, 17), (⟨"LeftNumbersModel", "guessed", "(JIJJ)Z"⟩, 17), (⟨"LeftNumbersModel", "isFirst", "(IZ)Z"⟩, 17), (⟨"LeftNumbersModel", "rootOf", "(II)J"⟩, 17), (⟨"LeftNumbersModel", "firstRoot", "(J)I"⟩, 17), (⟨"LeftNumbersModel", "rootTwo", "(JI)J"⟩, 17), (⟨"LeftNumbersModel", "rootOdd", "(JII)J"⟩, 17)]
theorem lw_r3 : ∀ q ∈ lw_privs_3, lw_okq q := List.forall_mem_cons.mpr ⟨lw_p32, List.forall_mem_cons.mpr ⟨lw_p33, List.forall_mem_cons.mpr ⟨lw_p34, List.forall_mem_cons.mpr ⟨lw_p35, List.forall_mem_cons.mpr ⟨lw_p36, List.forall_mem_cons.mpr ⟨lw_p37, List.forall_mem_cons.mpr ⟨lw_p38, List.forall_mem_cons.mpr ⟨lw_p39, List.forall_mem_cons.mpr ⟨lw_p40, List.forall_mem_cons.mpr ⟨lw_p41, List.forall_mem_cons.mpr ⟨lw_p42, fun _ h => absurd h List.not_mem_nil⟩⟩⟩⟩⟩⟩⟩⟩⟩⟩⟩
def lw_privs : List (MethodName × Nat) := lw_privs_1 ++ (lw_privs_2 ++ (lw_privs_3))
def lw_tbl : List Cond := k2_sels lw_privs ++ tables_1
theorem lw_privs_ok : ∀ q ∈ lw_privs, lw_okq q := by
  show ∀ q ∈ lw_privs_1 ++ (lw_privs_2 ++ (lw_privs_3)), lw_okq q
  exact List.forall_mem_append.mpr ⟨lw_r1, List.forall_mem_append.mpr ⟨lw_r2, lw_r3⟩⟩
end
section
/-! ===== BEGIN words of one list among another's, by their places ===== -/
theorem goodIn_r {big : List Cond} (ws : List Cond) (ps : List Nat) (hp : ws = ps.filterMap (fun i => big[i]?)) (h : ws.all goodWord = true) : GoodIn big ws := by
  intro w hw
  have h1 := List.all_eq_true.mp h w hw
  rw [hp] at hw
  obtain ⟨i, -, hi⟩ := List.mem_filterMap.mp hw
  have hm : w ∈ big := by first | exact List.mem_of_getElem? hi | exact List.getElem?_mem hi
  exact ⟨hm, good_of_word h1⟩
theorem goodIn_app {big a b : List Cond} (ha : GoodIn big a) (hb : GoodIn big b) : GoodIn big (a ++ b) := fun w h => (List.mem_append.mp h).elim (ha w) (hb w)
theorem goodIn_ca {big a b : List Cond} {c : Cond} (ha : GoodIn big (c :: a)) (hb : GoodIn big b) : GoodIn big (c :: (a ++ b)) := fun w h => (List.mem_cons.mp h).elim (fun e => ha w (List.mem_cons.mpr (Or.inl e))) (fun h => (List.mem_append.mp h).elim (fun h => ha w (List.mem_cons.mpr (Or.inr h))) (hb w))
theorem goodIn_sub {big ws : List Cond} (hm : ∀ w ∈ ws, w ∈ big) (h : ws.all goodWord = true) : GoodIn big ws := fun w hw => ⟨hm w hw, good_of_word (List.all_eq_true.mp h w hw)⟩
/-! ===== END ===== -/

/-! ===== BEGIN printed: names, fields, word lists, decode rows ===== -/
def RX0 : String := "LeftNumbers$Arithmetic"
def TX0 : u_T := fun k => match k with
  | _ => ("LeftNumbers$Arithmetic", "figures", "LLeftNumbers$Figures;", true)
def tyX0 : Nat → FieldType := fun k => match k with
  | _ => .object "LeftNumbers$Figures"
abbrev wsX00 : List Cond := u_ws RX0 TX0 1
theorem nmX0 : ∀ a, a < 1 → ∀ b, b < 1 → a ≠ b → (TX0 a).2.1 ≠ (TX0 b).2.1 := by decide +kernel
theorem tyX0_ok : ∀ k, k < 1 → parseFieldDescriptor (TX0 k).2.2.1 = some (tyX0 k) := by decide +kernel
abbrev cX0_init : ByteArray := prog_2_method_1_code
def yX0_init : MethodName := ⟨RX0, "<init>", "(LLeftNumbers$Figures;)V"⟩
abbrev cX0_setFraction : ByteArray := prog_2_method_2_code
def yX0_setFraction : MethodName := ⟨RX0, "setFraction", "(JJLLeftNumbers$Value;)V"⟩
abbrev cX0_setFigures : ByteArray := prog_2_method_3_code
def yX0_setFigures : MethodName := ⟨RX0, "setFigures", "(IJILLeftNumbers$Value;)V"⟩
abbrev cX0_combine : ByteArray := prog_2_method_4_code
def yX0_combine : MethodName := ⟨RX0, "combine", "(ILLeftNumbers$Value;LLeftNumbers$Value;LLeftNumbers$Value;)V"⟩
abbrev cX0_combineRatios : ByteArray := prog_2_method_5_code
def yX0_combineRatios : MethodName := ⟨RX0, "combineRatios", "(ILLeftNumbers$Value;LLeftNumbers$Value;LLeftNumbers$Value;)V"⟩
abbrev cX0_add : ByteArray := prog_2_method_6_code
def yX0_add : MethodName := ⟨RX0, "add", "(LLeftNumbers$Value;LLeftNumbers$Value;ZLLeftNumbers$Value;)V"⟩
abbrev cX0_figuresFrom : ByteArray := prog_2_method_7_code
def yX0_figuresFrom : MethodName := ⟨RX0, "figuresFrom", "(LLeftNumbers$Value;II)J"⟩
abbrev cX0_multiply : ByteArray := prog_2_method_8_code
def yX0_multiply : MethodName := ⟨RX0, "multiply", "(LLeftNumbers$Value;LLeftNumbers$Value;ZLLeftNumbers$Value;)V"⟩
abbrev cX0_commonDivisor : ByteArray := prog_2_method_9_code
def yX0_commonDivisor : MethodName := ⟨RX0, "commonDivisor", "(JJ)J"⟩
def RX1 : String := "LeftNumbers$Figures"
def TX1 : u_T := fun k => match k with
  | 0 => ("LeftNumbers$Figures", "powers", "[J", true)
  | 1 => ("LeftNumbers$Figures", "p", "I", false)
  | _ => ("LeftNumbers$Figures", "most", "I", false)
def tyX1 : Nat → FieldType := fun k => match k with
  | 0 => .array .long
  | 1 => .int
  | _ => .int
abbrev wsX10 : List Cond := u_ws RX1 TX1 3
theorem nmX1 : ∀ a, a < 3 → ∀ b, b < 3 → a ≠ b → (TX1 a).2.1 ≠ (TX1 b).2.1 := by decide +kernel
theorem tyX1_ok : ∀ k, k < 3 → parseFieldDescriptor (TX1 k).2.2.1 = some (tyX1 k) := by decide +kernel
abbrev cX1_init : ByteArray := prog_3_method_1_code
def yX1_init : MethodName := ⟨RX1, "<init>", "()V"⟩
abbrev cX1_isPrime : ByteArray := prog_3_method_2_code
def yX1_isPrime : MethodName := ⟨RX1, "isPrime", "(I)Z"⟩
abbrev cX1_choose : ByteArray := prog_3_method_3_code
def yX1_choose : MethodName := ⟨RX1, "choose", "(I)V"⟩
abbrev cX1_power : ByteArray := prog_3_method_4_code
def yX1_power : MethodName := ⟨RX1, "power", "(I)J"⟩
abbrev cX1_reduce : ByteArray := prog_3_method_5_code
def yX1_reduce : MethodName := ⟨RX1, "reduce", "(JI)J"⟩
abbrev cX1_lowest : ByteArray := prog_3_method_6_code
def yX1_lowest : MethodName := ⟨RX1, "lowest", "(J)I"⟩
abbrev cX1_timesIn : ByteArray := prog_3_method_7_code
def yX1_timesIn : MethodName := ⟨RX1, "timesIn", "(J)I"⟩
abbrev cX1_strip : ByteArray := prog_3_method_8_code
def yX1_strip : MethodName := ⟨RX1, "strip", "(J)J"⟩
abbrev cX1_shiftDown : ByteArray := prog_3_method_9_code
def yX1_shiftDown : MethodName := ⟨RX1, "shiftDown", "(JI)J"⟩
abbrev cX1_product : ByteArray := prog_3_method_10_code
def yX1_product : MethodName := ⟨RX1, "product", "(JJI)J"⟩
abbrev cX1_inverse : ByteArray := prog_3_method_11_code
def yX1_inverse : MethodName := ⟨RX1, "inverse", "(JI)J"⟩
abbrev cX1_firstInverse : ByteArray := prog_3_method_12_code
def yX1_firstInverse : MethodName := ⟨RX1, "firstInverse", "(J)I"⟩
abbrev cX1_firstSquareRoot : ByteArray := prog_3_method_13_code
def yX1_firstSquareRoot : MethodName := ⟨RX1, "firstSquareRoot", "(I)I"⟩
abbrev cX1_tail : ByteArray := prog_3_method_14_code
def yX1_tail : MethodName := ⟨RX1, "tail", "(JJI)J"⟩
abbrev cX1_toThePrime : ByteArray := prog_3_method_15_code
def yX1_toThePrime : MethodName := ⟨RX1, "toThePrime", "(JI)J"⟩
abbrev cX1_valueAt : ByteArray := prog_3_method_16_code
def yX1_valueAt : MethodName := ⟨RX1, "valueAt", "([IJI)J"⟩
abbrev cX1_slopeAt : ByteArray := prog_3_method_17_code
def yX1_slopeAt : MethodName := ⟨RX1, "slopeAt", "([IJI)J"⟩
abbrev cX1_rootFrom : ByteArray := prog_3_method_18_code
def yX1_rootFrom : MethodName := ⟨RX1, "rootFrom", "([III)J"⟩
def RX2 : String := "LeftNumbers$Value"
def TX2 : u_T := fun k => match k with
  | 0 => ("LeftNumbers$Value", "polynomial", "[I", true)
  | 1 => ("LeftNumbers$Value", "kind", "I", false)
  | 2 => ("LeftNumbers$Value", "lift", "I", false)
  | 3 => ("LeftNumbers$Value", "sure", "I", false)
  | 4 => ("LeftNumbers$Value", "u", "J", false)
  | 5 => ("LeftNumbers$Value", "up", "I", false)
  | 6 => ("LeftNumbers$Value", "low", "I", false)
  | _ => ("LeftNumbers$Value", "first", "I", false)
def tyX2 : Nat → FieldType := fun k => match k with
  | 0 => .array .int
  | 1 => .int
  | 2 => .int
  | 3 => .int
  | 4 => .long
  | 5 => .int
  | 6 => .int
  | _ => .int
abbrev wsX20 : List Cond := u_ws RX2 TX2 8
theorem nmX2 : ∀ a, a < 8 → ∀ b, b < 8 → a ≠ b → (TX2 a).2.1 ≠ (TX2 b).2.1 := by decide +kernel
theorem tyX2_ok : ∀ k, k < 8 → parseFieldDescriptor (TX2 k).2.2.1 = some (tyX2 k) := by decide +kernel
abbrev cX2_init : ByteArray := prog_4_method_1_code
def yX2_init : MethodName := ⟨RX2, "<init>", "()V"⟩
abbrev cX2_set : ByteArray := prog_4_method_2_code
def yX2_set : MethodName := ⟨RX2, "set", "(IIIJ)V"⟩
abbrev cX2_copy : ByteArray := prog_4_method_3_code
def yX2_copy : MethodName := ⟨RX2, "copy", "(LLeftNumbers$Value;)V"⟩
abbrev cX2_isNought : ByteArray := prog_4_method_4_code
def yX2_isNought : MethodName := ⟨RX2, "isNought", "()Z"⟩
abbrev cX2_isZero : ByteArray := prog_4_method_5_code
def yX2_isZero : MethodName := ⟨RX2, "isZero", "()Z"⟩
abbrev cX2_isBeyond : ByteArray := prog_4_method_6_code
def yX2_isBeyond : MethodName := ⟨RX2, "isBeyond", "()Z"⟩
abbrev cX2_lowestPlace : ByteArray := prog_4_method_7_code
def yX2_lowestPlace : MethodName := ⟨RX2, "lowestPlace", "()I"⟩
abbrev cX2_endOfSure : ByteArray := prog_4_method_8_code
def yX2_endOfSure : MethodName := ⟨RX2, "endOfSure", "()I"⟩
def RX3 : String := "LeftNumbers"
def TX3 : u_T := fun k => match k with
  | 0 => ("LeftNumbers", "figures", "LLeftNumbers$Figures;", true)
  | 1 => ("LeftNumbers", "arithmetic", "LLeftNumbers$Arithmetic;", true)
  | 2 => ("LeftNumbers", "numbers", "[LLeftNumbers$Value;", true)
  | 3 => ("LeftNumbers", "polynomial", "[I", true)
  | 4 => ("LeftNumbers", "made", "LLeftNumbers$Value;", true)
  | 5 => ("LeftNumbers", "between", "LLeftNumbers$Value;", true)
  | 6 => ("LeftNumbers", "term", "LLeftNumbers$Value;", true)
  | 7 => ("LeftNumbers", "held", "I", false)
  | _ => ("LeftNumbers", "mayUndo", "Z", false)
def tyX3 : Nat → FieldType := fun k => match k with
  | 0 => .object "LeftNumbers$Figures"
  | 1 => .object "LeftNumbers$Arithmetic"
  | 2 => .array (.object "LeftNumbers$Value")
  | 3 => .array .int
  | 4 => .object "LeftNumbers$Value"
  | 5 => .object "LeftNumbers$Value"
  | 6 => .object "LeftNumbers$Value"
  | 7 => .int
  | _ => .boolean
abbrev wsX30 : List Cond := u_ws RX3 TX3 9
theorem nmX3 : ∀ a, a < 9 → ∀ b, b < 9 → a ≠ b → (TX3 a).2.1 ≠ (TX3 b).2.1 := by decide +kernel
theorem tyX3_ok : ∀ k, k < 9 → parseFieldDescriptor (TX3 k).2.2.1 = some (tyX3 k) := by decide +kernel
abbrev cX3_init : ByteArray := prog_1_method_1_code
def yX3_init : MethodName := ⟨RX3, "<init>", "()V"⟩
abbrev cX3_prime : ByteArray := prog_1_method_2_code
def yX3_prime : MethodName := ⟨RX3, "prime", "(I)I"⟩
abbrev cX3_ratio : ByteArray := prog_1_method_3_code
def yX3_ratio : MethodName := ⟨RX3, "ratio", "(II)I"⟩
abbrev cX3_number : ByteArray := prog_1_method_4_code
def yX3_number : MethodName := ⟨RX3, "number", "(IJI)I"⟩
abbrev cX3_shadow : ByteArray := prog_1_method_5_code
def yX3_shadow : MethodName := ⟨RX3, "shadow", "(II)I"⟩
abbrev cX3_of : ByteArray := prog_1_method_6_code
def yX3_of : MethodName := ⟨RX3, "of", "(III)I"⟩
abbrev cX3_kind : ByteArray := prog_1_method_7_code
def yX3_kind : MethodName := ⟨RX3, "kind", "(I)I"⟩
abbrev cX3_lift : ByteArray := prog_1_method_8_code
def yX3_lift : MethodName := ⟨RX3, "lift", "(I)I"⟩
abbrev cX3_sure : ByteArray := prog_1_method_9_code
def yX3_sure : MethodName := ⟨RX3, "sure", "(I)I"⟩
abbrev cX3_figure : ByteArray := prog_1_method_10_code
def yX3_figure : MethodName := ⟨RX3, "figure", "(II)I"⟩
abbrev cX3_told : ByteArray := prog_1_method_11_code
def yX3_told : MethodName := ⟨RX3, "told", "(I)J"⟩
abbrev cX3_part : ByteArray := prog_1_method_12_code
def yX3_part : MethodName := ⟨RX3, "part", "(II)I"⟩
abbrev cX3_near : ByteArray := prog_1_method_13_code
def yX3_near : MethodName := ⟨RX3, "near", "(III)I"⟩
abbrev cX3_guess : ByteArray := prog_1_method_14_code
def yX3_guess : MethodName := ⟨RX3, "guess", "(II)I"⟩
abbrev cX3_round : ByteArray := prog_1_method_15_code
def yX3_round : MethodName := ⟨RX3, "round", "(II)I"⟩
abbrev cX3_coefficient : ByteArray := prog_1_method_16_code
def yX3_coefficient : MethodName := ⟨RX3, "coefficient", "(II)I"⟩
abbrev cX3_at : ByteArray := prog_1_method_17_code
def yX3_at : MethodName := ⟨RX3, "at", "(I)I"⟩
abbrev cX3_firsts : ByteArray := prog_1_method_18_code
def yX3_firsts : MethodName := ⟨RX3, "firsts", "(I)I"⟩
abbrev cX3_root : ByteArray := prog_1_method_19_code
def yX3_root : MethodName := ⟨RX3, "root", "(II)I"⟩
abbrev cX3_more : ByteArray := prog_1_method_20_code
def yX3_more : MethodName := ⟨RX3, "more", "(II)I"⟩
abbrev cX3_square : ByteArray := prog_1_method_21_code
def yX3_square : MethodName := ⟨RX3, "square", "(I)I"⟩
abbrev cX3_unit : ByteArray := prog_1_method_22_code
def yX3_unit : MethodName := ⟨RX3, "unit", "(I)I"⟩
abbrev cX3_undo : ByteArray := prog_1_method_23_code
def yX3_undo : MethodName := ⟨RX3, "undo", "()I"⟩
abbrev cX3_count : ByteArray := prog_1_method_24_code
def yX3_count : MethodName := ⟨RX3, "count", "(I)I"⟩
abbrev cX3_find : ByteArray := prog_1_method_25_code
def yX3_find : MethodName := ⟨RX3, "find", "(I)LLeftNumbers$Value;"⟩
abbrev cX3_keep : ByteArray := prog_1_method_26_code
def yX3_keep : MethodName := ⟨RX3, "keep", "(LLeftNumbers$Value;)I"⟩
abbrev cX3_isNoSure : ByteArray := prog_1_method_27_code
def yX3_isNoSure : MethodName := ⟨RX3, "isNoSure", "(I)Z"⟩
abbrev cX3_isTooGreat : ByteArray := prog_1_method_28_code
def yX3_isTooGreat : MethodName := ⟨RX3, "isTooGreat", "(II)Z"⟩
abbrev cX3_ratioFigure : ByteArray := prog_1_method_29_code
def yX3_ratioFigure : MethodName := ⟨RX3, "ratioFigure", "(LLeftNumbers$Value;I)I"⟩
abbrev cX3_comingRound : ByteArray := prog_1_method_30_code
def yX3_comingRound : MethodName := ⟨RX3, "comingRound", "(LLeftNumbers$Value;Z)I"⟩
abbrev cX3_copyWithin : ByteArray := prog_1_method_31_code
def yX3_copyWithin : MethodName := ⟨RX3, "copyWithin", "(LLeftNumbers$Value;I)Z"⟩
abbrev cX3_fractionWithin : ByteArray := prog_1_method_32_code
def yX3_fractionWithin : MethodName := ⟨RX3, "fractionWithin", "(LLeftNumbers$Value;I)Z"⟩
abbrev cX3_isGood : ByteArray := prog_1_method_33_code
def yX3_isGood : MethodName := ⟨RX3, "isGood", "(I)Z"⟩
abbrev cX3_isStuck : ByteArray := prog_1_method_34_code
def yX3_isStuck : MethodName := ⟨RX3, "isStuck", "(I)Z"⟩
abbrev cX3_setRoot : ByteArray := prog_1_method_35_code
def yX3_setRoot : MethodName := ⟨RX3, "setRoot", "(LLeftNumbers$Value;I)V"⟩
abbrev cX3_squareOfTwo : ByteArray := prog_1_method_36_code
def yX3_squareOfTwo : MethodName := ⟨RX3, "squareOfTwo", "(LLeftNumbers$Value;)I"⟩
abbrev cX3_squareOfOdd : ByteArray := prog_1_method_37_code
def yX3_squareOfOdd : MethodName := ⟨RX3, "squareOfOdd", "(LLeftNumbers$Value;)I"⟩
def RX4 : String := "LeftNumbersModel"
def TX4 : u_T := fun k => match k with
  | 0 => ("LeftNumbersModel", "p", "I", false)
  | 1 => ("LeftNumbersModel", "top", "I", false)
  | 2 => ("LeftNumbersModel", "power", "[J", true)
  | 3 => ("LeftNumbersModel", "many", "I", false)
  | 4 => ("LeftNumbersModel", "mayUndo", "Z", false)
  | 5 => ("LeftNumbersModel", "kind", "[I", true)
  | 6 => ("LeftNumbersModel", "lift", "[I", true)
  | 7 => ("LeftNumbersModel", "sure", "[I", true)
  | 8 => ("LeftNumbersModel", "bits", "[J", true)
  | 9 => ("LeftNumbersModel", "up", "[J", true)
  | 10 => ("LeftNumbersModel", "low", "[J", true)
  | 11 => ("LeftNumbersModel", "first", "[I", true)
  | 12 => ("LeftNumbersModel", "kept", "[I", true)
  | 13 => ("LeftNumbersModel", "poly", "[I", true)
  | 14 => ("LeftNumbersModel", "guessR", "J", false)
  | 15 => ("LeftNumbersModel", "guessS", "J", false)
  | _ => ("LeftNumbersModel", "states", "[J", true)
def tyX4 : Nat → FieldType := fun k => match k with
  | 0 => .int
  | 1 => .int
  | 2 => .array .long
  | 3 => .int
  | 4 => .boolean
  | 5 => .array .int
  | 6 => .array .int
  | 7 => .array .int
  | 8 => .array .long
  | 9 => .array .long
  | 10 => .array .long
  | 11 => .array .int
  | 12 => .array .int
  | 13 => .array .int
  | 14 => .long
  | 15 => .long
  | _ => .array .long
abbrev wsX40 : List Cond := u_ws RX4 TX4 17
theorem nmX4 : ∀ a, a < 17 → ∀ b, b < 17 → a ≠ b → (TX4 a).2.1 ≠ (TX4 b).2.1 := by decide +kernel
theorem tyX4_ok : ∀ k, k < 17 → parseFieldDescriptor (TX4 k).2.2.1 = some (tyX4 k) := by decide +kernel
abbrev cX4_init : ByteArray := prog_6_method_1_code
def yX4_init : MethodName := ⟨RX4, "<init>", "()V"⟩
abbrev cX4_in : ByteArray := prog_6_method_2_code
def yX4_in : MethodName := ⟨RX4, "in", "(JJJ)Z"⟩
abbrev cX4_powers : ByteArray := prog_6_method_3_code
def yX4_powers : MethodName := ⟨RX4, "powers", "()V"⟩
abbrev cX4_prime : ByteArray := prog_6_method_4_code
def yX4_prime : MethodName := ⟨RX4, "prime", "(I)I"⟩
abbrev cX4_into : ByteArray := prog_6_method_5_code
def yX4_into : MethodName := ⟨RX4, "into", "(JJ)J"⟩
abbrev cX4_times : ByteArray := prog_6_method_6_code
def yX4_times : MethodName := ⟨RX4, "times", "(JJJ)J"⟩
abbrev cX4_raised : ByteArray := prog_6_method_7_code
def yX4_raised : MethodName := ⟨RX4, "raised", "(JIJ)J"⟩
abbrev cX4_inverse : ByteArray := prog_6_method_8_code
def yX4_inverse : MethodName := ⟨RX4, "inverse", "(JI)J"⟩
abbrev cX4_divisor : ByteArray := prog_6_method_9_code
def yX4_divisor : MethodName := ⟨RX4, "divisor", "(JJ)J"⟩
abbrev cX4_often : ByteArray := prog_6_method_10_code
def yX4_often : MethodName := ⟨RX4, "often", "(J)I"⟩
abbrev cX4_without : ByteArray := prog_6_method_11_code
def yX4_without : MethodName := ⟨RX4, "without", "(J)J"⟩
abbrev cX4_lay : ByteArray := prog_6_method_12_code
def yX4_lay : MethodName := ⟨RX4, "lay", "(IIIIJ)V"⟩
abbrev cX4_figuresOf : ByteArray := prog_6_method_13_code
def yX4_figuresOf : MethodName := ⟨RX4, "figuresOf", "(JJ)J"⟩
abbrev cX4_layFraction : ByteArray := prog_6_method_14_code
def yX4_layFraction : MethodName := ⟨RX4, "layFraction", "(IJJ)V"⟩
abbrev cX4_settle : ByteArray := prog_6_method_15_code
def yX4_settle : MethodName := ⟨RX4, "settle", "(IIIIJ)V"⟩
abbrev cX4_isNumber : ByteArray := prog_6_method_16_code
def yX4_isNumber : MethodName := ⟨RX4, "isNumber", "(I)Z"⟩
abbrev cX4_isZero : ByteArray := prog_6_method_17_code
def yX4_isZero : MethodName := ⟨RX4, "isZero", "(I)Z"⟩
abbrev cX4_isNought : ByteArray := prog_6_method_18_code
def yX4_isNought : MethodName := ⟨RX4, "isNought", "(I)Z"⟩
abbrev cX4_isBeyond : ByteArray := prog_6_method_19_code
def yX4_isBeyond : MethodName := ⟨RX4, "isBeyond", "(I)Z"⟩
abbrev cX4_copy : ByteArray := prog_6_method_20_code
def yX4_copy : MethodName := ⟨RX4, "copy", "(II)V"⟩
abbrev cX4_keep : ByteArray := prog_6_method_21_code
def yX4_keep : MethodName := ⟨RX4, "keep", "(I)I"⟩
abbrev cX4_ratio : ByteArray := prog_6_method_22_code
def yX4_ratio : MethodName := ⟨RX4, "ratio", "(II)I"⟩
abbrev cX4_number : ByteArray := prog_6_method_23_code
def yX4_number : MethodName := ⟨RX4, "number", "(IJI)I"⟩
abbrev cX4_shadow : ByteArray := prog_6_method_24_code
def yX4_shadow : MethodName := ⟨RX4, "shadow", "(II)I"⟩
abbrev cX4_ofRatios : ByteArray := prog_6_method_25_code
def yX4_ofRatios : MethodName := ⟨RX4, "ofRatios", "(IIII)V"⟩
abbrev cX4_knownTo : ByteArray := prog_6_method_26_code
def yX4_knownTo : MethodName := ⟨RX4, "knownTo", "(I)I"⟩
abbrev cX4_from : ByteArray := prog_6_method_27_code
def yX4_from : MethodName := ⟨RX4, "from", "(III)J"⟩
abbrev cX4_added : ByteArray := prog_6_method_28_code
def yX4_added : MethodName := ⟨RX4, "added", "(IIII)V"⟩
abbrev cX4_multiplied : ByteArray := prog_6_method_29_code
def yX4_multiplied : MethodName := ⟨RX4, "multiplied", "(IIII)V"⟩
abbrev cX4_reckon : ByteArray := prog_6_method_30_code
def yX4_reckon : MethodName := ⟨RX4, "reckon", "(IIII)I"⟩
abbrev cX4_of : ByteArray := prog_6_method_31_code
def yX4_of : MethodName := ⟨RX4, "of", "(III)I"⟩
abbrev cX4_kind : ByteArray := prog_6_method_32_code
def yX4_kind : MethodName := ⟨RX4, "kind", "(I)I"⟩
abbrev cX4_lift : ByteArray := prog_6_method_33_code
def yX4_lift : MethodName := ⟨RX4, "lift", "(I)I"⟩
abbrev cX4_sure : ByteArray := prog_6_method_34_code
def yX4_sure : MethodName := ⟨RX4, "sure", "(I)I"⟩
abbrev cX4_ratioFigure : ByteArray := prog_6_method_35_code
def yX4_ratioFigure : MethodName := ⟨RX4, "ratioFigure", "(II)I"⟩
abbrev cX4_figure : ByteArray := prog_6_method_36_code
def yX4_figure : MethodName := ⟨RX4, "figure", "(II)I"⟩
abbrev cX4_told : ByteArray := prog_6_method_37_code
def yX4_told : MethodName := ⟨RX4, "told", "(I)J"⟩
abbrev cX4_part : ByteArray := prog_6_method_38_code
def yX4_part : MethodName := ⟨RX4, "part", "(II)I"⟩
abbrev cX4_near : ByteArray := prog_6_method_39_code
def yX4_near : MethodName := ⟨RX4, "near", "(III)I"⟩
abbrev cX4_guessed : ByteArray := prog_6_method_40_code
def yX4_guessed : MethodName := ⟨RX4, "guessed", "(JIJJ)Z"⟩
abbrev cX4_guess : ByteArray := prog_6_method_41_code
def yX4_guess : MethodName := ⟨RX4, "guess", "(II)I"⟩
abbrev cX4_round : ByteArray := prog_6_method_42_code
def yX4_round : MethodName := ⟨RX4, "round", "(II)I"⟩
abbrev cX4_coefficient : ByteArray := prog_6_method_43_code
def yX4_coefficient : MethodName := ⟨RX4, "coefficient", "(II)I"⟩
abbrev cX4_at : ByteArray := prog_6_method_44_code
def yX4_at : MethodName := ⟨RX4, "at", "(I)I"⟩
abbrev cX4_valueAt : ByteArray := prog_6_method_45_code
def yX4_valueAt : MethodName := ⟨RX4, "valueAt", "([IIJJ)J"⟩
abbrev cX4_isFirst : ByteArray := prog_6_method_46_code
def yX4_isFirst : MethodName := ⟨RX4, "isFirst", "(IZ)Z"⟩
abbrev cX4_firsts : ByteArray := prog_6_method_47_code
def yX4_firsts : MethodName := ⟨RX4, "firsts", "(I)I"⟩
abbrev cX4_rootOf : ByteArray := prog_6_method_48_code
def yX4_rootOf : MethodName := ⟨RX4, "rootOf", "(II)J"⟩
abbrev cX4_root : ByteArray := prog_6_method_49_code
def yX4_root : MethodName := ⟨RX4, "root", "(II)I"⟩
abbrev cX4_more : ByteArray := prog_6_method_50_code
def yX4_more : MethodName := ⟨RX4, "more", "(II)I"⟩
abbrev cX4_firstRoot : ByteArray := prog_6_method_51_code
def yX4_firstRoot : MethodName := ⟨RX4, "firstRoot", "(J)I"⟩
abbrev cX4_rootOdd : ByteArray := prog_6_method_52_code
def yX4_rootOdd : MethodName := ⟨RX4, "rootOdd", "(JII)J"⟩
abbrev cX4_rootTwo : ByteArray := prog_6_method_53_code
def yX4_rootTwo : MethodName := ⟨RX4, "rootTwo", "(JI)J"⟩
abbrev cX4_square : ByteArray := prog_6_method_54_code
def yX4_square : MethodName := ⟨RX4, "square", "(I)I"⟩
abbrev cX4_unit : ByteArray := prog_6_method_55_code
def yX4_unit : MethodName := ⟨RX4, "unit", "(I)I"⟩
abbrev cX4_undo : ByteArray := prog_6_method_56_code
def yX4_undo : MethodName := ⟨RX4, "undo", "()I"⟩
abbrev cX4_count : ByteArray := prog_6_method_57_code
def yX4_count : MethodName := ⟨RX4, "count", "(I)I"⟩
def RJ9 : String := "java/lang/Math"
def TJ9 : u_T := fun k => match k with
  | _ => ("", "", "", false)
def tyJ9 : Nat → FieldType := fun k => match k with
  | _ => .int
abbrev wsJ90 : List Cond := u_ws RJ9 TJ9 0
theorem nmJ9 : ∀ a, a < 0 → ∀ b, b < 0 → a ≠ b → (TJ9 a).2.1 ≠ (TJ9 b).2.1 := by decide +kernel
theorem tyJ9_ok : ∀ k, k < 0 → parseFieldDescriptor (TJ9 k).2.2.1 = some (tyJ9 k) := by decide +kernel
abbrev cJ9_floorMod_f86c9 : ByteArray := prog_7_method_52_code
def yJ9_floorMod_f86c9 : MethodName := ⟨RJ9, "floorMod", "(JJ)J"⟩
abbrev cJ9_abs_067f4 : ByteArray := prog_7_method_61_code
def yJ9_abs_067f4 : MethodName := ⟨RJ9, "abs", "(J)J"⟩
abbrev cJ9_max_7cf53 : ByteArray := prog_7_method_65_code
def yJ9_max_7cf53 : MethodName := ⟨RJ9, "max", "(II)I"⟩
abbrev cJ9_min_7cf53 : ByteArray := prog_7_method_69_code
def yJ9_min_7cf53 : MethodName := ⟨RJ9, "min", "(II)I"⟩
def RJ10 : String := "java/lang/System"
def TJ10 : u_T := fun k => match k with
  | _ => ("", "", "", false)
def tyJ10 : Nat → FieldType := fun k => match k with
  | _ => .int
abbrev wsJ100 : List Cond := u_ws RJ10 TJ10 0
theorem nmJ10 : ∀ a, a < 0 → ∀ b, b < 0 → a ≠ b → (TJ10 a).2.1 ≠ (TJ10 b).2.1 := by decide +kernel
theorem tyJ10_ok : ∀ k, k < 0 → parseFieldDescriptor (TJ10 k).2.2.1 = some (tyJ10 k) := by decide +kernel
def RL : String := "LeftNumbersLaw"
abbrev cL_law : ByteArray := code
abbrev vwCl : List vw_C := [(RX0, TX0, 1), (RX1, TX1, 3), (RX2, TX2, 8), (RX3, TX3, 9), (RX4, TX4, 17)]
end
section
/-! the words of the tables that stay: every method's words are its code and these -/
def wA : List Cond := lw_tbl.filter goodWord
theorem wA_tbl : ∀ w ∈ wA, w ∈ lw_tbl := fun _ h => (List.mem_filter.mp h).1
theorem wA_good : ∀ w ∈ wA, goodWord w = true := fun _ h => (List.mem_filter.mp h).2
theorem wA_1 {w : Cond} (i : Nat) (h : tables_1_1[i]? = some w) (g : goodWord w = true) : w ∈ wA := List.mem_filter.mpr ⟨List.mem_append_right _ (List.mem_append_left _ (List.mem_of_getElem? h)), g⟩
theorem wA_2 {w : Cond} (i : Nat) (h : tables_1_2[i]? = some w) (g : goodWord w = true) : w ∈ wA := List.mem_filter.mpr ⟨List.mem_append_right _ (List.mem_append_right _ (List.mem_append_left _ (List.mem_of_getElem? h))), g⟩
theorem wA_3 {w : Cond} (i : Nat) (h : tables_1_3[i]? = some w) (g : goodWord w = true) : w ∈ wA := List.mem_filter.mpr ⟨List.mem_append_right _ (List.mem_append_right _ (List.mem_append_right _ (List.mem_append_left _ (List.mem_of_getElem? h)))), g⟩
theorem wA_4 {w : Cond} (i : Nat) (h : tables_1_4[i]? = some w) (g : goodWord w = true) : w ∈ wA := List.mem_filter.mpr ⟨List.mem_append_right _ (List.mem_append_right _ (List.mem_append_right _ (List.mem_append_right _ (List.mem_of_getElem? h)))), g⟩
theorem wA_p {w : Cond} (i : Nat) (h : (k2_sels lw_privs)[i]? = some w) (g : goodWord w = true) : w ∈ wA := List.mem_filter.mpr ⟨List.mem_append_left _ (List.mem_of_getElem? h), g⟩
theorem wA_v {own C : String} {idx n : Nat} {y : MethodName} {cc : ByteArray} {ret : Option FieldType} (h1 : Cond.methodLink own idx y ∈ wA) (h2 : Cond.instanceMethod y ∈ wA) (h3 : Cond.selects C y y ∈ wA) (h4 : Cond.initialized C ∈ wA) (h5 : Cond.code y cc n ret ∈ wA) : GoodIn wA (wsV own idx C y (.code y cc n ret :: wA)) := by
  intro w h
  have hw : w ∈ wA := by
    rcases List.mem_append.mp h with h | h
    · simp only [List.mem_cons, List.not_mem_nil, or_false] at h
      rcases h with rfl | rfl | rfl | rfl <;> assumption
    · rcases List.mem_cons.mp h with rfl | h
      · exact h5
      · exact h
  exact ⟨hw, good_of_word (wA_good w hw)⟩
theorem wA_s {own : String} {idx n : Nat} {y : MethodName} {cc : ByteArray} {ret : Option FieldType} (h1 : Cond.methodLink own idx y ∈ wA) (h2 : Cond.static y ∈ wA) (h3 : Cond.initialized y.cls ∈ wA) (h5 : Cond.code y cc n ret ∈ wA) : GoodIn wA (va_wsS own idx y (.code y cc n ret :: wA)) := by
  intro w h
  have hw : w ∈ wA := by
    rcases List.mem_append.mp h with h | h
    · simp only [List.mem_cons, List.not_mem_nil, or_false] at h
      rcases h with rfl | rfl | rfl <;> assumption
    · rcases List.mem_cons.mp h with rfl | h
      · exact h5
      · exact h
  exact ⟨hw, good_of_word (wA_good w hw)⟩
theorem wA_c {n : Nat} {y : MethodName} {cc : ByteArray} {ret : Option FieldType} (h5 : Cond.code y cc n ret ∈ wA) : GoodIn wA (.code y cc n ret :: wA) := by
  intro w h
  have hw : w ∈ wA := by
    rcases List.mem_cons.mp h with rfl | h
    · exact h5
    · exact h
  exact ⟨hw, good_of_word (wA_good w hw)⟩
theorem tw_0 : Cond.initialized "LeftNumbersLaw" ∈ wA := wA_1 0 (by decide +kernel) rfl
theorem tw_1 : Cond.initialized "LeftNumbers" ∈ wA := wA_1 1 (by decide +kernel) rfl
theorem tw_2 : Cond.initialized "LeftNumbers$Figures" ∈ wA := wA_1 2 (by decide +kernel) rfl
theorem tw_3 : Cond.initialized "LeftNumbers$Arithmetic" ∈ wA := wA_1 3 (by decide +kernel) rfl
theorem tw_4 : Cond.initialized "LeftNumbers$Value" ∈ wA := wA_1 4 (by decide +kernel) rfl
theorem tw_5 : Cond.initialized "LeftNumbersModel" ∈ wA := wA_1 5 (by decide +kernel) rfl
theorem tw_6 : Cond.initialized "java/lang/Math" ∈ wA := wA_1 6 (by decide +kernel) rfl
theorem tw_7 : Cond.initialized "java/lang/System" ∈ wA := wA_1 7 (by decide +kernel) rfl
theorem tw_8 : Cond.classLink "LeftNumbersLaw" 7 "LeftNumbers" ∈ wA := wA_1 8 (by decide +kernel) rfl
theorem tw_9 : Cond.instantiable "LeftNumbers" 9 ∈ wA := wA_1 9 (by decide +kernel) rfl
theorem tw_10 : Cond.methodLink "LeftNumbersLaw" 9 yX3_init ∈ wA := wA_1 10 (by decide +kernel) rfl
theorem tw_11 : Cond.instanceMethod yX3_init ∈ wA := wA_1 11 (by decide +kernel) rfl
theorem tw_12 : Cond.code yX3_init cX3_init 2 none ∈ wA := wA_1 12 rfl rfl
theorem tw_13 : Cond.methodLink "LeftNumbers" 1 objectInit ∈ wA := wA_1 13 (by decide +kernel) rfl
theorem tw_14 : Cond.instanceMethod objectInit ∈ wA := wA_1 14 (by decide +kernel) rfl
theorem tw_15 : Cond.code objectInit object_method_1_code 1 none ∈ wA := wA_1 15 rfl rfl
theorem tw_16 : Cond.classLink "LeftNumbers" 7 "LeftNumbers$Figures" ∈ wA := wA_1 16 (by decide +kernel) rfl
theorem tw_17 : Cond.instantiable "LeftNumbers$Figures" 3 ∈ wA := wA_1 17 (by decide +kernel) rfl
theorem tw_18 : Cond.methodLink "LeftNumbers" 9 yX1_init ∈ wA := wA_1 18 (by decide +kernel) rfl
theorem tw_19 : Cond.instanceMethod yX1_init ∈ wA := wA_1 19 (by decide +kernel) rfl
theorem tw_20 : Cond.code yX1_init cX1_init 1 none ∈ wA := wA_1 20 rfl rfl
theorem tw_21 : Cond.methodLink "LeftNumbers$Figures" 1 objectInit ∈ wA := wA_1 21 (by decide +kernel) rfl
theorem tw_22 : Cond.methodLink "LeftNumbers$Figures" 20 yX1_choose ∈ wA := wA_1 22 (by decide +kernel) rfl
theorem tw_23 : Cond.instanceMethod yX1_choose ∈ wA := wA_1 23 (by decide +kernel) rfl
theorem tw_24 : Cond.selects "LeftNumbers$Figures" yX1_choose yX1_choose ∈ wA := wA_1 24 (by decide +kernel) rfl
theorem tw_25 : Cond.code yX1_choose cX1_choose 3 none ∈ wA := wA_1 25 rfl rfl
theorem tw_26 : Cond.constantLong "LeftNumbers$Figures" 28 1000000000000000000 ∈ wA := wA_1 26 (by decide +kernel) rfl
theorem tw_27 : Cond.fieldLink "LeftNumbers$Figures" 7 "LeftNumbers$Figures" "powers" "[J" ∈ wA := wA_1 27 (by decide +kernel) rfl
theorem tw_28 : Cond.fieldLink "LeftNumbers$Figures" 13 "LeftNumbers$Figures" "p" "I" ∈ wA := wA_1 28 (by decide +kernel) rfl
theorem tw_29 : Cond.fieldLink "LeftNumbers" 155 "LeftNumbers$Figures" "p" "I" ∈ wA := wA_1 29 (by decide +kernel) rfl
theorem tw_30 : Cond.fieldLink "LeftNumbers$Figures" 17 "LeftNumbers$Figures" "most" "I" ∈ wA := wA_1 30 (by decide +kernel) rfl
theorem tw_31 : Cond.fieldLink "LeftNumbers" 62 "LeftNumbers$Figures" "most" "I" ∈ wA := wA_1 31 (by decide +kernel) rfl
theorem tw_32 : Cond.fieldLink "LeftNumbers$Arithmetic" 27 "LeftNumbers$Figures" "most" "I" ∈ wA := wA_1 32 (by decide +kernel) rfl
theorem tw_40 : Cond.arrayClass Jvm.ClassFile.FieldType.long ∈ wA := wA_1 40 (by decide +kernel) rfl
theorem tw_41 : Cond.classLink "LeftNumbers" 16 "LeftNumbers$Arithmetic" ∈ wA := wA_1 41 (by decide +kernel) rfl
theorem tw_42 : Cond.instantiable "LeftNumbers$Arithmetic" 1 ∈ wA := wA_1 42 (by decide +kernel) rfl
theorem tw_43 : Cond.methodLink "LeftNumbers" 18 yX0_init ∈ wA := wA_1 43 (by decide +kernel) rfl
theorem tw_44 : Cond.instanceMethod yX0_init ∈ wA := wA_1 44 (by decide +kernel) rfl
theorem tw_45 : Cond.code yX0_init cX0_init 2 none ∈ wA := wA_1 45 rfl rfl
theorem tw_46 : Cond.methodLink "LeftNumbers$Arithmetic" 3 objectInit ∈ wA := wA_1 46 (by decide +kernel) rfl
theorem tw_47 : Cond.fieldLink "LeftNumbers$Arithmetic" 9 "LeftNumbers$Arithmetic" "figures" "LLeftNumbers$Figures;" ∈ wA := wA_1 47 (by decide +kernel) rfl
theorem tw_51 : Cond.classLink "LeftNumbers" 25 "LeftNumbers$Value" ∈ wA := wA_1 51 (by decide +kernel) rfl
theorem tw_53 : Cond.instantiable "LeftNumbers$Value" 8 ∈ wA := wA_1 53 (by decide +kernel) rfl
theorem tw_55 : Cond.instanceMethod yX2_init ∈ wA := wA_1 55 (by decide +kernel) rfl
theorem tw_56 : Cond.code yX2_init cX2_init 1 none ∈ wA := wA_1 56 rfl rfl
theorem tw_57 : Cond.methodLink "LeftNumbers$Value" 3 objectInit ∈ wA := wA_1 57 (by decide +kernel) rfl
theorem tw_58 : Cond.fieldLink "LeftNumbers$Value" 9 "LeftNumbers$Value" "polynomial" "[I" ∈ wA := wA_1 58 (by decide +kernel) rfl
theorem tw_59 : Cond.fieldLink "LeftNumbers" 167 "LeftNumbers$Value" "polynomial" "[I" ∈ wA := wA_1 59 (by decide +kernel) rfl
theorem tw_60 : Cond.fieldLink "LeftNumbers$Value" 15 "LeftNumbers$Value" "kind" "I" ∈ wA := wA_1 60 (by decide +kernel) rfl
theorem tw_61 : Cond.fieldLink "LeftNumbers$Arithmetic" 63 "LeftNumbers$Value" "kind" "I" ∈ wA := wA_1 61 (by decide +kernel) rfl
theorem tw_62 : Cond.fieldLink "LeftNumbers" 118 "LeftNumbers$Value" "kind" "I" ∈ wA := wA_1 62 (by decide +kernel) rfl
theorem tw_63 : Cond.fieldLink "LeftNumbers$Value" 19 "LeftNumbers$Value" "lift" "I" ∈ wA := wA_1 63 (by decide +kernel) rfl
theorem tw_64 : Cond.fieldLink "LeftNumbers" 103 "LeftNumbers$Value" "lift" "I" ∈ wA := wA_1 64 (by decide +kernel) rfl
theorem tw_65 : Cond.fieldLink "LeftNumbers$Arithmetic" 115 "LeftNumbers$Value" "lift" "I" ∈ wA := wA_1 65 (by decide +kernel) rfl
theorem tw_66 : Cond.fieldLink "LeftNumbers$Value" 22 "LeftNumbers$Value" "sure" "I" ∈ wA := wA_1 66 (by decide +kernel) rfl
theorem tw_67 : Cond.fieldLink "LeftNumbers" 93 "LeftNumbers$Value" "sure" "I" ∈ wA := wA_1 67 (by decide +kernel) rfl
theorem tw_68 : Cond.fieldLink "LeftNumbers$Arithmetic" 112 "LeftNumbers$Value" "sure" "I" ∈ wA := wA_1 68 (by decide +kernel) rfl
theorem tw_69 : Cond.fieldLink "LeftNumbers$Value" 25 "LeftNumbers$Value" "u" "J" ∈ wA := wA_1 69 (by decide +kernel) rfl
theorem tw_70 : Cond.fieldLink "LeftNumbers" 106 "LeftNumbers$Value" "u" "J" ∈ wA := wA_1 70 (by decide +kernel) rfl
theorem tw_71 : Cond.fieldLink "LeftNumbers$Arithmetic" 100 "LeftNumbers$Value" "u" "J" ∈ wA := wA_1 71 (by decide +kernel) rfl
theorem tw_72 : Cond.fieldLink "LeftNumbers$Value" 29 "LeftNumbers$Value" "up" "I" ∈ wA := wA_1 72 (by decide +kernel) rfl
theorem tw_73 : Cond.fieldLink "LeftNumbers$Arithmetic" 57 "LeftNumbers$Value" "up" "I" ∈ wA := wA_1 73 (by decide +kernel) rfl
theorem tw_74 : Cond.fieldLink "LeftNumbers" 131 "LeftNumbers$Value" "up" "I" ∈ wA := wA_1 74 (by decide +kernel) rfl
theorem tw_75 : Cond.fieldLink "LeftNumbers$Value" 32 "LeftNumbers$Value" "low" "I" ∈ wA := wA_1 75 (by decide +kernel) rfl
theorem tw_76 : Cond.fieldLink "LeftNumbers$Arithmetic" 60 "LeftNumbers$Value" "low" "I" ∈ wA := wA_1 76 (by decide +kernel) rfl
theorem tw_77 : Cond.fieldLink "LeftNumbers" 134 "LeftNumbers$Value" "low" "I" ∈ wA := wA_1 77 (by decide +kernel) rfl
theorem tw_78 : Cond.fieldLink "LeftNumbers$Value" 35 "LeftNumbers$Value" "first" "I" ∈ wA := wA_1 78 (by decide +kernel) rfl
theorem tw_79 : Cond.fieldLink "LeftNumbers" 164 "LeftNumbers$Value" "first" "I" ∈ wA := wA_1 79 (by decide +kernel) rfl
theorem tw_97 : Cond.arrayClass Jvm.ClassFile.FieldType.int ∈ wA := wA_1 97 (by decide +kernel) rfl
theorem tw_98 : Cond.fieldLink "LeftNumbers" 10 "LeftNumbers" "figures" "LLeftNumbers$Figures;" ∈ wA := wA_1 98 (by decide +kernel) rfl
theorem tw_99 : Cond.fieldLink "LeftNumbers" 21 "LeftNumbers" "arithmetic" "LLeftNumbers$Arithmetic;" ∈ wA := wA_1 99 (by decide +kernel) rfl
theorem tw_100 : Cond.fieldLink "LeftNumbers" 27 "LeftNumbers" "numbers" "[LLeftNumbers$Value;" ∈ wA := wA_1 100 (by decide +kernel) rfl
theorem tw_101 : Cond.fieldLink "LeftNumbers" 31 "LeftNumbers" "polynomial" "[I" ∈ wA := wA_1 101 (by decide +kernel) rfl
theorem tw_102 : Cond.fieldLink "LeftNumbers" 36 "LeftNumbers" "made" "LLeftNumbers$Value;" ∈ wA := wA_1 102 (by decide +kernel) rfl
theorem tw_103 : Cond.fieldLink "LeftNumbers" 40 "LeftNumbers" "between" "LLeftNumbers$Value;" ∈ wA := wA_1 103 (by decide +kernel) rfl
theorem tw_104 : Cond.fieldLink "LeftNumbers" 43 "LeftNumbers" "term" "LLeftNumbers$Value;" ∈ wA := wA_1 104 (by decide +kernel) rfl
theorem tw_105 : Cond.fieldLink "LeftNumbers" 46 "LeftNumbers" "held" "I" ∈ wA := wA_1 105 (by decide +kernel) rfl
theorem tw_106 : Cond.fieldLink "LeftNumbers" 50 "LeftNumbers" "mayUndo" "Z" ∈ wA := wA_1 106 (by decide +kernel) rfl
theorem tw_126 : Cond.methodLink "LeftNumbersLaw" 13 yX3_prime ∈ wA := wA_1 126 (by decide +kernel) rfl
theorem tw_127 : Cond.instanceMethod yX3_prime ∈ wA := wA_1 127 (by decide +kernel) rfl
theorem tw_128 : Cond.selects "LeftNumbers" yX3_prime yX3_prime ∈ wA := wA_1 128 (by decide +kernel) rfl
theorem tw_129 : Cond.code yX3_prime cX3_prime 3 (some .int) ∈ wA := wA_1 129 rfl rfl
theorem tw_130 : Cond.methodLink "LeftNumbers" 54 yX1_isPrime ∈ wA := wA_1 130 (by decide +kernel) rfl
theorem tw_131 : Cond.static yX1_isPrime ∈ wA := wA_1 131 (by decide +kernel) rfl
theorem tw_132 : Cond.code yX1_isPrime cX1_isPrime 5 (some .boolean) ∈ wA := wA_1 132 rfl rfl
theorem tw_133 : Cond.fieldLink "LeftNumbers$Figures" 24 "LeftNumbers$Figures" "PRIMES" "[I" ∈ wA := wA_1 133 (by decide +kernel) rfl
theorem tw_135 : Cond.methodLink "LeftNumbers" 58 yX1_choose ∈ wA := wA_1 135 (by decide +kernel) rfl
theorem tw_136 : Cond.methodLink "LeftNumbersLaw" 18 yX3_ratio ∈ wA := wA_1 136 (by decide +kernel) rfl
theorem tw_137 : Cond.instanceMethod yX3_ratio ∈ wA := wA_1 137 (by decide +kernel) rfl
theorem tw_138 : Cond.selects "LeftNumbers" yX3_ratio yX3_ratio ∈ wA := wA_1 138 (by decide +kernel) rfl
theorem tw_139 : Cond.code yX3_ratio cX3_ratio 3 (some .int) ∈ wA := wA_1 139 rfl rfl
theorem tw_140 : Cond.constant "LeftNumbers" 65 1000000000 ∈ wA := wA_1 140 (by decide +kernel) rfl
theorem tw_141 : Cond.methodLink "LeftNumbers" 66 yX3_isTooGreat ∈ wA := wA_1 141 (by decide +kernel) rfl
theorem tw_142 : Cond.static yX3_isTooGreat ∈ wA := wA_1 142 (by decide +kernel) rfl
theorem tw_143 : Cond.code yX3_isTooGreat cX3_isTooGreat 2 (some .boolean) ∈ wA := wA_1 143 rfl rfl
theorem tw_144 : Cond.methodLink "LeftNumbers" 70 yX0_setFraction ∈ wA := wA_1 144 (by decide +kernel) rfl
theorem tw_145 : Cond.instanceMethod yX0_setFraction ∈ wA := wA_1 145 (by decide +kernel) rfl
theorem tw_146 : Cond.selects "LeftNumbers$Arithmetic" yX0_setFraction yX0_setFraction ∈ wA := wA_1 146 (by decide +kernel) rfl
theorem tw_147 : Cond.code yX0_setFraction cX0_setFraction 19 none ∈ wA := wA_1 147 rfl rfl
theorem tw_148 : Cond.methodLink "LeftNumbers$Arithmetic" 15 yX0_commonDivisor ∈ wA := wA_1 148 (by decide +kernel) rfl
theorem tw_149 : Cond.static yX0_commonDivisor ∈ wA := wA_1 149 (by decide +kernel) rfl
theorem tw_150 : Cond.code yX0_commonDivisor cX0_commonDivisor 11 (some .long) ∈ wA := wA_1 150 rfl rfl
theorem tw_151 : Cond.methodLink "LeftNumbers$Arithmetic" 19 Lib.MathLoose.abs_long.x ∈ wA := wA_1 151 (by decide +kernel) rfl
theorem tw_152 : Cond.static Lib.MathLoose.abs_long.x ∈ wA := wA_1 152 (by decide +kernel) rfl
theorem tw_153 : Cond.code Lib.MathLoose.abs_long.x Lib.MathLoose.abs_long.code 2 (some .long) ∈ wA := wA_1 153 rfl rfl
theorem tw_154 : Cond.constantLong "LeftNumbers$Arithmetic" 25 1000000000 ∈ wA := wA_1 154 (by decide +kernel) rfl
theorem tw_155 : Cond.methodLink "LeftNumbers$Arithmetic" 33 yX2_set ∈ wA := wA_1 155 (by decide +kernel) rfl
theorem tw_156 : Cond.instanceMethod yX2_set ∈ wA := wA_1 156 (by decide +kernel) rfl
theorem tw_157 : Cond.selects "LeftNumbers$Value" yX2_set yX2_set ∈ wA := wA_1 157 (by decide +kernel) rfl
theorem tw_158 : Cond.code yX2_set cX2_set 6 none ∈ wA := wA_1 158 rfl rfl
theorem tw_159 : Cond.methodLink "LeftNumbers$Arithmetic" 39 yX1_strip ∈ wA := wA_1 159 (by decide +kernel) rfl
theorem tw_160 : Cond.instanceMethod yX1_strip ∈ wA := wA_1 160 (by decide +kernel) rfl
theorem tw_161 : Cond.selects "LeftNumbers$Figures" yX1_strip yX1_strip ∈ wA := wA_1 161 (by decide +kernel) rfl
theorem tw_162 : Cond.code yX1_strip cX1_strip 6 (some .long) ∈ wA := wA_1 162 rfl rfl
theorem tw_163 : Cond.methodLink "LeftNumbers$Arithmetic" 42 yX1_reduce ∈ wA := wA_1 163 (by decide +kernel) rfl
theorem tw_164 : Cond.instanceMethod yX1_reduce ∈ wA := wA_1 164 (by decide +kernel) rfl
theorem tw_165 : Cond.selects "LeftNumbers$Figures" yX1_reduce yX1_reduce ∈ wA := wA_1 165 (by decide +kernel) rfl
theorem tw_166 : Cond.code yX1_reduce cX1_reduce 4 (some .long) ∈ wA := wA_1 166 rfl rfl
theorem tw_167 : Cond.methodLink "LeftNumbers$Figures" 39 yX1_power ∈ wA := wA_1 167 (by decide +kernel) rfl
theorem tw_168 : Cond.instanceMethod yX1_power ∈ wA := wA_1 168 (by decide +kernel) rfl
theorem tw_169 : Cond.selects "LeftNumbers$Figures" yX1_power yX1_power ∈ wA := wA_1 169 (by decide +kernel) rfl
theorem tw_170 : Cond.code yX1_power cX1_power 2 (some .long) ∈ wA := wA_1 170 rfl rfl
theorem tw_171 : Cond.methodLink "LeftNumbers$Figures" 30 Lib.Math.min.name ∈ wA := wA_1 171 (by decide +kernel) rfl
theorem tw_172 : Cond.static Lib.Math.min.name ∈ wA := wA_1 172 (by decide +kernel) rfl
theorem tw_173 : Cond.code Lib.Math.min.name Lib.Math.min.code 2 (some .int) ∈ wA := wA_1 173 rfl rfl
theorem tw_174 : Cond.methodLink "LeftNumbers$Figures" 36 Lib.Math.max.name ∈ wA := wA_1 174 (by decide +kernel) rfl
theorem tw_175 : Cond.static Lib.Math.max.name ∈ wA := wA_1 175 (by decide +kernel) rfl
theorem tw_176 : Cond.code Lib.Math.max.name Lib.Math.max.code 2 (some .int) ∈ wA := wA_1 176 rfl rfl
theorem tw_177 : Cond.methodLink "LeftNumbers$Figures" 43 yJ9_floorMod_f86c9 ∈ wA := wA_1 177 (by decide +kernel) rfl
theorem tw_178 : Cond.static yJ9_floorMod_f86c9 ∈ wA := wA_1 178 (by decide +kernel) rfl
theorem tw_179 : Cond.code yJ9_floorMod_f86c9 cJ9_floorMod_f86c9 6 (some .long) ∈ wA := wA_1 179 rfl rfl
theorem tw_180 : Cond.methodLink "LeftNumbers$Arithmetic" 46 yX1_inverse ∈ wA := wA_1 180 (by decide +kernel) rfl
theorem tw_181 : Cond.instanceMethod yX1_inverse ∈ wA := wA_1 181 (by decide +kernel) rfl
theorem tw_182 : Cond.selects "LeftNumbers$Figures" yX1_inverse yX1_inverse ∈ wA := wA_1 182 (by decide +kernel) rfl
theorem tw_183 : Cond.code yX1_inverse cX1_inverse 9 (some .long) ∈ wA := wA_1 183 rfl rfl
theorem tw_184 : Cond.methodLink "LeftNumbers$Figures" 47 yX1_firstInverse ∈ wA := wA_1 184 (by decide +kernel) rfl
theorem tw_185 : Cond.instanceMethod yX1_firstInverse ∈ wA := wA_1 185 (by decide +kernel) rfl
theorem tw_186 : Cond.selects "LeftNumbers$Figures" yX1_firstInverse yX1_firstInverse ∈ wA := wA_1 186 (by decide +kernel) rfl
theorem tw_187 : Cond.code yX1_firstInverse cX1_firstInverse 5 (some .int) ∈ wA := wA_1 187 rfl rfl
theorem tw_188 : Cond.methodLink "LeftNumbers$Figures" 61 yX1_lowest ∈ wA := wA_1 188 (by decide +kernel) rfl
theorem tw_189 : Cond.instanceMethod yX1_lowest ∈ wA := wA_1 189 (by decide +kernel) rfl
theorem tw_190 : Cond.selects "LeftNumbers$Figures" yX1_lowest yX1_lowest ∈ wA := wA_1 190 (by decide +kernel) rfl
theorem tw_191 : Cond.code yX1_lowest cX1_lowest 3 (some .int) ∈ wA := wA_1 191 rfl rfl
theorem tw_192 : Cond.constantLong "LeftNumbers$Figures" 51 2 ∈ wA := wA_1 192 (by decide +kernel) rfl
theorem tw_193 : Cond.methodLink "LeftNumbers$Figures" 53 yX1_product ∈ wA := wA_1 193 (by decide +kernel) rfl
theorem tw_194 : Cond.instanceMethod yX1_product ∈ wA := wA_1 194 (by decide +kernel) rfl
theorem tw_195 : Cond.selects "LeftNumbers$Figures" yX1_product yX1_product ∈ wA := wA_1 195 (by decide +kernel) rfl
theorem tw_196 : Cond.code yX1_product cX1_product 21 (some .long) ∈ wA := wA_1 196 rfl rfl
theorem tw_197 : Cond.methodLink "LeftNumbers$Figures" 57 yX1_reduce ∈ wA := wA_1 197 (by decide +kernel) rfl
theorem tw_198 : Cond.methodLink "LeftNumbers$Arithmetic" 49 yX1_timesIn ∈ wA := wA_1 198 (by decide +kernel) rfl
theorem tw_199 : Cond.instanceMethod yX1_timesIn ∈ wA := wA_1 199 (by decide +kernel) rfl
theorem tw_200 : Cond.selects "LeftNumbers$Figures" yX1_timesIn yX1_timesIn ∈ wA := wA_1 200 (by decide +kernel) rfl
theorem tw_201 : Cond.code yX1_timesIn cX1_timesIn 6 (some .int) ∈ wA := wA_1 201 rfl rfl
theorem tw_202 : Cond.methodLink "LeftNumbers$Arithmetic" 53 yX1_product ∈ wA := wA_1 202 (by decide +kernel) rfl
theorem tw_203 : Cond.methodLink "LeftNumbers" 74 yX3_keep ∈ wA := wA_1 203 (by decide +kernel) rfl
theorem tw_205 : Cond.instanceMethod yX3_keep ∈ wA := wA_1 205 (by decide +kernel) rfl
theorem tw_206 : Cond.code yX3_keep cX3_keep 2 (some .int) ∈ wA := wA_1 206 rfl rfl
theorem tw_207 : Cond.methodLink "LeftNumbers" 152 yX2_isBeyond ∈ wA := wA_1 207 (by decide +kernel) rfl
theorem tw_208 : Cond.instanceMethod yX2_isBeyond ∈ wA := wA_1 208 (by decide +kernel) rfl
theorem tw_209 : Cond.selects "LeftNumbers$Value" yX2_isBeyond yX2_isBeyond ∈ wA := wA_1 209 (by decide +kernel) rfl
theorem tw_210 : Cond.code yX2_isBeyond cX2_isBeyond 1 (some .boolean) ∈ wA := wA_1 210 rfl rfl
theorem tw_211 : Cond.methodLink "LeftNumbers" 188 yX2_copy ∈ wA := wA_1 211 (by decide +kernel) rfl
theorem tw_212 : Cond.instanceMethod yX2_copy ∈ wA := wA_1 212 (by decide +kernel) rfl
theorem tw_213 : Cond.selects "LeftNumbers$Value" yX2_copy yX2_copy ∈ wA := wA_1 213 (by decide +kernel) rfl
theorem tw_214 : Cond.code yX2_copy cX2_copy 2 none ∈ wA := wA_1 214 rfl rfl
theorem tw_215 : Cond.methodLink "LeftNumbers$Value" 38 yX2_set ∈ wA := wA_1 215 (by decide +kernel) rfl
theorem tw_216 : Cond.methodLink "LeftNumbers$Value" 42 arraycopyName ∈ wA := wA_1 216 (by decide +kernel) rfl
theorem tw_217 : Cond.static arraycopyName ∈ wA := wA_1 217 (by decide +kernel) rfl
theorem tw_218 : Cond.native arraycopyName ∈ wA := wA_1 218 (by decide +kernel) rfl
theorem tw_219 : Cond.methodLink "LeftNumbersLaw" 25 yX3_number ∈ wA := wA_1 219 (by decide +kernel) rfl
theorem tw_220 : Cond.instanceMethod yX3_number ∈ wA := wA_1 220 (by decide +kernel) rfl
theorem tw_221 : Cond.selects "LeftNumbers" yX3_number yX3_number ∈ wA := wA_1 221 (by decide +kernel) rfl
theorem tw_222 : Cond.code yX3_number cX3_number 5 (some .int) ∈ wA := wA_1 222 rfl rfl
theorem tw_223 : Cond.methodLink "LeftNumbers" 78 yX3_isNoSure ∈ wA := wA_1 223 (by decide +kernel) rfl
theorem tw_225 : Cond.instanceMethod yX3_isNoSure ∈ wA := wA_1 225 (by decide +kernel) rfl
theorem tw_226 : Cond.code yX3_isNoSure cX3_isNoSure 2 (some .boolean) ∈ wA := wA_1 226 rfl rfl
theorem tw_227 : Cond.methodLink "LeftNumbers" 81 yX1_power ∈ wA := wA_1 227 (by decide +kernel) rfl
theorem tw_228 : Cond.methodLink "LeftNumbers" 85 yX0_setFigures ∈ wA := wA_1 228 (by decide +kernel) rfl
theorem tw_229 : Cond.instanceMethod yX0_setFigures ∈ wA := wA_1 229 (by decide +kernel) rfl
theorem tw_230 : Cond.selects "LeftNumbers$Arithmetic" yX0_setFigures yX0_setFigures ∈ wA := wA_1 230 (by decide +kernel) rfl
theorem tw_231 : Cond.code yX0_setFigures cX0_setFigures 7 none ∈ wA := wA_1 231 rfl rfl
theorem tw_232 : Cond.methodLink "LeftNumbersLaw" 30 yX3_shadow ∈ wA := wA_1 232 (by decide +kernel) rfl
theorem tw_233 : Cond.instanceMethod yX3_shadow ∈ wA := wA_1 233 (by decide +kernel) rfl
theorem tw_234 : Cond.selects "LeftNumbers" yX3_shadow yX3_shadow ∈ wA := wA_1 234 (by decide +kernel) rfl
theorem tw_235 : Cond.code yX3_shadow cX3_shadow 4 (some .int) ∈ wA := wA_1 235 rfl rfl
theorem tw_236 : Cond.methodLink "LeftNumbers" 89 yX3_find ∈ wA := wA_1 236 (by decide +kernel) rfl
theorem tw_238 : Cond.instanceMethod yX3_find ∈ wA := wA_1 238 (by decide +kernel) rfl
theorem tw_239 : Cond.code yX3_find cX3_find 2 (some (.object "LeftNumbers$Value")) ∈ wA := wA_1 239 rfl rfl
theorem tw_240 : Cond.methodLink "LeftNumbers" 96 yX2_isNought ∈ wA := wA_2 0 (by decide +kernel) rfl
theorem tw_241 : Cond.instanceMethod yX2_isNought ∈ wA := wA_2 1 (by decide +kernel) rfl
theorem tw_242 : Cond.selects "LeftNumbers$Value" yX2_isNought yX2_isNought ∈ wA := wA_2 2 (by decide +kernel) rfl
theorem tw_243 : Cond.code yX2_isNought cX2_isNought 1 (some .boolean) ∈ wA := wA_2 3 rfl rfl
theorem tw_244 : Cond.methodLink "LeftNumbers" 100 yX2_isZero ∈ wA := wA_2 4 (by decide +kernel) rfl
theorem tw_245 : Cond.instanceMethod yX2_isZero ∈ wA := wA_2 5 (by decide +kernel) rfl
theorem tw_246 : Cond.selects "LeftNumbers$Value" yX2_isZero yX2_isZero ∈ wA := wA_2 6 (by decide +kernel) rfl
theorem tw_247 : Cond.code yX2_isZero cX2_isZero 1 (some .boolean) ∈ wA := wA_2 7 rfl rfl
theorem tw_248 : Cond.methodLink "LeftNumbers" 110 yX2_set ∈ wA := wA_2 8 (by decide +kernel) rfl
theorem tw_249 : Cond.methodLink "LeftNumbersLaw" 34 yX3_of ∈ wA := wA_2 9 (by decide +kernel) rfl
theorem tw_250 : Cond.instanceMethod yX3_of ∈ wA := wA_2 10 (by decide +kernel) rfl
theorem tw_251 : Cond.selects "LeftNumbers" yX3_of yX3_of ∈ wA := wA_2 11 (by decide +kernel) rfl
theorem tw_252 : Cond.code yX3_of cX3_of 6 (some .int) ∈ wA := wA_2 12 rfl rfl
theorem tw_253 : Cond.methodLink "LeftNumbers" 114 yX0_combine ∈ wA := wA_2 13 (by decide +kernel) rfl
theorem tw_254 : Cond.instanceMethod yX0_combine ∈ wA := wA_2 14 (by decide +kernel) rfl
theorem tw_255 : Cond.selects "LeftNumbers$Arithmetic" yX0_combine yX0_combine ∈ wA := wA_2 15 (by decide +kernel) rfl
theorem tw_256 : Cond.code yX0_combine cX0_combine 5 none ∈ wA := wA_2 16 rfl rfl
theorem tw_257 : Cond.methodLink "LeftNumbers$Arithmetic" 66 yX0_combineRatios ∈ wA := wA_2 17 (by decide +kernel) rfl
theorem tw_259 : Cond.instanceMethod yX0_combineRatios ∈ wA := wA_2 19 (by decide +kernel) rfl
theorem tw_260 : Cond.code yX0_combineRatios cX0_combineRatios 11 none ∈ wA := wA_2 20 rfl rfl
theorem tw_261 : Cond.methodLink "LeftNumbers$Arithmetic" 77 yX0_setFraction ∈ wA := wA_2 21 (by decide +kernel) rfl
theorem tw_262 : Cond.methodLink "LeftNumbers$Arithmetic" 70 yX0_add ∈ wA := wA_2 22 (by decide +kernel) rfl
theorem tw_264 : Cond.instanceMethod yX0_add ∈ wA := wA_2 24 (by decide +kernel) rfl
theorem tw_265 : Cond.code yX0_add cX0_add 12 none ∈ wA := wA_2 25 rfl rfl
theorem tw_266 : Cond.methodLink "LeftNumbers$Arithmetic" 81 yX2_endOfSure ∈ wA := wA_2 26 (by decide +kernel) rfl
theorem tw_267 : Cond.instanceMethod yX2_endOfSure ∈ wA := wA_2 27 (by decide +kernel) rfl
theorem tw_268 : Cond.selects "LeftNumbers$Value" yX2_endOfSure yX2_endOfSure ∈ wA := wA_2 28 (by decide +kernel) rfl
theorem tw_269 : Cond.code yX2_endOfSure cX2_endOfSure 1 (some .int) ∈ wA := wA_2 29 rfl rfl
theorem tw_270 : Cond.methodLink "LeftNumbers$Arithmetic" 85 Lib.Math.min.name ∈ wA := wA_2 30 (by decide +kernel) rfl
theorem tw_271 : Cond.methodLink "LeftNumbers$Arithmetic" 89 yX2_lowestPlace ∈ wA := wA_2 31 (by decide +kernel) rfl
theorem tw_272 : Cond.instanceMethod yX2_lowestPlace ∈ wA := wA_2 32 (by decide +kernel) rfl
theorem tw_273 : Cond.selects "LeftNumbers$Value" yX2_lowestPlace yX2_lowestPlace ∈ wA := wA_2 33 (by decide +kernel) rfl
theorem tw_274 : Cond.code yX2_lowestPlace cX2_lowestPlace 1 (some .int) ∈ wA := wA_2 34 rfl rfl
theorem tw_275 : Cond.methodLink "LeftNumbers$Value" 48 yX2_isNought ∈ wA := wA_2 35 (by decide +kernel) rfl
theorem tw_276 : Cond.methodLink "LeftNumbers$Value" 52 yX2_isZero ∈ wA := wA_2 36 (by decide +kernel) rfl
theorem tw_277 : Cond.methodLink "LeftNumbers$Arithmetic" 92 yX0_figuresFrom ∈ wA := wA_2 37 (by decide +kernel) rfl
theorem tw_279 : Cond.instanceMethod yX0_figuresFrom ∈ wA := wA_2 39 (by decide +kernel) rfl
theorem tw_280 : Cond.code yX0_figuresFrom cX0_figuresFrom 5 (some .long) ∈ wA := wA_2 40 rfl rfl
theorem tw_281 : Cond.methodLink "LeftNumbers$Arithmetic" 104 yX1_power ∈ wA := wA_2 41 (by decide +kernel) rfl
theorem tw_282 : Cond.methodLink "LeftNumbers$Arithmetic" 96 yX0_setFigures ∈ wA := wA_2 42 (by decide +kernel) rfl
theorem tw_283 : Cond.methodLink "LeftNumbers$Arithmetic" 74 yX0_multiply ∈ wA := wA_2 43 (by decide +kernel) rfl
theorem tw_285 : Cond.instanceMethod yX0_multiply ∈ wA := wA_2 45 (by decide +kernel) rfl
theorem tw_286 : Cond.code yX0_multiply cX0_multiply 12 none ∈ wA := wA_2 46 rfl rfl
theorem tw_287 : Cond.methodLink "LeftNumbers$Arithmetic" 108 yX2_isZero ∈ wA := wA_2 47 (by decide +kernel) rfl
theorem tw_288 : Cond.methodLink "LeftNumbersLaw" 39 yX3_kind ∈ wA := wA_2 48 (by decide +kernel) rfl
theorem tw_289 : Cond.instanceMethod yX3_kind ∈ wA := wA_2 49 (by decide +kernel) rfl
theorem tw_290 : Cond.selects "LeftNumbers" yX3_kind yX3_kind ∈ wA := wA_2 50 (by decide +kernel) rfl
theorem tw_291 : Cond.code yX3_kind cX3_kind 3 (some .int) ∈ wA := wA_2 51 rfl rfl
theorem tw_292 : Cond.methodLink "LeftNumbersLaw" 43 yX3_lift ∈ wA := wA_2 52 (by decide +kernel) rfl
theorem tw_293 : Cond.instanceMethod yX3_lift ∈ wA := wA_2 53 (by decide +kernel) rfl
theorem tw_294 : Cond.selects "LeftNumbers" yX3_lift yX3_lift ∈ wA := wA_2 54 (by decide +kernel) rfl
theorem tw_295 : Cond.code yX3_lift cX3_lift 3 (some .int) ∈ wA := wA_2 55 rfl rfl
theorem tw_296 : Cond.methodLink "LeftNumbersLaw" 47 yX3_sure ∈ wA := wA_2 56 (by decide +kernel) rfl
theorem tw_297 : Cond.instanceMethod yX3_sure ∈ wA := wA_2 57 (by decide +kernel) rfl
theorem tw_298 : Cond.selects "LeftNumbers" yX3_sure yX3_sure ∈ wA := wA_2 58 (by decide +kernel) rfl
theorem tw_299 : Cond.code yX3_sure cX3_sure 3 (some .int) ∈ wA := wA_2 59 rfl rfl
theorem tw_300 : Cond.methodLink "LeftNumbersLaw" 51 yX3_figure ∈ wA := wA_2 60 (by decide +kernel) rfl
theorem tw_301 : Cond.instanceMethod yX3_figure ∈ wA := wA_2 61 (by decide +kernel) rfl
theorem tw_302 : Cond.selects "LeftNumbers" yX3_figure yX3_figure ∈ wA := wA_2 62 (by decide +kernel) rfl
theorem tw_303 : Cond.code yX3_figure cX3_figure 4 (some .int) ∈ wA := wA_2 63 rfl rfl
theorem tw_304 : Cond.methodLink "LeftNumbers" 121 yX3_ratioFigure ∈ wA := wA_2 64 (by decide +kernel) rfl
theorem tw_306 : Cond.instanceMethod yX3_ratioFigure ∈ wA := wA_2 66 (by decide +kernel) rfl
theorem tw_307 : Cond.code yX3_ratioFigure cX3_ratioFigure 9 (some .int) ∈ wA := wA_2 67 rfl rfl
theorem tw_308 : Cond.methodLink "LeftNumbers" 192 yX1_strip ∈ wA := wA_2 68 (by decide +kernel) rfl
theorem tw_309 : Cond.methodLink "LeftNumbers" 196 yX1_firstInverse ∈ wA := wA_2 69 (by decide +kernel) rfl
theorem tw_310 : Cond.methodLink "LeftNumbers" 199 yX1_tail ∈ wA := wA_2 70 (by decide +kernel) rfl
theorem tw_311 : Cond.instanceMethod yX1_tail ∈ wA := wA_2 71 (by decide +kernel) rfl
theorem tw_312 : Cond.selects "LeftNumbers$Figures" yX1_tail yX1_tail ∈ wA := wA_2 72 (by decide +kernel) rfl
theorem tw_313 : Cond.code yX1_tail cX1_tail 7 (some .long) ∈ wA := wA_2 73 rfl rfl
theorem tw_314 : Cond.methodLink "LeftNumbers" 125 yX1_lowest ∈ wA := wA_2 74 (by decide +kernel) rfl
theorem tw_315 : Cond.methodLink "LeftNumbersLaw" 55 yX3_told ∈ wA := wA_2 75 (by decide +kernel) rfl
theorem tw_316 : Cond.instanceMethod yX3_told ∈ wA := wA_2 76 (by decide +kernel) rfl
theorem tw_317 : Cond.selects "LeftNumbers" yX3_told yX3_told ∈ wA := wA_2 77 (by decide +kernel) rfl
theorem tw_318 : Cond.code yX3_told cX3_told 3 (some .long) ∈ wA := wA_2 78 rfl rfl
theorem tw_319 : Cond.constantLong "LeftNumbers" 129 (-1) ∈ wA := wA_2 79 (by decide +kernel) rfl
theorem tw_320 : Cond.methodLink "LeftNumbersLaw" 60 yX3_part ∈ wA := wA_2 80 (by decide +kernel) rfl
theorem tw_321 : Cond.instanceMethod yX3_part ∈ wA := wA_2 81 (by decide +kernel) rfl
theorem tw_322 : Cond.selects "LeftNumbers" yX3_part yX3_part ∈ wA := wA_2 82 (by decide +kernel) rfl
theorem tw_323 : Cond.code yX3_part cX3_part 4 (some .int) ∈ wA := wA_2 83 rfl rfl
theorem tw_324 : Cond.methodLink "LeftNumbersLaw" 64 yX3_near ∈ wA := wA_2 84 (by decide +kernel) rfl
theorem tw_325 : Cond.instanceMethod yX3_near ∈ wA := wA_2 85 (by decide +kernel) rfl
theorem tw_326 : Cond.selects "LeftNumbers" yX3_near yX3_near ∈ wA := wA_2 86 (by decide +kernel) rfl
theorem tw_327 : Cond.code yX3_near cX3_near 6 (some .int) ∈ wA := wA_2 87 rfl rfl
theorem tw_328 : Cond.methodLink "LeftNumbersLaw" 68 yX3_guess ∈ wA := wA_2 88 (by decide +kernel) rfl
theorem tw_329 : Cond.instanceMethod yX3_guess ∈ wA := wA_2 89 (by decide +kernel) rfl
theorem tw_330 : Cond.selects "LeftNumbers" yX3_guess yX3_guess ∈ wA := wA_2 90 (by decide +kernel) rfl
theorem tw_331 : Cond.code yX3_guess cX3_guess 5 (some .int) ∈ wA := wA_2 91 rfl rfl
theorem tw_332 : Cond.constantLong "LeftNumbers" 137 2 ∈ wA := wA_2 92 (by decide +kernel) rfl
theorem tw_333 : Cond.methodLink "LeftNumbers" 139 yX3_copyWithin ∈ wA := wA_2 93 (by decide +kernel) rfl
theorem tw_335 : Cond.instanceMethod yX3_copyWithin ∈ wA := wA_2 95 (by decide +kernel) rfl
theorem tw_336 : Cond.code yX3_copyWithin cX3_copyWithin 3 (some .boolean) ∈ wA := wA_2 96 rfl rfl
theorem tw_337 : Cond.methodLink "LeftNumbers" 143 yX3_fractionWithin ∈ wA := wA_2 97 (by decide +kernel) rfl
theorem tw_339 : Cond.instanceMethod yX3_fractionWithin ∈ wA := wA_2 99 (by decide +kernel) rfl
theorem tw_340 : Cond.code yX3_fractionWithin cX3_fractionWithin 22 (some .boolean) ∈ wA := wA_2 100 rfl rfl
theorem tw_341 : Cond.methodLink "LeftNumbers" 203 yX1_shiftDown ∈ wA := wA_2 101 (by decide +kernel) rfl
theorem tw_342 : Cond.instanceMethod yX1_shiftDown ∈ wA := wA_2 102 (by decide +kernel) rfl
theorem tw_343 : Cond.selects "LeftNumbers$Figures" yX1_shiftDown yX1_shiftDown ∈ wA := wA_2 103 (by decide +kernel) rfl
theorem tw_344 : Cond.code yX1_shiftDown cX1_shiftDown 7 (some .long) ∈ wA := wA_2 104 rfl rfl
theorem tw_345 : Cond.methodLink "LeftNumbers" 206 Lib.MathLoose.abs_long.x ∈ wA := wA_2 105 (by decide +kernel) rfl
theorem tw_346 : Cond.methodLink "LeftNumbersLaw" 72 yX3_round ∈ wA := wA_2 106 (by decide +kernel) rfl
theorem tw_347 : Cond.instanceMethod yX3_round ∈ wA := wA_2 107 (by decide +kernel) rfl
theorem tw_348 : Cond.selects "LeftNumbers" yX3_round yX3_round ∈ wA := wA_2 108 (by decide +kernel) rfl
theorem tw_349 : Cond.code yX3_round cX3_round 4 (some .int) ∈ wA := wA_2 109 rfl rfl
theorem tw_350 : Cond.methodLink "LeftNumbers" 146 yX3_comingRound ∈ wA := wA_2 110 (by decide +kernel) rfl
theorem tw_352 : Cond.instanceMethod yX3_comingRound ∈ wA := wA_2 112 (by decide +kernel) rfl
theorem tw_353 : Cond.code yX3_comingRound cX3_comingRound 12 (some .int) ∈ wA := wA_2 113 rfl rfl
theorem tw_354 : Cond.methodLink "LeftNumbersLaw" 76 yX3_coefficient ∈ wA := wA_2 114 (by decide +kernel) rfl
theorem tw_355 : Cond.instanceMethod yX3_coefficient ∈ wA := wA_2 115 (by decide +kernel) rfl
theorem tw_356 : Cond.selects "LeftNumbers" yX3_coefficient yX3_coefficient ∈ wA := wA_2 116 (by decide +kernel) rfl
theorem tw_357 : Cond.code yX3_coefficient cX3_coefficient 4 (some .int) ∈ wA := wA_2 117 rfl rfl
theorem tw_358 : Cond.constant "LeftNumbers" 150 1000000 ∈ wA := wA_2 118 (by decide +kernel) rfl
theorem tw_359 : Cond.constant "LeftNumbers" 151 2000000 ∈ wA := wA_2 119 (by decide +kernel) rfl
theorem tw_360 : Cond.methodLink "LeftNumbersLaw" 80 yX3_at ∈ wA := wA_2 120 (by decide +kernel) rfl
theorem tw_361 : Cond.instanceMethod yX3_at ∈ wA := wA_2 121 (by decide +kernel) rfl
theorem tw_362 : Cond.selects "LeftNumbers" yX3_at yX3_at ∈ wA := wA_2 122 (by decide +kernel) rfl
theorem tw_363 : Cond.code yX3_at cX3_at 4 (some .int) ∈ wA := wA_2 123 rfl rfl
theorem tw_364 : Cond.methodLink "LeftNumbersLaw" 84 yX3_firsts ∈ wA := wA_2 124 (by decide +kernel) rfl
theorem tw_365 : Cond.instanceMethod yX3_firsts ∈ wA := wA_2 125 (by decide +kernel) rfl
theorem tw_366 : Cond.selects "LeftNumbers" yX3_firsts yX3_firsts ∈ wA := wA_2 126 (by decide +kernel) rfl
theorem tw_367 : Cond.code yX3_firsts cX3_firsts 5 (some .int) ∈ wA := wA_2 127 rfl rfl
theorem tw_368 : Cond.methodLink "LeftNumbers" 158 yX3_isGood ∈ wA := wA_2 128 (by decide +kernel) rfl
theorem tw_370 : Cond.instanceMethod yX3_isGood ∈ wA := wA_2 130 (by decide +kernel) rfl
theorem tw_371 : Cond.code yX3_isGood cX3_isGood 2 (some .boolean) ∈ wA := wA_2 131 rfl rfl
theorem tw_372 : Cond.methodLink "LeftNumbers" 211 yX1_valueAt ∈ wA := wA_2 132 (by decide +kernel) rfl
theorem tw_373 : Cond.instanceMethod yX1_valueAt ∈ wA := wA_2 133 (by decide +kernel) rfl
theorem tw_374 : Cond.selects "LeftNumbers$Figures" yX1_valueAt yX1_valueAt ∈ wA := wA_2 134 (by decide +kernel) rfl
theorem tw_375 : Cond.code yX1_valueAt cX1_valueAt 8 (some .long) ∈ wA := wA_2 135 rfl rfl
theorem tw_376 : Cond.methodLink "LeftNumbers" 215 yX1_slopeAt ∈ wA := wA_2 136 (by decide +kernel) rfl
theorem tw_377 : Cond.instanceMethod yX1_slopeAt ∈ wA := wA_2 137 (by decide +kernel) rfl
theorem tw_378 : Cond.selects "LeftNumbers$Figures" yX1_slopeAt yX1_slopeAt ∈ wA := wA_2 138 (by decide +kernel) rfl
theorem tw_379 : Cond.code yX1_slopeAt cX1_slopeAt 8 (some .long) ∈ wA := wA_2 139 rfl rfl
theorem tw_380 : Cond.methodLink "LeftNumbers" 161 yX3_isStuck ∈ wA := wA_2 140 (by decide +kernel) rfl
theorem tw_382 : Cond.instanceMethod yX3_isStuck ∈ wA := wA_2 142 (by decide +kernel) rfl
theorem tw_383 : Cond.code yX3_isStuck cX3_isStuck 2 (some .boolean) ∈ wA := wA_2 143 rfl rfl
theorem tw_384 : Cond.methodLink "LeftNumbersLaw" 88 yX3_root ∈ wA := wA_2 144 (by decide +kernel) rfl
theorem tw_385 : Cond.instanceMethod yX3_root ∈ wA := wA_2 145 (by decide +kernel) rfl
theorem tw_386 : Cond.selects "LeftNumbers" yX3_root yX3_root ∈ wA := wA_2 146 (by decide +kernel) rfl
theorem tw_387 : Cond.code yX3_root cX3_root 3 (some .int) ∈ wA := wA_2 147 rfl rfl
theorem tw_388 : Cond.methodLink "LeftNumbers" 168 arraycopyName ∈ wA := wA_2 148 (by decide +kernel) rfl
theorem tw_389 : Cond.methodLink "LeftNumbers" 174 yX3_setRoot ∈ wA := wA_2 149 (by decide +kernel) rfl
theorem tw_391 : Cond.instanceMethod yX3_setRoot ∈ wA := wA_2 151 (by decide +kernel) rfl
theorem tw_392 : Cond.code yX3_setRoot cX3_setRoot 3 none ∈ wA := wA_2 152 rfl rfl
theorem tw_393 : Cond.methodLink "LeftNumbers" 218 yX1_rootFrom ∈ wA := wA_2 153 (by decide +kernel) rfl
theorem tw_394 : Cond.instanceMethod yX1_rootFrom ∈ wA := wA_2 154 (by decide +kernel) rfl
theorem tw_395 : Cond.selects "LeftNumbers$Figures" yX1_rootFrom yX1_rootFrom ∈ wA := wA_2 155 (by decide +kernel) rfl
theorem tw_396 : Cond.code yX1_rootFrom cX1_rootFrom 11 (some .long) ∈ wA := wA_2 156 rfl rfl
theorem tw_397 : Cond.methodLink "LeftNumbers$Figures" 64 yX1_slopeAt ∈ wA := wA_2 157 (by decide +kernel) rfl
theorem tw_398 : Cond.methodLink "LeftNumbers$Figures" 68 yX1_inverse ∈ wA := wA_2 158 (by decide +kernel) rfl
theorem tw_399 : Cond.methodLink "LeftNumbers$Figures" 71 yX1_valueAt ∈ wA := wA_2 159 (by decide +kernel) rfl
theorem tw_400 : Cond.methodLink "LeftNumbersLaw" 92 yX3_more ∈ wA := wA_2 160 (by decide +kernel) rfl
theorem tw_401 : Cond.instanceMethod yX3_more ∈ wA := wA_2 161 (by decide +kernel) rfl
theorem tw_402 : Cond.selects "LeftNumbers" yX3_more yX3_more ∈ wA := wA_2 162 (by decide +kernel) rfl
theorem tw_403 : Cond.code yX3_more cX3_more 4 (some .int) ∈ wA := wA_2 163 rfl rfl
theorem tw_404 : Cond.methodLink "LeftNumbersLaw" 96 yX3_square ∈ wA := wA_2 164 (by decide +kernel) rfl
theorem tw_405 : Cond.instanceMethod yX3_square ∈ wA := wA_2 165 (by decide +kernel) rfl
theorem tw_406 : Cond.selects "LeftNumbers" yX3_square yX3_square ∈ wA := wA_2 166 (by decide +kernel) rfl
theorem tw_407 : Cond.code yX3_square cX3_square 3 (some .int) ∈ wA := wA_2 167 rfl rfl
theorem tw_408 : Cond.methodLink "LeftNumbers" 178 yX3_squareOfTwo ∈ wA := wA_2 168 (by decide +kernel) rfl
theorem tw_410 : Cond.instanceMethod yX3_squareOfTwo ∈ wA := wA_2 170 (by decide +kernel) rfl
theorem tw_411 : Cond.code yX3_squareOfTwo cX3_squareOfTwo 5 (some .int) ∈ wA := wA_2 171 rfl rfl
theorem tw_412 : Cond.constantLong "LeftNumbers" 222 8 ∈ wA := wA_2 172 (by decide +kernel) rfl
theorem tw_413 : Cond.methodLink "LeftNumbers" 181 yX3_squareOfOdd ∈ wA := wA_2 173 (by decide +kernel) rfl
theorem tw_415 : Cond.instanceMethod yX3_squareOfOdd ∈ wA := wA_2 175 (by decide +kernel) rfl
theorem tw_416 : Cond.code yX3_squareOfOdd cX3_squareOfOdd 11 (some .int) ∈ wA := wA_2 176 rfl rfl
theorem tw_417 : Cond.methodLink "LeftNumbers" 224 yX1_firstSquareRoot ∈ wA := wA_2 177 (by decide +kernel) rfl
theorem tw_418 : Cond.instanceMethod yX1_firstSquareRoot ∈ wA := wA_2 178 (by decide +kernel) rfl
theorem tw_419 : Cond.selects "LeftNumbers$Figures" yX1_firstSquareRoot yX1_firstSquareRoot ∈ wA := wA_2 179 (by decide +kernel) rfl
theorem tw_420 : Cond.code yX1_firstSquareRoot cX1_firstSquareRoot 3 (some .int) ∈ wA := wA_2 180 rfl rfl
theorem tw_421 : Cond.methodLink "LeftNumbers" 228 yX1_product ∈ wA := wA_2 181 (by decide +kernel) rfl
theorem tw_422 : Cond.methodLink "LeftNumbers" 231 yX1_reduce ∈ wA := wA_2 182 (by decide +kernel) rfl
theorem tw_423 : Cond.methodLink "LeftNumbers" 234 yX1_inverse ∈ wA := wA_2 183 (by decide +kernel) rfl
theorem tw_424 : Cond.methodLink "LeftNumbersLaw" 100 yX3_unit ∈ wA := wA_2 184 (by decide +kernel) rfl
theorem tw_425 : Cond.instanceMethod yX3_unit ∈ wA := wA_2 185 (by decide +kernel) rfl
theorem tw_426 : Cond.selects "LeftNumbers" yX3_unit yX3_unit ∈ wA := wA_2 186 (by decide +kernel) rfl
theorem tw_427 : Cond.code yX3_unit cX3_unit 5 (some .int) ∈ wA := wA_2 187 rfl rfl
theorem tw_428 : Cond.methodLink "LeftNumbers" 184 yX1_toThePrime ∈ wA := wA_2 188 (by decide +kernel) rfl
theorem tw_429 : Cond.instanceMethod yX1_toThePrime ∈ wA := wA_2 189 (by decide +kernel) rfl
theorem tw_430 : Cond.selects "LeftNumbers$Figures" yX1_toThePrime yX1_toThePrime ∈ wA := wA_2 190 (by decide +kernel) rfl
theorem tw_431 : Cond.code yX1_toThePrime cX1_toThePrime 7 (some .long) ∈ wA := wA_2 191 rfl rfl
theorem tw_432 : Cond.methodLink "LeftNumbersLaw" 104 yX3_undo ∈ wA := wA_2 192 (by decide +kernel) rfl
theorem tw_433 : Cond.instanceMethod yX3_undo ∈ wA := wA_2 193 (by decide +kernel) rfl
theorem tw_434 : Cond.selects "LeftNumbers" yX3_undo yX3_undo ∈ wA := wA_2 194 (by decide +kernel) rfl
theorem tw_435 : Cond.code yX3_undo cX3_undo 1 (some .int) ∈ wA := wA_2 195 rfl rfl
theorem tw_436 : Cond.methodLink "LeftNumbersLaw" 109 yX3_count ∈ wA := wA_2 196 (by decide +kernel) rfl
theorem tw_437 : Cond.instanceMethod yX3_count ∈ wA := wA_2 197 (by decide +kernel) rfl
theorem tw_438 : Cond.selects "LeftNumbers" yX3_count yX3_count ∈ wA := wA_2 198 (by decide +kernel) rfl
theorem tw_439 : Cond.code yX3_count cX3_count 2 (some .int) ∈ wA := wA_2 199 rfl rfl
theorem tw_440 : Cond.classLink "LeftNumbersLaw" 10 "LeftNumbersModel" ∈ wA := wA_2 200 (by decide +kernel) rfl
theorem tw_441 : Cond.instantiable "LeftNumbersModel" 17 ∈ wA := wA_2 201 (by decide +kernel) rfl
theorem tw_442 : Cond.methodLink "LeftNumbersLaw" 12 yX4_init ∈ wA := wA_2 202 (by decide +kernel) rfl
theorem tw_443 : Cond.instanceMethod yX4_init ∈ wA := wA_2 203 (by decide +kernel) rfl
theorem tw_444 : Cond.code yX4_init cX4_init 1 none ∈ wA := wA_2 204 rfl rfl
theorem tw_445 : Cond.methodLink "LeftNumbersModel" 1 objectInit ∈ wA := wA_2 205 (by decide +kernel) rfl
theorem tw_446 : Cond.methodLink "LeftNumbersModel" 48 yX4_powers ∈ wA := wA_2 206 (by decide +kernel) rfl
theorem tw_448 : Cond.instanceMethod yX4_powers ∈ wA := wA_2 208 (by decide +kernel) rfl
theorem tw_449 : Cond.code yX4_powers cX4_powers 1 none ∈ wA := wA_2 209 rfl rfl
theorem tw_450 : Cond.constantLong "LeftNumbersModel" 54 1000000000000000000 ∈ wA := wA_2 210 (by decide +kernel) rfl
theorem tw_451 : Cond.fieldLink "LeftNumbersModel" 7 "LeftNumbersModel" "p" "I" ∈ wA := wA_2 211 (by decide +kernel) rfl
theorem tw_452 : Cond.fieldLink "LeftNumbersModel" 51 "LeftNumbersModel" "top" "I" ∈ wA := wA_2 212 (by decide +kernel) rfl
theorem tw_453 : Cond.fieldLink "LeftNumbersModel" 13 "LeftNumbersModel" "power" "[J" ∈ wA := wA_2 213 (by decide +kernel) rfl
theorem tw_454 : Cond.fieldLink "LeftNumbersModel" 56 "LeftNumbersModel" "many" "I" ∈ wA := wA_2 214 (by decide +kernel) rfl
theorem tw_455 : Cond.fieldLink "LeftNumbersModel" 59 "LeftNumbersModel" "mayUndo" "Z" ∈ wA := wA_2 215 (by decide +kernel) rfl
theorem tw_456 : Cond.fieldLink "LeftNumbersModel" 17 "LeftNumbersModel" "kind" "[I" ∈ wA := wA_2 216 (by decide +kernel) rfl
theorem tw_457 : Cond.fieldLink "LeftNumbersModel" 21 "LeftNumbersModel" "lift" "[I" ∈ wA := wA_2 217 (by decide +kernel) rfl
theorem tw_458 : Cond.fieldLink "LeftNumbersModel" 24 "LeftNumbersModel" "sure" "[I" ∈ wA := wA_2 218 (by decide +kernel) rfl
theorem tw_459 : Cond.fieldLink "LeftNumbersModel" 27 "LeftNumbersModel" "bits" "[J" ∈ wA := wA_2 219 (by decide +kernel) rfl
theorem tw_460 : Cond.fieldLink "LeftNumbersModel" 30 "LeftNumbersModel" "up" "[J" ∈ wA := wA_2 220 (by decide +kernel) rfl
theorem tw_461 : Cond.fieldLink "LeftNumbersModel" 33 "LeftNumbersModel" "low" "[J" ∈ wA := wA_2 221 (by decide +kernel) rfl
theorem tw_462 : Cond.fieldLink "LeftNumbersModel" 36 "LeftNumbersModel" "first" "[I" ∈ wA := wA_2 222 (by decide +kernel) rfl
theorem tw_463 : Cond.fieldLink "LeftNumbersModel" 39 "LeftNumbersModel" "kept" "[I" ∈ wA := wA_2 223 (by decide +kernel) rfl
theorem tw_464 : Cond.fieldLink "LeftNumbersModel" 42 "LeftNumbersModel" "poly" "[I" ∈ wA := wA_2 224 (by decide +kernel) rfl
theorem tw_465 : Cond.fieldLink "LeftNumbersModel" 171 "LeftNumbersModel" "guessR" "J" ∈ wA := wA_2 225 (by decide +kernel) rfl
theorem tw_466 : Cond.fieldLink "LeftNumbersModel" 175 "LeftNumbersModel" "guessS" "J" ∈ wA := wA_2 226 (by decide +kernel) rfl
theorem tw_467 : Cond.fieldLink "LeftNumbersModel" 45 "LeftNumbersModel" "states" "[J" ∈ wA := wA_2 227 (by decide +kernel) rfl
theorem tw_503 : Cond.methodLink "LeftNumbersLaw" 17 yX4_prime ∈ wA := wA_3 23 (by decide +kernel) rfl
theorem tw_504 : Cond.instanceMethod yX4_prime ∈ wA := wA_3 24 (by decide +kernel) rfl
theorem tw_505 : Cond.selects "LeftNumbersModel" yX4_prime yX4_prime ∈ wA := wA_3 25 (by decide +kernel) rfl
theorem tw_506 : Cond.code yX4_prime cX4_prime 4 (some .int) ∈ wA := wA_3 26 rfl rfl
theorem tw_507 : Cond.methodLink "LeftNumbersLaw" 22 yX4_ratio ∈ wA := wA_3 27 (by decide +kernel) rfl
theorem tw_508 : Cond.instanceMethod yX4_ratio ∈ wA := wA_3 28 (by decide +kernel) rfl
theorem tw_509 : Cond.selects "LeftNumbersModel" yX4_ratio yX4_ratio ∈ wA := wA_3 29 (by decide +kernel) rfl
theorem tw_510 : Cond.code yX4_ratio cX4_ratio 3 (some .int) ∈ wA := wA_3 30 rfl rfl
theorem tw_511 : Cond.constantLong "LeftNumbersModel" 88 (-1000000000) ∈ wA := wA_3 31 (by decide +kernel) rfl
theorem tw_512 : Cond.constantLong "LeftNumbersModel" 90 1000000000 ∈ wA := wA_3 32 (by decide +kernel) rfl
theorem tw_513 : Cond.methodLink "LeftNumbersModel" 92 yX4_in ∈ wA := wA_3 33 (by decide +kernel) rfl
theorem tw_514 : Cond.static yX4_in ∈ wA := wA_3 34 (by decide +kernel) rfl
theorem tw_515 : Cond.code yX4_in cX4_in 6 (some .boolean) ∈ wA := wA_3 35 rfl rfl
theorem tw_516 : Cond.methodLink "LeftNumbersModel" 111 yX4_layFraction ∈ wA := wA_3 36 (by decide +kernel) rfl
theorem tw_518 : Cond.instanceMethod yX4_layFraction ∈ wA := wA_3 38 (by decide +kernel) rfl
theorem tw_519 : Cond.code yX4_layFraction cX4_layFraction 13 none ∈ wA := wA_3 39 rfl rfl
theorem tw_520 : Cond.methodLink "LeftNumbersModel" 81 yX4_lay ∈ wA := wA_3 40 (by decide +kernel) rfl
theorem tw_522 : Cond.instanceMethod yX4_lay ∈ wA := wA_3 42 (by decide +kernel) rfl
theorem tw_523 : Cond.code yX4_lay cX4_lay 7 none ∈ wA := wA_3 43 rfl rfl
theorem tw_524 : Cond.methodLink "LeftNumbersModel" 85 yX4_divisor ∈ wA := wA_3 44 (by decide +kernel) rfl
theorem tw_525 : Cond.static yX4_divisor ∈ wA := wA_3 45 (by decide +kernel) rfl
theorem tw_526 : Cond.code yX4_divisor cX4_divisor 10 (some .long) ∈ wA := wA_3 46 rfl rfl
theorem tw_527 : Cond.methodLink "LeftNumbersModel" 96 yX4_often ∈ wA := wA_3 47 (by decide +kernel) rfl
theorem tw_529 : Cond.instanceMethod yX4_often ∈ wA := wA_3 49 (by decide +kernel) rfl
theorem tw_530 : Cond.code yX4_often cX4_often 6 (some .int) ∈ wA := wA_3 50 rfl rfl
theorem tw_531 : Cond.methodLink "LeftNumbersModel" 100 yX4_figuresOf ∈ wA := wA_3 51 (by decide +kernel) rfl
theorem tw_533 : Cond.instanceMethod yX4_figuresOf ∈ wA := wA_3 53 (by decide +kernel) rfl
theorem tw_534 : Cond.code yX4_figuresOf cX4_figuresOf 5 (some .long) ∈ wA := wA_3 54 rfl rfl
theorem tw_535 : Cond.methodLink "LeftNumbersModel" 73 yX4_without ∈ wA := wA_3 55 (by decide +kernel) rfl
theorem tw_537 : Cond.instanceMethod yX4_without ∈ wA := wA_3 57 (by decide +kernel) rfl
theorem tw_538 : Cond.code yX4_without cX4_without 5 (some .long) ∈ wA := wA_3 58 rfl rfl
theorem tw_539 : Cond.methodLink "LeftNumbersModel" 69 yX4_into ∈ wA := wA_3 59 (by decide +kernel) rfl
theorem tw_540 : Cond.static yX4_into ∈ wA := wA_3 60 (by decide +kernel) rfl
theorem tw_541 : Cond.code yX4_into cX4_into 6 (some .long) ∈ wA := wA_3 61 rfl rfl
theorem tw_542 : Cond.methodLink "LeftNumbersModel" 77 yX4_inverse ∈ wA := wA_3 62 (by decide +kernel) rfl
theorem tw_544 : Cond.instanceMethod yX4_inverse ∈ wA := wA_3 64 (by decide +kernel) rfl
theorem tw_545 : Cond.code yX4_inverse cX4_inverse 11 (some .long) ∈ wA := wA_3 65 rfl rfl
theorem tw_546 : Cond.methodLink "LeftNumbersModel" 65 yX4_times ∈ wA := wA_3 66 (by decide +kernel) rfl
theorem tw_547 : Cond.static yX4_times ∈ wA := wA_3 67 (by decide +kernel) rfl
theorem tw_548 : Cond.code yX4_times cX4_times 12 (some .long) ∈ wA := wA_3 68 rfl rfl
theorem tw_549 : Cond.constantLong "LeftNumbersModel" 63 2 ∈ wA := wA_3 69 (by decide +kernel) rfl
theorem tw_550 : Cond.methodLink "LeftNumbersModel" 115 yX4_keep ∈ wA := wA_3 70 (by decide +kernel) rfl
theorem tw_552 : Cond.instanceMethod yX4_keep ∈ wA := wA_3 72 (by decide +kernel) rfl
theorem tw_553 : Cond.code yX4_keep cX4_keep 2 (some .int) ∈ wA := wA_3 73 rfl rfl
theorem tw_554 : Cond.methodLink "LeftNumbersModel" 107 yX4_copy ∈ wA := wA_3 74 (by decide +kernel) rfl
theorem tw_556 : Cond.instanceMethod yX4_copy ∈ wA := wA_3 76 (by decide +kernel) rfl
theorem tw_557 : Cond.code yX4_copy cX4_copy 3 none ∈ wA := wA_3 77 rfl rfl
theorem tw_558 : Cond.methodLink "LeftNumbersLaw" 29 yX4_number ∈ wA := wA_3 78 (by decide +kernel) rfl
theorem tw_559 : Cond.instanceMethod yX4_number ∈ wA := wA_3 79 (by decide +kernel) rfl
theorem tw_560 : Cond.selects "LeftNumbersModel" yX4_number yX4_number ∈ wA := wA_3 80 (by decide +kernel) rfl
theorem tw_561 : Cond.code yX4_number cX4_number 5 (some .int) ∈ wA := wA_3 81 rfl rfl
theorem tw_562 : Cond.constantLong "LeftNumbersModel" 103 (-60) ∈ wA := wA_3 82 (by decide +kernel) rfl
theorem tw_563 : Cond.constantLong "LeftNumbersModel" 105 60 ∈ wA := wA_3 83 (by decide +kernel) rfl
theorem tw_564 : Cond.methodLink "LeftNumbersModel" 119 yX4_settle ∈ wA := wA_3 84 (by decide +kernel) rfl
theorem tw_566 : Cond.instanceMethod yX4_settle ∈ wA := wA_3 86 (by decide +kernel) rfl
theorem tw_567 : Cond.code yX4_settle cX4_settle 8 none ∈ wA := wA_3 87 rfl rfl
theorem tw_568 : Cond.methodLink "LeftNumbersModel" 122 yX4_isBeyond ∈ wA := wA_3 88 (by decide +kernel) rfl
theorem tw_570 : Cond.instanceMethod yX4_isBeyond ∈ wA := wA_3 90 (by decide +kernel) rfl
theorem tw_571 : Cond.code yX4_isBeyond cX4_isBeyond 2 (some .boolean) ∈ wA := wA_3 91 rfl rfl
theorem tw_572 : Cond.methodLink "LeftNumbersLaw" 33 yX4_shadow ∈ wA := wA_3 92 (by decide +kernel) rfl
theorem tw_573 : Cond.instanceMethod yX4_shadow ∈ wA := wA_3 93 (by decide +kernel) rfl
theorem tw_574 : Cond.selects "LeftNumbersModel" yX4_shadow yX4_shadow ∈ wA := wA_3 94 (by decide +kernel) rfl
theorem tw_575 : Cond.code yX4_shadow cX4_shadow 3 (some .int) ∈ wA := wA_3 95 rfl rfl
theorem tw_576 : Cond.methodLink "LeftNumbersModel" 126 yX4_isNumber ∈ wA := wA_3 96 (by decide +kernel) rfl
theorem tw_578 : Cond.instanceMethod yX4_isNumber ∈ wA := wA_3 98 (by decide +kernel) rfl
theorem tw_579 : Cond.code yX4_isNumber cX4_isNumber 2 (some .boolean) ∈ wA := wA_3 99 rfl rfl
theorem tw_580 : Cond.methodLink "LeftNumbersModel" 129 yX4_isNought ∈ wA := wA_3 100 (by decide +kernel) rfl
theorem tw_582 : Cond.instanceMethod yX4_isNought ∈ wA := wA_3 102 (by decide +kernel) rfl
theorem tw_583 : Cond.code yX4_isNought cX4_isNought 2 (some .boolean) ∈ wA := wA_3 103 rfl rfl
theorem tw_584 : Cond.methodLink "LeftNumbersModel" 132 yX4_isZero ∈ wA := wA_3 104 (by decide +kernel) rfl
theorem tw_586 : Cond.instanceMethod yX4_isZero ∈ wA := wA_3 106 (by decide +kernel) rfl
theorem tw_587 : Cond.code yX4_isZero cX4_isZero 2 (some .boolean) ∈ wA := wA_3 107 rfl rfl
theorem tw_588 : Cond.methodLink "LeftNumbersLaw" 38 yX4_of ∈ wA := wA_3 108 (by decide +kernel) rfl
theorem tw_589 : Cond.instanceMethod yX4_of ∈ wA := wA_3 109 (by decide +kernel) rfl
theorem tw_590 : Cond.selects "LeftNumbersModel" yX4_of yX4_of ∈ wA := wA_3 110 (by decide +kernel) rfl
theorem tw_591 : Cond.code yX4_of cX4_of 5 (some .int) ∈ wA := wA_3 111 rfl rfl
theorem tw_592 : Cond.constantLong "LeftNumbersModel" 153 3 ∈ wA := wA_3 112 (by decide +kernel) rfl
theorem tw_593 : Cond.methodLink "LeftNumbersModel" 155 yX4_reckon ∈ wA := wA_3 113 (by decide +kernel) rfl
theorem tw_595 : Cond.instanceMethod yX4_reckon ∈ wA := wA_3 115 (by decide +kernel) rfl
theorem tw_596 : Cond.code yX4_reckon cX4_reckon 5 (some .int) ∈ wA := wA_3 116 rfl rfl
theorem tw_597 : Cond.methodLink "LeftNumbersModel" 143 yX4_ofRatios ∈ wA := wA_3 117 (by decide +kernel) rfl
theorem tw_599 : Cond.instanceMethod yX4_ofRatios ∈ wA := wA_3 119 (by decide +kernel) rfl
theorem tw_600 : Cond.code yX4_ofRatios cX4_ofRatios 13 none ∈ wA := wA_3 120 rfl rfl
theorem tw_601 : Cond.methodLink "LeftNumbersModel" 147 yX4_added ∈ wA := wA_3 121 (by decide +kernel) rfl
theorem tw_603 : Cond.instanceMethod yX4_added ∈ wA := wA_3 123 (by decide +kernel) rfl
theorem tw_604 : Cond.code yX4_added cX4_added 14 none ∈ wA := wA_3 124 rfl rfl
theorem tw_605 : Cond.methodLink "LeftNumbersModel" 136 yX4_knownTo ∈ wA := wA_3 125 (by decide +kernel) rfl
theorem tw_607 : Cond.instanceMethod yX4_knownTo ∈ wA := wA_3 127 (by decide +kernel) rfl
theorem tw_608 : Cond.code yX4_knownTo cX4_knownTo 2 (some .int) ∈ wA := wA_3 128 rfl rfl
theorem tw_609 : Cond.constant "LeftNumbersModel" 135 100000 ∈ wA := wA_3 129 (by decide +kernel) rfl
theorem tw_610 : Cond.methodLink "LeftNumbersModel" 139 yX4_from ∈ wA := wA_3 130 (by decide +kernel) rfl
theorem tw_612 : Cond.instanceMethod yX4_from ∈ wA := wA_3 132 (by decide +kernel) rfl
theorem tw_613 : Cond.code yX4_from cX4_from 5 (some .long) ∈ wA := wA_3 133 rfl rfl
theorem tw_614 : Cond.methodLink "LeftNumbersModel" 150 yX4_multiplied ∈ wA := wA_3 134 (by decide +kernel) rfl
theorem tw_616 : Cond.instanceMethod yX4_multiplied ∈ wA := wA_3 136 (by decide +kernel) rfl
theorem tw_617 : Cond.code yX4_multiplied cX4_multiplied 9 none ∈ wA := wA_3 137 rfl rfl
theorem tw_618 : Cond.methodLink "LeftNumbersLaw" 42 yX4_kind ∈ wA := wA_3 138 (by decide +kernel) rfl
theorem tw_619 : Cond.instanceMethod yX4_kind ∈ wA := wA_3 139 (by decide +kernel) rfl
theorem tw_620 : Cond.selects "LeftNumbersModel" yX4_kind yX4_kind ∈ wA := wA_3 140 (by decide +kernel) rfl
theorem tw_621 : Cond.code yX4_kind cX4_kind 2 (some .int) ∈ wA := wA_3 141 rfl rfl
theorem tw_622 : Cond.methodLink "LeftNumbersLaw" 46 yX4_lift ∈ wA := wA_3 142 (by decide +kernel) rfl
theorem tw_623 : Cond.instanceMethod yX4_lift ∈ wA := wA_3 143 (by decide +kernel) rfl
theorem tw_624 : Cond.selects "LeftNumbersModel" yX4_lift yX4_lift ∈ wA := wA_3 144 (by decide +kernel) rfl
theorem tw_625 : Cond.code yX4_lift cX4_lift 2 (some .int) ∈ wA := wA_3 145 rfl rfl
theorem tw_626 : Cond.methodLink "LeftNumbersLaw" 50 yX4_sure ∈ wA := wA_3 146 (by decide +kernel) rfl
theorem tw_627 : Cond.instanceMethod yX4_sure ∈ wA := wA_3 147 (by decide +kernel) rfl
theorem tw_628 : Cond.selects "LeftNumbersModel" yX4_sure yX4_sure ∈ wA := wA_3 148 (by decide +kernel) rfl
theorem tw_629 : Cond.code yX4_sure cX4_sure 2 (some .int) ∈ wA := wA_3 149 rfl rfl
theorem tw_630 : Cond.methodLink "LeftNumbersLaw" 54 yX4_figure ∈ wA := wA_3 150 (by decide +kernel) rfl
theorem tw_631 : Cond.instanceMethod yX4_figure ∈ wA := wA_3 151 (by decide +kernel) rfl
theorem tw_632 : Cond.selects "LeftNumbersModel" yX4_figure yX4_figure ∈ wA := wA_3 152 (by decide +kernel) rfl
theorem tw_633 : Cond.code yX4_figure cX4_figure 3 (some .int) ∈ wA := wA_3 153 rfl rfl
theorem tw_634 : Cond.constantLong "LeftNumbersModel" 159 (-100) ∈ wA := wA_3 154 (by decide +kernel) rfl
theorem tw_635 : Cond.constantLong "LeftNumbersModel" 161 1000 ∈ wA := wA_3 155 (by decide +kernel) rfl
theorem tw_636 : Cond.methodLink "LeftNumbersModel" 163 yX4_ratioFigure ∈ wA := wA_3 156 (by decide +kernel) rfl
theorem tw_638 : Cond.instanceMethod yX4_ratioFigure ∈ wA := wA_3 158 (by decide +kernel) rfl
theorem tw_639 : Cond.code yX4_ratioFigure cX4_ratioFigure 12 (some .int) ∈ wA := wA_3 159 rfl rfl
theorem tw_640 : Cond.methodLink "LeftNumbersLaw" 59 yX4_told ∈ wA := wA_3 160 (by decide +kernel) rfl
theorem tw_641 : Cond.instanceMethod yX4_told ∈ wA := wA_3 161 (by decide +kernel) rfl
theorem tw_642 : Cond.selects "LeftNumbersModel" yX4_told yX4_told ∈ wA := wA_3 162 (by decide +kernel) rfl
theorem tw_643 : Cond.code yX4_told cX4_told 2 (some .long) ∈ wA := wA_3 163 rfl rfl
theorem tw_644 : Cond.constantLong "LeftNumbersModel" 167 (-1) ∈ wA := wA_3 164 (by decide +kernel) rfl
theorem tw_645 : Cond.methodLink "LeftNumbersLaw" 63 yX4_part ∈ wA := wA_3 165 (by decide +kernel) rfl
theorem tw_646 : Cond.instanceMethod yX4_part ∈ wA := wA_3 166 (by decide +kernel) rfl
theorem tw_647 : Cond.selects "LeftNumbersModel" yX4_part yX4_part ∈ wA := wA_3 167 (by decide +kernel) rfl
theorem tw_648 : Cond.code yX4_part cX4_part 3 (some .int) ∈ wA := wA_3 168 rfl rfl
theorem tw_649 : Cond.methodLink "LeftNumbersLaw" 67 yX4_near ∈ wA := wA_3 169 (by decide +kernel) rfl
theorem tw_650 : Cond.instanceMethod yX4_near ∈ wA := wA_3 170 (by decide +kernel) rfl
theorem tw_651 : Cond.selects "LeftNumbersModel" yX4_near yX4_near ∈ wA := wA_3 171 (by decide +kernel) rfl
theorem tw_652 : Cond.code yX4_near cX4_near 4 (some .int) ∈ wA := wA_3 172 rfl rfl
theorem tw_653 : Cond.constantLong "LeftNumbersModel" 169 100 ∈ wA := wA_3 173 (by decide +kernel) rfl
theorem tw_654 : Cond.methodLink "LeftNumbersLaw" 71 yX4_guess ∈ wA := wA_3 174 (by decide +kernel) rfl
theorem tw_655 : Cond.instanceMethod yX4_guess ∈ wA := wA_3 175 (by decide +kernel) rfl
theorem tw_656 : Cond.selects "LeftNumbersModel" yX4_guess yX4_guess ∈ wA := wA_3 176 (by decide +kernel) rfl
theorem tw_657 : Cond.code yX4_guess cX4_guess 8 (some .int) ∈ wA := wA_3 177 rfl rfl
theorem tw_658 : Cond.methodLink "LeftNumbersModel" 178 yX4_guessed ∈ wA := wA_3 178 (by decide +kernel) rfl
theorem tw_660 : Cond.instanceMethod yX4_guessed ∈ wA := wA_3 180 (by decide +kernel) rfl
theorem tw_661 : Cond.code yX4_guessed cX4_guessed 20 (some .boolean) ∈ wA := wA_3 181 rfl rfl
theorem tw_662 : Cond.methodLink "LeftNumbersLaw" 75 yX4_round ∈ wA := wA_3 182 (by decide +kernel) rfl
theorem tw_663 : Cond.instanceMethod yX4_round ∈ wA := wA_3 183 (by decide +kernel) rfl
theorem tw_664 : Cond.selects "LeftNumbersModel" yX4_round yX4_round ∈ wA := wA_3 184 (by decide +kernel) rfl
theorem tw_665 : Cond.code yX4_round cX4_round 12 (some .int) ∈ wA := wA_3 185 rfl rfl
theorem tw_666 : Cond.methodLink "LeftNumbersLaw" 79 yX4_coefficient ∈ wA := wA_3 186 (by decide +kernel) rfl
theorem tw_667 : Cond.instanceMethod yX4_coefficient ∈ wA := wA_3 187 (by decide +kernel) rfl
theorem tw_668 : Cond.selects "LeftNumbersModel" yX4_coefficient yX4_coefficient ∈ wA := wA_3 188 (by decide +kernel) rfl
theorem tw_669 : Cond.code yX4_coefficient cX4_coefficient 4 (some .int) ∈ wA := wA_3 189 rfl rfl
theorem tw_670 : Cond.constantLong "LeftNumbersModel" 182 7 ∈ wA := wA_3 190 (by decide +kernel) rfl
theorem tw_671 : Cond.constantLong "LeftNumbersModel" 184 (-1000000) ∈ wA := wA_3 191 (by decide +kernel) rfl
theorem tw_672 : Cond.constantLong "LeftNumbersModel" 186 1000000 ∈ wA := wA_3 192 (by decide +kernel) rfl
theorem tw_673 : Cond.constant "LeftNumbersModel" 188 2000000 ∈ wA := wA_3 193 (by decide +kernel) rfl
theorem tw_674 : Cond.methodLink "LeftNumbersLaw" 83 yX4_at ∈ wA := wA_3 194 (by decide +kernel) rfl
theorem tw_675 : Cond.instanceMethod yX4_at ∈ wA := wA_3 195 (by decide +kernel) rfl
theorem tw_676 : Cond.selects "LeftNumbersModel" yX4_at yX4_at ∈ wA := wA_3 196 (by decide +kernel) rfl
theorem tw_677 : Cond.code yX4_at cX4_at 4 (some .int) ∈ wA := wA_3 197 rfl rfl
theorem tw_678 : Cond.methodLink "LeftNumbersLaw" 87 yX4_firsts ∈ wA := wA_3 198 (by decide +kernel) rfl
theorem tw_679 : Cond.instanceMethod yX4_firsts ∈ wA := wA_3 199 (by decide +kernel) rfl
theorem tw_680 : Cond.selects "LeftNumbersModel" yX4_firsts yX4_firsts ∈ wA := wA_3 200 (by decide +kernel) rfl
theorem tw_681 : Cond.code yX4_firsts cX4_firsts 4 (some .int) ∈ wA := wA_3 201 rfl rfl
theorem tw_682 : Cond.methodLink "LeftNumbersModel" 193 yX4_isFirst ∈ wA := wA_3 202 (by decide +kernel) rfl
theorem tw_684 : Cond.instanceMethod yX4_isFirst ∈ wA := wA_3 204 (by decide +kernel) rfl
theorem tw_685 : Cond.code yX4_isFirst cX4_isFirst 6 (some .boolean) ∈ wA := wA_3 205 rfl rfl
theorem tw_686 : Cond.methodLink "LeftNumbersModel" 189 yX4_valueAt ∈ wA := wA_3 206 (by decide +kernel) rfl
theorem tw_687 : Cond.static yX4_valueAt ∈ wA := wA_3 207 (by decide +kernel) rfl
theorem tw_688 : Cond.code yX4_valueAt cX4_valueAt 9 (some .long) ∈ wA := wA_3 208 rfl rfl
theorem tw_689 : Cond.methodLink "LeftNumbersLaw" 91 yX4_root ∈ wA := wA_3 209 (by decide +kernel) rfl
theorem tw_690 : Cond.instanceMethod yX4_root ∈ wA := wA_3 210 (by decide +kernel) rfl
theorem tw_691 : Cond.selects "LeftNumbersModel" yX4_root yX4_root ∈ wA := wA_3 211 (by decide +kernel) rfl
theorem tw_692 : Cond.code yX4_root cX4_root 4 (some .int) ∈ wA := wA_3 212 rfl rfl
theorem tw_693 : Cond.methodLink "LeftNumbersModel" 197 yX4_rootOf ∈ wA := wA_3 213 (by decide +kernel) rfl
theorem tw_695 : Cond.instanceMethod yX4_rootOf ∈ wA := wA_3 215 (by decide +kernel) rfl
theorem tw_696 : Cond.code yX4_rootOf cX4_rootOf 9 (some .long) ∈ wA := wA_3 216 rfl rfl
theorem tw_697 : Cond.methodLink "LeftNumbersLaw" 95 yX4_more ∈ wA := wA_3 217 (by decide +kernel) rfl
theorem tw_698 : Cond.instanceMethod yX4_more ∈ wA := wA_3 218 (by decide +kernel) rfl
theorem tw_699 : Cond.selects "LeftNumbersModel" yX4_more yX4_more ∈ wA := wA_3 219 (by decide +kernel) rfl
theorem tw_700 : Cond.code yX4_more cX4_more 3 (some .int) ∈ wA := wA_3 220 rfl rfl
theorem tw_701 : Cond.methodLink "LeftNumbersLaw" 99 yX4_square ∈ wA := wA_3 221 (by decide +kernel) rfl
theorem tw_702 : Cond.instanceMethod yX4_square ∈ wA := wA_3 222 (by decide +kernel) rfl
theorem tw_703 : Cond.selects "LeftNumbersModel" yX4_square yX4_square ∈ wA := wA_3 223 (by decide +kernel) rfl
theorem tw_704 : Cond.code yX4_square cX4_square 4 (some .int) ∈ wA := wA_3 224 rfl rfl
theorem tw_705 : Cond.methodLink "LeftNumbersModel" 201 yX4_firstRoot ∈ wA := wA_3 225 (by decide +kernel) rfl
theorem tw_707 : Cond.instanceMethod yX4_firstRoot ∈ wA := wA_3 227 (by decide +kernel) rfl
theorem tw_708 : Cond.code yX4_firstRoot cX4_firstRoot 4 (some .int) ∈ wA := wA_3 228 rfl rfl
theorem tw_709 : Cond.constantLong "LeftNumbersModel" 204 8 ∈ wA := wA_3 229 (by decide +kernel) rfl
theorem tw_710 : Cond.methodLink "LeftNumbersModel" 206 yX4_rootTwo ∈ wA := wA_3 230 (by decide +kernel) rfl
theorem tw_712 : Cond.instanceMethod yX4_rootTwo ∈ wA := wA_3 232 (by decide +kernel) rfl
theorem tw_713 : Cond.code yX4_rootTwo cX4_rootTwo 9 (some .long) ∈ wA := wA_3 233 rfl rfl
theorem tw_714 : Cond.methodLink "LeftNumbersModel" 209 yX4_rootOdd ∈ wA := wA_3 234 (by decide +kernel) rfl
theorem tw_716 : Cond.instanceMethod yX4_rootOdd ∈ wA := wA_3 236 (by decide +kernel) rfl
theorem tw_717 : Cond.code yX4_rootOdd cX4_rootOdd 11 (some .long) ∈ wA := wA_3 237 rfl rfl
theorem tw_718 : Cond.methodLink "LeftNumbersLaw" 103 yX4_unit ∈ wA := wA_3 238 (by decide +kernel) rfl
theorem tw_719 : Cond.instanceMethod yX4_unit ∈ wA := wA_3 239 (by decide +kernel) rfl
theorem tw_720 : Cond.selects "LeftNumbersModel" yX4_unit yX4_unit ∈ wA := wA_4 0 (by decide +kernel) rfl
theorem tw_721 : Cond.code yX4_unit cX4_unit 5 (some .int) ∈ wA := wA_4 1 rfl rfl
theorem tw_722 : Cond.methodLink "LeftNumbersModel" 213 yX4_raised ∈ wA := wA_4 2 (by decide +kernel) rfl
theorem tw_723 : Cond.static yX4_raised ∈ wA := wA_4 3 (by decide +kernel) rfl
theorem tw_724 : Cond.code yX4_raised cX4_raised 8 (some .long) ∈ wA := wA_4 4 rfl rfl
theorem tw_725 : Cond.methodLink "LeftNumbersLaw" 108 yX4_undo ∈ wA := wA_4 5 (by decide +kernel) rfl
theorem tw_726 : Cond.instanceMethod yX4_undo ∈ wA := wA_4 6 (by decide +kernel) rfl
theorem tw_727 : Cond.selects "LeftNumbersModel" yX4_undo yX4_undo ∈ wA := wA_4 7 (by decide +kernel) rfl
theorem tw_728 : Cond.code yX4_undo cX4_undo 1 (some .int) ∈ wA := wA_4 8 rfl rfl
theorem tw_729 : Cond.methodLink "LeftNumbersLaw" 112 yX4_count ∈ wA := wA_4 9 (by decide +kernel) rfl
theorem tw_730 : Cond.instanceMethod yX4_count ∈ wA := wA_4 10 (by decide +kernel) rfl
theorem tw_731 : Cond.selects "LeftNumbersModel" yX4_count yX4_count ∈ wA := wA_4 11 (by decide +kernel) rfl
theorem tw_732 : Cond.code yX4_count cX4_count 2 (some .int) ∈ wA := wA_4 12 rfl rfl
theorem tw_733 : Cond.constantLong "LeftNumbersLaw" 23 4294967295 ∈ wA := wA_4 13 (by decide +kernel) rfl
theorem inT_X0 : ∀ w ∈ wsX00, w ∈ lw_tbl := by decide +kernel
theorem inA_X0 : ∀ w ∈ wsX00, w ∈ wA := fun w h => List.mem_filter.mpr ⟨inT_X0 w h, List.all_eq_true.mp (show wsX00.all goodWord = true by decide +kernel) w h⟩
theorem inT_X1 : ∀ w ∈ wsX10, w ∈ lw_tbl := by decide +kernel
theorem inA_X1 : ∀ w ∈ wsX10, w ∈ wA := fun w h => List.mem_filter.mpr ⟨inT_X1 w h, List.all_eq_true.mp (show wsX10.all goodWord = true by decide +kernel) w h⟩
theorem inT_X2 : ∀ w ∈ wsX20, w ∈ lw_tbl := by decide +kernel
theorem inA_X2 : ∀ w ∈ wsX20, w ∈ wA := fun w h => List.mem_filter.mpr ⟨inT_X2 w h, List.all_eq_true.mp (show wsX20.all goodWord = true by decide +kernel) w h⟩
theorem inT_X3 : ∀ w ∈ wsX30, w ∈ lw_tbl := by decide +kernel
theorem inA_X3 : ∀ w ∈ wsX30, w ∈ wA := fun w h => List.mem_filter.mpr ⟨inT_X3 w h, List.all_eq_true.mp (show wsX30.all goodWord = true by decide +kernel) w h⟩
theorem inT_X4 : ∀ w ∈ wsX40, w ∈ lw_tbl := by decide +kernel
theorem inA_X4 : ∀ w ∈ wsX40, w ∈ wA := fun w h => List.mem_filter.mpr ⟨inT_X4 w h, List.all_eq_true.mp (show wsX40.all goodWord = true by decide +kernel) w h⟩
theorem ts_0 : Cond.selects "LeftNumbers" yX3_keep yX3_keep ∈ wA := wA_p 0 (by decide +kernel) rfl
theorem ts_1 : Cond.selects "LeftNumbers" yX3_isNoSure yX3_isNoSure ∈ wA := wA_p 1 (by decide +kernel) rfl
theorem ts_2 : Cond.selects "LeftNumbers" yX3_find yX3_find ∈ wA := wA_p 2 (by decide +kernel) rfl
theorem ts_3 : Cond.selects "LeftNumbers$Arithmetic" yX0_combineRatios yX0_combineRatios ∈ wA := wA_p 3 (by decide +kernel) rfl
theorem ts_4 : Cond.selects "LeftNumbers$Arithmetic" yX0_add yX0_add ∈ wA := wA_p 4 (by decide +kernel) rfl
theorem ts_5 : Cond.selects "LeftNumbers$Arithmetic" yX0_figuresFrom yX0_figuresFrom ∈ wA := wA_p 5 (by decide +kernel) rfl
theorem ts_6 : Cond.selects "LeftNumbers$Arithmetic" yX0_multiply yX0_multiply ∈ wA := wA_p 6 (by decide +kernel) rfl
theorem ts_7 : Cond.selects "LeftNumbers" yX3_ratioFigure yX3_ratioFigure ∈ wA := wA_p 7 (by decide +kernel) rfl
theorem ts_8 : Cond.selects "LeftNumbers" yX3_copyWithin yX3_copyWithin ∈ wA := wA_p 8 (by decide +kernel) rfl
theorem ts_9 : Cond.selects "LeftNumbers" yX3_fractionWithin yX3_fractionWithin ∈ wA := wA_p 9 (by decide +kernel) rfl
theorem ts_10 : Cond.selects "LeftNumbers" yX3_comingRound yX3_comingRound ∈ wA := wA_p 10 (by decide +kernel) rfl
theorem ts_11 : Cond.selects "LeftNumbers" yX3_isGood yX3_isGood ∈ wA := wA_p 11 (by decide +kernel) rfl
theorem ts_12 : Cond.selects "LeftNumbers" yX3_isStuck yX3_isStuck ∈ wA := wA_p 12 (by decide +kernel) rfl
theorem ts_13 : Cond.selects "LeftNumbers" yX3_setRoot yX3_setRoot ∈ wA := wA_p 13 (by decide +kernel) rfl
theorem ts_14 : Cond.selects "LeftNumbers" yX3_squareOfTwo yX3_squareOfTwo ∈ wA := wA_p 14 (by decide +kernel) rfl
theorem ts_15 : Cond.selects "LeftNumbers" yX3_squareOfOdd yX3_squareOfOdd ∈ wA := wA_p 15 (by decide +kernel) rfl
theorem ts_16 : Cond.selects "LeftNumbersModel" yX4_powers yX4_powers ∈ wA := wA_p 16 (by decide +kernel) rfl
theorem ts_17 : Cond.selects "LeftNumbersModel" yX4_layFraction yX4_layFraction ∈ wA := wA_p 17 (by decide +kernel) rfl
theorem ts_18 : Cond.selects "LeftNumbersModel" yX4_lay yX4_lay ∈ wA := wA_p 18 (by decide +kernel) rfl
theorem ts_19 : Cond.selects "LeftNumbersModel" yX4_often yX4_often ∈ wA := wA_p 19 (by decide +kernel) rfl
theorem ts_20 : Cond.selects "LeftNumbersModel" yX4_figuresOf yX4_figuresOf ∈ wA := wA_p 20 (by decide +kernel) rfl
theorem ts_21 : Cond.selects "LeftNumbersModel" yX4_without yX4_without ∈ wA := wA_p 21 (by decide +kernel) rfl
theorem ts_22 : Cond.selects "LeftNumbersModel" yX4_inverse yX4_inverse ∈ wA := wA_p 22 (by decide +kernel) rfl
theorem ts_23 : Cond.selects "LeftNumbersModel" yX4_keep yX4_keep ∈ wA := wA_p 23 (by decide +kernel) rfl
theorem ts_24 : Cond.selects "LeftNumbersModel" yX4_copy yX4_copy ∈ wA := wA_p 24 (by decide +kernel) rfl
theorem ts_25 : Cond.selects "LeftNumbersModel" yX4_settle yX4_settle ∈ wA := wA_p 25 (by decide +kernel) rfl
theorem ts_26 : Cond.selects "LeftNumbersModel" yX4_isBeyond yX4_isBeyond ∈ wA := wA_p 26 (by decide +kernel) rfl
theorem ts_27 : Cond.selects "LeftNumbersModel" yX4_isNumber yX4_isNumber ∈ wA := wA_p 27 (by decide +kernel) rfl
theorem ts_28 : Cond.selects "LeftNumbersModel" yX4_isNought yX4_isNought ∈ wA := wA_p 28 (by decide +kernel) rfl
theorem ts_29 : Cond.selects "LeftNumbersModel" yX4_isZero yX4_isZero ∈ wA := wA_p 29 (by decide +kernel) rfl
theorem ts_30 : Cond.selects "LeftNumbersModel" yX4_reckon yX4_reckon ∈ wA := wA_p 30 (by decide +kernel) rfl
theorem ts_31 : Cond.selects "LeftNumbersModel" yX4_ofRatios yX4_ofRatios ∈ wA := wA_p 31 (by decide +kernel) rfl
theorem ts_32 : Cond.selects "LeftNumbersModel" yX4_added yX4_added ∈ wA := wA_p 32 (by decide +kernel) rfl
theorem ts_33 : Cond.selects "LeftNumbersModel" yX4_knownTo yX4_knownTo ∈ wA := wA_p 33 (by decide +kernel) rfl
theorem ts_34 : Cond.selects "LeftNumbersModel" yX4_from yX4_from ∈ wA := wA_p 34 (by decide +kernel) rfl
theorem ts_35 : Cond.selects "LeftNumbersModel" yX4_multiplied yX4_multiplied ∈ wA := wA_p 35 (by decide +kernel) rfl
theorem ts_36 : Cond.selects "LeftNumbersModel" yX4_ratioFigure yX4_ratioFigure ∈ wA := wA_p 36 (by decide +kernel) rfl
theorem ts_37 : Cond.selects "LeftNumbersModel" yX4_guessed yX4_guessed ∈ wA := wA_p 37 (by decide +kernel) rfl
theorem ts_38 : Cond.selects "LeftNumbersModel" yX4_isFirst yX4_isFirst ∈ wA := wA_p 38 (by decide +kernel) rfl
theorem ts_39 : Cond.selects "LeftNumbersModel" yX4_rootOf yX4_rootOf ∈ wA := wA_p 39 (by decide +kernel) rfl
theorem ts_40 : Cond.selects "LeftNumbersModel" yX4_firstRoot yX4_firstRoot ∈ wA := wA_p 40 (by decide +kernel) rfl
theorem ts_41 : Cond.selects "LeftNumbersModel" yX4_rootTwo yX4_rootTwo ∈ wA := wA_p 41 (by decide +kernel) rfl
theorem ts_42 : Cond.selects "LeftNumbersModel" yX4_rootOdd yX4_rootOdd ∈ wA := wA_p 42 (by decide +kernel) rfl
end
section
/-! The state: ints and longs by cell number and place (a field's number, or an array's index); the cells' addresses are G 0, G 1, .. -/
abbrev St : Type := (Nat → Nat → Int32) × (Nat → Nat → Int64)
def st_I (S : St) (r k : Nat) (v : Int32) : St := (fun a b => if a = r ∧ b = k then v else S.1 a b, S.2)
def st_L (S : St) (r k : Nat) (v : Int64) : St := (S.1, fun a b => if a = r ∧ b = k then v else S.2 a b)
def st_R (S : St) (r : Nat) (f : Nat → Int32) : St := (fun a b => if a = r then f b else S.1 a b, S.2)
theorem st_I1 (S : St) (r k : Nat) (v : Int32) : (st_I S r k v).1 r k = v := by simp [st_I]
theorem st_In (S : St) {r k a b : Nat} (v : Int32) (h : ¬ (a = r ∧ b = k)) : (st_I S r k v).1 a b = S.1 a b := by simp only [st_I]; rw [if_neg h]
theorem st_IL (S : St) (r k : Nat) (v : Int32) : (st_I S r k v).2 = S.2 := rfl
theorem st_L1 (S : St) (r k : Nat) (v : Int64) : (st_L S r k v).2 r k = v := by simp [st_L]
theorem st_Ln (S : St) {r k a b : Nat} (v : Int64) (h : ¬ (a = r ∧ b = k)) : (st_L S r k v).2 a b = S.2 a b := by simp only [st_L]; rw [if_neg h]
theorem st_LI (S : St) (r k : Nat) (v : Int64) : (st_L S r k v).1 = S.1 := rfl
theorem st_Irow (S : St) {r a k : Nat} (v : Int32) (h : a ≠ r) : (st_I S r k v).1 a = S.1 a := by funext b; exact st_In S v (fun q => h q.1)
theorem st_Iupd (S : St) (r k : Nat) (v : Int32) : (st_I S r k v).1 r = upd (S.1 r) k v := by funext b; simp [st_I, upd]
theorem st_Lrow (S : St) {r a k : Nat} (v : Int64) (h : a ≠ r) : (st_L S r k v).2 a = S.2 a := by funext b; exact st_Ln S v (fun q => h q.1)
theorem st_Lupd (S : St) (r k : Nat) (v : Int64) : (st_L S r k v).2 r = vp_updL (S.2 r) k v := by funext b; simp [st_L, vp_updL]
theorem st_R1 (S : St) (r : Nat) (f : Nat → Int32) : (st_R S r f).1 r = f := by funext b; simp [st_R]
theorem st_Rn (S : St) {r a : Nat} (f : Nat → Int32) (h : a ≠ r) : (st_R S r f).1 a = S.1 a := by funext b; simp [st_R, h]
/-- addresses apart -/
def gi (G : Nat → Nat) (N : Nat) : Prop := ∀ i j, i < N → j < N → G i = G j → i = j
def wg (N : Nat) (G : Nat → Nat) (f : Nat → va_E) : va_W := (List.range N).map (fun r => (G r, f r))
def ag (N : Nat) (G : Nat → Nat) : Nat → Prop := fun q => ∃ i, i < N ∧ G i = q
theorem wg_at {N : Nat} {G : Nat → Nat} {f : Nat → va_E} {r : Nat} (h : r < N) : (wg N G f)[r]? = some (G r, f r) := by simp [wg, h]
theorem wg_in {N : Nat} {G : Nat → Nat} {f : Nat → va_E} {r : Nat} {q : Nat × va_E} (h : (wg N G f)[r]? = some q) : r < N ∧ q = (G r, f r) := by
  have hr : r < N := by
    have := (List.getElem?_eq_some_iff.mp h).1
    simpa [wg] using this
  rw [wg_at hr] at h
  exact ⟨hr, (Option.some.inj h).symm⟩
theorem wg_D {N : Nat} {G : Nat → Nat} (hG : gi G N) (f : Nat → va_E) : va_D (ag N G) (wg N G f) := by
  refine ⟨fun i j p q hi hj e => ?_, fun k q hk => ?_⟩
  · obtain ⟨h1, rfl⟩ := wg_in hi
    obtain ⟨h2, rfl⟩ := wg_in hj
    exact hG i j h1 h2 e
  · obtain ⟨h1, rfl⟩ := wg_in hk
    exact ⟨k, h1, rfl⟩
theorem wg_set {N : Nat} {G : Nat → Nat} {f f' : Nat → va_E} {r : Nat} {e : va_E} (he : f' r = e) (ho : ∀ q, q ≠ r → f' q = f q) : (wg N G f).set r (G r, e) = wg N G f' := by
  apply List.ext_getElem?
  intro i
  by_cases hi : i < N
  · rw [wg_at hi]
    by_cases hr : i = r
    · subst hr
      rw [List.getElem?_set_self (by simpa [wg] using hi), he]
    · rw [List.getElem?_set_ne (fun q => hr q.symm), wg_at hi, ho i hr]
  · rw [List.getElem?_eq_none (by simp [wg]; omega), List.getElem?_eq_none (by simp [wg]; omega)]
/-! the class's cells: 0 the object, 1 Figures, 2 its powers, 3 Arithmetic, 4 numbers, 5 the polynomial, 6 + 2 j the Value j (60 made, 61 between, 62 term), 7 + 2 j its polynomial -/
def kc (r : Nat) : Nat := if r = 0 then 3 else if r = 1 then 1 else if r = 2 then 6 else if r = 3 then 0 else if r = 4 then 7 else if r = 5 then 5 else if r < 132 then (if r % 2 = 0 then 2 else 5) else 8
def ec (cy : Nat → ClassId) (G : Nat → Nat) (S : St) (r : Nat) : va_E :=
  if kc r = 2 then .inr (2, [.ref (G (r + 1)), .int (S.1 r 1), .int (S.1 r 2), .int (S.1 r 3), .long (S.2 r 4), .int (S.1 r 5), .int (S.1 r 6), .int (S.1 r 7)])
  else if kc r = 5 then .inl (cy 0, 8, .inl (S.1 r))
  else if kc r = 3 then .inr (3, [.ref (G 1), .ref (G 3), .ref (G 4), .ref (G 5), .ref (G 126), .ref (G 128), .ref (G 130), .int (S.1 r 7), .int (S.1 r 8)])
  else if kc r = 1 then .inr (1, [.ref (G 2), .int (S.1 r 1), .int (S.1 r 2)])
  else if kc r = 0 then .inr (0, [.ref (G 1)])
  else if kc r = 6 then .inl (cy 1, 60, .inr (.inl (S.2 r)))
  else .inl (cy 2, 60, .inr (.inr (.inr (.inr (fun j => some (G (6 + 2 * j)))))))
abbrev wc (cy : Nat → ClassId) (G : Nat → Nat) (S : St) : va_W := wg 132 G (ec cy G S)
abbrev ac (G : Nat → Nat) : Nat → Prop := ag 132 G
theorem kc_lt {r k : Nat} (h : kc r = k) (hk : k ≠ 8) : r < 132 := by
  unfold kc at h
  by_cases hr : r < 132
  · exact hr
  · rw [if_neg (by omega), if_neg (by omega), if_neg (by omega), if_neg (by omega), if_neg (by omega), if_neg (by omega), if_neg hr] at h
    exact absurd h.symm hk
theorem kc_poly {r : Nat} (h : kc r = 2) : kc (r + 1) = 5 := by
  have hr := kc_lt h (by decide)
  unfold kc at h ⊢
  by_cases h0 : r < 6
  · have : r = 0 ∨ r = 1 ∨ r = 2 ∨ r = 3 ∨ r = 4 ∨ r = 5 := by omega
    rcases this with rfl | rfl | rfl | rfl | rfl | rfl <;> simp at h
  · rw [if_neg (by omega), if_neg (by omega), if_neg (by omega), if_neg (by omega), if_neg (by omega), if_neg (by omega), if_pos hr] at h
    have h2 : r % 2 = 0 := by
      by_cases q : r % 2 = 0
      · exact q
      · rw [if_neg q] at h; cases h
    rw [if_neg (by omega), if_neg (by omega), if_neg (by omega), if_neg (by omega), if_neg (by omega), if_neg (by omega), if_pos (by omega), if_neg (by omega)]
theorem kc_V {j : Nat} (h : j < 63) : kc (6 + 2 * j) = 2 := by
  unfold kc
  rw [if_neg (by omega), if_neg (by omega), if_neg (by omega), if_neg (by omega), if_neg (by omega), if_neg (by omega), if_pos (by omega), if_pos (by omega)]
theorem wc_V {cy : Nat → ClassId} {G : Nat → Nat} {S : St} {r : Nat} (h : kc r = 2) : (wc cy G S)[r]? = some (G r, .inr (2, [.ref (G (r + 1)), .int (S.1 r 1), .int (S.1 r 2), .int (S.1 r 3), .long (S.2 r 4), .int (S.1 r 5), .int (S.1 r 6), .int (S.1 r 7)])) := by
  rw [wg_at (kc_lt h (by decide))]; unfold ec; rw [if_pos h]
theorem wc_A {cy : Nat → ClassId} {G : Nat → Nat} {S : St} {r : Nat} (h : kc r = 5) : (wc cy G S)[r]? = some (G r, .inl (cy 0, 8, .inl (S.1 r))) := by
  rw [wg_at (kc_lt h (by decide))]; unfold ec; rw [if_neg (by rw [h]; decide), if_pos h]
theorem wc_0 {cy : Nat → ClassId} {G : Nat → Nat} {S : St} : (wc cy G S)[0]? = some (G 0, .inr (3, [.ref (G 1), .ref (G 3), .ref (G 4), .ref (G 5), .ref (G 126), .ref (G 128), .ref (G 130), .int (S.1 0 7), .int (S.1 0 8)])) := by
  rw [wg_at (by decide)]; rfl
theorem wc_1 {cy : Nat → ClassId} {G : Nat → Nat} {S : St} : (wc cy G S)[1]? = some (G 1, .inr (1, [.ref (G 2), .int (S.1 1 1), .int (S.1 1 2)])) := by
  rw [wg_at (by decide)]; rfl
theorem wc_2 {cy : Nat → ClassId} {G : Nat → Nat} {S : St} : (wc cy G S)[2]? = some (G 2, .inl (cy 1, 60, .inr (.inl (S.2 2)))) := by
  rw [wg_at (by decide)]; rfl
theorem wc_3 {cy : Nat → ClassId} {G : Nat → Nat} {S : St} : (wc cy G S)[3]? = some (G 3, .inr (0, [.ref (G 1)])) := by
  rw [wg_at (by decide)]; rfl
theorem wc_4 {cy : Nat → ClassId} {G : Nat → Nat} {S : St} : (wc cy G S)[4]? = some (G 4, .inl (cy 2, 60, .inr (.inr (.inr (.inr (fun j => some (G (6 + 2 * j)))))))) := by
  rw [wg_at (by decide)]; rfl
theorem ec_I {cy : Nat → ClassId} {G : Nat → Nat} {S : St} {r k : Nat} {v : Int32} : ∀ q, q ≠ r → ec cy G (st_I S r k v) q = ec cy G S q := by
  intro q hq; unfold ec; simp only [st_IL, st_Irow S v hq]
theorem ec_L {cy : Nat → ClassId} {G : Nat → Nat} {S : St} {r k : Nat} {v : Int64} : ∀ q, q ≠ r → ec cy G (st_L S r k v) q = ec cy G S q := by
  intro q hq; unfold ec; simp only [st_LI, st_Lrow S v hq]
theorem ec_R {cy : Nat → ClassId} {G : Nat → Nat} {S : St} {r : Nat} {f : Nat → Int32} : ∀ q, q ≠ r → ec cy G (st_R S r f) q = ec cy G S q := by
  intro q hq; unfold ec; simp only [st_Rn S f hq, show (st_R S r f).2 = S.2 from rfl]
/-! the reference's cells: 0 the object, 1 power, 2 kind, 3 lift, 4 sure, 5 bits, 6 up, 7 low, 8 first, 9 kept, 10 poly, 11 states -/
def km (r : Nat) : Nat := if r = 0 then 4 else if r = 1 ∨ r = 5 ∨ r = 6 ∨ r = 7 ∨ r = 11 then 6 else if r < 12 then 5 else 8
def lm (r : Nat) : Nat := if r = 9 then 512 else if r = 10 then 8 else if r = 11 then 2001 else 64
def em (cy : Nat → ClassId) (G : Nat → Nat) (S : St) (r : Nat) : va_E :=
  if km r = 4 then .inr (4, [.int (S.1 r 0), .int (S.1 r 1), .ref (G 1), .int (S.1 r 3), .int (S.1 r 4), .ref (G 2), .ref (G 3), .ref (G 4), .ref (G 5), .ref (G 6), .ref (G 7), .ref (G 8), .ref (G 9), .ref (G 10), .long (S.2 r 14), .long (S.2 r 15), .ref (G 11)])
  else if km r = 6 then .inl (cy 1, lm r, .inr (.inl (S.2 r)))
  else .inl (cy 0, lm r, .inl (S.1 r))
abbrev wm (cy : Nat → ClassId) (G : Nat → Nat) (S : St) : va_W := wg 12 G (em cy G S)
abbrev am (G : Nat → Nat) : Nat → Prop := ag 12 G
theorem km_lt {r k : Nat} (h : km r = k) (hk : k ≠ 8) : r < 12 := by
  unfold km at h
  by_cases hr : r < 12
  · exact hr
  · rw [if_neg (by omega), if_neg (by omega), if_neg hr] at h
    exact absurd h.symm hk
theorem wm_A {cy : Nat → ClassId} {G : Nat → Nat} {S : St} {r : Nat} (h : km r = 5) : (wm cy G S)[r]? = some (G r, .inl (cy 0, lm r, .inl (S.1 r))) := by
  rw [wg_at (km_lt h (by decide))]; unfold em; rw [if_neg (by rw [h]; decide), if_neg (by rw [h]; decide)]
theorem wm_L {cy : Nat → ClassId} {G : Nat → Nat} {S : St} {r : Nat} (h : km r = 6) : (wm cy G S)[r]? = some (G r, .inl (cy 1, lm r, .inr (.inl (S.2 r)))) := by
  rw [wg_at (km_lt h (by decide))]; unfold em; rw [if_neg (by rw [h]; decide), if_pos h]
theorem wm_0 {cy : Nat → ClassId} {G : Nat → Nat} {S : St} : (wm cy G S)[0]? = some (G 0, .inr (4, [.int (S.1 0 0), .int (S.1 0 1), .ref (G 1), .int (S.1 0 3), .int (S.1 0 4), .ref (G 2), .ref (G 3), .ref (G 4), .ref (G 5), .ref (G 6), .ref (G 7), .ref (G 8), .ref (G 9), .ref (G 10), .long (S.2 0 14), .long (S.2 0 15), .ref (G 11)])) := by
  rw [wg_at (by decide)]; rfl
theorem em_I {cy : Nat → ClassId} {G : Nat → Nat} {S : St} {r k : Nat} {v : Int32} : ∀ q, q ≠ r → em cy G (st_I S r k v) q = em cy G S q := by
  intro q hq; unfold em; simp only [st_IL, st_Irow S v hq]
theorem em_L {cy : Nat → ClassId} {G : Nat → Nat} {S : St} {r k : Nat} {v : Int64} : ∀ q, q ≠ r → em cy G (st_L S r k v) q = em cy G S q := by
  intro q hq; unfold em; simp only [st_LI, st_Lrow S v hq]
end
section
/-! rows of the walk: what a model's text says, remainders, compares of longs, calls, ends -/
theorem ho_t {c : Prop} [Decidable c] {α : Type} {a b x : α} (h : c) (hm : (if c then a else b) = x) : a = x := by rw [if_pos h] at hm; exact hm
theorem ho_f {c : Prop} [Decidable c] {α : Type} {a b x : α} (h : ¬ c) (hm : (if c then a else b) = x) : b = x := by rw [if_neg h] at hm; exact hm
theorem ho_n {c : Prop} [Decidable c] {α : Type} {b : Option α} {r : α} (hm : (if c then none else b) = some r) : ¬ c ∧ b = some r := by
  by_cases h : c
  · rw [if_pos h] at hm; cases hm
  · rw [if_neg h] at hm; exact ⟨h, hm⟩
theorem ho_g {c : Prop} [Decidable c] {α : Type} {b : Option α} {r : α} (hm : (if c then b else none) = some r) : c ∧ b = some r := by
  by_cases h : c
  · rw [if_pos h] at hm; exact ⟨h, hm⟩
  · rw [if_neg h] at hm; cases hm
theorem ho_b {α β : Type} {o : Option α} {f : α → Option β} {r : β} (hm : o.bind f = some r) : ∃ x, o = some x ∧ f x = some r := by
  cases o with
  | none => cases hm
  | some x => exact ⟨x, rfl, hm⟩
def rm32 (x y : Int32) : Int32 := x - x / y * y
def rm64 (x y : Int64) : Int64 := x - x / y * y
/-- an index outside a row of n -/
abbrev oob (i : Int32) (n : Nat) : Prop := i < 0 ∨ n ≤ i.toNatClampNeg
def ty3 (cy : Nat → ClassId) : List (ClassId × FieldType) := [(cy 0, .int), (cy 1, .long), (cy 2, .object "LeftNumbers$Value")]
def pw (w : St → va_W) (D : va_G) (cy : Nat → ClassId) (S : St) (U : State) : Prop := va_P D vwCl (w S) U.heap ∧ va_K D vwCl (ty3 cy) U
abbrev qi (w : St → va_W) (D : va_G) (cy : Nat → ClassId) (A : Nat → Prop) (r : Int32) (S1 : St) : Array Value → State → Outcome → State → Prop := va_Qi (fun (a : Int32) (u : St) => a = r ∧ u = S1) (pw w D cy) A
abbrev ql (w : St → va_W) (D : va_G) (cy : Nat → ClassId) (A : Nat → Prop) (r : Int64) (S1 : St) : Array Value → State → Outcome → State → Prop := va_Ql (fun (a : Int64) (u : St) => a = r ∧ u = S1) (pw w D cy) A
abbrev qv (w : St → va_W) (D : va_G) (cy : Nat → ClassId) (A : Nat → Prop) (S1 : St) : Array Value → State → Outcome → State → Prop := va_Qv (fun (u : St) => u = S1) (pw w D cy) A
abbrev qq (w : St → va_W) (D : va_G) (cy : Nat → ClassId) (A : Nat → Prop) (r : Option Nat) (S1 : St) : Array Value → State → Outcome → State → Prop := va_Qq (fun (a : Option Nat) (u : St) => a = r ∧ u = S1) (pw w D cy) A
theorem fb_pw {av : List Value} {w : St → va_W} {D : va_G} {cy : Nat → ClassId} {S : St} : FrameBlind (va_Pc av (pw w D cy S)) := fun a U g mk q => ⟨q.1, q.2.1, va_K.moved (u := U) (U := U.calling g mk a) (Vm.Alike.refl U.vm) q.2.2⟩
theorem nb_01 {v : Int32} (h : v = 0 ∨ v = 1) : narrow .boolean (.int v) = .int v := by rcases h with rfl | rfl <;> rfl
section
variable {p : Program} {l : Launch} {e : Env} {R : Room} {s : State} {m : MethodId} {args : Array Value} {below : List Frame} {meth : Method} {c : Code} {H : Heap} {locs : List Loc} {cells slots : Nat} {Q : State → Prop} {cc : ByteArray} {pc : Nat} {ls : Array Slot} {rest : List Value}
theorem r_pc {pc2 : Nat} (h : pc = pc2) (k : W p l e R s m args below meth c H locs cells slots Q (F0 m pc2 ls rest)) : W p l e R s m args below meth c H locs cells slots Q (F0 m pc ls rest) := h ▸ k
theorem r_irem (hexec : p.tables.exec = Jvm.exec) (hb : c.code = cc) {x y : Int32} (hdg : decode cc pc = .ok (.irem, 1)) (hne : ¬ y = 0)
    (k : W p l e R s m args below meth c H locs cells slots Q (F0 m (pc + 1) ls (.int (rm32 x y) :: rest))) : W p l e R s m args below meth c H locs cells slots Q (F0 m pc ls (.int y :: .int x :: rest)) := lv_irem hexec hb hdg hne k
theorem r_lrem (hexec : p.tables.exec = Jvm.exec) (hb : c.code = cc) {x y : Int64} (hdg : decode cc pc = .ok (.lrem, 1)) (hne : ¬ y = 0)
    (k : W p l e R s m args below meth c H locs cells slots Q (F0 m (pc + 1) ls (.long (rm64 x y) :: rest))) : W p l e R s m args below meth c H locs cells slots Q (F0 m pc ls (.long y :: .long x :: rest)) := lv_lrem hexec hb hdg hne k
theorem r_lge (hexec : p.tables.exec = Jvm.exec) (hb : c.code = cc) {x y : Int64} {off : Int} {tgt : Nat} (hdg : decode cc pc = .ok (.lcmp, 1)) (hd2 : decode cc (pc + 1) = .ok (.ifCond .ge off, 3)) (ht : ((pc + 1 : Nat) : Int) + off = (tgt : Int))
    (kt : y ≤ x → W p l e R s m args below meth c H locs cells slots Q (F0 m tgt ls rest)) (kf : ¬ y ≤ x → W p l e R s m args below meth c H locs cells slots Q (F0 m (pc + 1 + 3) ls rest)) : W p l e R s m args below meth c H locs cells slots Q (F0 m pc ls (.long y :: .long x :: rest)) :=
  W.lcmp hexec hb hdg (lv_if_ge hexec hb hd2 ht (fun h => kt ((lg_cmp_ge x y).mp h)) (fun h => kf (fun q => h ((lg_cmp_ge x y).mpr q))))
theorem r_lle (hexec : p.tables.exec = Jvm.exec) (hb : c.code = cc) {x y : Int64} {off : Int} {tgt : Nat} (hdg : decode cc pc = .ok (.lcmp, 1)) (hd2 : decode cc (pc + 1) = .ok (.ifCond .le off, 3)) (ht : ((pc + 1 : Nat) : Int) + off = (tgt : Int))
    (kt : x ≤ y → W p l e R s m args below meth c H locs cells slots Q (F0 m tgt ls rest)) (kf : ¬ x ≤ y → W p l e R s m args below meth c H locs cells slots Q (F0 m (pc + 1 + 3) ls rest)) : W p l e R s m args below meth c H locs cells slots Q (F0 m pc ls (.long y :: .long x :: rest)) :=
  W.lcmp hexec hb hdg (lv_if_le hexec hb hd2 ht (fun h => kt ((lg_cmp_le x y).mp h)) (fun h => kf (fun q => h ((lg_cmp_le x y).mpr q))))
theorem r_lgt (hexec : p.tables.exec = Jvm.exec) (hb : c.code = cc) {x y : Int64} {off : Int} {tgt : Nat} (hdg : decode cc pc = .ok (.lcmp, 1)) (hd2 : decode cc (pc + 1) = .ok (.ifCond .gt off, 3)) (ht : ((pc + 1 : Nat) : Int) + off = (tgt : Int))
    (kt : y < x → W p l e R s m args below meth c H locs cells slots Q (F0 m tgt ls rest)) (kf : ¬ y < x → W p l e R s m args below meth c H locs cells slots Q (F0 m (pc + 1 + 3) ls rest)) : W p l e R s m args below meth c H locs cells slots Q (F0 m pc ls (.long y :: .long x :: rest)) :=
  W.lcmp hexec hb hdg (lv_if_gt hexec hb hd2 ht (fun h => kt ((lg_cmp_gt x y).mp h)) (fun h => kf (fun q => h ((lg_cmp_gt x y).mpr q))))
theorem r_llt (hexec : p.tables.exec = Jvm.exec) (hb : c.code = cc) {x y : Int64} {off : Int} {tgt : Nat} (hdg : decode cc pc = .ok (.lcmp, 1)) (hd2 : decode cc (pc + 1) = .ok (.ifCond .lt off, 3)) (ht : ((pc + 1 : Nat) : Int) + off = (tgt : Int))
    (kt : x < y → W p l e R s m args below meth c H locs cells slots Q (F0 m tgt ls rest)) (kf : ¬ x < y → W p l e R s m args below meth c H locs cells slots Q (F0 m (pc + 1 + 3) ls rest)) : W p l e R s m args below meth c H locs cells slots Q (F0 m pc ls (.long y :: .long x :: rest)) :=
  W.lcmp hexec hb hdg (lv_if_lt hexec hb hd2 ht (fun h => kt ((lg_cmp_lt x y).mp h)) (fun h => kf (fun q => h ((lg_cmp_lt x y).mpr q))))
theorem r_leq (hexec : p.tables.exec = Jvm.exec) (hb : c.code = cc) {x y : Int64} {off : Int} {tgt : Nat} (hdg : decode cc pc = .ok (.lcmp, 1)) (hd2 : decode cc (pc + 1) = .ok (.ifCond .eq off, 3)) (ht : ((pc + 1 : Nat) : Int) + off = (tgt : Int))
    (kt : x = y → W p l e R s m args below meth c H locs cells slots Q (F0 m tgt ls rest)) (kf : ¬ x = y → W p l e R s m args below meth c H locs cells slots Q (F0 m (pc + 1 + 3) ls rest)) : W p l e R s m args below meth c H locs cells slots Q (F0 m pc ls (.long y :: .long x :: rest)) :=
  W.lcmp hexec hb hdg (lv_if_eq hexec hb hd2 ht (fun h => kt ((lg_cmp_eq x y).mp h)) (fun h => kf (fun q => h ((lg_cmp_eq x y).mpr q))))
theorem r_lne (hexec : p.tables.exec = Jvm.exec) (hb : c.code = cc) {x y : Int64} {off : Int} {tgt : Nat} (hdg : decode cc pc = .ok (.lcmp, 1)) (hd2 : decode cc (pc + 1) = .ok (.ifCond .ne off, 3)) (ht : ((pc + 1 : Nat) : Int) + off = (tgt : Int))
    (kt : ¬ x = y → W p l e R s m args below meth c H locs cells slots Q (F0 m tgt ls rest)) (kf : x = y → W p l e R s m args below meth c H locs cells slots Q (F0 m (pc + 1 + 3) ls rest)) : W p l e R s m args below meth c H locs cells slots Q (F0 m pc ls (.long y :: .long x :: rest)) :=
  W.lcmp hexec hb hdg (lv_if_ne hexec hb hd2 ht (fun h => kt (fun q => h ((lg_cmp_eq x y).mpr q))) (fun h => kf ((lg_cmp_eq x y).mp h)))
variable {w : St → va_W} {A : Nat → Prop} {D : va_G} {cy : Nat → ClassId} {S S1 : St} {y : MethodName} {ws : List Cond} {rm : Room} {b : Nat} {As : List Value} {n nL index maxL : Nat} {own Cn : String} {bytes : ByteArray} {ret : Option FieldType} {Ts : List Cond} {st : List Value}
theorem k_vi {r : Int32} (F : CallFix p m c cc nL s args Ts own) (hK : va_K D vwCl (ty3 cy) s) (hP : va_P D vwCl (w S) H) (hS : va_S A s.heap H locs) (hM : Met l y ws rm (va_Pc (.ref b :: As) (pw w D cy S)) (qi w D cy A r S1) 0 0 A) (cw : CallW R s args own Cn index y bytes maxL ret ws rm 0 0 n) (hv : ∃ cellB : Cell, H[b]? = some cellB ∧ cellB.vm.isStatics = false ∧ s.vm.findClass Cn = some cellB.cls) (hn : As.length = n) (hsize : ls.size = nL) (hstack : st = As.reverse ++ .ref b :: rest) (hW : (rest.map fun v => v.category).sum ≤ 8) (hdg : decode cc pc = .ok (.invokevirtual index, 3))
    (kk : ∀ (H1 : Heap) (locs1 : List Loc), va_P D vwCl (w S1) H1 → va_S A s.heap H1 locs1 → W p l e R s m args below meth c H1 locs1 0 0 Q (F0 m (pc + 3) ls (.int r :: rest))) : W p l e R s m args below meth c H locs 0 0 Q (F0 m pc ls st) :=
  va_calli (va_runV F hM cw ⟨fb_pw, hv, fun U hU hW9 => ⟨rfl, by rw [hU]; exact hP, va_K.moved hW9.alike hK⟩⟩ rfl hn hsize hstack (lv_room hW) hdg ⟨Nat.zero_le _, Nat.zero_le _⟩) hS (fun q _ h => h) (fun q h => h) (fun r1 u t H1 locs1 ht hvm hw hB _ _ hS1 => by obtain ⟨rfl, rfl⟩ := hw; exact kk H1 locs1 (by rw [← ht]; exact hB.1) hS1)
theorem k_vl {r : Int64} (F : CallFix p m c cc nL s args Ts own) (hK : va_K D vwCl (ty3 cy) s) (hP : va_P D vwCl (w S) H) (hS : va_S A s.heap H locs) (hM : Met l y ws rm (va_Pc (.ref b :: As) (pw w D cy S)) (ql w D cy A r S1) 0 0 A) (cw : CallW R s args own Cn index y bytes maxL ret ws rm 0 0 n) (hv : ∃ cellB : Cell, H[b]? = some cellB ∧ cellB.vm.isStatics = false ∧ s.vm.findClass Cn = some cellB.cls) (hn : As.length = n) (hsize : ls.size = nL) (hstack : st = As.reverse ++ .ref b :: rest) (hW : (rest.map fun v => v.category).sum ≤ 8) (hdg : decode cc pc = .ok (.invokevirtual index, 3))
    (kk : ∀ (H1 : Heap) (locs1 : List Loc), va_P D vwCl (w S1) H1 → va_S A s.heap H1 locs1 → W p l e R s m args below meth c H1 locs1 0 0 Q (F0 m (pc + 3) ls (.long r :: rest))) : W p l e R s m args below meth c H locs 0 0 Q (F0 m pc ls st) :=
  va_calll (va_runV F hM cw ⟨fb_pw, hv, fun U hU hW9 => ⟨rfl, by rw [hU]; exact hP, va_K.moved hW9.alike hK⟩⟩ rfl hn hsize hstack (lv_room hW) hdg ⟨Nat.zero_le _, Nat.zero_le _⟩) hS (fun q _ h => h) (fun q h => h) (fun r1 u t H1 locs1 ht hvm hw hB _ _ hS1 => by obtain ⟨rfl, rfl⟩ := hw; exact kk H1 locs1 (by rw [← ht]; exact hB.1) hS1)
theorem k_vv (F : CallFix p m c cc nL s args Ts own) (hK : va_K D vwCl (ty3 cy) s) (hP : va_P D vwCl (w S) H) (hS : va_S A s.heap H locs) (hM : Met l y ws rm (va_Pc (.ref b :: As) (pw w D cy S)) (qv w D cy A S1) 0 0 A) (cw : CallW R s args own Cn index y bytes maxL ret ws rm 0 0 n) (hv : ∃ cellB : Cell, H[b]? = some cellB ∧ cellB.vm.isStatics = false ∧ s.vm.findClass Cn = some cellB.cls) (hn : As.length = n) (hsize : ls.size = nL) (hstack : st = As.reverse ++ .ref b :: rest) (hW : (rest.map fun v => v.category).sum ≤ 8) (hdg : decode cc pc = .ok (.invokevirtual index, 3))
    (kk : ∀ (H1 : Heap) (locs1 : List Loc), va_P D vwCl (w S1) H1 → va_S A s.heap H1 locs1 → W p l e R s m args below meth c H1 locs1 0 0 Q (F0 m (pc + 3) ls rest)) : W p l e R s m args below meth c H locs 0 0 Q (F0 m pc ls st) :=
  va_callv (va_runV F hM cw ⟨fb_pw, hv, fun U hU hW9 => ⟨rfl, by rw [hU]; exact hP, va_K.moved hW9.alike hK⟩⟩ rfl hn hsize hstack (lv_room hW) hdg ⟨Nat.zero_le _, Nat.zero_le _⟩) hS (fun q _ h => h) (fun q h => h) (fun u t H1 locs1 ht hvm hw hB _ _ hS1 => by subst hw; exact kk H1 locs1 (by rw [← ht]; exact hB.1) hS1)
theorem k_vq {r : Option Nat} (F : CallFix p m c cc nL s args Ts own) (hK : va_K D vwCl (ty3 cy) s) (hP : va_P D vwCl (w S) H) (hS : va_S A s.heap H locs) (hM : Met l y ws rm (va_Pc (.ref b :: As) (pw w D cy S)) (qq w D cy A r S1) 0 0 A) (cw : CallW R s args own Cn index y bytes maxL ret ws rm 0 0 n) (hv : ∃ cellB : Cell, H[b]? = some cellB ∧ cellB.vm.isStatics = false ∧ s.vm.findClass Cn = some cellB.cls) (hn : As.length = n) (hsize : ls.size = nL) (hstack : st = As.reverse ++ .ref b :: rest) (hW : (rest.map fun v => v.category).sum ≤ 8) (hdg : decode cc pc = .ok (.invokevirtual index, 3))
    (kk : ∀ (H1 : Heap) (locs1 : List Loc), va_P D vwCl (w S1) H1 → va_S A s.heap H1 locs1 → W p l e R s m args below meth c H1 locs1 0 0 Q (F0 m (pc + 3) ls (va_rf r :: rest))) : W p l e R s m args below meth c H locs 0 0 Q (F0 m pc ls st) :=
  va_callq (va_runV F hM cw ⟨fb_pw, hv, fun U hU hW9 => ⟨rfl, by rw [hU]; exact hP, va_K.moved hW9.alike hK⟩⟩ rfl hn hsize hstack (lv_room hW) hdg ⟨Nat.zero_le _, Nat.zero_le _⟩) hS (fun q _ h => h) (fun q h => h) (fun r1 u t H1 locs1 ht hvm hw hB _ _ hS1 => by obtain ⟨rfl, rfl⟩ := hw; exact kk H1 locs1 (by rw [← ht]; exact hB.1) hS1)
theorem k_si {r : Int32} (F : CallFix p m c cc nL s args Ts own) (hK : va_K D vwCl (ty3 cy) s) (hP : va_P D vwCl (w S) H) (hS : va_S A s.heap H locs) (hM : Met l y ws rm (va_Pc As (pw w D cy S)) (qi w D cy A r S1) 0 0 A) (cw : CallB R s args own index y bytes maxL ret ws rm 0 0 n ∧ (Cond.static y).before args s = true) (hn : As.length = n) (hsize : ls.size = nL) (hstack : st = As.reverse ++ rest) (hW : (rest.map fun v => v.category).sum ≤ 8) (hdg : decode cc pc = .ok (.invokestatic index, 3))
    (kk : ∀ (H1 : Heap) (locs1 : List Loc), va_P D vwCl (w S1) H1 → va_S A s.heap H1 locs1 → W p l e R s m args below meth c H1 locs1 0 0 Q (F0 m (pc + 3) ls (.int r :: rest))) : W p l e R s m args below meth c H locs 0 0 Q (F0 m pc ls st) :=
  va_calli (va_runS F hM cw ⟨fb_pw, fun U hU hW9 => ⟨rfl, by rw [hU]; exact hP, va_K.moved hW9.alike hK⟩⟩ rfl hn hsize hstack (lv_room hW) hdg ⟨Nat.zero_le _, Nat.zero_le _⟩) hS (fun q _ h => h) (fun q h => h) (fun r1 u t H1 locs1 ht hvm hw hB _ _ hS1 => by obtain ⟨rfl, rfl⟩ := hw; exact kk H1 locs1 (by rw [← ht]; exact hB.1) hS1)
theorem k_sl {r : Int64} (F : CallFix p m c cc nL s args Ts own) (hK : va_K D vwCl (ty3 cy) s) (hP : va_P D vwCl (w S) H) (hS : va_S A s.heap H locs) (hM : Met l y ws rm (va_Pc As (pw w D cy S)) (ql w D cy A r S1) 0 0 A) (cw : CallB R s args own index y bytes maxL ret ws rm 0 0 n ∧ (Cond.static y).before args s = true) (hn : As.length = n) (hsize : ls.size = nL) (hstack : st = As.reverse ++ rest) (hW : (rest.map fun v => v.category).sum ≤ 8) (hdg : decode cc pc = .ok (.invokestatic index, 3))
    (kk : ∀ (H1 : Heap) (locs1 : List Loc), va_P D vwCl (w S1) H1 → va_S A s.heap H1 locs1 → W p l e R s m args below meth c H1 locs1 0 0 Q (F0 m (pc + 3) ls (.long r :: rest))) : W p l e R s m args below meth c H locs 0 0 Q (F0 m pc ls st) :=
  va_calll (va_runS F hM cw ⟨fb_pw, fun U hU hW9 => ⟨rfl, by rw [hU]; exact hP, va_K.moved hW9.alike hK⟩⟩ rfl hn hsize hstack (lv_room hW) hdg ⟨Nat.zero_le _, Nat.zero_le _⟩) hS (fun q _ h => h) (fun q h => h) (fun r1 u t H1 locs1 ht hvm hw hB _ _ hS1 => by obtain ⟨rfl, rfl⟩ := hw; exact kk H1 locs1 (by rw [← ht]; exact hB.1) hS1)
end
end
section
/-! writes, by the state; the ends of methods that write; what else the walks need -/
def fu : Nat := 4000
def bd2 {α β : Type} (o : Option (α × St)) (f : α → St → Option β) : Option β := match o with
  | none => none
  | some q => f q.1 q.2
theorem ho_b2 {α β : Type} {o : Option (α × St)} {f : α → St → Option β} {r : β} (hm : bd2 o f = some r) : ∃ x S, o = some (x, S) ∧ f x S = some r := by
  cases o with
  | none => cases hm
  | some q => exact ⟨q.1, q.2, rfl, hm⟩
theorem oob_lt {i : Int32} {n : Nat} (h : ¬ oob i n) : i.toNatClampNeg < n + 3 := by
  have h2 : ¬ n ≤ i.toNatClampNeg := fun q => h (Or.inr q)
  omega
theorem sw_out {x : Int32} (h0 : ¬ x = 0) (h1 : ¬ x = 1) (h2 : ¬ x = 2) (h3 : ¬ x = 3) : x.toInt < 0 ∨ 3 < x.toInt := by
  have e0 : x.toInt ≠ 0 := fun q => h0 (Int32.toInt_inj.mp (by rw [q]; rfl))
  have e1 : x.toInt ≠ 1 := fun q => h1 (Int32.toInt_inj.mp (by rw [q]; rfl))
  have e2 : x.toInt ≠ 2 := fun q => h2 (Int32.toInt_inj.mp (by rw [q]; rfl))
  have e3 : x.toInt ≠ 3 := fun q => h3 (Int32.toInt_inj.mp (by rw [q]; rfl))
  omega
/-- what a walk holds of its method -/
def cx (p : Program) (s : State) (m : MethodId) (args : Array Value) (meth : Method) (c : Code) (cc : ByteArray) (nL : Nat) (ret : Option FieldType) (own : String) (Ts : List Cond) (D : va_G) (cy : Nat → ClassId) : Prop := CallFix p m c cc nL s args Ts own ∧ meth.sig.returnType = ret ∧ meth.locks = false ∧ va_K D vwCl (ty3 cy) s
section
variable {p : Program} {l : Launch} {e : Env} {R : Room} {s : State} {m : MethodId} {args : Array Value} {below : List Frame} {meth : Method} {c : Code} {H : Heap} {locs : List Loc} {cells slots : Nat} {Q : State → Prop} {cc : ByteArray} {pc : Nat} {ls : Array Slot} {rest : List Value}
variable {D : va_G} {cy : Nat → ClassId} {S : St} {G : Nat → Nat} {r index : Nat} {own : String} {Ts : List Cond}
/-! the class's puts -/
theorem p_cVI {v : Int32} (hG : gi G 132) (hx : p.tables.exec = Jvm.exec) (hb : c.code = cc) (hts : ∀ w ∈ Ts, w.before args s = true) (hin : ∀ w ∈ wsX20, w ∈ Ts) (hown : s.vm.findClass own = some m.cls) (hK : va_K D vwCl (ty3 cy) s) (hP : va_P D vwCl (wc cy G S) H) (hS : va_S (ac G) s.heap H locs) (h : kc r = 2) (k : Nat) (hk : k = 1 ∨ k = 2 ∨ k = 3 ∨ k = 5 ∨ k = 6 ∨ k = 7) (hlink : (Cond.fieldLink own index "LeftNumbers$Value" (TX2 k).2.1 (TX2 k).2.2.1).before args s = true) (hdg : decode cc pc = .ok (.putfield index, 3))
    (kk : ∀ (H1 : Heap) (locs1 : List Loc), va_P D vwCl (wc cy G (st_I S r k v)) H1 → va_S (ac G) s.heap H1 locs1 → W p l e R s m args below meth c H1 locs1 cells slots Q (F0 m (pc + 3) ls rest)) : W p l e R s m args below meth c H locs cells slots Q (F0 m pc ls (.int v :: .ref (G r) :: rest)) := by
  have key : ∀ k2, k2 = k → ec cy G (st_I S r k2 v) r = .inr (2, ([.ref (G (r + 1)), .int (S.1 r 1), .int (S.1 r 2), .int (S.1 r 3), .long (S.2 r 4), .int (S.1 r 5), .int (S.1 r 6), .int (S.1 r 7)] : List Value).set k2 (.int v)) := by
    intro k2 e2
    unfold ec
    rw [if_pos h]
    rcases hk with q | q | q | q | q | q <;> (rw [q] at e2; subst e2; simp [st_I])
  rcases hk with q | q | q | q | q | q <;> subst q <;>
  exact va_put (D := D) (ci := 2) (v := .int v) (ty := .int) (C := RX2) (T := TX2) (N := 8) hx hb hts hin tyX2 tyX2_ok nmX2 hown hK hP (wg_D hG _) hS r (wc_V h) rfl _ (by decide) hlink (fun _ h9 => h9) rfl (by decide +kernel) rfl rfl (Nat.le_of_ble_eq_true rfl) hdg (fun H1 locs1 hP1 _ hS1 => kk H1 locs1 (by rw [wg_set (key _ rfl) ec_I] at hP1; exact hP1) hS1)
theorem p_cVL {v : Int64} (hG : gi G 132) (hx : p.tables.exec = Jvm.exec) (hb : c.code = cc) (hts : ∀ w ∈ Ts, w.before args s = true) (hin : ∀ w ∈ wsX20, w ∈ Ts) (hown : s.vm.findClass own = some m.cls) (hK : va_K D vwCl (ty3 cy) s) (hP : va_P D vwCl (wc cy G S) H) (hS : va_S (ac G) s.heap H locs) (h : kc r = 2) (k : Nat) (hk : k = 4) (hlink : (Cond.fieldLink own index "LeftNumbers$Value" (TX2 k).2.1 (TX2 k).2.2.1).before args s = true) (hdg : decode cc pc = .ok (.putfield index, 3))
    (kk : ∀ (H1 : Heap) (locs1 : List Loc), va_P D vwCl (wc cy G (st_L S r k v)) H1 → va_S (ac G) s.heap H1 locs1 → W p l e R s m args below meth c H1 locs1 cells slots Q (F0 m (pc + 3) ls rest)) : W p l e R s m args below meth c H locs cells slots Q (F0 m pc ls (.long v :: .ref (G r) :: rest)) := by
  subst hk
  have key : ec cy G (st_L S r 4 v) r = .inr (2, ([.ref (G (r + 1)), .int (S.1 r 1), .int (S.1 r 2), .int (S.1 r 3), .long (S.2 r 4), .int (S.1 r 5), .int (S.1 r 6), .int (S.1 r 7)] : List Value).set 4 (.long v)) := by
    unfold ec
    rw [if_pos h]
    simp [st_L]
  exact va_put (D := D) (ci := 2) (v := .long v) (ty := .long) (C := RX2) (T := TX2) (N := 8) hx hb hts hin tyX2 tyX2_ok nmX2 hown hK hP (wg_D hG _) hS r (wc_V h) rfl _ (by decide) hlink (fun _ h9 => h9) rfl (by decide +kernel) rfl rfl (Nat.le_of_ble_eq_true rfl) hdg (fun H1 locs1 hP1 _ hS1 => kk H1 locs1 (by rw [wg_set key ec_L] at hP1; exact hP1) hS1)
theorem p_cFI {v : Int32} (hG : gi G 132) (hx : p.tables.exec = Jvm.exec) (hb : c.code = cc) (hts : ∀ w ∈ Ts, w.before args s = true) (hin : ∀ w ∈ wsX10, w ∈ Ts) (hown : s.vm.findClass own = some m.cls) (hK : va_K D vwCl (ty3 cy) s) (hP : va_P D vwCl (wc cy G S) H) (hS : va_S (ac G) s.heap H locs) (k : Nat) (hk : k = 1 ∨ k = 2) (hlink : (Cond.fieldLink own index "LeftNumbers$Figures" (TX1 k).2.1 (TX1 k).2.2.1).before args s = true) (hdg : decode cc pc = .ok (.putfield index, 3))
    (kk : ∀ (H1 : Heap) (locs1 : List Loc), va_P D vwCl (wc cy G (st_I S 1 k v)) H1 → va_S (ac G) s.heap H1 locs1 → W p l e R s m args below meth c H1 locs1 cells slots Q (F0 m (pc + 3) ls rest)) : W p l e R s m args below meth c H locs cells slots Q (F0 m pc ls (.int v :: .ref (G 1) :: rest)) := by
  have key : ∀ k2, k2 = k → ec cy G (st_I S 1 k2 v) 1 = .inr (1, ([.ref (G 2), .int (S.1 1 1), .int (S.1 1 2)] : List Value).set k2 (.int v)) := by
    intro k2 e2
    rcases hk with q | q <;> (rw [q] at e2; subst e2; rfl)
  rcases hk with q | q <;> subst q <;>
  exact va_put (D := D) (ci := 1) (v := .int v) (ty := .int) (C := RX1) (T := TX1) (N := 3) hx hb hts hin tyX1 tyX1_ok nmX1 hown hK hP (wg_D hG _) hS 1 wc_1 rfl _ (by decide) hlink (fun _ h9 => h9) rfl (by decide +kernel) rfl rfl (Nat.le_of_ble_eq_true rfl) hdg (fun H1 locs1 hP1 _ hS1 => kk H1 locs1 (by rw [wg_set (key _ rfl) ec_I] at hP1; exact hP1) hS1)
theorem p_cNI {v : Int32} (hG : gi G 132) (hx : p.tables.exec = Jvm.exec) (hb : c.code = cc) (hts : ∀ w ∈ Ts, w.before args s = true) (hin : ∀ w ∈ wsX30, w ∈ Ts) (hown : s.vm.findClass own = some m.cls) (hK : va_K D vwCl (ty3 cy) s) (hP : va_P D vwCl (wc cy G S) H) (hS : va_S (ac G) s.heap H locs) (k : Nat) (hk : k = 7) (hlink : (Cond.fieldLink own index "LeftNumbers" (TX3 k).2.1 (TX3 k).2.2.1).before args s = true) (hdg : decode cc pc = .ok (.putfield index, 3))
    (kk : ∀ (H1 : Heap) (locs1 : List Loc), va_P D vwCl (wc cy G (st_I S 0 k v)) H1 → va_S (ac G) s.heap H1 locs1 → W p l e R s m args below meth c H1 locs1 cells slots Q (F0 m (pc + 3) ls rest)) : W p l e R s m args below meth c H locs cells slots Q (F0 m pc ls (.int v :: .ref (G 0) :: rest)) := by
  subst hk
  have key : ec cy G (st_I S 0 7 v) 0 = .inr (3, ([.ref (G 1), .ref (G 3), .ref (G 4), .ref (G 5), .ref (G 126), .ref (G 128), .ref (G 130), .int (S.1 0 7), .int (S.1 0 8)] : List Value).set 7 (.int v)) := rfl
  exact va_put (D := D) (ci := 3) (v := .int v) (ty := .int) (C := RX3) (T := TX3) (N := 9) hx hb hts hin tyX3 tyX3_ok nmX3 hown hK hP (wg_D hG _) hS 0 wc_0 rfl _ (by decide) hlink (fun _ h9 => h9) rfl (by decide +kernel) rfl rfl (Nat.le_of_ble_eq_true rfl) hdg (fun H1 locs1 hP1 _ hS1 => kk H1 locs1 (by rw [wg_set key ec_I] at hP1; exact hP1) hS1)
theorem p_cNZ {v : Int32} (hG : gi G 132) (hx : p.tables.exec = Jvm.exec) (hb : c.code = cc) (hts : ∀ w ∈ Ts, w.before args s = true) (hin : ∀ w ∈ wsX30, w ∈ Ts) (hown : s.vm.findClass own = some m.cls) (hK : va_K D vwCl (ty3 cy) s) (hP : va_P D vwCl (wc cy G S) H) (hS : va_S (ac G) s.heap H locs) (k : Nat) (hk : k = 8) (hz : v = 0 ∨ v = 1) (hlink : (Cond.fieldLink own index "LeftNumbers" (TX3 k).2.1 (TX3 k).2.2.1).before args s = true) (hdg : decode cc pc = .ok (.putfield index, 3))
    (kk : ∀ (H1 : Heap) (locs1 : List Loc), va_P D vwCl (wc cy G (st_I S 0 k v)) H1 → va_S (ac G) s.heap H1 locs1 → W p l e R s m args below meth c H1 locs1 cells slots Q (F0 m (pc + 3) ls rest)) : W p l e R s m args below meth c H locs cells slots Q (F0 m pc ls (.int v :: .ref (G 0) :: rest)) := by
  subst hk
  have key : ec cy G (st_I S 0 8 v) 0 = .inr (3, ([.ref (G 1), .ref (G 3), .ref (G 4), .ref (G 5), .ref (G 126), .ref (G 128), .ref (G 130), .int (S.1 0 7), .int (S.1 0 8)] : List Value).set 8 (.int v)) := rfl
  exact va_put (D := D) (ci := 3) (v := .int v) (ty := .boolean) (C := RX3) (T := TX3) (N := 9) hx hb hts hin tyX3 tyX3_ok nmX3 hown hK hP (wg_D hG _) hS 0 wc_0 rfl _ (by decide) hlink (fun _ h9 => h9) rfl (by decide +kernel) (nb_01 hz) (by rcases hz with rfl | rfl <;> rfl) (Nat.le_of_ble_eq_true rfl) hdg (fun H1 locs1 hP1 _ hS1 => kk H1 locs1 (by rw [wg_set key ec_I] at hP1; exact hP1) hS1)
/-! the reference's puts -/
theorem p_mI {v : Int32} (hG : gi G 12) (hx : p.tables.exec = Jvm.exec) (hb : c.code = cc) (hts : ∀ w ∈ Ts, w.before args s = true) (hin : ∀ w ∈ wsX40, w ∈ Ts) (hown : s.vm.findClass own = some m.cls) (hK : va_K D vwCl (ty3 cy) s) (hP : va_P D vwCl (wm cy G S) H) (hS : va_S (am G) s.heap H locs) (k : Nat) (hk : k = 0 ∨ k = 1 ∨ k = 3) (hlink : (Cond.fieldLink own index "LeftNumbersModel" (TX4 k).2.1 (TX4 k).2.2.1).before args s = true) (hdg : decode cc pc = .ok (.putfield index, 3))
    (kk : ∀ (H1 : Heap) (locs1 : List Loc), va_P D vwCl (wm cy G (st_I S 0 k v)) H1 → va_S (am G) s.heap H1 locs1 → W p l e R s m args below meth c H1 locs1 cells slots Q (F0 m (pc + 3) ls rest)) : W p l e R s m args below meth c H locs cells slots Q (F0 m pc ls (.int v :: .ref (G 0) :: rest)) := by
  have key : ∀ k2, k2 = k → em cy G (st_I S 0 k2 v) 0 = .inr (4, ([.int (S.1 0 0), .int (S.1 0 1), .ref (G 1), .int (S.1 0 3), .int (S.1 0 4), .ref (G 2), .ref (G 3), .ref (G 4), .ref (G 5), .ref (G 6), .ref (G 7), .ref (G 8), .ref (G 9), .ref (G 10), .long (S.2 0 14), .long (S.2 0 15), .ref (G 11)] : List Value).set k2 (.int v)) := by
    intro k2 e2
    rcases hk with q | q | q <;> (rw [q] at e2; subst e2; rfl)
  rcases hk with q | q | q <;> subst q <;>
  exact va_put (D := D) (ci := 4) (v := .int v) (ty := .int) (C := RX4) (T := TX4) (N := 17) hx hb hts hin tyX4 tyX4_ok nmX4 hown hK hP (wg_D hG _) hS 0 wm_0 rfl _ (by decide) hlink (fun _ h9 => h9) rfl (by decide +kernel) rfl rfl (Nat.le_of_ble_eq_true rfl) hdg (fun H1 locs1 hP1 _ hS1 => kk H1 locs1 (by rw [wg_set (key _ rfl) em_I] at hP1; exact hP1) hS1)
theorem p_mZ {v : Int32} (hG : gi G 12) (hx : p.tables.exec = Jvm.exec) (hb : c.code = cc) (hts : ∀ w ∈ Ts, w.before args s = true) (hin : ∀ w ∈ wsX40, w ∈ Ts) (hown : s.vm.findClass own = some m.cls) (hK : va_K D vwCl (ty3 cy) s) (hP : va_P D vwCl (wm cy G S) H) (hS : va_S (am G) s.heap H locs) (k : Nat) (hk : k = 4) (hz : v = 0 ∨ v = 1) (hlink : (Cond.fieldLink own index "LeftNumbersModel" (TX4 k).2.1 (TX4 k).2.2.1).before args s = true) (hdg : decode cc pc = .ok (.putfield index, 3))
    (kk : ∀ (H1 : Heap) (locs1 : List Loc), va_P D vwCl (wm cy G (st_I S 0 k v)) H1 → va_S (am G) s.heap H1 locs1 → W p l e R s m args below meth c H1 locs1 cells slots Q (F0 m (pc + 3) ls rest)) : W p l e R s m args below meth c H locs cells slots Q (F0 m pc ls (.int v :: .ref (G 0) :: rest)) := by
  subst hk
  have key : em cy G (st_I S 0 4 v) 0 = .inr (4, ([.int (S.1 0 0), .int (S.1 0 1), .ref (G 1), .int (S.1 0 3), .int (S.1 0 4), .ref (G 2), .ref (G 3), .ref (G 4), .ref (G 5), .ref (G 6), .ref (G 7), .ref (G 8), .ref (G 9), .ref (G 10), .long (S.2 0 14), .long (S.2 0 15), .ref (G 11)] : List Value).set 4 (.int v)) := rfl
  exact va_put (D := D) (ci := 4) (v := .int v) (ty := .boolean) (C := RX4) (T := TX4) (N := 17) hx hb hts hin tyX4 tyX4_ok nmX4 hown hK hP (wg_D hG _) hS 0 wm_0 rfl _ (by decide) hlink (fun _ h9 => h9) rfl (by decide +kernel) (nb_01 hz) (by rcases hz with rfl | rfl <;> rfl) (Nat.le_of_ble_eq_true rfl) hdg (fun H1 locs1 hP1 _ hS1 => kk H1 locs1 (by rw [wg_set key em_I] at hP1; exact hP1) hS1)
theorem p_mL {v : Int64} (hG : gi G 12) (hx : p.tables.exec = Jvm.exec) (hb : c.code = cc) (hts : ∀ w ∈ Ts, w.before args s = true) (hin : ∀ w ∈ wsX40, w ∈ Ts) (hown : s.vm.findClass own = some m.cls) (hK : va_K D vwCl (ty3 cy) s) (hP : va_P D vwCl (wm cy G S) H) (hS : va_S (am G) s.heap H locs) (k : Nat) (hk : k = 14 ∨ k = 15) (hlink : (Cond.fieldLink own index "LeftNumbersModel" (TX4 k).2.1 (TX4 k).2.2.1).before args s = true) (hdg : decode cc pc = .ok (.putfield index, 3))
    (kk : ∀ (H1 : Heap) (locs1 : List Loc), va_P D vwCl (wm cy G (st_L S 0 k v)) H1 → va_S (am G) s.heap H1 locs1 → W p l e R s m args below meth c H1 locs1 cells slots Q (F0 m (pc + 3) ls rest)) : W p l e R s m args below meth c H locs cells slots Q (F0 m pc ls (.long v :: .ref (G 0) :: rest)) := by
  have key : ∀ k2, k2 = k → em cy G (st_L S 0 k2 v) 0 = .inr (4, ([.int (S.1 0 0), .int (S.1 0 1), .ref (G 1), .int (S.1 0 3), .int (S.1 0 4), .ref (G 2), .ref (G 3), .ref (G 4), .ref (G 5), .ref (G 6), .ref (G 7), .ref (G 8), .ref (G 9), .ref (G 10), .long (S.2 0 14), .long (S.2 0 15), .ref (G 11)] : List Value).set k2 (.long v)) := by
    intro k2 e2
    rcases hk with q | q <;> (rw [q] at e2; subst e2; rfl)
  rcases hk with q | q <;> subst q <;>
  exact va_put (D := D) (ci := 4) (v := .long v) (ty := .long) (C := RX4) (T := TX4) (N := 17) hx hb hts hin tyX4 tyX4_ok nmX4 hown hK hP (wg_D hG _) hS 0 wm_0 rfl _ (by decide) hlink (fun _ h9 => h9) rfl (by decide +kernel) rfl rfl (Nat.le_of_ble_eq_true rfl) hdg (fun H1 locs1 hP1 _ hS1 => kk H1 locs1 (by rw [wg_set (key _ rfl) em_L] at hP1; exact hP1) hS1)
/-! stores into arrays -/
theorem ec_A (h : kc r = 5) : ec cy G S r = .inl (cy 0, 8, .inl (S.1 r)) := by
  unfold ec; rw [if_neg (by rw [h]; decide), if_pos h]
theorem em_A (h : km r = 5) : em cy G S r = .inl (cy 0, lm r, .inl (S.1 r)) := by
  unfold em; rw [if_neg (by rw [h]; decide), if_neg (by rw [h]; decide)]
theorem em_J (h : km r = 6) : em cy G S r = .inl (cy 1, lm r, .inr (.inl (S.2 r))) := by
  unfold em; rw [if_neg (by rw [h]; decide), if_pos h]
theorem a_cI {i v : Int32} (hG : gi G 132) (hx : p.tables.exec = Jvm.exec) (hb : c.code = cc) (hK : va_K D vwCl (ty3 cy) s) (hP : va_P D vwCl (wc cy G S) H) (hS : va_S (ac G) s.heap H locs) (h : kc r = 5) (hi : ¬ oob i 8) (hdg : decode cc pc = .ok (.iastore, 1))
    (kk : ∀ (H1 : Heap) (locs1 : List Loc), va_P D vwCl (wc cy G (st_I S r i.toNatClampNeg v)) H1 → va_S (ac G) s.heap H1 locs1 → W p l e R s m args below meth c H1 locs1 cells slots Q (F0 m (pc + 1) ls rest)) : W p l e R s m args below meth c H locs cells slots Q (F0 m pc ls (.int v :: .int i :: .ref (G r) :: rest)) :=
  va_iast hx hb hK hP (wg_D hG _) hS r 0 (wc_A h) rfl hi hdg (fun H1 locs1 hP1 _ hS1 => kk H1 locs1 (by rw [wg_set (f' := ec cy G (st_I S r i.toNatClampNeg v)) (by rw [ec_A h, st_Iupd]) ec_I] at hP1; exact hP1) hS1)
theorem a_cL {i : Int32} {v : Int64} (hG : gi G 132) (hx : p.tables.exec = Jvm.exec) (hb : c.code = cc) (hK : va_K D vwCl (ty3 cy) s) (hP : va_P D vwCl (wc cy G S) H) (hS : va_S (ac G) s.heap H locs) (_h : kc 2 = 6) (hi : ¬ oob i 60) (hdg : decode cc pc = .ok (.lastore, 1))
    (kk : ∀ (H1 : Heap) (locs1 : List Loc), va_P D vwCl (wc cy G (st_L S 2 i.toNatClampNeg v)) H1 → va_S (ac G) s.heap H1 locs1 → W p l e R s m args below meth c H1 locs1 cells slots Q (F0 m (pc + 1) ls rest)) : W p l e R s m args below meth c H locs cells slots Q (F0 m pc ls (.long v :: .int i :: .ref (G 2) :: rest)) :=
  va_last hx hb hK hP (wg_D hG _) hS 2 1 wc_2 rfl hi hdg (fun H1 locs1 hP1 _ hS1 => kk H1 locs1 (by rw [wg_set (f' := ec cy G (st_L S 2 i.toNatClampNeg v)) (by rw [show ec cy G (st_L S 2 i.toNatClampNeg v) 2 = .inl (cy 1, 60, .inr (.inl ((st_L S 2 i.toNatClampNeg v).2 2))) from rfl, st_Lupd]) ec_L] at hP1; exact hP1) hS1)
theorem a_mI {i v : Int32} (hG : gi G 12) (hx : p.tables.exec = Jvm.exec) (hb : c.code = cc) (hK : va_K D vwCl (ty3 cy) s) (hP : va_P D vwCl (wm cy G S) H) (hS : va_S (am G) s.heap H locs) (h : km r = 5) (hi : ¬ oob i (lm r)) (hdg : decode cc pc = .ok (.iastore, 1))
    (kk : ∀ (H1 : Heap) (locs1 : List Loc), va_P D vwCl (wm cy G (st_I S r i.toNatClampNeg v)) H1 → va_S (am G) s.heap H1 locs1 → W p l e R s m args below meth c H1 locs1 cells slots Q (F0 m (pc + 1) ls rest)) : W p l e R s m args below meth c H locs cells slots Q (F0 m pc ls (.int v :: .int i :: .ref (G r) :: rest)) :=
  va_iast hx hb hK hP (wg_D hG _) hS r 0 (wm_A h) rfl hi hdg (fun H1 locs1 hP1 _ hS1 => kk H1 locs1 (by rw [wg_set (f' := em cy G (st_I S r i.toNatClampNeg v)) (by rw [em_A h, st_Iupd]) em_I] at hP1; exact hP1) hS1)
theorem a_mL {i : Int32} {v : Int64} (hG : gi G 12) (hx : p.tables.exec = Jvm.exec) (hb : c.code = cc) (hK : va_K D vwCl (ty3 cy) s) (hP : va_P D vwCl (wm cy G S) H) (hS : va_S (am G) s.heap H locs) (h : km r = 6) (hi : ¬ oob i (lm r)) (hdg : decode cc pc = .ok (.lastore, 1))
    (kk : ∀ (H1 : Heap) (locs1 : List Loc), va_P D vwCl (wm cy G (st_L S r i.toNatClampNeg v)) H1 → va_S (am G) s.heap H1 locs1 → W p l e R s m args below meth c H1 locs1 cells slots Q (F0 m (pc + 1) ls rest)) : W p l e R s m args below meth c H locs cells slots Q (F0 m pc ls (.long v :: .int i :: .ref (G r) :: rest)) :=
  va_last hx hb hK hP (wg_D hG _) hS r 1 (wm_L h) rfl hi hdg (fun H1 locs1 hP1 _ hS1 => kk H1 locs1 (by rw [wg_set (f' := em cy G (st_L S r i.toNatClampNeg v)) (by rw [em_J h, st_Lupd]) em_L] at hP1; exact hP1) hS1)
/-- System.arraycopy of a row of eight ints -/
theorem r_copy {r0 : Nat} (hG : gi G 132) (hx : p.tables.exec = Jvm.exec) (hb : c.code = cc) (hml : c.maxLocals = ls.size) (hown : s.vm.findClass own = some m.cls) (hlink : (Cond.methodLink own index arraycopyName).before args s = true) (hnat : (Cond.native arraycopyName).before args s = true) (hstat : (Cond.static arraycopyName).before args s = true) (hini : (Cond.initialized "java/lang/System").before args s = true) (hK : va_K D vwCl (ty3 cy) s) (hP : va_P D vwCl (wc cy G S) H) (hS : va_S (ac G) s.heap H locs) (h0 : kc r0 = 5) (h : kc r = 5)
    (hframes : 1 ≤ R.frames) (hlocals : (rest.map fun v => v.category).sum + (nativeFrameWords "java/lang/System" "arraycopy" 5 + 11) ≤ R.locals) (hdg : decode cc pc = .ok (.invokestatic index, 3))
    (kk : ∀ (H1 : Heap) (locs1 : List Loc), va_P D vwCl (wc cy G (st_R S r (va_cpy (S.1 r0) (S.1 r) 0 0 8))) H1 → va_S (ac G) s.heap H1 locs1 → W p l e R s m args below meth c H1 locs1 cells slots Q (F0 m (pc + 3) ls rest)) : W p l e R s m args below meth c H locs cells slots Q (F0 m pc ls (.int 8 :: .int 0 :: .ref (G r) :: .int 0 :: .ref (G r0) :: rest)) :=
  va_copyi (n := 8) (sp := 0) (dp := 0) hx hb hml hown hlink hnat hstat hini hK hP (wg_D hG _) hS r0 r 0 0 (wc_A h0) (wc_A h) (ty := .int) rfl rfl rfl (by decide) (by decide) (by decide) (by decide) (by decide) (fun _ _ => rfl) hframes hlocals hdg (fun H1 locs1 hP1 _ hS1 => kk H1 locs1 (by rw [wg_set (f' := ec cy G (st_R S r (va_cpy (S.1 r0) (S.1 r) 0 0 8))) (by rw [ec_A h, st_R1]; rfl) ec_R] at hP1; exact hP1) hS1)
variable {w : St → va_W} {A : Nat → Prop} {S0 : St}
theorem e_i {v r0 : Int32} (hx : p.tables.exec = Jvm.exec) (hb : c.code = cc) (hr : meth.sig.returnType = some .int) (hlocks : meth.locks = false) (hK : va_K D vwCl (ty3 cy) s) (hP : va_P D vwCl (w S) H) (hS : va_S A s.heap H locs) (hv : some v = some r0) (hdg : decode cc pc = .ok (.ireturn, 1)) : W p l e R s m args below meth c H locs 0 0 (MQ below (qi w D cy A r0 S) args s 0 0 A) (F0 m pc ls [.int v]) :=
  W.iret hx hb hr (fun t ht hW => ⟨⟨v, S, rfl, ⟨Option.some.inj hv, rfl⟩, by rw [ht]; exact hP, va_K.moved hW.alike hK⟩, hS.F ht⟩) hS.2.2 hdg hlocks
theorem e_iw {v r0 : Int32} (hx : p.tables.exec = Jvm.exec) (hb : c.code = cc) (hr : meth.sig.returnType = some .int) (hlocks : meth.locks = false) (hK : va_K D vwCl (ty3 cy) s) (hP : va_P D vwCl (w S) H) (hS : va_S A s.heap H locs) (hv : some (v, S) = some (r0, S0)) (hdg : decode cc pc = .ok (.ireturn, 1)) : W p l e R s m args below meth c H locs 0 0 (MQ below (qi w D cy A r0 S0) args s 0 0 A) (F0 m pc ls [.int v]) := by
  cases hv
  exact e_i hx hb hr hlocks hK hP hS rfl hdg
theorem e_z {v r0 : Int32} (hx : p.tables.exec = Jvm.exec) (hb : c.code = cc) (hr : meth.sig.returnType = some .boolean) (hlocks : meth.locks = false) (hK : va_K D vwCl (ty3 cy) s) (hP : va_P D vwCl (w S) H) (hS : va_S A s.heap H locs) (hn : narrow .boolean (.int v) = .int v) (hv : some v = some r0) (hdg : decode cc pc = .ok (.ireturn, 1)) : W p l e R s m args below meth c H locs 0 0 (MQ below (qi w D cy A r0 S) args s 0 0 A) (F0 m pc ls [.int v]) :=
  W.zret hx hb hr hn (fun t ht hW => ⟨⟨v, S, rfl, ⟨Option.some.inj hv, rfl⟩, by rw [ht]; exact hP, va_K.moved hW.alike hK⟩, hS.F ht⟩) hS.2.2 hdg hlocks
theorem e_zw {v r0 : Int32} (hx : p.tables.exec = Jvm.exec) (hb : c.code = cc) (hr : meth.sig.returnType = some .boolean) (hlocks : meth.locks = false) (hK : va_K D vwCl (ty3 cy) s) (hP : va_P D vwCl (w S) H) (hS : va_S A s.heap H locs) (hn : narrow .boolean (.int v) = .int v) (hv : some (v, S) = some (r0, S0)) (hdg : decode cc pc = .ok (.ireturn, 1)) : W p l e R s m args below meth c H locs 0 0 (MQ below (qi w D cy A r0 S0) args s 0 0 A) (F0 m pc ls [.int v]) := by
  cases hv
  exact e_z hx hb hr hlocks hK hP hS hn rfl hdg
theorem e_l {v r0 : Int64} (hx : p.tables.exec = Jvm.exec) (hb : c.code = cc) (hr : meth.sig.returnType = some .long) (hlocks : meth.locks = false) (hK : va_K D vwCl (ty3 cy) s) (hP : va_P D vwCl (w S) H) (hS : va_S A s.heap H locs) (hv : some v = some r0) (hdg : decode cc pc = .ok (.lreturn, 1)) : W p l e R s m args below meth c H locs 0 0 (MQ below (ql w D cy A r0 S) args s 0 0 A) (F0 m pc ls [.long v]) :=
  W.lret hx hb hr (fun t ht hW => ⟨⟨v, S, rfl, ⟨Option.some.inj hv, rfl⟩, by rw [ht]; exact hP, va_K.moved hW.alike hK⟩, hS.F ht⟩) hS.2.2 hdg hlocks
theorem e_lw {v r0 : Int64} (hx : p.tables.exec = Jvm.exec) (hb : c.code = cc) (hr : meth.sig.returnType = some .long) (hlocks : meth.locks = false) (hK : va_K D vwCl (ty3 cy) s) (hP : va_P D vwCl (w S) H) (hS : va_S A s.heap H locs) (hv : some (v, S) = some (r0, S0)) (hdg : decode cc pc = .ok (.lreturn, 1)) : W p l e R s m args below meth c H locs 0 0 (MQ below (ql w D cy A r0 S0) args s 0 0 A) (F0 m pc ls [.long v]) := by
  cases hv
  exact e_l hx hb hr hlocks hK hP hS rfl hdg
theorem e_v (hx : p.tables.exec = Jvm.exec) (hb : c.code = cc) (hr : meth.sig.returnType = none) (hlocks : meth.locks = false) (hK : va_K D vwCl (ty3 cy) s) (hP : va_P D vwCl (w S) H) (hS : va_S A s.heap H locs) (hv : some S = some S0) (hdg : decode cc pc = .ok (.return_, 1)) : W p l e R s m args below meth c H locs 0 0 (MQ below (qv w D cy A S0) args s 0 0 A) (F0 m pc ls []) :=
  W.vret hx hb hr (fun t ht hW => ⟨⟨S, rfl, Option.some.inj hv, by rw [ht]; exact hP, va_K.moved hW.alike hK⟩, hS.F ht⟩) hS.2.2 hdg hlocks
theorem e_qR {a : Nat} {r0 : Option Nat} {C9 : String} (hx : p.tables.exec = Jvm.exec) (hb : c.code = cc) (hr : meth.sig.returnType = some (.object C9)) (hlocks : meth.locks = false) (hK : va_K D vwCl (ty3 cy) s) (hP : va_P D vwCl (w S) H) (hS : va_S A s.heap H locs) (hv : some (some a) = some r0) (hdg : decode cc pc = .ok (.areturn, 1)) : W p l e R s m args below meth c H locs 0 0 (MQ below (qq w D cy A (r0.map G) S) args s 0 0 A) (F0 m pc ls [.ref (G a)]) := by
  cases hv
  exact W.aret hx hb hr (Or.inl ⟨_, rfl⟩) (Or.inr ⟨_, rfl⟩) (fun t ht hW => ⟨⟨some (G a), S, rfl, ⟨rfl, rfl⟩, by rw [ht]; exact hP, va_K.moved hW.alike hK⟩, hS.F ht⟩) hS.2.2 hdg hlocks
theorem e_qN {r0 : Option Nat} {C9 : String} (hx : p.tables.exec = Jvm.exec) (hb : c.code = cc) (hr : meth.sig.returnType = some (.object C9)) (hlocks : meth.locks = false) (hK : va_K D vwCl (ty3 cy) s) (hP : va_P D vwCl (w S) H) (hS : va_S A s.heap H locs) (hv : some none = some r0) (hdg : decode cc pc = .ok (.areturn, 1)) : W p l e R s m args below meth c H locs 0 0 (MQ below (qq w D cy A (r0.map G) S) args s 0 0 A) (F0 m pc ls [.null]) := by
  cases hv
  exact W.aret hx hb hr (Or.inl ⟨_, rfl⟩) (Or.inl rfl) (fun t ht hW => ⟨⟨none, S, rfl, ⟨rfl, rfl⟩, by rw [ht]; exact hP, va_K.moved hW.alike hK⟩, hS.F ht⟩) hS.2.2 hdg hlocks
end
end
section
theorem zz_0 : True := trivial
def m_J9_floorMod_f86c9 (x0 : Int64) (x2 : Int64) : Option (Int64) := if x2 = 0 then none else if (0 : Int64) ≤ (x0 ^^^ x2) then (some (rm64 x0 x2)) else (if (rm64 x0 x2) = (0 : Int64) then (some (rm64 x0 x2)) else (some ((rm64 x0 x2) + x2)))
def m_X1_power (S : St) (x1 : Int32) : Option (Int64) := if oob (if (0 : Int32) < (if (S.1 1 2) < x1 then (S.1 1 2) else x1) then (if (S.1 1 2) < x1 then (S.1 1 2) else x1) else (0 : Int32)) 60 then none else some (S.2 2 (if (0 : Int32) < (if (S.1 1 2) < x1 then (S.1 1 2) else x1) then (if (S.1 1 2) < x1 then (S.1 1 2) else x1) else (0 : Int32)).toNatClampNeg)
def m_X1_reduce (S : St) (x1 : Int64) (x3 : Int32) : Option (Int64) := (m_X1_power S x3).bind (fun r_1 => (m_J9_floorMod_f86c9 x1 r_1).bind (fun r_2 => some r_2))
def m_X4_times_96 (x4 : Int64) (x10 : Int64) : Option (Int64) := if x4 = (1 : Int64) then (some (0 : Int64)) else (some x10)
def m_X4_times_83 (k9 : Int64 → Int64 → Int64 → Int64 → Option (Int64)) (x4 : Int64) (x8 : Int64) (x10 : Int64) (y0 : Int64) : Option (Int64) := k9 x4 y0 (x8 / (2 : Int64)) x10
def m_X4_times_56 (k9 : Int64 → Int64 → Int64 → Int64 → Option (Int64)) (x4 : Int64) (x6 : Int64) (x8 : Int64) (x10 : Int64) : Option (Int64) := if (x6 + x6) < x4 then (m_X4_times_83 k9 x4 x8 x10 (x6 + x6)) else (m_X4_times_83 k9 x4 x8 x10 ((x6 + x6) - x4))
def m_X4_times_54 (k9 : Int64 → Int64 → Int64 → Int64 → Option (Int64)) (x4 : Int64) (x6 : Int64) (x8 : Int64) (y0 : Int64) : Option (Int64) := m_X4_times_56 k9 x4 x6 x8 y0
def m_X4_times_9 : Nat → Int64 → Int64 → Int64 → Int64 → Option (Int64)
  | 0, _, _, _, _ => none
  | n + 1, x4, x6, x8, x10 => if x8 ≤ (0 : Int64) then (m_X4_times_96 x4 x10) else (if (rm64 x8 (2 : Int64)) = (1 : Int64) then (if (x10 + x6) < x4 then (m_X4_times_54 (fun x4 x6 x8 x10 => m_X4_times_9 n x4 x6 x8 x10) x4 x6 x8 (x10 + x6)) else (m_X4_times_54 (fun x4 x6 x8 x10 => m_X4_times_9 n x4 x6 x8 x10) x4 x6 x8 ((x10 + x6) - x4))) else (m_X4_times_56 (fun x4 x6 x8 x10 => m_X4_times_9 n x4 x6 x8 x10) x4 x6 x8 x10))
def m_X4_times (x0 : Int64) (x2 : Int64) (x4 : Int64) : Option (Int64) := m_X4_times_9 fu x4 x0 x2 (0 : Int64)
-- ----
theorem dJ9_floorMod_f86c9_0 : decode cJ9_floorMod_f86c9 0 = .ok (.lload_n 0, 1) := by decide +kernel
theorem dJ9_floorMod_f86c9_1 : decode cJ9_floorMod_f86c9 1 = .ok (.lload_n 2, 1) := by decide +kernel
theorem dJ9_floorMod_f86c9_2 : decode cJ9_floorMod_f86c9 2 = .ok (.lrem, 1) := by decide +kernel
theorem dJ9_floorMod_f86c9_3 : decode cJ9_floorMod_f86c9 3 = .ok (.lstore 4, 2) := by decide +kernel
theorem dJ9_floorMod_f86c9_5 : decode cJ9_floorMod_f86c9 5 = .ok (.lload_n 0, 1) := by decide +kernel
theorem dJ9_floorMod_f86c9_6 : decode cJ9_floorMod_f86c9 6 = .ok (.lload_n 2, 1) := by decide +kernel
theorem dJ9_floorMod_f86c9_7 : decode cJ9_floorMod_f86c9 7 = .ok (.lxor, 1) := by decide +kernel
theorem dJ9_floorMod_f86c9_8 : decode cJ9_floorMod_f86c9 8 = .ok (.lconst 0, 1) := by decide +kernel
theorem dJ9_floorMod_f86c9_9 : decode cJ9_floorMod_f86c9 9 = .ok (.lcmp, 1) := by decide +kernel
theorem dJ9_floorMod_f86c9_10 : decode cJ9_floorMod_f86c9 10 = .ok (.ifCond .ge 15, 3) := by decide +kernel
theorem dJ9_floorMod_f86c9_13 : decode cJ9_floorMod_f86c9 13 = .ok (.lload 4, 2) := by decide +kernel
theorem dJ9_floorMod_f86c9_15 : decode cJ9_floorMod_f86c9 15 = .ok (.lconst 0, 1) := by decide +kernel
theorem dJ9_floorMod_f86c9_16 : decode cJ9_floorMod_f86c9 16 = .ok (.lcmp, 1) := by decide +kernel
theorem dJ9_floorMod_f86c9_17 : decode cJ9_floorMod_f86c9 17 = .ok (.ifCond .eq 8, 3) := by decide +kernel
theorem dJ9_floorMod_f86c9_20 : decode cJ9_floorMod_f86c9 20 = .ok (.lload 4, 2) := by decide +kernel
theorem dJ9_floorMod_f86c9_22 : decode cJ9_floorMod_f86c9 22 = .ok (.lload_n 2, 1) := by decide +kernel
theorem dJ9_floorMod_f86c9_23 : decode cJ9_floorMod_f86c9 23 = .ok (.ladd, 1) := by decide +kernel
theorem dJ9_floorMod_f86c9_24 : decode cJ9_floorMod_f86c9 24 = .ok (.lreturn, 1) := by decide +kernel
theorem dJ9_floorMod_f86c9_25 : decode cJ9_floorMod_f86c9 25 = .ok (.lload 4, 2) := by decide +kernel
theorem dJ9_floorMod_f86c9_27 : decode cJ9_floorMod_f86c9 27 = .ok (.lreturn, 1) := by decide +kernel
abbrev wz_J9_floorMod_f86c9 : List Cond := .code yJ9_floorMod_f86c9 cJ9_floorMod_f86c9 6 (some .long) :: wA
theorem hs_J9_floorMod_f86c9 : (yJ9_floorMod_f86c9).cls ≠ "java/lang/invoke/MethodHandle" ∧ (yJ9_floorMod_f86c9).cls ≠ "java/lang/invoke/VarHandle" ∧ (parseMethodDescriptor (yJ9_floorMod_f86c9).desc).map (fun d => d.parameters.length) = some 2 := by decide +kernel
set_option maxRecDepth 100000 in
set_option maxHeartbeats 4000000 in
theorem c_J9_floorMod_f86c9 (l : Launch) (D : va_G) (cy : Nat → ClassId) (G : Nat → Nat) (hG : gi G 132) (S : St) (x0 : Int64) (x2 : Int64) {r0 : Int64} (hm : m_J9_floorMod_f86c9 x0 x2 = some r0) : Met l yJ9_floorMod_f86c9 wz_J9_floorMod_f86c9 ({ frames := 0, cells := 0, slots := 0, locals := 0 }) (va_Pc [.long x0, .long x2] (pw (wc cy G) D cy S)) (ql (wc cy G) D cy (ac G) r0 S) 0 0 (ac G) := by
  refine Met.ofW (cc := cJ9_floorMod_f86c9) (maxL := 6) (ret := (some .long)) (by decide) rfl ?_
  intro p e s m args below meth c s₁ B hml hv
  obtain ⟨rfl, hP, hK⟩ := hv
  have hx := B.exec
  have hb := B.bytes
  have hr := B.returns
  have hts0 := atoms_spec (ws := wz_J9_floorMod_f86c9) B.pre
  have hts : ∀ w ∈ wA, w.before _ s = true := fun w h => hts0 w (List.mem_cons_of_mem _ h)
  have hown : s.vm.findClass RJ9 = some m.cls := findClass_of_methodNamed B.named
  have hlocks := B.notSynchronized
  have C : cx p s m _ meth c cJ9_floorMod_f86c9 6 (some .long) RJ9 wA D cy := ⟨⟨hx, hb, hml, hown, hts⟩, hr, hlocks, hK⟩
  have hS : va_S (ac G) s.heap s.heap [] := va_S.rf
  have hl := lv_entry ([.long x0, .long x2]) (n := 6) (Nat.le_of_ble_eq_true rfl)
  rw [lg_entry_eq]
  generalize (lg_sl ([.long x0, .long x2]) ++ List.replicate (6 - (lg_sl ([.long x0, .long x2])).length) Slot.unset).toArray = ls at hl ⊢
  have hl : lv_has ls 6 [(0, .long x0), (2, .long x2)] := hl
  unfold m_J9_floorMod_f86c9 at hm
  refine lv_lload_n hx hb dJ9_floorMod_f86c9_0 rfl (lv_at hl 0 rfl) ?_
  refine lv_lload_n hx hb dJ9_floorMod_f86c9_1 rfl (lv_at hl 1 rfl) ?_
  obtain ⟨h_1, hm⟩ := ho_n hm
  refine r_lrem hx hb dJ9_floorMod_f86c9_2 h_1 ?_
  refine lv_lstore (lv' := [(4, .long (rm64 x0 x2)), (0, .long x0), (2, .long x2)]) hx hb dJ9_floorMod_f86c9_3 hl (by decide) rfl (fun ls hl => ?_)
  refine lv_lload_n hx hb dJ9_floorMod_f86c9_5 rfl (lv_at hl 1 rfl) ?_
  refine lv_lload_n hx hb dJ9_floorMod_f86c9_6 rfl (lv_at hl 2 rfl) ?_
  refine lv_lxor hx hb dJ9_floorMod_f86c9_7 ?_
  refine r_pc (pc2 := 8) rfl ?_
  refine lv_lconst (v := 0) hx hb dJ9_floorMod_f86c9_8 (by decide) ?_
  refine r_lge (tgt := 26) hx hb dJ9_floorMod_f86c9_9 dJ9_floorMod_f86c9_10 (by decide) (fun c_2 => ?_) (fun c_2 => ?_)
  · have hm := ho_t c_2 hm
    refine lv_lload hx hb dJ9_floorMod_f86c9_26 (lv_at hl 0 rfl) ?_
    exact e_l hx hb hr hlocks hK hP hS hm dJ9_floorMod_f86c9_28
  · have hm := ho_f c_2 hm
    refine lv_lload hx hb dJ9_floorMod_f86c9_13 (lv_at hl 0 rfl) ?_
    refine lv_lconst (v := 0) hx hb dJ9_floorMod_f86c9_15 (by decide) ?_
    refine r_leq (tgt := 26) hx hb dJ9_floorMod_f86c9_16 dJ9_floorMod_f86c9_17 (by decide) (fun c_3 => ?_) (fun c_3 => ?_)
    · have hm := ho_t c_3 hm
      refine lv_lload hx hb dJ9_floorMod_f86c9_26 (lv_at hl 0 rfl) ?_
      exact e_l hx hb hr hlocks hK hP hS hm dJ9_floorMod_f86c9_28
    · have hm := ho_f c_3 hm
      refine lv_lload hx hb dJ9_floorMod_f86c9_20 (lv_at hl 0 rfl) ?_
      refine lv_lload_n hx hb dJ9_floorMod_f86c9_22 rfl (lv_at hl 2 rfl) ?_
      refine lv_ladd hx hb dJ9_floorMod_f86c9_23 ?_
      refine lv_lstore (lv' := [(4, .long ((rm64 x0 x2) + x2)), (0, .long x0), (2, .long x2)]) hx hb dJ9_floorMod_f86c9_24 hl (by decide) rfl (fun ls hl => ?_)
      refine lv_lload hx hb dJ9_floorMod_f86c9_26 (lv_at hl 0 rfl) ?_
      exact e_l hx hb hr hlocks hK hP hS hm dJ9_floorMod_f86c9_28
theorem dX1_power_0 : decode cX1_power 0 = .ok (.aload_n 0, 1) := by decide +kernel
theorem dX1_power_1 : decode cX1_power 1 = .ok (.getfield 7, 3) := by decide +kernel
theorem dX1_power_4 : decode cX1_power 4 = .ok (.iconst 0, 1) := by decide +kernel
theorem dX1_power_5 : decode cX1_power 5 = .ok (.iload_n 1, 1) := by decide +kernel
theorem dX1_power_6 : decode cX1_power 6 = .ok (.aload_n 0, 1) := by decide +kernel
theorem dX1_power_7 : decode cX1_power 7 = .ok (.getfield 17, 3) := by decide +kernel
theorem dX1_power_10 : decode cX1_power 10 = .ok (.invokestatic 30, 3) := by decide +kernel
theorem dX1_power_13 : decode cX1_power 13 = .ok (.invokestatic 36, 3) := by decide +kernel
theorem dX1_power_16 : decode cX1_power 16 = .ok (.laload, 1) := by decide +kernel
theorem dX1_power_17 : decode cX1_power 17 = .ok (.lreturn, 1) := by decide +kernel
abbrev wz_X1_power : List Cond := .code yX1_power cX1_power 2 (some .long) :: wA
theorem hd_X1_power : (yX1_power).cls = RX1 ∧ (yX1_power).cls ≠ "java/lang/invoke/MethodHandle" ∧ (yX1_power).cls ≠ "java/lang/invoke/VarHandle" ∧ (parseMethodDescriptor (yX1_power).desc).map (fun d => d.parameters.length) = some 1 := by decide +kernel
set_option maxRecDepth 100000 in
set_option maxHeartbeats 4000000 in
theorem c_X1_power (l : Launch) (D : va_G) (cy : Nat → ClassId) (G : Nat → Nat) (hG : gi G 132) (S : St) (x1 : Int32) {r0 : Int64} (hm : m_X1_power S x1 = some r0) : Met l yX1_power wz_X1_power ({ frames := 1, cells := 0, slots := 0, locals := 21 }) (va_Pc [.ref (G 1), .int x1] (pw (wc cy G) D cy S)) (ql (wc cy G) D cy (ac G) r0 S) 0 0 (ac G) := by
  refine Met.ofW (cc := cX1_power) (maxL := 2) (ret := (some .long)) (by decide) rfl ?_
  intro p e s m args below meth c s₁ B hml hv
  obtain ⟨rfl, hP, hK⟩ := hv
  have hx := B.exec
  have hb := B.bytes
  have hr := B.returns
  have hts0 := atoms_spec (ws := wz_X1_power) B.pre
  have hts : ∀ w ∈ wA, w.before _ s = true := fun w h => hts0 w (List.mem_cons_of_mem _ h)
  have hown : s.vm.findClass RX1 = some m.cls := findClass_of_methodNamed B.named
  have hlocks := B.notSynchronized
  have C : cx p s m _ meth c cX1_power 2 (some .long) RX1 wA D cy := ⟨⟨hx, hb, hml, hown, hts⟩, hr, hlocks, hK⟩
  have hS : va_S (ac G) s.heap s.heap [] := va_S.rf
  have hl := lv_entry ([.ref (G 1), .int x1]) (n := 2) (Nat.le_of_ble_eq_true rfl)
  rw [lg_entry_eq]
  generalize (lg_sl ([.ref (G 1), .int x1]) ++ List.replicate (2 - (lg_sl ([.ref (G 1), .int x1])).length) Slot.unset).toArray = ls at hl ⊢
  have hl : lv_has ls 2 [(0, .ref (G 1)), (1, .int x1)] := hl
  unfold m_X1_power at hm
  refine lv_aload_n hx hb dX1_power_0 rfl (lv_at hl 0 rfl) ?_
  refine va_get (D := D) (ci := 1) (v := .ref (G 2)) (C := RX1) (T := TX1) (N := 3) hx hb hts inA_X1 hown hK hP 1 wc_1 rfl 0 (by decide) (hts _ tw_27) (fun _ h9 => h9) rfl dX1_power_1 ?_
  refine lv_iconst (v := 0) hx hb dX1_power_4 (by decide) ?_
  refine lv_iload_n hx hb dX1_power_5 rfl (lv_at hl 1 rfl) ?_
  refine lv_aload_n hx hb dX1_power_6 rfl (lv_at hl 0 rfl) ?_
  refine va_get (D := D) (ci := 1) (v := .int (S.1 1 2)) (C := RX1) (T := TX1) (N := 3) hx hb hts inA_X1 hown hK hP 1 wc_1 rfl 2 (by decide) (hts _ tw_30) (fun _ h9 => h9) rfl dX1_power_7 ?_
  refine va_mmin hx hb (hml.trans hl.1.symm) hown (hts _ tw_171) (hts _ tw_172) (hts _ tw_6) (hts _ tw_173) (by decide) (Nat.le_of_ble_eq_true rfl) (Nat.zero_le _) (Nat.zero_le _) dX1_power_10 ?_
  refine r_pc (pc2 := 13) rfl ?_
  refine va_mmax hx hb (hml.trans hl.1.symm) hown (hts _ tw_174) (hts _ tw_175) (hts _ tw_6) (hts _ tw_176) (by decide) (Nat.le_of_ble_eq_true rfl) (Nat.zero_le _) (Nat.zero_le _) dX1_power_13 ?_
  obtain ⟨h_1, hm⟩ := ho_n hm
  refine va_lald hx hb hK hP 2 1 wc_2 rfl h_1 dX1_power_16 ?_
  exact e_l hx hb hr hlocks hK hP hS hm dX1_power_17
theorem dX1_reduce_0 : decode cX1_reduce 0 = .ok (.lload_n 1, 1) := by decide +kernel
theorem dX1_reduce_1 : decode cX1_reduce 1 = .ok (.aload_n 0, 1) := by decide +kernel
theorem dX1_reduce_2 : decode cX1_reduce 2 = .ok (.iload_n 3, 1) := by decide +kernel
theorem dX1_reduce_3 : decode cX1_reduce 3 = .ok (.invokevirtual 39, 3) := by decide +kernel
theorem dX1_reduce_6 : decode cX1_reduce 6 = .ok (.invokestatic 43, 3) := by decide +kernel
theorem dX1_reduce_9 : decode cX1_reduce 9 = .ok (.lreturn, 1) := by decide +kernel
abbrev wz_X1_reduce : List Cond := .code yX1_reduce cX1_reduce 4 (some .long) :: wA
theorem hd_X1_reduce : (yX1_reduce).cls = RX1 ∧ (yX1_reduce).cls ≠ "java/lang/invoke/MethodHandle" ∧ (yX1_reduce).cls ≠ "java/lang/invoke/VarHandle" ∧ (parseMethodDescriptor (yX1_reduce).desc).map (fun d => d.parameters.length) = some 2 := by decide +kernel
set_option maxRecDepth 100000 in
set_option maxHeartbeats 4000000 in
theorem c_X1_reduce (l : Launch) (D : va_G) (cy : Nat → ClassId) (G : Nat → Nat) (hG : gi G 132) (S : St) (x1 : Int64) (x3 : Int32) {r0 : Int64} (hm : m_X1_reduce S x1 x3 = some r0) : Met l yX1_reduce wz_X1_reduce ({ frames := 2, cells := 0, slots := 0, locals := 42 }) (va_Pc [.ref (G 1), .long x1, .int x3] (pw (wc cy G) D cy S)) (ql (wc cy G) D cy (ac G) r0 S) 0 0 (ac G) := by
  refine Met.ofW (cc := cX1_reduce) (maxL := 4) (ret := (some .long)) (by decide) rfl ?_
  intro p e s m args below meth c s₁ B hml hv
  obtain ⟨rfl, hP, hK⟩ := hv
  have hx := B.exec
  have hb := B.bytes
  have hr := B.returns
  have hts0 := atoms_spec (ws := wz_X1_reduce) B.pre
  have hts : ∀ w ∈ wA, w.before _ s = true := fun w h => hts0 w (List.mem_cons_of_mem _ h)
  have hown : s.vm.findClass RX1 = some m.cls := findClass_of_methodNamed B.named
  have hlocks := B.notSynchronized
  have C : cx p s m _ meth c cX1_reduce 4 (some .long) RX1 wA D cy := ⟨⟨hx, hb, hml, hown, hts⟩, hr, hlocks, hK⟩
  have hS : va_S (ac G) s.heap s.heap [] := va_S.rf
  have hl := lv_entry ([.ref (G 1), .long x1, .int x3]) (n := 4) (Nat.le_of_ble_eq_true rfl)
  rw [lg_entry_eq]
  generalize (lg_sl ([.ref (G 1), .long x1, .int x3]) ++ List.replicate (4 - (lg_sl ([.ref (G 1), .long x1, .int x3])).length) Slot.unset).toArray = ls at hl ⊢
  have hl : lv_has ls 4 [(0, .ref (G 1)), (1, .long x1), (3, .int x3)] := hl
  unfold m_X1_reduce at hm
  refine lv_lload_n hx hb dX1_reduce_0 rfl (lv_at hl 1 rfl) ?_
  refine lv_aload_n hx hb dX1_reduce_1 rfl (lv_at hl 0 rfl) ?_
  refine lv_iload_n hx hb dX1_reduce_2 rfl (lv_at hl 2 rfl) ?_
  obtain ⟨r_1, hc_1, hm⟩ := ho_b hm
  refine k_vl (As := [.int x3]) (rest := [.long x1]) ⟨hx, hb, hml, hown, hts⟩ hK hP hS (c_X1_power l D cy G hG S x3 hc_1) (cwV 1 hts (wA_v tw_167 tw_168 tw_169 tw_2 tw_170) rfl rfl rfl hd_X1_power ⟨by decide, by decide⟩) (va_recv hK hP (ci := 1) (q0 := 1) rfl wc_1) rfl hl.1 rfl (by decide) dX1_reduce_3 (fun H locs hP hS => ?_)
  obtain ⟨r_2, hc_2, hm⟩ := ho_b hm
  refine k_sl (As := [.long x1, .long r_1]) (rest := []) ⟨hx, hb, hml, hown, hts⟩ hK hP hS (c_J9_floorMod_f86c9 l D cy G hG S x1 r_1 hc_2) (va_cwS 2 hts (wA_s tw_177 tw_178 tw_6 tw_179) rfl rfl rfl hs_J9_floorMod_f86c9 ⟨by decide, by decide⟩) rfl hl.1 rfl (by decide) dX1_reduce_6 (fun H locs hP hS => ?_)
  exact e_l hx hb hr hlocks hK hP hS hm dX1_reduce_9
theorem dX4_times_0 : decode cX4_times 0 = .ok (.lload_n 0, 1) := by decide +kernel
theorem dX4_times_1 : decode cX4_times 1 = .ok (.lstore 6, 2) := by decide +kernel
theorem dX4_times_3 : decode cX4_times 3 = .ok (.lload_n 2, 1) := by decide +kernel
theorem dX4_times_4 : decode cX4_times 4 = .ok (.lstore 8, 2) := by decide +kernel
theorem dX4_times_6 : decode cX4_times 6 = .ok (.lconst 0, 1) := by decide +kernel
theorem dX4_times_7 : decode cX4_times 7 = .ok (.lstore 10, 2) := by decide +kernel
theorem dX4_times_9 : decode cX4_times 9 = .ok (.lload 8, 2) := by decide +kernel
theorem dX4_times_11 : decode cX4_times 11 = .ok (.lconst 0, 1) := by decide +kernel
theorem dX4_times_12 : decode cX4_times 12 = .ok (.lcmp, 1) := by decide +kernel
theorem dX4_times_13 : decode cX4_times 13 = .ok (.ifCond .le 83, 3) := by decide +kernel
theorem dX4_times_16 : decode cX4_times 16 = .ok (.lload 8, 2) := by decide +kernel
theorem dX4_times_18 : decode cX4_times 18 = .ok (.ldc2_w 63, 3) := by decide +kernel
theorem dX4_times_21 : decode cX4_times 21 = .ok (.lrem, 1) := by decide +kernel
theorem dX4_times_22 : decode cX4_times 22 = .ok (.lconst 1, 1) := by decide +kernel
theorem dX4_times_23 : decode cX4_times 23 = .ok (.lcmp, 1) := by decide +kernel
theorem dX4_times_24 : decode cX4_times 24 = .ok (.ifCond .ne 32, 3) := by decide +kernel
theorem dX4_times_27 : decode cX4_times 27 = .ok (.lload 10, 2) := by decide +kernel
theorem dX4_times_29 : decode cX4_times 29 = .ok (.lload 6, 2) := by decide +kernel
theorem dX4_times_31 : decode cX4_times 31 = .ok (.ladd, 1) := by decide +kernel
theorem dX4_times_32 : decode cX4_times 32 = .ok (.lload 4, 2) := by decide +kernel
theorem dX4_times_34 : decode cX4_times 34 = .ok (.lcmp, 1) := by decide +kernel
theorem dX4_times_35 : decode cX4_times 35 = .ok (.ifCond .lt 14, 3) := by decide +kernel
theorem dX4_times_38 : decode cX4_times 38 = .ok (.lload 10, 2) := by decide +kernel
theorem dX4_times_40 : decode cX4_times 40 = .ok (.lload 6, 2) := by decide +kernel
theorem dX4_times_42 : decode cX4_times 42 = .ok (.ladd, 1) := by decide +kernel
theorem dX4_times_43 : decode cX4_times 43 = .ok (.lload 4, 2) := by decide +kernel
theorem dX4_times_45 : decode cX4_times 45 = .ok (.lsub, 1) := by decide +kernel
theorem dX4_times_46 : decode cX4_times 46 = .ok (.goto 8, 3) := by decide +kernel
theorem dX4_times_49 : decode cX4_times 49 = .ok (.lload 10, 2) := by decide +kernel
theorem dX4_times_51 : decode cX4_times 51 = .ok (.lload 6, 2) := by decide +kernel
theorem dX4_times_53 : decode cX4_times 53 = .ok (.ladd, 1) := by decide +kernel
theorem dX4_times_54 : decode cX4_times 54 = .ok (.lstore 10, 2) := by decide +kernel
theorem dX4_times_56 : decode cX4_times 56 = .ok (.lload 6, 2) := by decide +kernel
theorem dX4_times_58 : decode cX4_times 58 = .ok (.lload 6, 2) := by decide +kernel
theorem dX4_times_60 : decode cX4_times 60 = .ok (.ladd, 1) := by decide +kernel
theorem dX4_times_61 : decode cX4_times 61 = .ok (.lload 4, 2) := by decide +kernel
theorem dX4_times_63 : decode cX4_times 63 = .ok (.lcmp, 1) := by decide +kernel
theorem dX4_times_64 : decode cX4_times 64 = .ok (.ifCond .lt 14, 3) := by decide +kernel
theorem dX4_times_67 : decode cX4_times 67 = .ok (.lload 6, 2) := by decide +kernel
theorem dX4_times_69 : decode cX4_times 69 = .ok (.lload 6, 2) := by decide +kernel
theorem dX4_times_71 : decode cX4_times 71 = .ok (.ladd, 1) := by decide +kernel
theorem dX4_times_72 : decode cX4_times 72 = .ok (.lload 4, 2) := by decide +kernel
theorem dX4_times_74 : decode cX4_times 74 = .ok (.lsub, 1) := by decide +kernel
theorem dX4_times_75 : decode cX4_times 75 = .ok (.goto 8, 3) := by decide +kernel
theorem dX4_times_78 : decode cX4_times 78 = .ok (.lload 6, 2) := by decide +kernel
theorem dX4_times_80 : decode cX4_times 80 = .ok (.lload 6, 2) := by decide +kernel
theorem dX4_times_82 : decode cX4_times 82 = .ok (.ladd, 1) := by decide +kernel
theorem dX4_times_83 : decode cX4_times 83 = .ok (.lstore 6, 2) := by decide +kernel
theorem dX4_times_85 : decode cX4_times 85 = .ok (.lload 8, 2) := by decide +kernel
theorem dX4_times_87 : decode cX4_times 87 = .ok (.ldc2_w 63, 3) := by decide +kernel
theorem dX4_times_90 : decode cX4_times 90 = .ok (.ldiv, 1) := by decide +kernel
theorem dX4_times_91 : decode cX4_times 91 = .ok (.lstore 8, 2) := by decide +kernel
theorem dX4_times_93 : decode cX4_times 93 = .ok (.goto (-84), 3) := by decide +kernel
theorem dX4_times_96 : decode cX4_times 96 = .ok (.lload 4, 2) := by decide +kernel
theorem dX4_times_98 : decode cX4_times 98 = .ok (.lconst 1, 1) := by decide +kernel
theorem dX4_times_99 : decode cX4_times 99 = .ok (.lcmp, 1) := by decide +kernel
theorem dX4_times_100 : decode cX4_times 100 = .ok (.ifCond .ne 7, 3) := by decide +kernel
theorem dX4_times_103 : decode cX4_times 103 = .ok (.lconst 0, 1) := by decide +kernel
theorem dX4_times_104 : decode cX4_times 104 = .ok (.goto 5, 3) := by decide +kernel
theorem dX4_times_107 : decode cX4_times 107 = .ok (.lload 10, 2) := by decide +kernel
theorem dX4_times_109 : decode cX4_times 109 = .ok (.lreturn, 1) := by decide +kernel
abbrev wz_X4_times : List Cond := .code yX4_times cX4_times 12 (some .long) :: wA
theorem hs_X4_times : (yX4_times).cls ≠ "java/lang/invoke/MethodHandle" ∧ (yX4_times).cls ≠ "java/lang/invoke/VarHandle" ∧ (parseMethodDescriptor (yX4_times).desc).map (fun d => d.parameters.length) = some 3 := by decide +kernel
set_option maxRecDepth 100000 in
set_option maxHeartbeats 4000000 in
theorem b_X4_times_96 {p : Program} {l : Launch} {e : Env} {s : State} {m : MethodId} {args : Array Value} {below : List Frame} {meth : Method} {c : Code} {D : va_G} {cy : Nat → ClassId} {G : Nat → Nat} (hG : gi G 12) (C : cx p s m args meth c cX4_times 12 (some .long) RX4 wA D cy) {S : St} {r0 : Int64} : ∀ (x4 : Int64) (x10 : Int64) (H : Heap) (locs : List Loc) (ls : Array Slot), va_P D vwCl (wm cy G S) H → va_S (am G) s.heap H locs → lv_has ls 12 [(4, .long x4), (10, .long x10)] → (m_X4_times_96) x4 x10 = some r0 → W p l e { frames := 0, cells := 0, slots := 0, locals := 0 } s m args below meth c H locs 0 0 (MQ below (ql (wm cy G) D cy (am G) r0 S) args s 0 0 (am G)) (F0 m 96 ls []) := by
  obtain ⟨⟨hx, hb, hml, hown, hts⟩, hr, hlocks, hK⟩ := id C
  intro x4 x10 H locs ls hP hS hl hm
  unfold m_X4_times_96 at hm
  refine lv_lload hx hb dX4_times_96 (lv_at hl 0 rfl) ?_
  refine lv_lconst (v := 1) hx hb dX4_times_98 (by decide) ?_
  refine r_lne (tgt := 107) hx hb dX4_times_99 dX4_times_100 (by decide) (fun c_1 => ?_) (fun c_1 => ?_)
  · have hm := ho_f c_1 hm
    refine lv_lload hx hb dX4_times_107 (lv_at hl 1 rfl) ?_
    exact e_l hx hb hr hlocks hK hP hS hm dX4_times_109
  · have hm := ho_t c_1 hm
    refine lv_lconst (v := 0) hx hb dX4_times_103 (by decide) ?_
    refine lv_goto (tgt := 109) hx hb dX4_times_104 (by decide) ?_
    exact e_l hx hb hr hlocks hK hP hS hm dX4_times_109
set_option maxRecDepth 100000 in
set_option maxHeartbeats 4000000 in
theorem b_X4_times_83 {p : Program} {l : Launch} {e : Env} {s : State} {m : MethodId} {args : Array Value} {below : List Frame} {meth : Method} {c : Code} {D : va_G} {cy : Nat → ClassId} {G : Nat → Nat} (hG : gi G 12) (C : cx p s m args meth c cX4_times 12 (some .long) RX4 wA D cy) {S : St} {r0 : Int64} {k9 : Int64 → Int64 → Int64 → Int64 → Option (Int64)} (hk9 : ∀ (x4 : Int64) (x6 : Int64) (x8 : Int64) (x10 : Int64) (H : Heap) (locs : List Loc) (ls : Array Slot), va_P D vwCl (wm cy G S) H → va_S (am G) s.heap H locs → lv_has ls 12 [(4, .long x4), (6, .long x6), (8, .long x8), (10, .long x10)] → k9 x4 x6 x8 x10 = some r0 → W p l e { frames := 0, cells := 0, slots := 0, locals := 0 } s m args below meth c H locs 0 0 (MQ below (ql (wm cy G) D cy (am G) r0 S) args s 0 0 (am G)) (F0 m 9 ls [])) : ∀ (x4 : Int64) (x8 : Int64) (x10 : Int64) (y0 : Int64) (H : Heap) (locs : List Loc) (ls : Array Slot), va_P D vwCl (wm cy G S) H → va_S (am G) s.heap H locs → lv_has ls 12 [(4, .long x4), (8, .long x8), (10, .long x10)] → (m_X4_times_83 k9) x4 x8 x10 y0 = some r0 → W p l e { frames := 0, cells := 0, slots := 0, locals := 0 } s m args below meth c H locs 0 0 (MQ below (ql (wm cy G) D cy (am G) r0 S) args s 0 0 (am G)) (F0 m 83 ls [.long y0]) := by
  obtain ⟨⟨hx, hb, hml, hown, hts⟩, hr, hlocks, hK⟩ := id C
  intro x4 x8 x10 y0 H locs ls hP hS hl hm
  unfold m_X4_times_83 at hm
  refine lv_lstore (lv' := [(6, .long y0), (4, .long x4), (8, .long x8), (10, .long x10)]) hx hb dX4_times_83 hl (by decide) rfl (fun ls hl => ?_)
  refine lv_lload hx hb dX4_times_85 (lv_at hl 2 rfl) ?_
  refine lv_ldc2 (v := 2) hx hb hown (hts _ tw_549) dX4_times_87 ?_
  refine lv_ldiv hx hb dX4_times_90 (by decide) ?_
  refine lv_lstore (lv' := [(8, .long (x8 / (2 : Int64))), (6, .long y0), (4, .long x4), (10, .long x10)]) hx hb dX4_times_91 hl (by decide) rfl (fun ls hl => ?_)
  refine lv_goto (tgt := 9) hx hb dX4_times_93 (by decide) ?_
  exact hk9 _ _ _ _ _ _ _ hP hS (lv_sub hl [2, 1, 0, 3] rfl) hm
set_option maxRecDepth 100000 in
set_option maxHeartbeats 4000000 in
theorem b_X4_times_56 {p : Program} {l : Launch} {e : Env} {s : State} {m : MethodId} {args : Array Value} {below : List Frame} {meth : Method} {c : Code} {D : va_G} {cy : Nat → ClassId} {G : Nat → Nat} (hG : gi G 12) (C : cx p s m args meth c cX4_times 12 (some .long) RX4 wA D cy) {S : St} {r0 : Int64} {k9 : Int64 → Int64 → Int64 → Int64 → Option (Int64)} (hk9 : ∀ (x4 : Int64) (x6 : Int64) (x8 : Int64) (x10 : Int64) (H : Heap) (locs : List Loc) (ls : Array Slot), va_P D vwCl (wm cy G S) H → va_S (am G) s.heap H locs → lv_has ls 12 [(4, .long x4), (6, .long x6), (8, .long x8), (10, .long x10)] → k9 x4 x6 x8 x10 = some r0 → W p l e { frames := 0, cells := 0, slots := 0, locals := 0 } s m args below meth c H locs 0 0 (MQ below (ql (wm cy G) D cy (am G) r0 S) args s 0 0 (am G)) (F0 m 9 ls [])) : ∀ (x4 : Int64) (x6 : Int64) (x8 : Int64) (x10 : Int64) (H : Heap) (locs : List Loc) (ls : Array Slot), va_P D vwCl (wm cy G S) H → va_S (am G) s.heap H locs → lv_has ls 12 [(4, .long x4), (6, .long x6), (8, .long x8), (10, .long x10)] → (m_X4_times_56 k9) x4 x6 x8 x10 = some r0 → W p l e { frames := 0, cells := 0, slots := 0, locals := 0 } s m args below meth c H locs 0 0 (MQ below (ql (wm cy G) D cy (am G) r0 S) args s 0 0 (am G)) (F0 m 56 ls []) := by
  obtain ⟨⟨hx, hb, hml, hown, hts⟩, hr, hlocks, hK⟩ := id C
  intro x4 x6 x8 x10 H locs ls hP hS hl hm
  unfold m_X4_times_56 at hm
  refine lv_lload hx hb dX4_times_56 (lv_at hl 1 rfl) ?_
  refine lv_lload hx hb dX4_times_58 (lv_at hl 1 rfl) ?_
  refine lv_ladd hx hb dX4_times_60 ?_
  refine lv_lload hx hb dX4_times_61 (lv_at hl 0 rfl) ?_
  refine r_llt (tgt := 78) hx hb dX4_times_63 dX4_times_64 (by decide) (fun c_1 => ?_) (fun c_1 => ?_)
  · have hm := ho_t c_1 hm
    refine lv_lload hx hb dX4_times_78 (lv_at hl 1 rfl) ?_
    refine lv_lload hx hb dX4_times_80 (lv_at hl 1 rfl) ?_
    refine lv_ladd hx hb dX4_times_82 ?_
    exact b_X4_times_83 hG C hk9 _ _ _ _ _ _ _ hP hS (lv_sub hl [0, 2, 3] rfl) hm
  · have hm := ho_f c_1 hm
    refine lv_lload hx hb dX4_times_67 (lv_at hl 1 rfl) ?_
    refine lv_lload hx hb dX4_times_69 (lv_at hl 1 rfl) ?_
    refine lv_ladd hx hb dX4_times_71 ?_
    refine lv_lload hx hb dX4_times_72 (lv_at hl 0 rfl) ?_
    refine lv_lsub hx hb dX4_times_74 ?_
    refine lv_goto (tgt := 83) hx hb dX4_times_75 (by decide) ?_
    exact b_X4_times_83 hG C hk9 _ _ _ _ _ _ _ hP hS (lv_sub hl [0, 2, 3] rfl) hm
set_option maxRecDepth 100000 in
set_option maxHeartbeats 4000000 in
theorem b_X4_times_54 {p : Program} {l : Launch} {e : Env} {s : State} {m : MethodId} {args : Array Value} {below : List Frame} {meth : Method} {c : Code} {D : va_G} {cy : Nat → ClassId} {G : Nat → Nat} (hG : gi G 12) (C : cx p s m args meth c cX4_times 12 (some .long) RX4 wA D cy) {S : St} {r0 : Int64} {k9 : Int64 → Int64 → Int64 → Int64 → Option (Int64)} (hk9 : ∀ (x4 : Int64) (x6 : Int64) (x8 : Int64) (x10 : Int64) (H : Heap) (locs : List Loc) (ls : Array Slot), va_P D vwCl (wm cy G S) H → va_S (am G) s.heap H locs → lv_has ls 12 [(4, .long x4), (6, .long x6), (8, .long x8), (10, .long x10)] → k9 x4 x6 x8 x10 = some r0 → W p l e { frames := 0, cells := 0, slots := 0, locals := 0 } s m args below meth c H locs 0 0 (MQ below (ql (wm cy G) D cy (am G) r0 S) args s 0 0 (am G)) (F0 m 9 ls [])) : ∀ (x4 : Int64) (x6 : Int64) (x8 : Int64) (y0 : Int64) (H : Heap) (locs : List Loc) (ls : Array Slot), va_P D vwCl (wm cy G S) H → va_S (am G) s.heap H locs → lv_has ls 12 [(4, .long x4), (6, .long x6), (8, .long x8)] → (m_X4_times_54 k9) x4 x6 x8 y0 = some r0 → W p l e { frames := 0, cells := 0, slots := 0, locals := 0 } s m args below meth c H locs 0 0 (MQ below (ql (wm cy G) D cy (am G) r0 S) args s 0 0 (am G)) (F0 m 54 ls [.long y0]) := by
  obtain ⟨⟨hx, hb, hml, hown, hts⟩, hr, hlocks, hK⟩ := id C
  intro x4 x6 x8 y0 H locs ls hP hS hl hm
  unfold m_X4_times_54 at hm
  refine lv_lstore (lv' := [(10, .long y0), (4, .long x4), (6, .long x6), (8, .long x8)]) hx hb dX4_times_54 hl (by decide) rfl (fun ls hl => ?_)
  exact b_X4_times_56 hG C hk9 _ _ _ _ _ _ _ hP hS (lv_sub hl [1, 2, 3, 0] rfl) hm
set_option maxRecDepth 100000 in
set_option maxHeartbeats 4000000 in
theorem b_X4_times_9 {p : Program} {l : Launch} {e : Env} {s : State} {m : MethodId} {args : Array Value} {below : List Frame} {meth : Method} {c : Code} {D : va_G} {cy : Nat → ClassId} {G : Nat → Nat} (hG : gi G 12) (C : cx p s m args meth c cX4_times 12 (some .long) RX4 wA D cy) {S : St} {r0 : Int64} : ∀ n : Nat, ∀ (x4 : Int64) (x6 : Int64) (x8 : Int64) (x10 : Int64) (H : Heap) (locs : List Loc) (ls : Array Slot), va_P D vwCl (wm cy G S) H → va_S (am G) s.heap H locs → lv_has ls 12 [(4, .long x4), (6, .long x6), (8, .long x8), (10, .long x10)] → (m_X4_times_9 n) x4 x6 x8 x10 = some r0 → W p l e { frames := 0, cells := 0, slots := 0, locals := 0 } s m args below meth c H locs 0 0 (MQ below (ql (wm cy G) D cy (am G) r0 S) args s 0 0 (am G)) (F0 m 9 ls []) := by
  obtain ⟨⟨hx, hb, hml, hown, hts⟩, hr, hlocks, hK⟩ := id C
  intro n
  induction n with
  | zero =>
    intro x4 x6 x8 x10 H locs ls hP hS hl hm
    exact absurd hm (by unfold m_X4_times_9; exact fun h => by cases h)
  | succ n ih =>
    intro x4 x6 x8 x10 H locs ls hP hS hl hm
    unfold m_X4_times_9 at hm
    refine lv_lload hx hb dX4_times_9 (lv_at hl 2 rfl) ?_
    refine lv_lconst (v := 0) hx hb dX4_times_11 (by decide) ?_
    refine r_lle (tgt := 96) hx hb dX4_times_12 dX4_times_13 (by decide) (fun c_1 => ?_) (fun c_1 => ?_)
    · have hm := ho_t c_1 hm
      exact b_X4_times_96 hG C _ _ _ _ _ hP hS (lv_sub hl [0, 3] rfl) hm
    · have hm := ho_f c_1 hm
      refine lv_lload hx hb dX4_times_16 (lv_at hl 2 rfl) ?_
      refine lv_ldc2 (v := 2) hx hb hown (hts _ tw_549) dX4_times_18 ?_
      refine r_lrem hx hb dX4_times_21 (by decide) ?_
      refine lv_lconst (v := 1) hx hb dX4_times_22 (by decide) ?_
      refine r_lne (tgt := 56) hx hb dX4_times_23 dX4_times_24 (by decide) (fun c_2 => ?_) (fun c_2 => ?_)
      · have hm := ho_f c_2 hm
        exact b_X4_times_56 hG C ih _ _ _ _ _ _ _ hP hS (lv_sub hl [0, 1, 2, 3] rfl) hm
      · have hm := ho_t c_2 hm
        refine lv_lload hx hb dX4_times_27 (lv_at hl 3 rfl) ?_
        refine lv_lload hx hb dX4_times_29 (lv_at hl 1 rfl) ?_
        refine lv_ladd hx hb dX4_times_31 ?_
        refine lv_lload hx hb dX4_times_32 (lv_at hl 0 rfl) ?_
        refine r_llt (tgt := 49) hx hb dX4_times_34 dX4_times_35 (by decide) (fun c_3 => ?_) (fun c_3 => ?_)
        · have hm := ho_t c_3 hm
          refine lv_lload hx hb dX4_times_49 (lv_at hl 3 rfl) ?_
          refine lv_lload hx hb dX4_times_51 (lv_at hl 1 rfl) ?_
          refine lv_ladd hx hb dX4_times_53 ?_
          exact b_X4_times_54 hG C ih _ _ _ _ _ _ _ hP hS (lv_sub hl [0, 1, 2] rfl) hm
        · have hm := ho_f c_3 hm
          refine lv_lload hx hb dX4_times_38 (lv_at hl 3 rfl) ?_
          refine lv_lload hx hb dX4_times_40 (lv_at hl 1 rfl) ?_
          refine lv_ladd hx hb dX4_times_42 ?_
          refine lv_lload hx hb dX4_times_43 (lv_at hl 0 rfl) ?_
          refine lv_lsub hx hb dX4_times_45 ?_
          refine lv_goto (tgt := 54) hx hb dX4_times_46 (by decide) ?_
          exact b_X4_times_54 hG C ih _ _ _ _ _ _ _ hP hS (lv_sub hl [0, 1, 2] rfl) hm
set_option maxRecDepth 100000 in
set_option maxHeartbeats 4000000 in
theorem c_X4_times (l : Launch) (D : va_G) (cy : Nat → ClassId) (G : Nat → Nat) (hG : gi G 12) (S : St) (x0 : Int64) (x2 : Int64) (x4 : Int64) {r0 : Int64} (hm : m_X4_times x0 x2 x4 = some r0) : Met l yX4_times wz_X4_times ({ frames := 0, cells := 0, slots := 0, locals := 0 }) (va_Pc [.long x0, .long x2, .long x4] (pw (wm cy G) D cy S)) (ql (wm cy G) D cy (am G) r0 S) 0 0 (am G) := by
  refine Met.ofW (cc := cX4_times) (maxL := 12) (ret := (some .long)) (by decide) rfl ?_
  intro p e s m args below meth c s₁ B hml hv
  obtain ⟨rfl, hP, hK⟩ := hv
  have hx := B.exec
  have hb := B.bytes
  have hr := B.returns
  have hts0 := atoms_spec (ws := wz_X4_times) B.pre
  have hts : ∀ w ∈ wA, w.before _ s = true := fun w h => hts0 w (List.mem_cons_of_mem _ h)
  have hown : s.vm.findClass RX4 = some m.cls := findClass_of_methodNamed B.named
  have hlocks := B.notSynchronized
  have C : cx p s m _ meth c cX4_times 12 (some .long) RX4 wA D cy := ⟨⟨hx, hb, hml, hown, hts⟩, hr, hlocks, hK⟩
  have hS : va_S (am G) s.heap s.heap [] := va_S.rf
  have hl := lv_entry ([.long x0, .long x2, .long x4]) (n := 12) (Nat.le_of_ble_eq_true rfl)
  rw [lg_entry_eq]
  generalize (lg_sl ([.long x0, .long x2, .long x4]) ++ List.replicate (12 - (lg_sl ([.long x0, .long x2, .long x4])).length) Slot.unset).toArray = ls at hl ⊢
  have hl : lv_has ls 12 [(0, .long x0), (2, .long x2), (4, .long x4)] := hl
  unfold m_X4_times at hm
  refine lv_lload_n hx hb dX4_times_0 rfl (lv_at hl 0 rfl) ?_
  refine lv_lstore (lv' := [(6, .long x0), (0, .long x0), (2, .long x2), (4, .long x4)]) hx hb dX4_times_1 hl (by decide) rfl (fun ls hl => ?_)
  refine lv_lload_n hx hb dX4_times_3 rfl (lv_at hl 2 rfl) ?_
  refine lv_lstore (lv' := [(8, .long x2), (6, .long x0), (0, .long x0), (2, .long x2), (4, .long x4)]) hx hb dX4_times_4 hl (by decide) rfl (fun ls hl => ?_)
  refine lv_lconst (v := 0) hx hb dX4_times_6 (by decide) ?_
  refine lv_lstore (lv' := [(10, .long (0 : Int64)), (8, .long x2), (6, .long x0), (0, .long x0), (2, .long x2), (4, .long x4)]) hx hb dX4_times_7 hl (by decide) rfl (fun ls hl => ?_)
  exact b_X4_times_9 hG C fu _ _ _ _ _ _ _ hP hS (lv_sub hl [5, 2, 1, 0] rfl) hm
end
