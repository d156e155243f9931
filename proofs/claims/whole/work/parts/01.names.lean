-- ===== PART A: goes FIRST, ahead of the names: the tables' words, and 'selects' of the private methods out of them =====
/-- a private method of a class that the tables say can be made, by its rows of tables_1 -/
def lw_okq (q : MethodName × Nat) : Prop := (q.1.cls ≠ "java/lang/invoke/MethodHandle" ∧ q.1.cls ≠ "java/lang/invoke/VarHandle") ∧ Cond.instantiable q.1.cls q.2 ∈ tables_1 ∧ Cond.privateMethod q.1 ∈ tables_1 ∧ Cond.instanceMethod q.1 ∈ tables_1
theorem lw_p0 : lw_okq (⟨"PosterFitter", "remember", "()V"⟩, 7) := ⟨⟨by decide +kernel, by decide +kernel⟩, List.mem_of_getElem? (i := 15) (by decide +kernel), List.mem_of_getElem? (i := 242) (by decide +kernel), List.mem_of_getElem? (i := 243) (by decide +kernel)⟩
theorem lw_p1 : lw_okq (⟨"PosterFitter", "dropOldest", "()V"⟩, 7) := ⟨⟨by decide +kernel, by decide +kernel⟩, List.mem_of_getElem? (i := 15) (by decide +kernel), List.mem_of_getElem? (i := 246) (by decide +kernel), List.mem_of_getElem? (i := 247) (by decide +kernel)⟩
theorem lw_p2 : lw_okq (⟨"PosterFitter$Canvas", "toggle", "(I)V"⟩, 4) := ⟨⟨by decide +kernel, by decide +kernel⟩, List.mem_of_getElem? (i := 29) (by decide +kernel), List.mem_of_getElem? (i := 266) (by decide +kernel), List.mem_of_getElem? (i := 267) (by decide +kernel)⟩
theorem lw_p3 : lw_okq (⟨"PosterFitter$Canvas", "columnsOf", "(II)J"⟩, 4) := ⟨⟨by decide +kernel, by decide +kernel⟩, List.mem_of_getElem? (i := 29) (by decide +kernel), List.mem_of_getElem? (i := 270) (by decide +kernel), List.mem_of_getElem? (i := 271) (by decide +kernel)⟩
theorem lw_p4 : lw_okq (⟨"PosterFitter$Bands", "findSpan", "(IJ)V"⟩, 3) := ⟨⟨by decide +kernel, by decide +kernel⟩, List.mem_of_getElem? (i := 105) (by decide +kernel), List.mem_of_getElem? (i := 334) (by decide +kernel), List.mem_of_getElem? (i := 335) (by decide +kernel)⟩
theorem lw_p5 : lw_okq (⟨"PosterFitter$Search", "prepare", "(LPosterFitter$State;III)Z"⟩, 18) := ⟨⟨by decide +kernel, by decide +kernel⟩, List.mem_of_getElem? (i := 99) (by decide +kernel), List.mem_of_getElem? (i := 390) (by decide +kernel), List.mem_of_getElem? (i := 391) (by decide +kernel)⟩
theorem lw_p6 : lw_okq (⟨"PosterFitter$Measures", "findLastEnds", "(LPosterFitter$State;)V"⟩, 7) := ⟨⟨by decide +kernel, by decide +kernel⟩, List.mem_of_getElem? (i := 121) (by decide +kernel), List.mem_of_getElem? (i := 402) (by decide +kernel), List.mem_of_getElem? (i := 403) (by decide +kernel)⟩
theorem lw_p7 : lw_okq (⟨"PosterFitter$Measures", "measureLines", "()V"⟩, 7) := ⟨⟨by decide +kernel, by decide +kernel⟩, List.mem_of_getElem? (i := 121) (by decide +kernel), List.mem_of_getElem? (i := 406) (by decide +kernel), List.mem_of_getElem? (i := 407) (by decide +kernel)⟩
theorem lw_p8 : lw_okq (⟨"PosterFitter$Search", "findLeastCosts", "()V"⟩, 18) := ⟨⟨by decide +kernel, by decide +kernel⟩, List.mem_of_getElem? (i := 99) (by decide +kernel), List.mem_of_getElem? (i := 414) (by decide +kernel), List.mem_of_getElem? (i := 415) (by decide +kernel)⟩
theorem lw_p9 : lw_okq (⟨"PosterFitter$Search", "findLeastCost", "(II)I"⟩, 18) := ⟨⟨by decide +kernel, by decide +kernel⟩, List.mem_of_getElem? (i := 99) (by decide +kernel), List.mem_of_getElem? (i := 418) (by decide +kernel), List.mem_of_getElem? (i := 419) (by decide +kernel)⟩
theorem lw_p10 : lw_okq (⟨"PosterFitter$Search", "slackOf", "(III)I"⟩, 18) := ⟨⟨by decide +kernel, by decide +kernel⟩, List.mem_of_getElem? (i := 99) (by decide +kernel), List.mem_of_getElem? (i := 422) (by decide +kernel), List.mem_of_getElem? (i := 423) (by decide +kernel)⟩
theorem lw_p11 : lw_okq (⟨"PosterFitter$Search", "rowBehind", "(III)I"⟩, 18) := ⟨⟨by decide +kernel, by decide +kernel⟩, List.mem_of_getElem? (i := 99) (by decide +kernel), List.mem_of_getElem? (i := 435) (by decide +kernel), List.mem_of_getElem? (i := 436) (by decide +kernel)⟩
theorem lw_p12 : lw_okq (⟨"PosterFitter$Search", "leastCostFrom", "(II)I"⟩, 18) := ⟨⟨by decide +kernel, by decide +kernel⟩, List.mem_of_getElem? (i := 99) (by decide +kernel), List.mem_of_getElem? (i := 439) (by decide +kernel), List.mem_of_getElem? (i := 440) (by decide +kernel)⟩
theorem lw_p13 : lw_okq (⟨"PosterFitter$Search", "run", "(IZ)V"⟩, 18) := ⟨⟨by decide +kernel, by decide +kernel⟩, List.mem_of_getElem? (i := 99) (by decide +kernel), List.mem_of_getElem? (i := 444) (by decide +kernel), List.mem_of_getElem? (i := 445) (by decide +kernel)⟩
theorem lw_p14 : lw_okq (⟨"PosterFitter$Search", "layFrom", "(III)V"⟩, 18) := ⟨⟨by decide +kernel, by decide +kernel⟩, List.mem_of_getElem? (i := 99) (by decide +kernel), List.mem_of_getElem? (i := 448) (by decide +kernel), List.mem_of_getElem? (i := 449) (by decide +kernel)⟩
theorem lw_p15 : lw_okq (⟨"PosterFitter$Search", "keep", "(II)V"⟩, 18) := ⟨⟨by decide +kernel, by decide +kernel⟩, List.mem_of_getElem? (i := 99) (by decide +kernel), List.mem_of_getElem? (i := 452) (by decide +kernel), List.mem_of_getElem? (i := 453) (by decide +kernel)⟩
def lw_privs_1 : List (MethodName × Nat) := [(⟨"PosterFitter", "remember", "()V"⟩, 7), (⟨"PosterFitter", "dropOldest", "()V"⟩, 7), (⟨"PosterFitter$Canvas", "toggle", "(I)V"⟩, 4), (⟨"PosterFitter$Canvas", "columnsOf", "(II)J"⟩, 4), (⟨"PosterFitter$Bands", "findSpan", "(IJ)V"⟩, 3), (⟨"PosterFitter$Search", "prepare", "(LPosterFitter$State;III)Z"⟩, 18), (⟨"PosterFitter$Measures", "findLastEnds", "(LPosterFitter$State;)V"⟩, 7), (⟨"PosterFitter$Measures", "measureLines", "()V"⟩, 7), (⟨"PosterFitter$Search", "findLeastCosts", "()V"⟩, 18), (⟨"PosterFitter$Search", "findLeastCost", "(II)I"⟩, 18), (⟨"PosterFitter$Search", "slackOf", "(III)I"⟩, 18), (⟨"PosterFitter$Search", "rowBehind", "(III)I"⟩, 18), (⟨"PosterFitter$Search", "leastCostFrom", "(II)I"⟩, 18), (⟨"PosterFitter$Search", "run", "(IZ)V"⟩, 18), (⟨"PosterFitter$Search", "layFrom", "(III)V"⟩, 18), (⟨"PosterFitter$Search", "keep", "(II)V"⟩, 18)]
theorem lw_r1 : ∀ q ∈ lw_privs_1, lw_okq q := List.forall_mem_cons.mpr ⟨lw_p0, List.forall_mem_cons.mpr ⟨lw_p1, List.forall_mem_cons.mpr ⟨lw_p2, List.forall_mem_cons.mpr ⟨lw_p3, List.forall_mem_cons.mpr ⟨lw_p4, List.forall_mem_cons.mpr ⟨lw_p5, List.forall_mem_cons.mpr ⟨lw_p6, List.forall_mem_cons.mpr ⟨lw_p7, List.forall_mem_cons.mpr ⟨lw_p8, List.forall_mem_cons.mpr ⟨lw_p9, List.forall_mem_cons.mpr ⟨lw_p10, List.forall_mem_cons.mpr ⟨lw_p11, List.forall_mem_cons.mpr ⟨lw_p12, List.forall_mem_cons.mpr ⟨lw_p13, List.forall_mem_cons.mpr ⟨lw_p14, List.forall_mem_cons.mpr ⟨lw_p15, fun _ h => absurd h List.not_mem_nil⟩⟩⟩⟩⟩⟩⟩⟩⟩⟩⟩⟩⟩⟩⟩⟩
theorem lw_p16 : lw_okq (⟨"PosterFitter$Search", "tryLine", "(IIII)V"⟩, 18) := ⟨⟨by decide +kernel, by decide +kernel⟩, List.mem_of_getElem? (i := 99) (by decide +kernel), List.mem_of_getElem? (i := 457) (by decide +kernel), List.mem_of_getElem? (i := 458) (by decide +kernel)⟩
theorem lw_p17 : lw_okq (⟨"PosterFitter$Search", "placeWords", "(IIII)V"⟩, 18) := ⟨⟨by decide +kernel, by decide +kernel⟩, List.mem_of_getElem? (i := 99) (by decide +kernel), List.mem_of_getElem? (i := 461) (by decide +kernel), List.mem_of_getElem? (i := 462) (by decide +kernel)⟩
theorem lw_p18 : lw_okq (⟨"PosterFitter$Search", "chainFromAbove", "(I)I"⟩, 18) := ⟨⟨by decide +kernel, by decide +kernel⟩, List.mem_of_getElem? (i := 99) (by decide +kernel), List.mem_of_getElem? (i := 466) (by decide +kernel), List.mem_of_getElem? (i := 467) (by decide +kernel)⟩
theorem lw_p19 : lw_okq (⟨"PosterFitter$Search", "longestTouching", "(III[I)I"⟩, 18) := ⟨⟨by decide +kernel, by decide +kernel⟩, List.mem_of_getElem? (i := 99) (by decide +kernel), List.mem_of_getElem? (i := 470) (by decide +kernel), List.mem_of_getElem? (i := 471) (by decide +kernel)⟩
theorem lw_p20 : lw_okq (⟨"PosterFitter", "greatestBase", "(I)I"⟩, 7) := ⟨⟨by decide +kernel, by decide +kernel⟩, List.mem_of_getElem? (i := 15) (by decide +kernel), List.mem_of_getElem? (i := 479) (by decide +kernel), List.mem_of_getElem? (i := 480) (by decide +kernel)⟩
theorem lw_p21 : lw_okq (⟨"PosterFitter$Search", "describeLine", "(LPosterFitter$Layout;II)V"⟩, 18) := ⟨⟨by decide +kernel, by decide +kernel⟩, List.mem_of_getElem? (i := 99) (by decide +kernel), List.mem_of_getElem? (i := 532) (by decide +kernel), List.mem_of_getElem? (i := 533) (by decide +kernel)⟩
theorem lw_p22 : lw_okq (⟨"PosterFitter$Search", "chainFromBelow", "(II)V"⟩, 18) := ⟨⟨by decide +kernel, by decide +kernel⟩, List.mem_of_getElem? (i := 99) (by decide +kernel), List.mem_of_getElem? (i := 536) (by decide +kernel), List.mem_of_getElem? (i := 537) (by decide +kernel)⟩
theorem lw_p23 : lw_okq (⟨"PosterFitter$Search", "describeWords", "(LPosterFitter$Layout;I)V"⟩, 18) := ⟨⟨by decide +kernel, by decide +kernel⟩, List.mem_of_getElem? (i := 99) (by decide +kernel), List.mem_of_getElem? (i := 540) (by decide +kernel), List.mem_of_getElem? (i := 541) (by decide +kernel)⟩
theorem lw_p24 : lw_okq (⟨"PosterFitter$TextReader", "accepts", "(I)Z"⟩, 3) := ⟨⟨by decide +kernel, by decide +kernel⟩, List.mem_of_getElem? (i := 81) (by decide +kernel), List.mem_of_getElem? (i := 584) (by decide +kernel), List.mem_of_getElem? (i := 585) (by decide +kernel)⟩
theorem lw_p25 : lw_okq (⟨"PosterFitter$TextReader", "addLetter", "()Z"⟩, 3) := ⟨⟨by decide +kernel, by decide +kernel⟩, List.mem_of_getElem? (i := 81) (by decide +kernel), List.mem_of_getElem? (i := 592) (by decide +kernel), List.mem_of_getElem? (i := 593) (by decide +kernel)⟩
theorem lw_p26 : lw_okq (⟨"PosterFitter$TextReader", "addUpTo", "(II)Z"⟩, 3) := ⟨⟨by decide +kernel, by decide +kernel⟩, List.mem_of_getElem? (i := 81) (by decide +kernel), List.mem_of_getElem? (i := 596) (by decide +kernel), List.mem_of_getElem? (i := 597) (by decide +kernel)⟩
theorem lw_p27 : lw_okq (⟨"PosterFitter$TextReader", "goTo", "(I)Z"⟩, 3) := ⟨⟨by decide +kernel, by decide +kernel⟩, List.mem_of_getElem? (i := 81) (by decide +kernel), List.mem_of_getElem? (i := 600) (by decide +kernel), List.mem_of_getElem? (i := 601) (by decide +kernel)⟩
theorem lw_p28 : lw_okq (⟨"PosterFitter$TextReader", "beginWord", "()Z"⟩, 3) := ⟨⟨by decide +kernel, by decide +kernel⟩, List.mem_of_getElem? (i := 81) (by decide +kernel), List.mem_of_getElem? (i := 604) (by decide +kernel), List.mem_of_getElem? (i := 605) (by decide +kernel)⟩
theorem lw_p29 : lw_okq (⟨"PosterFitter$TextReader", "addShout", "()Z"⟩, 3) := ⟨⟨by decide +kernel, by decide +kernel⟩, List.mem_of_getElem? (i := 81) (by decide +kernel), List.mem_of_getElem? (i := 608) (by decide +kernel), List.mem_of_getElem? (i := 609) (by decide +kernel)⟩
theorem lw_p30 : lw_okq (⟨"PosterFitterModel", "records", "()V"⟩, 20) := ⟨⟨by decide +kernel, by decide +kernel⟩, List.mem_of_getElem? (i := 632) (by decide +kernel), List.mem_of_getElem? (i := 706) (by decide +kernel), List.mem_of_getElem? (i := 707) (by decide +kernel)⟩
theorem lw_p31 : lw_okq (⟨"PosterFitterModel", "copies", "(II)V"⟩, 20) := ⟨⟨by decide +kernel, by decide +kernel⟩, List.mem_of_getElem? (i := 632) (by decide +kernel), List.mem_of_getElem? (i := 710) (by decide +kernel), List.mem_of_getElem? (i := 711) (by decide +kernel)⟩
def lw_privs_2 : List (MethodName × Nat) := [(⟨"PosterFitter$Search", "tryLine", "(IIII)V"⟩, 18), (⟨"PosterFitter$Search", "placeWords", "(IIII)V"⟩, 18), (⟨"PosterFitter$Search", "chainFromAbove", "(I)I"⟩, 18), (⟨"PosterFitter$Search", "longestTouching", "(III[I)I"⟩, 18), (⟨"PosterFitter", "greatestBase", "(I)I"⟩, 7), (⟨"PosterFitter$Search", "describeLine", "(LPosterFitter$Layout;II)V"⟩, 18), (⟨"PosterFitter$Search", "chainFromBelow", "(II)V"⟩, 18), (⟨"PosterFitter$Search", "describeWords", "(LPosterFitter$Layout;I)V"⟩, 18), (⟨"PosterFitter$TextReader", "accepts", "(I)Z"⟩, 3), (⟨"PosterFitter$TextReader", "addLetter", "()Z"⟩, 3), (⟨"PosterFitter$TextReader", "addUpTo", "(II)Z"⟩, 3), (⟨"PosterFitter$TextReader", "goTo", "(I)Z"⟩, 3), (⟨"PosterFitter$TextReader", "beginWord", "()Z"⟩, 3), (⟨"PosterFitter$TextReader", "addShout", "()Z"⟩, 3), (⟨"PosterFitterModel", "records", "()V"⟩, 20), (⟨"PosterFitterModel", "copies", "(II)V"⟩, 20)]
theorem lw_r2 : ∀ q ∈ lw_privs_2, lw_okq q := List.forall_mem_cons.mpr ⟨lw_p16, List.forall_mem_cons.mpr ⟨lw_p17, List.forall_mem_cons.mpr ⟨lw_p18, List.forall_mem_cons.mpr ⟨lw_p19, List.forall_mem_cons.mpr ⟨lw_p20, List.forall_mem_cons.mpr ⟨lw_p21, List.forall_mem_cons.mpr ⟨lw_p22, List.forall_mem_cons.mpr ⟨lw_p23, List.forall_mem_cons.mpr ⟨lw_p24, List.forall_mem_cons.mpr ⟨lw_p25, List.forall_mem_cons.mpr ⟨lw_p26, List.forall_mem_cons.mpr ⟨lw_p27, List.forall_mem_cons.mpr ⟨lw_p28, List.forall_mem_cons.mpr ⟨lw_p29, List.forall_mem_cons.mpr ⟨lw_p30, List.forall_mem_cons.mpr ⟨lw_p31, fun _ h => absurd h List.not_mem_nil⟩⟩⟩⟩⟩⟩⟩⟩⟩⟩⟩⟩⟩⟩⟩⟩
theorem lw_p32 : lw_okq (⟨"PosterFitterModel", "isShape", "(I)Z"⟩, 20) := ⟨⟨by decide +kernel, by decide +kernel⟩, List.mem_of_getElem? (i := 632) (by decide +kernel), List.mem_of_getElem? (i := 718) (by decide +kernel), List.mem_of_getElem? (i := 719) (by decide +kernel)⟩
theorem lw_p33 : lw_okq (⟨"PosterFitterModel", "shapeOf", "(II)I"⟩, 20) := ⟨⟨by decide +kernel, by decide +kernel⟩, List.mem_of_getElem? (i := 632) (by decide +kernel), List.mem_of_getElem? (i := 722) (by decide +kernel), List.mem_of_getElem? (i := 723) (by decide +kernel)⟩
theorem lw_p34 : lw_okq (⟨"PosterFitterModel", "freeCells", "()I"⟩, 20) := ⟨⟨by decide +kernel, by decide +kernel⟩, List.mem_of_getElem? (i := 632) (by decide +kernel), List.mem_of_getElem? (i := 726) (by decide +kernel), List.mem_of_getElem? (i := 727) (by decide +kernel)⟩
theorem lw_p35 : lw_okq (⟨"PosterFitterModel", "free", "(II)Z"⟩, 20) := ⟨⟨by decide +kernel, by decide +kernel⟩, List.mem_of_getElem? (i := 632) (by decide +kernel), List.mem_of_getElem? (i := 730) (by decide +kernel), List.mem_of_getElem? (i := 731) (by decide +kernel)⟩
theorem lw_p36 : lw_okq (⟨"PosterFitterModel", "belongs", "(III)Z"⟩, 20) := ⟨⟨by decide +kernel, by decide +kernel⟩, List.mem_of_getElem? (i := 632) (by decide +kernel), List.mem_of_getElem? (i := 734) (by decide +kernel), List.mem_of_getElem? (i := 735) (by decide +kernel)⟩
theorem lw_p37 : lw_okq (⟨"PosterFitterModel", "findsSpans", "()V"⟩, 20) := ⟨⟨by decide +kernel, by decide +kernel⟩, List.mem_of_getElem? (i := 632) (by decide +kernel), List.mem_of_getElem? (i := 753) (by decide +kernel), List.mem_of_getElem? (i := 754) (by decide +kernel)⟩
theorem lw_p38 : lw_okq (⟨"PosterFitterModel", "notesSpan", "(IJ)V"⟩, 20) := ⟨⟨by decide +kernel, by decide +kernel⟩, List.mem_of_getElem? (i := 632) (by decide +kernel), List.mem_of_getElem? (i := 757) (by decide +kernel), List.mem_of_getElem? (i := 758) (by decide +kernel)⟩
theorem lw_p39 : lw_okq (⟨"PosterFitterModel", "becomes", "(IIII)V"⟩, 20) := ⟨⟨by decide +kernel, by decide +kernel⟩, List.mem_of_getElem? (i := 632) (by decide +kernel), List.mem_of_getElem? (i := 765) (by decide +kernel), List.mem_of_getElem? (i := 766) (by decide +kernel)⟩
theorem lw_p40 : lw_okq (⟨"PosterFitterModel", "isWord", "(I)Z"⟩, 20) := ⟨⟨by decide +kernel, by decide +kernel⟩, List.mem_of_getElem? (i := 632) (by decide +kernel), List.mem_of_getElem? (i := 773) (by decide +kernel), List.mem_of_getElem? (i := 774) (by decide +kernel)⟩
theorem lw_p41 : lw_okq (⟨"PosterFitterModel", "of", "(II)I"⟩, 20) := ⟨⟨by decide +kernel, by decide +kernel⟩, List.mem_of_getElem? (i := 632) (by decide +kernel), List.mem_of_getElem? (i := 777) (by decide +kernel), List.mem_of_getElem? (i := 778) (by decide +kernel)⟩
theorem lw_p42 : lw_okq (⟨"PosterFitterModel", "finds", "(I)I"⟩, 20) := ⟨⟨by decide +kernel, by decide +kernel⟩, List.mem_of_getElem? (i := 632) (by decide +kernel), List.mem_of_getElem? (i := 805) (by decide +kernel), List.mem_of_getElem? (i := 806) (by decide +kernel)⟩
theorem lw_p43 : lw_okq (⟨"PosterFitterModel", "isLeast", "(I)Z"⟩, 20) := ⟨⟨by decide +kernel, by decide +kernel⟩, List.mem_of_getElem? (i := 632) (by decide +kernel), List.mem_of_getElem? (i := 809) (by decide +kernel), List.mem_of_getElem? (i := 810) (by decide +kernel)⟩
theorem lw_p44 : lw_okq (⟨"PosterFitterModel", "sizeOf", "(II)I"⟩, 20) := ⟨⟨by decide +kernel, by decide +kernel⟩, List.mem_of_getElem? (i := 632) (by decide +kernel), List.mem_of_getElem? (i := 813) (by decide +kernel), List.mem_of_getElem? (i := 814) (by decide +kernel)⟩
theorem lw_p45 : lw_okq (⟨"PosterFitterModel", "lays", "(II)I"⟩, 20) := ⟨⟨by decide +kernel, by decide +kernel⟩, List.mem_of_getElem? (i := 632) (by decide +kernel), List.mem_of_getElem? (i := 817) (by decide +kernel), List.mem_of_getElem? (i := 818) (by decide +kernel)⟩
theorem lw_p46 : lw_okq (⟨"PosterFitterModel", "breaks", "(II)Z"⟩, 20) := ⟨⟨by decide +kernel, by decide +kernel⟩, List.mem_of_getElem? (i := 632) (by decide +kernel), List.mem_of_getElem? (i := 824) (by decide +kernel), List.mem_of_getElem? (i := 825) (by decide +kernel)⟩
theorem lw_p47 : lw_okq (⟨"PosterFitterModel", "places", "(II)V"⟩, 20) := ⟨⟨by decide +kernel, by decide +kernel⟩, List.mem_of_getElem? (i := 632) (by decide +kernel), List.mem_of_getElem? (i := 828) (by decide +kernel), List.mem_of_getElem? (i := 829) (by decide +kernel)⟩
def lw_privs_3 : List (MethodName × Nat) := [(⟨"PosterFitterModel", "isShape", "(I)Z"⟩, 20), (⟨"PosterFitterModel", "shapeOf", "(II)I"⟩, 20), (⟨"PosterFitterModel", "freeCells", "()I"⟩, 20), (⟨"PosterFitterModel", "free", "(II)Z"⟩, 20), (⟨"PosterFitterModel", "belongs", "(III)Z"⟩, 20), (⟨"PosterFitterModel", "findsSpans", "()V"⟩, 20), (⟨"PosterFitterModel", "notesSpan", "(IJ)V"⟩, 20), (⟨"PosterFitterModel", "becomes", "(IIII)V"⟩, 20), (⟨"PosterFitterModel", "isWord", "(I)Z"⟩, 20), (⟨"PosterFitterModel", "of", "(II)I"⟩, 20), (⟨"PosterFitterModel", "finds", "(I)I"⟩, 20), (⟨"PosterFitterModel", "isLeast", "(I)Z"⟩, 20), (⟨"PosterFitterModel", "sizeOf", "(II)I"⟩, 20), (⟨"PosterFitterModel", "lays", "(II)I"⟩, 20), (⟨"PosterFitterModel", "breaks", "(II)Z"⟩, 20), (⟨"PosterFitterModel", "places", "(II)V"⟩, 20)]
theorem lw_r3 : ∀ q ∈ lw_privs_3, lw_okq q := List.forall_mem_cons.mpr ⟨lw_p32, List.forall_mem_cons.mpr ⟨lw_p33, List.forall_mem_cons.mpr ⟨lw_p34, List.forall_mem_cons.mpr ⟨lw_p35, List.forall_mem_cons.mpr ⟨lw_p36, List.forall_mem_cons.mpr ⟨lw_p37, List.forall_mem_cons.mpr ⟨lw_p38, List.forall_mem_cons.mpr ⟨lw_p39, List.forall_mem_cons.mpr ⟨lw_p40, List.forall_mem_cons.mpr ⟨lw_p41, List.forall_mem_cons.mpr ⟨lw_p42, List.forall_mem_cons.mpr ⟨lw_p43, List.forall_mem_cons.mpr ⟨lw_p44, List.forall_mem_cons.mpr ⟨lw_p45, List.forall_mem_cons.mpr ⟨lw_p46, List.forall_mem_cons.mpr ⟨lw_p47, fun _ h => absurd h List.not_mem_nil⟩⟩⟩⟩⟩⟩⟩⟩⟩⟩⟩⟩⟩⟩⟩⟩
theorem lw_p48 : lw_okq (⟨"PosterFitterModel", "chainsUp", "(II)V"⟩, 20) := ⟨⟨by decide +kernel, by decide +kernel⟩, List.mem_of_getElem? (i := 632) (by decide +kernel), List.mem_of_getElem? (i := 832) (by decide +kernel), List.mem_of_getElem? (i := 833) (by decide +kernel)⟩
theorem lw_p49 : lw_okq (⟨"PosterFitterModel", "hasGap", "(I)Z"⟩, 20) := ⟨⟨by decide +kernel, by decide +kernel⟩, List.mem_of_getElem? (i := 632) (by decide +kernel), List.mem_of_getElem? (i := 836) (by decide +kernel), List.mem_of_getElem? (i := 837) (by decide +kernel)⟩
theorem lw_p50 : lw_okq (⟨"PosterFitterModel", "touch", "(II)Z"⟩, 20) := ⟨⟨by decide +kernel, by decide +kernel⟩, List.mem_of_getElem? (i := 632) (by decide +kernel), List.mem_of_getElem? (i := 840) (by decide +kernel), List.mem_of_getElem? (i := 841) (by decide +kernel)⟩
theorem lw_p51 : lw_okq (⟨"PosterFitterModel", "gapFrom", "(I)I"⟩, 20) := ⟨⟨by decide +kernel, by decide +kernel⟩, List.mem_of_getElem? (i := 632) (by decide +kernel), List.mem_of_getElem? (i := 844) (by decide +kernel), List.mem_of_getElem? (i := 845) (by decide +kernel)⟩
theorem lw_p52 : lw_okq (⟨"PosterFitterModel", "fits", "()I"⟩, 20) := ⟨⟨by decide +kernel, by decide +kernel⟩, List.mem_of_getElem? (i := 632) (by decide +kernel), List.mem_of_getElem? (i := 852) (by decide +kernel), List.mem_of_getElem? (i := 853) (by decide +kernel)⟩
theorem lw_p53 : lw_okq (⟨"PosterFitterModel", "chains", "()V"⟩, 20) := ⟨⟨by decide +kernel, by decide +kernel⟩, List.mem_of_getElem? (i := 632) (by decide +kernel), List.mem_of_getElem? (i := 864) (by decide +kernel), List.mem_of_getElem? (i := 865) (by decide +kernel)⟩
theorem lw_p54 : lw_okq (⟨"PosterFitterModel", "readsText", "()Z"⟩, 20) := ⟨⟨by decide +kernel, by decide +kernel⟩, List.mem_of_getElem? (i := 632) (by decide +kernel), List.mem_of_getElem? (i := 900) (by decide +kernel), List.mem_of_getElem? (i := 901) (by decide +kernel)⟩
theorem lw_p55 : lw_okq (⟨"PosterFitterModel", "blanks", "()Z"⟩, 20) := ⟨⟨by decide +kernel, by decide +kernel⟩, List.mem_of_getElem? (i := 632) (by decide +kernel), List.mem_of_getElem? (i := 904) (by decide +kernel), List.mem_of_getElem? (i := 905) (by decide +kernel)⟩
theorem lw_p56 : lw_okq (⟨"PosterFitterModel", "isSign", "(I)Z"⟩, 20) := ⟨⟨by decide +kernel, by decide +kernel⟩, List.mem_of_getElem? (i := 632) (by decide +kernel), List.mem_of_getElem? (i := 908) (by decide +kernel), List.mem_of_getElem? (i := 909) (by decide +kernel)⟩
theorem lw_p57 : lw_okq (⟨"PosterFitterModel", "isLetter", "()Z"⟩, 20) := ⟨⟨by decide +kernel, by decide +kernel⟩, List.mem_of_getElem? (i := 632) (by decide +kernel), List.mem_of_getElem? (i := 912) (by decide +kernel), List.mem_of_getElem? (i := 913) (by decide +kernel)⟩
theorem lw_p58 : lw_okq (⟨"PosterFitterModel", "note", "(J)V"⟩, 20) := ⟨⟨by decide +kernel, by decide +kernel⟩, List.mem_of_getElem? (i := 632) (by decide +kernel), List.mem_of_getElem? (i := 930) (by decide +kernel), List.mem_of_getElem? (i := 931) (by decide +kernel)⟩
def lw_privs_4 : List (MethodName × Nat) := [(⟨"PosterFitterModel", "chainsUp", "(II)V"⟩, 20), (⟨"PosterFitterModel", "hasGap", "(I)Z"⟩, 20), (⟨"PosterFitterModel", "touch", "(II)Z"⟩, 20), (⟨"PosterFitterModel", "gapFrom", "(I)I"⟩, 20), (⟨"PosterFitterModel", "fits", "()I"⟩, 20), (⟨"PosterFitterModel", "chains", "()V"⟩, 20), (⟨"PosterFitterModel", "readsText", "()Z"⟩, 20), (⟨"PosterFitterModel", "blanks", "()Z"⟩, 20), (⟨"PosterFitterModel", "isSign", "(I)Z"⟩, 20), (⟨"PosterFitterModel", "isLetter", "()Z"⟩, 20), (⟨"PosterFitterModel", "note", "(J)V"⟩, 20)]
theorem lw_r4 : ∀ q ∈ lw_privs_4, lw_okq q := List.forall_mem_cons.mpr ⟨lw_p48, List.forall_mem_cons.mpr ⟨lw_p49, List.forall_mem_cons.mpr ⟨lw_p50, List.forall_mem_cons.mpr ⟨lw_p51, List.forall_mem_cons.mpr ⟨lw_p52, List.forall_mem_cons.mpr ⟨lw_p53, List.forall_mem_cons.mpr ⟨lw_p54, List.forall_mem_cons.mpr ⟨lw_p55, List.forall_mem_cons.mpr ⟨lw_p56, List.forall_mem_cons.mpr ⟨lw_p57, List.forall_mem_cons.mpr ⟨lw_p58, fun _ h => absurd h List.not_mem_nil⟩⟩⟩⟩⟩⟩⟩⟩⟩⟩⟩
def lw_privs : List (MethodName × Nat) := lw_privs_1 ++ (lw_privs_2 ++ (lw_privs_3 ++ (lw_privs_4)))
def lw_tbl : List Cond := k2_sels lw_privs ++ tables_1
theorem lw_privs_ok : ∀ q ∈ lw_privs, lw_okq q := by
  show ∀ q ∈ lw_privs_1 ++ (lw_privs_2 ++ (lw_privs_3 ++ (lw_privs_4))), lw_okq q
  exact List.forall_mem_append.mpr ⟨lw_r1, List.forall_mem_append.mpr ⟨lw_r2, List.forall_mem_append.mpr ⟨lw_r3, lw_r4⟩⟩⟩
-- ===== end of PART A; then your names; then what follows =====
def RX0 : String := "PosterFitter$Bands"
def TX0 : u_T := fun k => match k with
  | 0 => ("PosterFitter$Bands", "lengths", "[I", true)
  | 1 => ("PosterFitter$Bands", "firsts", "[I", true)
  | _ => ("PosterFitter$Bands", "changesKnown", "[I", true)
def tyX0 : Nat → FieldType := fun k => match k with
  | 0 => .array .int
  | 1 => .array .int
  | _ => .array .int
abbrev wsX00 : List Cond := u_ws RX0 TX0 3
theorem nmX0 : ∀ a, a < 3 → ∀ b, b < 3 → a ≠ b → (TX0 a).2.1 ≠ (TX0 b).2.1 := by decide +kernel
theorem tyX0_ok : ∀ k, k < 3 → parseFieldDescriptor (TX0 k).2.2.1 = some (tyX0 k) := by decide +kernel
abbrev cX0_init : ByteArray := prog_2_method_1_code
def yX0_init : MethodName := ⟨RX0, "<init>", "()V"⟩
abbrev cX0_learn : ByteArray := prog_2_method_2_code
def yX0_learn : MethodName := ⟨RX0, "learn", "(LPosterFitter$Canvas;I)V"⟩
abbrev cX0_lengthOf : ByteArray := prog_2_method_3_code
def yX0_lengthOf : MethodName := ⟨RX0, "lengthOf", "(II)I"⟩
abbrev cX0_firstOf : ByteArray := prog_2_method_4_code
def yX0_firstOf : MethodName := ⟨RX0, "firstOf", "(II)I"⟩
abbrev cX0_findSpan : ByteArray := prog_2_method_5_code
def yX0_findSpan : MethodName := ⟨RX0, "findSpan", "(IJ)V"⟩
def RX1 : String := "PosterFitter$Canvas"
def TX1 : u_T := fun k => match k with
  | 0 => ("PosterFitter$Canvas", "shapeCount", "I", false)
  | 1 => ("PosterFitter$Canvas", "changes", "I", false)
  | 2 => ("PosterFitter$Canvas", "shapes", "[I", true)
  | _ => ("PosterFitter$Canvas", "free", "[J", true)
def tyX1 : Nat → FieldType := fun k => match k with
  | 0 => .int
  | 1 => .int
  | 2 => .array .int
  | _ => .array .long
abbrev wsX10 : List Cond := u_ws RX1 TX1 4
theorem nmX1 : ∀ a, a < 4 → ∀ b, b < 4 → a ≠ b → (TX1 a).2.1 ≠ (TX1 b).2.1 := by decide +kernel
theorem tyX1_ok : ∀ k, k < 4 → parseFieldDescriptor (TX1 k).2.2.1 = some (tyX1 k) := by decide +kernel
abbrev cX1_init : ByteArray := prog_3_method_1_code
def yX1_init : MethodName := ⟨RX1, "<init>", "()V"⟩
abbrev cX1_copyFrom : ByteArray := prog_3_method_2_code
def yX1_copyFrom : MethodName := ⟨RX1, "copyFrom", "(LPosterFitter$Canvas;)V"⟩
abbrev cX1_append : ByteArray := prog_3_method_3_code
def yX1_append : MethodName := ⟨RX1, "append", "(IIIII)V"⟩
abbrev cX1_canShift : ByteArray := prog_3_method_4_code
def yX1_canShift : MethodName := ⟨RX1, "canShift", "(III)Z"⟩
abbrev cX1_shift : ByteArray := prog_3_method_5_code
def yX1_shift : MethodName := ⟨RX1, "shift", "(III)V"⟩
abbrev cX1_drop : ByteArray := prog_3_method_6_code
def yX1_drop : MethodName := ⟨RX1, "drop", "(I)V"⟩
abbrev cX1_isFreeAt : ByteArray := prog_3_method_7_code
def yX1_isFreeAt : MethodName := ⟨RX1, "isFreeAt", "(II)Z"⟩
abbrev cX1_freeCells : ByteArray := prog_3_method_8_code
def yX1_freeCells : MethodName := ⟨RX1, "freeCells", "()I"⟩
abbrev cX1_freeColumns : ByteArray := prog_3_method_9_code
def yX1_freeColumns : MethodName := ⟨RX1, "freeColumns", "(II)J"⟩
abbrev cX1_toggle : ByteArray := prog_3_method_10_code
def yX1_toggle : MethodName := ⟨RX1, "toggle", "(I)V"⟩
abbrev cX1_columnsOf : ByteArray := prog_3_method_11_code
def yX1_columnsOf : MethodName := ⟨RX1, "columnsOf", "(II)J"⟩
abbrev cX1_belongs : ByteArray := prog_3_method_12_code
def yX1_belongs : MethodName := ⟨RX1, "belongs", "(IIIIII)Z"⟩
def RX2 : String := "PosterFitter$Layout"
def TX2 : u_T := fun k => match k with
  | 0 => ("PosterFitter$Layout", "lineCount", "I", true)
  | 1 => ("PosterFitter$Layout", "wordCount", "I", true)
  | 2 => ("PosterFitter$Layout", "totals", "[I", true)
  | 3 => ("PosterFitter$Layout", "lines", "[I", true)
  | _ => ("PosterFitter$Layout", "words", "[I", true)
def tyX2 : Nat → FieldType := fun k => match k with
  | 0 => .int
  | 1 => .int
  | 2 => .array .int
  | 3 => .array .int
  | _ => .array .int
abbrev wsX20 : List Cond := u_ws RX2 TX2 5
theorem nmX2 : ∀ a, a < 5 → ∀ b, b < 5 → a ≠ b → (TX2 a).2.1 ≠ (TX2 b).2.1 := by decide +kernel
theorem tyX2_ok : ∀ k, k < 5 → parseFieldDescriptor (TX2 k).2.2.1 = some (tyX2 k) := by decide +kernel
abbrev cX2_init : ByteArray := prog_4_method_1_code
def yX2_init : MethodName := ⟨RX2, "<init>", "(II)V"⟩
abbrev cX2_putTotals : ByteArray := prog_4_method_2_code
def yX2_putTotals : MethodName := ⟨RX2, "putTotals", "(IIII)V"⟩
def RX3 : String := "PosterFitter$Measures"
def TX3 : u_T := fun k => match k with
  | 0 => ("PosterFitter$Measures", "wordCount", "I", false)
  | 1 => ("PosterFitter$Measures", "sizes", "[I", true)
  | 2 => ("PosterFitter$Measures", "widths", "[I", true)
  | 3 => ("PosterFitter$Measures", "gaps", "[I", true)
  | 4 => ("PosterFitter$Measures", "lastEnds", "[I", true)
  | 5 => ("PosterFitter$Measures", "lineWidths", "[I", true)
  | _ => ("PosterFitter$Measures", "lineHeights", "[I", true)
def tyX3 : Nat → FieldType := fun k => match k with
  | 0 => .int
  | 1 => .array .int
  | 2 => .array .int
  | 3 => .array .int
  | 4 => .array .int
  | 5 => .array .int
  | _ => .array .int
abbrev wsX30 : List Cond := u_ws RX3 TX3 7
theorem nmX3 : ∀ a, a < 7 → ∀ b, b < 7 → a ≠ b → (TX3 a).2.1 ≠ (TX3 b).2.1 := by decide +kernel
theorem tyX3_ok : ∀ k, k < 7 → parseFieldDescriptor (TX3 k).2.2.1 = some (tyX3 k) := by decide +kernel
abbrev cX3_init : ByteArray := prog_5_method_1_code
def yX3_init : MethodName := ⟨RX3, "<init>", "()V"⟩
abbrev cX3_measure : ByteArray := prog_5_method_2_code
def yX3_measure : MethodName := ⟨RX3, "measure", "(LPosterFitter$State;II)Z"⟩
abbrev cX3_widthOf : ByteArray := prog_5_method_3_code
def yX3_widthOf : MethodName := ⟨RX3, "widthOf", "(II)I"⟩
abbrev cX3_heightOf : ByteArray := prog_5_method_4_code
def yX3_heightOf : MethodName := ⟨RX3, "heightOf", "(II)I"⟩
abbrev cX3_findLastEnds : ByteArray := prog_5_method_5_code
def yX3_findLastEnds : MethodName := ⟨RX3, "findLastEnds", "(LPosterFitter$State;)V"⟩
abbrev cX3_measureLines : ByteArray := prog_5_method_6_code
def yX3_measureLines : MethodName := ⟨RX3, "measureLines", "()V"⟩
def RX4 : String := "PosterFitter$Search"
def TX4 : u_T := fun k => match k with
  | 0 => ("PosterFitter$Search", "bands", "LPosterFitter$Bands;", true)
  | 1 => ("PosterFitter$Search", "measures", "LPosterFitter$Measures;", true)
  | 2 => ("PosterFitter$Search", "top", "I", false)
  | 3 => ("PosterFitter$Search", "leading", "I", false)
  | 4 => ("PosterFitter$Search", "alignment", "I", false)
  | 5 => ("PosterFitter$Search", "limit", "I", false)
  | 6 => ("PosterFitter$Search", "leastCosts", "[I", true)
  | 7 => ("PosterFitter$Search", "firsts", "[I", true)
  | 8 => ("PosterFitter$Search", "columns", "[I", true)
  | 9 => ("PosterFitter$Search", "gapColumns", "[I", true)
  | 10 => ("PosterFitter$Search", "chainsAbove", "[I", true)
  | 11 => ("PosterFitter$Search", "chainsBelow", "[I", true)
  | 12 => ("PosterFitter$Search", "found", "I", false)
  | 13 => ("PosterFitter$Search", "wanted", "I", false)
  | 14 => ("PosterFitter$Search", "onlyCheaper", "Z", false)
  | 15 => ("PosterFitter$Search", "bestFirsts", "[I", true)
  | 16 => ("PosterFitter$Search", "bestLines", "I", false)
  | _ => ("PosterFitter$Search", "bestCost", "I", false)
def tyX4 : Nat → FieldType := fun k => match k with
  | 0 => .object "PosterFitter$Bands"
  | 1 => .object "PosterFitter$Measures"
  | 2 => .int
  | 3 => .int
  | 4 => .int
  | 5 => .int
  | 6 => .array .int
  | 7 => .array .int
  | 8 => .array .int
  | 9 => .array .int
  | 10 => .array .int
  | 11 => .array .int
  | 12 => .int
  | 13 => .int
  | 14 => .boolean
  | 15 => .array .int
  | 16 => .int
  | _ => .int
abbrev wsX40 : List Cond := u_ws RX4 TX4 18
theorem nmX4 : ∀ a, a < 18 → ∀ b, b < 18 → a ≠ b → (TX4 a).2.1 ≠ (TX4 b).2.1 := by decide +kernel
theorem tyX4_ok : ∀ k, k < 18 → parseFieldDescriptor (TX4 k).2.2.1 = some (tyX4 k) := by decide +kernel
abbrev cX4_init : ByteArray := prog_6_method_1_code
def yX4_init : MethodName := ⟨RX4, "<init>", "()V"⟩
abbrev cX4_hasLayout : ByteArray := prog_6_method_2_code
def yX4_hasLayout : MethodName := ⟨RX4, "hasLayout", "(LPosterFitter$State;III)Z"⟩
abbrev cX4_countLayouts : ByteArray := prog_6_method_3_code
def yX4_countLayouts : MethodName := ⟨RX4, "countLayouts", "(LPosterFitter$State;I)I"⟩
abbrev cX4_findBest : ByteArray := prog_6_method_4_code
def yX4_findBest : MethodName := ⟨RX4, "findBest", "(LPosterFitter$State;I)I"⟩
abbrev cX4_prepare : ByteArray := prog_6_method_5_code
def yX4_prepare : MethodName := ⟨RX4, "prepare", "(LPosterFitter$State;III)Z"⟩
abbrev cX4_run : ByteArray := prog_6_method_6_code
def yX4_run : MethodName := ⟨RX4, "run", "(IZ)V"⟩
abbrev cX4_findLeastCosts : ByteArray := prog_6_method_7_code
def yX4_findLeastCosts : MethodName := ⟨RX4, "findLeastCosts", "()V"⟩
abbrev cX4_findLeastCost : ByteArray := prog_6_method_8_code
def yX4_findLeastCost : MethodName := ⟨RX4, "findLeastCost", "(II)I"⟩
abbrev cX4_leastCostFrom : ByteArray := prog_6_method_9_code
def yX4_leastCostFrom : MethodName := ⟨RX4, "leastCostFrom", "(II)I"⟩
abbrev cX4_rowBehind : ByteArray := prog_6_method_10_code
def yX4_rowBehind : MethodName := ⟨RX4, "rowBehind", "(III)I"⟩
abbrev cX4_slackOf : ByteArray := prog_6_method_11_code
def yX4_slackOf : MethodName := ⟨RX4, "slackOf", "(III)I"⟩
abbrev cX4_layFrom : ByteArray := prog_6_method_12_code
def yX4_layFrom : MethodName := ⟨RX4, "layFrom", "(III)V"⟩
abbrev cX4_tryLine : ByteArray := prog_6_method_13_code
def yX4_tryLine : MethodName := ⟨RX4, "tryLine", "(IIII)V"⟩
abbrev cX4_keep : ByteArray := prog_6_method_14_code
def yX4_keep : MethodName := ⟨RX4, "keep", "(II)V"⟩
abbrev cX4_placeWords : ByteArray := prog_6_method_15_code
def yX4_placeWords : MethodName := ⟨RX4, "placeWords", "(IIII)V"⟩
abbrev cX4_chainFromAbove : ByteArray := prog_6_method_16_code
def yX4_chainFromAbove : MethodName := ⟨RX4, "chainFromAbove", "(I)I"⟩
abbrev cX4_chainFromBelow : ByteArray := prog_6_method_17_code
def yX4_chainFromBelow : MethodName := ⟨RX4, "chainFromBelow", "(II)V"⟩
abbrev cX4_longestTouching : ByteArray := prog_6_method_18_code
def yX4_longestTouching : MethodName := ⟨RX4, "longestTouching", "(III[I)I"⟩
abbrev cX4_describeBest : ByteArray := prog_6_method_19_code
def yX4_describeBest : MethodName := ⟨RX4, "describeBest", "(I)LPosterFitter$Layout;"⟩
abbrev cX4_describeLine : ByteArray := prog_6_method_20_code
def yX4_describeLine : MethodName := ⟨RX4, "describeLine", "(LPosterFitter$Layout;II)V"⟩
abbrev cX4_describeWords : ByteArray := prog_6_method_21_code
def yX4_describeWords : MethodName := ⟨RX4, "describeWords", "(LPosterFitter$Layout;I)V"⟩
def RX5 : String := "PosterFitter$State"
def TX5 : u_T := fun k => match k with
  | 0 => ("PosterFitter$State", "canvas", "LPosterFitter$Canvas;", true)
  | 1 => ("PosterFitter$State", "wordCount", "I", false)
  | 2 => ("PosterFitter$State", "words", "[I", true)
  | 3 => ("PosterFitter$State", "settings", "[I", true)
  | _ => ("PosterFitter$State", "present", "LPosterFitter$Layout;", false)
def tyX5 : Nat → FieldType := fun k => match k with
  | 0 => .object "PosterFitter$Canvas"
  | 1 => .int
  | 2 => .array .int
  | 3 => .array .int
  | _ => .object "PosterFitter$Layout"
abbrev wsX50 : List Cond := u_ws RX5 TX5 5
theorem nmX5 : ∀ a, a < 5 → ∀ b, b < 5 → a ≠ b → (TX5 a).2.1 ≠ (TX5 b).2.1 := by decide +kernel
theorem tyX5_ok : ∀ k, k < 5 → parseFieldDescriptor (TX5 k).2.2.1 = some (tyX5 k) := by decide +kernel
abbrev cX5_init : ByteArray := prog_7_method_1_code
def yX5_init : MethodName := ⟨RX5, "<init>", "()V"⟩
abbrev cX5_copyFrom : ByteArray := prog_7_method_2_code
def yX5_copyFrom : MethodName := ⟨RX5, "copyFrom", "(LPosterFitter$State;)V"⟩
abbrev cX5_partOfWord : ByteArray := prog_7_method_3_code
def yX5_partOfWord : MethodName := ⟨RX5, "partOfWord", "(II)I"⟩
abbrev cX5_putWord : ByteArray := prog_7_method_4_code
def yX5_putWord : MethodName := ⟨RX5, "putWord", "(IIII)V"⟩
def RX6 : String := "PosterFitter$TextReader"
def TX6 : u_T := fun k => match k with
  | 0 => ("PosterFitter$TextReader", "wordCount", "I", false)
  | 1 => ("PosterFitter$TextReader", "words", "[I", true)
  | _ => ("PosterFitter$TextReader", "place", "I", false)
def tyX6 : Nat → FieldType := fun k => match k with
  | 0 => .int
  | 1 => .array .int
  | _ => .int
abbrev wsX60 : List Cond := u_ws RX6 TX6 3
theorem nmX6 : ∀ a, a < 3 → ∀ b, b < 3 → a ≠ b → (TX6 a).2.1 ≠ (TX6 b).2.1 := by decide +kernel
theorem tyX6_ok : ∀ k, k < 3 → parseFieldDescriptor (TX6 k).2.2.1 = some (tyX6 k) := by decide +kernel
abbrev cX6_init : ByteArray := prog_8_method_1_code
def yX6_init : MethodName := ⟨RX6, "<init>", "()V"⟩
abbrev cX6_read : ByteArray := prog_8_method_2_code
def yX6_read : MethodName := ⟨RX6, "read", "([II)I"⟩
abbrev cX6_accepts : ByteArray := prog_8_method_3_code
def yX6_accepts : MethodName := ⟨RX6, "accepts", "(I)Z"⟩
abbrev cX6_isLetter : ByteArray := prog_8_method_4_code
def yX6_isLetter : MethodName := ⟨RX6, "isLetter", "(I)Z"⟩
abbrev cX6_goTo : ByteArray := prog_8_method_5_code
def yX6_goTo : MethodName := ⟨RX6, "goTo", "(I)Z"⟩
abbrev cX6_beginWord : ByteArray := prog_8_method_6_code
def yX6_beginWord : MethodName := ⟨RX6, "beginWord", "()Z"⟩
abbrev cX6_addLetter : ByteArray := prog_8_method_7_code
def yX6_addLetter : MethodName := ⟨RX6, "addLetter", "()Z"⟩
abbrev cX6_addShout : ByteArray := prog_8_method_8_code
def yX6_addShout : MethodName := ⟨RX6, "addShout", "()Z"⟩
abbrev cX6_addUpTo : ByteArray := prog_8_method_9_code
def yX6_addUpTo : MethodName := ⟨RX6, "addUpTo", "(II)Z"⟩
def RX7 : String := "PosterFitter"
def TX7 : u_T := fun k => match k with
  | 0 => ("PosterFitter", "state", "LPosterFitter$State;", true)
  | 1 => ("PosterFitter", "history", "[LPosterFitter$State;", true)
  | 2 => ("PosterFitter", "recorded", "I", false)
  | 3 => ("PosterFitter", "text", "[I", true)
  | 4 => ("PosterFitter", "textLength", "I", false)
  | 5 => ("PosterFitter", "reader", "LPosterFitter$TextReader;", true)
  | _ => ("PosterFitter", "search", "LPosterFitter$Search;", true)
def tyX7 : Nat → FieldType := fun k => match k with
  | 0 => .object "PosterFitter$State"
  | 1 => .array (.object "PosterFitter$State")
  | 2 => .int
  | 3 => .array .int
  | 4 => .int
  | 5 => .object "PosterFitter$TextReader"
  | _ => .object "PosterFitter$Search"
abbrev wsX70 : List Cond := u_ws RX7 TX7 7
theorem nmX7 : ∀ a, a < 7 → ∀ b, b < 7 → a ≠ b → (TX7 a).2.1 ≠ (TX7 b).2.1 := by decide +kernel
theorem tyX7_ok : ∀ k, k < 7 → parseFieldDescriptor (TX7 k).2.2.1 = some (tyX7 k) := by decide +kernel
abbrev cX7_init : ByteArray := prog_1_method_1_code
def yX7_init : MethodName := ⟨RX7, "<init>", "()V"⟩
abbrev cX7_addShape : ByteArray := prog_1_method_2_code
def yX7_addShape : MethodName := ⟨RX7, "addShape", "(IIIII)I"⟩
abbrev cX7_moveShape : ByteArray := prog_1_method_3_code
def yX7_moveShape : MethodName := ⟨RX7, "moveShape", "(III)I"⟩
abbrev cX7_removeShape : ByteArray := prog_1_method_4_code
def yX7_removeShape : MethodName := ⟨RX7, "removeShape", "(I)I"⟩
abbrev cX7_isFree : ByteArray := prog_1_method_5_code
def yX7_isFree : MethodName := ⟨RX7, "isFree", "(II)I"⟩
abbrev cX7_span : ByteArray := prog_1_method_6_code
def yX7_span : MethodName := ⟨RX7, "span", "(III)I"⟩
abbrev cX7_addWord : ByteArray := prog_1_method_7_code
def yX7_addWord : MethodName := ⟨RX7, "addWord", "(II)I"⟩
abbrev cX7_setWord : ByteArray := prog_1_method_8_code
def yX7_setWord : MethodName := ⟨RX7, "setWord", "(IIIZ)I"⟩
abbrev cX7_clearWords : ByteArray := prog_1_method_9_code
def yX7_clearWords : MethodName := ⟨RX7, "clearWords", "()I"⟩
abbrev cX7_setSizes : ByteArray := prog_1_method_10_code
def yX7_setSizes : MethodName := ⟨RX7, "setSizes", "(IIII)I"⟩
abbrev cX7_setLines : ByteArray := prog_1_method_11_code
def yX7_setLines : MethodName := ⟨RX7, "setLines", "(IIII)I"⟩
abbrev cX7_count : ByteArray := prog_1_method_12_code
def yX7_count : MethodName := ⟨RX7, "count", "(I)I"⟩
abbrev cX7_word : ByteArray := prog_1_method_13_code
def yX7_word : MethodName := ⟨RX7, "word", "(II)I"⟩
abbrev cX7_cost : ByteArray := prog_1_method_14_code
def yX7_cost : MethodName := ⟨RX7, "cost", "(I)I"⟩
abbrev cX7_fit : ByteArray := prog_1_method_15_code
def yX7_fit : MethodName := ⟨RX7, "fit", "()I"⟩
abbrev cX7_allowed : ByteArray := prog_1_method_16_code
def yX7_allowed : MethodName := ⟨RX7, "allowed", "(I)I"⟩
abbrev cX7_take : ByteArray := prog_1_method_17_code
def yX7_take : MethodName := ⟨RX7, "take", "(I)I"⟩
abbrev cX7_widestStep : ByteArray := prog_1_method_18_code
def yX7_widestStep : MethodName := ⟨RX7, "widestStep", "(I)I"⟩
abbrev cX7_tightestLimit : ByteArray := prog_1_method_19_code
def yX7_tightestLimit : MethodName := ⟨RX7, "tightestLimit", "()I"⟩
abbrev cX7_layout : ByteArray := prog_1_method_20_code
def yX7_layout : MethodName := ⟨RX7, "layout", "(I)I"⟩
abbrev cX7_line : ByteArray := prog_1_method_21_code
def yX7_line : MethodName := ⟨RX7, "line", "(II)I"⟩
abbrev cX7_placed : ByteArray := prog_1_method_22_code
def yX7_placed : MethodName := ⟨RX7, "placed", "(II)I"⟩
abbrev cX7_type : ByteArray := prog_1_method_23_code
def yX7_type : MethodName := ⟨RX7, "type", "(I)I"⟩
abbrev cX7_clearText : ByteArray := prog_1_method_24_code
def yX7_clearText : MethodName := ⟨RX7, "clearText", "()I"⟩
abbrev cX7_textFault : ByteArray := prog_1_method_25_code
def yX7_textFault : MethodName := ⟨RX7, "textFault", "()I"⟩
abbrev cX7_load : ByteArray := prog_1_method_26_code
def yX7_load : MethodName := ⟨RX7, "load", "()I"⟩
abbrev cX7_undo : ByteArray := prog_1_method_27_code
def yX7_undo : MethodName := ⟨RX7, "undo", "()I"⟩
abbrev cX7_digest : ByteArray := prog_1_method_28_code
def yX7_digest : MethodName := ⟨RX7, "digest", "()J"⟩
abbrev cX7_isIn : ByteArray := prog_1_method_29_code
def yX7_isIn : MethodName := ⟨RX7, "isIn", "(III)Z"⟩
abbrev cX7_isBox : ByteArray := prog_1_method_30_code
def yX7_isBox : MethodName := ⟨RX7, "isBox", "(IIII)Z"⟩
abbrev cX7_isBand : ByteArray := prog_1_method_31_code
def yX7_isBand : MethodName := ⟨RX7, "isBand", "(II)Z"⟩
abbrev cX7_addAll : ByteArray := prog_1_method_32_code
def yX7_addAll : MethodName := ⟨RX7, "addAll", "(J[II)J"⟩
abbrev cX7_remember : ByteArray := prog_1_method_33_code
def yX7_remember : MethodName := ⟨RX7, "remember", "()V"⟩
abbrev cX7_dropOldest : ByteArray := prog_1_method_34_code
def yX7_dropOldest : MethodName := ⟨RX7, "dropOldest", "()V"⟩
abbrev cX7_greatestBase : ByteArray := prog_1_method_35_code
def yX7_greatestBase : MethodName := ⟨RX7, "greatestBase", "(I)I"⟩
def RX8 : String := "PosterFitterModel"
def TX8 : u_T := fun k => match k with
  | 0 => ("PosterFitterModel", "row", "[I", true)
  | 1 => ("PosterFitterModel", "kept", "I", false)
  | 2 => ("PosterFitterModel", "spanLong", "[I", true)
  | 3 => ("PosterFitterModel", "spanAt", "[I", true)
  | 4 => ("PosterFitterModel", "open", "[J", true)
  | 5 => ("PosterFitterModel", "line", "[I", true)
  | 6 => ("PosterFitterModel", "placed", "[I", true)
  | 7 => ("PosterFitterModel", "lines", "I", false)
  | 8 => ("PosterFitterModel", "up", "[I", true)
  | 9 => ("PosterFitterModel", "down", "[I", true)
  | 10 => ("PosterFitterModel", "longest", "I", false)
  | 11 => ("PosterFitterModel", "failed", "I", false)
  | 12 => ("PosterFitterModel", "many", "I", false)
  | 13 => ("PosterFitterModel", "bestCode", "I", false)
  | 14 => ("PosterFitterModel", "text", "[I", true)
  | 15 => ("PosterFitterModel", "length", "I", false)
  | 16 => ("PosterFitterModel", "at", "I", false)
  | 17 => ("PosterFitterModel", "read", "[I", true)
  | 18 => ("PosterFitterModel", "reads", "I", false)
  | _ => ("PosterFitterModel", "h", "J", false)
def tyX8 : Nat → FieldType := fun k => match k with
  | 0 => .array .int
  | 1 => .int
  | 2 => .array .int
  | 3 => .array .int
  | 4 => .array .long
  | 5 => .array .int
  | 6 => .array .int
  | 7 => .int
  | 8 => .array .int
  | 9 => .array .int
  | 10 => .int
  | 11 => .int
  | 12 => .int
  | 13 => .int
  | 14 => .array .int
  | 15 => .int
  | 16 => .int
  | 17 => .array .int
  | 18 => .int
  | _ => .long
abbrev wsX80 : List Cond := u_ws RX8 TX8 20
theorem nmX8 : ∀ a, a < 20 → ∀ b, b < 20 → a ≠ b → (TX8 a).2.1 ≠ (TX8 b).2.1 := by decide +kernel
theorem tyX8_ok : ∀ k, k < 20 → parseFieldDescriptor (TX8 k).2.2.1 = some (tyX8 k) := by decide +kernel
abbrev cX8_init : ByteArray := prog_10_method_1_code
def yX8_init : MethodName := ⟨RX8, "<init>", "()V"⟩
abbrev cX8_in : ByteArray := prog_10_method_2_code
def yX8_in : MethodName := ⟨RX8, "in", "(III)Z"⟩
abbrev cX8_copies : ByteArray := prog_10_method_3_code
def yX8_copies : MethodName := ⟨RX8, "copies", "(II)V"⟩
abbrev cX8_records : ByteArray := prog_10_method_4_code
def yX8_records : MethodName := ⟨RX8, "records", "()V"⟩
abbrev cX8_shapeOf : ByteArray := prog_10_method_5_code
def yX8_shapeOf : MethodName := ⟨RX8, "shapeOf", "(II)I"⟩
abbrev cX8_size : ByteArray := prog_10_method_6_code
def yX8_size : MethodName := ⟨RX8, "size", "(I)I"⟩
abbrev cX8_belongs : ByteArray := prog_10_method_7_code
def yX8_belongs : MethodName := ⟨RX8, "belongs", "(III)Z"⟩
abbrev cX8_free : ByteArray := prog_10_method_8_code
def yX8_free : MethodName := ⟨RX8, "free", "(II)Z"⟩
abbrev cX8_freeCells : ByteArray := prog_10_method_9_code
def yX8_freeCells : MethodName := ⟨RX8, "freeCells", "()I"⟩
abbrev cX8_isShape : ByteArray := prog_10_method_10_code
def yX8_isShape : MethodName := ⟨RX8, "isShape", "(I)Z"⟩
abbrev cX8_addShape : ByteArray := prog_10_method_11_code
def yX8_addShape : MethodName := ⟨RX8, "addShape", "(IIIII)I"⟩
abbrev cX8_moveShape : ByteArray := prog_10_method_12_code
def yX8_moveShape : MethodName := ⟨RX8, "moveShape", "(III)I"⟩
abbrev cX8_removeShape : ByteArray := prog_10_method_13_code
def yX8_removeShape : MethodName := ⟨RX8, "removeShape", "(I)I"⟩
abbrev cX8_isFree : ByteArray := prog_10_method_14_code
def yX8_isFree : MethodName := ⟨RX8, "isFree", "(II)I"⟩
abbrev cX8_findsSpans : ByteArray := prog_10_method_15_code
def yX8_findsSpans : MethodName := ⟨RX8, "findsSpans", "()V"⟩
abbrev cX8_notesSpan : ByteArray := prog_10_method_16_code
def yX8_notesSpan : MethodName := ⟨RX8, "notesSpan", "(IJ)V"⟩
abbrev cX8_span : ByteArray := prog_10_method_17_code
def yX8_span : MethodName := ⟨RX8, "span", "(III)I"⟩
abbrev cX8_of : ByteArray := prog_10_method_18_code
def yX8_of : MethodName := ⟨RX8, "of", "(II)I"⟩
abbrev cX8_isWord : ByteArray := prog_10_method_19_code
def yX8_isWord : MethodName := ⟨RX8, "isWord", "(I)Z"⟩
abbrev cX8_becomes : ByteArray := prog_10_method_20_code
def yX8_becomes : MethodName := ⟨RX8, "becomes", "(IIII)V"⟩
abbrev cX8_addWord : ByteArray := prog_10_method_21_code
def yX8_addWord : MethodName := ⟨RX8, "addWord", "(II)I"⟩
abbrev cX8_setWord : ByteArray := prog_10_method_22_code
def yX8_setWord : MethodName := ⟨RX8, "setWord", "(IIIZ)I"⟩
abbrev cX8_clearWords : ByteArray := prog_10_method_23_code
def yX8_clearWords : MethodName := ⟨RX8, "clearWords", "()I"⟩
abbrev cX8_setSizes : ByteArray := prog_10_method_24_code
def yX8_setSizes : MethodName := ⟨RX8, "setSizes", "(IIII)I"⟩
abbrev cX8_setLines : ByteArray := prog_10_method_25_code
def yX8_setLines : MethodName := ⟨RX8, "setLines", "(IIII)I"⟩
abbrev cX8_count : ByteArray := prog_10_method_26_code
def yX8_count : MethodName := ⟨RX8, "count", "(I)I"⟩
abbrev cX8_word : ByteArray := prog_10_method_27_code
def yX8_word : MethodName := ⟨RX8, "word", "(II)I"⟩
abbrev cX8_sizeOf : ByteArray := prog_10_method_28_code
def yX8_sizeOf : MethodName := ⟨RX8, "sizeOf", "(II)I"⟩
abbrev cX8_isLeast : ByteArray := prog_10_method_29_code
def yX8_isLeast : MethodName := ⟨RX8, "isLeast", "(I)Z"⟩
abbrev cX8_breaks : ByteArray := prog_10_method_30_code
def yX8_breaks : MethodName := ⟨RX8, "breaks", "(II)Z"⟩
abbrev cX8_least : ByteArray := prog_10_method_31_code
def yX8_least : MethodName := ⟨RX8, "least", "(II)I"⟩
abbrev cX8_lays : ByteArray := prog_10_method_32_code
def yX8_lays : MethodName := ⟨RX8, "lays", "(II)I"⟩
abbrev cX8_places : ByteArray := prog_10_method_33_code
def yX8_places : MethodName := ⟨RX8, "places", "(II)V"⟩
abbrev cX8_hasGap : ByteArray := prog_10_method_34_code
def yX8_hasGap : MethodName := ⟨RX8, "hasGap", "(I)Z"⟩
abbrev cX8_gapFrom : ByteArray := prog_10_method_35_code
def yX8_gapFrom : MethodName := ⟨RX8, "gapFrom", "(I)I"⟩
abbrev cX8_touch : ByteArray := prog_10_method_36_code
def yX8_touch : MethodName := ⟨RX8, "touch", "(II)Z"⟩
abbrev cX8_chainsUp : ByteArray := prog_10_method_37_code
def yX8_chainsUp : MethodName := ⟨RX8, "chainsUp", "(II)V"⟩
abbrev cX8_chains : ByteArray := prog_10_method_38_code
def yX8_chains : MethodName := ⟨RX8, "chains", "()V"⟩
abbrev cX8_finds : ByteArray := prog_10_method_39_code
def yX8_finds : MethodName := ⟨RX8, "finds", "(I)I"⟩
abbrev cX8_fits : ByteArray := prog_10_method_40_code
def yX8_fits : MethodName := ⟨RX8, "fits", "()I"⟩
abbrev cX8_cost : ByteArray := prog_10_method_41_code
def yX8_cost : MethodName := ⟨RX8, "cost", "(I)I"⟩
abbrev cX8_fit : ByteArray := prog_10_method_42_code
def yX8_fit : MethodName := ⟨RX8, "fit", "()I"⟩
abbrev cX8_allowed : ByteArray := prog_10_method_43_code
def yX8_allowed : MethodName := ⟨RX8, "allowed", "(I)I"⟩
abbrev cX8_take : ByteArray := prog_10_method_44_code
def yX8_take : MethodName := ⟨RX8, "take", "(I)I"⟩
abbrev cX8_widestStep : ByteArray := prog_10_method_45_code
def yX8_widestStep : MethodName := ⟨RX8, "widestStep", "(I)I"⟩
abbrev cX8_tightestLimit : ByteArray := prog_10_method_46_code
def yX8_tightestLimit : MethodName := ⟨RX8, "tightestLimit", "()I"⟩
abbrev cX8_layout : ByteArray := prog_10_method_47_code
def yX8_layout : MethodName := ⟨RX8, "layout", "(I)I"⟩
abbrev cX8_line : ByteArray := prog_10_method_48_code
def yX8_line : MethodName := ⟨RX8, "line", "(II)I"⟩
abbrev cX8_placed : ByteArray := prog_10_method_49_code
def yX8_placed : MethodName := ⟨RX8, "placed", "(II)I"⟩
abbrev cX8_type : ByteArray := prog_10_method_50_code
def yX8_type : MethodName := ⟨RX8, "type", "(I)I"⟩
abbrev cX8_clearText : ByteArray := prog_10_method_51_code
def yX8_clearText : MethodName := ⟨RX8, "clearText", "()I"⟩
abbrev cX8_isLetter : ByteArray := prog_10_method_52_code
def yX8_isLetter : MethodName := ⟨RX8, "isLetter", "()Z"⟩
abbrev cX8_isSign : ByteArray := prog_10_method_53_code
def yX8_isSign : MethodName := ⟨RX8, "isSign", "(I)Z"⟩
abbrev cX8_blanks : ByteArray := prog_10_method_54_code
def yX8_blanks : MethodName := ⟨RX8, "blanks", "()Z"⟩
abbrev cX8_readsText : ByteArray := prog_10_method_55_code
def yX8_readsText : MethodName := ⟨RX8, "readsText", "()Z"⟩
abbrev cX8_textFault : ByteArray := prog_10_method_56_code
def yX8_textFault : MethodName := ⟨RX8, "textFault", "()I"⟩
abbrev cX8_load : ByteArray := prog_10_method_57_code
def yX8_load : MethodName := ⟨RX8, "load", "()I"⟩
abbrev cX8_undo : ByteArray := prog_10_method_58_code
def yX8_undo : MethodName := ⟨RX8, "undo", "()I"⟩
abbrev cX8_note : ByteArray := prog_10_method_59_code
def yX8_note : MethodName := ⟨RX8, "note", "(J)V"⟩
abbrev cX8_digest : ByteArray := prog_10_method_60_code
def yX8_digest : MethodName := ⟨RX8, "digest", "()J"⟩
def RJ13 : String := "java/lang/Long"
def TJ13 : u_T := fun k => match k with
  | _ => ("", "", "", false)
def tyJ13 : Nat → FieldType := fun k => match k with
  | _ => .int
abbrev wsJ130 : List Cond := u_ws RJ13 TJ13 0
theorem nmJ13 : ∀ a, a < 0 → ∀ b, b < 0 → a ≠ b → (TJ13 a).2.1 ≠ (TJ13 b).2.1 := by decide +kernel
theorem tyJ13_ok : ∀ k, k < 0 → parseFieldDescriptor (TJ13 k).2.2.1 = some (tyJ13 k) := by decide +kernel
abbrev cJ13_bitCount_95d88 : ByteArray := prog_11_method_50_code
def yJ13_bitCount_95d88 : MethodName := ⟨RJ13, "bitCount", "(J)I"⟩
def RJ9 : String := "java/lang/Math"
def TJ9 : u_T := fun k => match k with
  | _ => ("", "", "", false)
def tyJ9 : Nat → FieldType := fun k => match k with
  | _ => .int
abbrev wsJ90 : List Cond := u_ws RJ9 TJ9 0
theorem nmJ9 : ∀ a, a < 0 → ∀ b, b < 0 → a ≠ b → (TJ9 a).2.1 ≠ (TJ9 b).2.1 := by decide +kernel
theorem tyJ9_ok : ∀ k, k < 0 → parseFieldDescriptor (TJ9 k).2.2.1 = some (tyJ9 k) := by decide +kernel
abbrev cJ9_abs_0f7a4 : ByteArray := prog_12_method_59_code
def yJ9_abs_0f7a4 : MethodName := ⟨RJ9, "abs", "(I)I"⟩
abbrev cJ9_max_7cf53 : ByteArray := prog_12_method_65_code
def yJ9_max_7cf53 : MethodName := ⟨RJ9, "max", "(II)I"⟩
abbrev cJ9_min_7cf53 : ByteArray := prog_12_method_69_code
def yJ9_min_7cf53 : MethodName := ⟨RJ9, "min", "(II)I"⟩
def RJ10 : String := "java/lang/System"
def TJ10 : u_T := fun k => match k with
  | _ => ("", "", "", false)
def tyJ10 : Nat → FieldType := fun k => match k with
  | _ => .int
abbrev wsJ100 : List Cond := u_ws RJ10 TJ10 0
theorem nmJ10 : ∀ a, a < 0 → ∀ b, b < 0 → a ≠ b → (TJ10 a).2.1 ≠ (TJ10 b).2.1 := by decide +kernel
theorem tyJ10_ok : ∀ k, k < 0 → parseFieldDescriptor (TJ10 k).2.2.1 = some (tyJ10 k) := by decide +kernel
def RJ7 : String := "java/util/Arrays"
def TJ7 : u_T := fun k => match k with
  | _ => ("", "", "", false)
def tyJ7 : Nat → FieldType := fun k => match k with
  | _ => .int
abbrev wsJ70 : List Cond := u_ws RJ7 TJ7 0
theorem nmJ7 : ∀ a, a < 0 → ∀ b, b < 0 → a ≠ b → (TJ7 a).2.1 ≠ (TJ7 b).2.1 := by decide +kernel
theorem tyJ7_ok : ∀ k, k < 0 → parseFieldDescriptor (TJ7 k).2.2.1 = some (tyJ7 k) := by decide +kernel
abbrev cJ7_fill_53178 : ByteArray := prog_14_method_103_code
def yJ7_fill_53178 : MethodName := ⟨RJ7, "fill", "([II)V"⟩
def RL : String := "PosterFitterLaw"
abbrev cL_law : ByteArray := code
def yL_law : MethodName := ⟨RL, "law", "([I)Z"⟩
abbrev vwCl : List vw_C := [(RX0, TX0, 3), (RX1, TX1, 4), (RX2, TX2, 5), (RX3, TX3, 7), (RX4, TX4, 18), (RX5, TX5, 5), (RX6, TX6, 3), (RX7, TX7, 7), (RX8, TX8, 20)]
